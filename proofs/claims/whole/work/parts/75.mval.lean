/-! NUMBERS AS BOTH HOLD THEM: the class the bits of a double (one NaN), the model the double; values of elements, bits that are written -/
theorem mg_nan (d : UInt64) : isNaN64 d = true ↔ FP.Core.decode FP.Core.b64 d.toNat = .nan := by
  rw [ae_isN, FP.Core.dIsNaN_iff]; exact Iff.rfl
theorem mg_tl (d : UInt64) : d.toInt64 = lN d.toNat := wb_inj (by
  rw [wb_tb]
  apply BitVec.eq_of_toNat_eq
  rw [BitVec.toNat_ofNat, Nat.mod_eq_of_lt d.toNat_lt]
  rfl)
theorem mg_plLt (n : Nat) : mf_pl64 n < 2 ^ 64 := by
  have h := FP.Core.encode_lt FP.Core.good_b64 _ (FP.Core.decode_fits FP.Core.good_b64 n)
  rw [FP.Core.size_b64] at h
  exact h
theorem mg_plD (n : Nat) : FP.Core.decode FP.Core.b64 (mf_pl64 n) = FP.Core.decode FP.Core.b64 n := FP.Core.decode_encode FP.Core.good_b64 _ (FP.Core.decode_fits FP.Core.good_b64 n)
theorem mg_db (d : UInt64) : ae_db d = lN (mf_pl64 d.toNat) := by
  unfold ae_db mf_pl64
  by_cases h : isNaN64 d = true
  · rw [if_pos h, (mg_nan d).mp h, mf_encnan]; rfl
  · rw [if_neg h, mf_ed d.toNat_lt (fun q => h ((mg_nan d).mpr q))]
    exact mg_tl d
theorem mg_op {X : FP.Core.Datum} (hX : FP.Core.fits FP.Core.b64 X) : ae_db (FP.Core.of64 X) = lN (FP.Core.encode FP.Core.b64 X) := by
  rw [mg_db, FP.Core.toNat_of64 hX]
  unfold mf_pl64
  rw [FP.Core.decode_encode FP.Core.good_b64 X hX]
theorem mg_add (a b : UInt64) (σ : ae_S) : F_X2_add (ae_db a) (ae_db b) σ = some (ae_db (FP.dadd a b), σ) := by
  have e : ae_db (FP.dadd a b) = lN (FP.Core.add FP.Core.b64 a.toNat b.toNat) := mg_op (FP.Core.round_fits FP.Core.good_b64 _)
  rw [e, mg_db, mg_db, mf_add (mg_plLt _) (mg_plLt _)]
  unfold FP.Core.add
  rw [mg_plD, mg_plD]
theorem mg_mul (a b : UInt64) (σ : ae_S) : F_X2_multiply (ae_db a) (ae_db b) σ = some (ae_db (FP.dmul a b), σ) := by
  have e : ae_db (FP.dmul a b) = lN (FP.Core.mul FP.Core.b64 a.toNat b.toNat) := mg_op (FP.Core.round_fits FP.Core.good_b64 _)
  rw [e, mg_db, mg_db, mf_mul (mg_plLt _) (mg_plLt _)]
  unfold FP.Core.mul
  rw [mg_plD, mg_plD]
theorem mg_div (a b : UInt64) (σ : ae_S) : F_X2_divide (ae_db a) (ae_db b) σ = some (ae_db (FP.ddiv a b), σ) := by
  have e : ae_db (FP.ddiv a b) = lN (FP.Core.div FP.Core.b64 a.toNat b.toNat) := mg_op (FP.Core.quotient_fits FP.Core.good_b64 _ _)
  rw [e, mg_db, mg_db, mf_div (mg_plLt _) (mg_plLt _)]
  unfold FP.Core.div
  rw [mg_plD, mg_plD]
theorem mg_rem (a b : UInt64) (σ : ae_S) : F_X2_remainder (ae_db a) (ae_db b) σ = some (ae_db (FP.drem a b), σ) := by
  have e : ae_db (FP.drem a b) = lN (FP.Core.rem FP.Core.b64 a.toNat b.toNat) := mg_op (FP.Core.round_fits FP.Core.good_b64 _)
  rw [e, mg_db, mg_db, mf_rem (mg_plLt _) (mg_plLt _)]
  unfold FP.Core.rem
  rw [mg_plD, mg_plD]
theorem mg_negE (a : UInt64) : ae_db (FP.dneg a) = lN (FP.Core.neg FP.Core.b64 a.toNat) := by
  rw [mg_db]
  unfold mf_pl64 FP.Core.neg
  have := FP.val64_dneg a
  unfold FP.Core.val64 at this
  rw [this]
theorem mg_neg (a : UInt64) (σ : ae_S) : F_X2_negative (ae_db a) σ = some (ae_db (FP.dneg a), σ) := by
  rw [mg_negE, mg_db, mf_negC (mg_plLt _)]
  unfold FP.Core.neg
  rw [mg_plD]
theorem mg_sub (a b : UInt64) : FP.dadd a (FP.dneg b) = FP.dsub a b := by
  show UInt64.ofNat (FP.Core.add FP.Core.b64 a.toNat (FP.dneg b).toNat) = UInt64.ofNat (FP.Core.sub FP.Core.b64 a.toNat b.toNat)
  unfold FP.Core.add FP.Core.sub
  have := FP.val64_dneg b
  unfold FP.Core.val64 at this
  rw [this]
theorem mg_ofWhole (x : Int64) (σ : ae_S) : F_X2_ofWhole x σ = some (ae_db (FP.l2d x), σ) := by
  have e : ae_db (FP.l2d x) = lN (FP.Core.fromInt FP.Core.b64 x.toInt) := mg_op (FP.Core.round_fits FP.Core.good_b64 _)
  rw [e, mf_ofWhole]
theorem mg_toWhole (a : UInt64) (σ : ae_S) : F_X2_toWhole (ae_db a) σ = some (FP.d2l a, σ) := by
  rw [mg_db, mf_toWhole (mg_plLt _), mg_plD]
  rfl
theorem mg_less (a b : UInt64) (σ : ae_S) : F_X2_less (ae_db a) (ae_db b) σ = some (if FP.dcmp a b = some .lt then 1 else 0, σ) := by
  rw [mg_db, mg_db, mf_less (mg_plLt _) (mg_plLt _)]
  unfold FP.Core.cmp
  rw [mg_plD, mg_plD]
  rfl
theorem mg_alike (a b : UInt64) (σ : ae_S) : F_X2_alike (ae_db a) (ae_db b) σ = some (if FP.dcmp a b = some .eq then 1 else 0, σ) := by
  rw [mg_db, mg_db, mf_alike (mg_plLt _) (mg_plLt _)]
  unfold FP.Core.cmp
  rw [mg_plD, mg_plD]
  rfl
theorem mg_plain (x : Int64) (σ : ae_S) : F_X2_plain x σ = some (ae_db x.toUInt64, σ) := by
  obtain ⟨n, hn, rfl⟩ := wb_of x
  rw [mf_plain hn, mg_db]
  have e : (lN n).toUInt64.toNat = n := lN_nat hn
  rw [e]
theorem mg_plainD (d : UInt64) (σ : ae_S) : F_X2_plain (ae_db d) σ = some (ae_db d, σ) := by
  rw [mg_db, mf_plain (mg_plLt _)]
  unfold mf_pl64
  rw [FP.Core.decode_encode FP.Core.good_b64 _ (FP.Core.decode_fits FP.Core.good_b64 _)]
theorem mg_widen {n : Nat} (hn : n < 2 ^ 32) (σ : ae_S) : F_X2_widened (lN n) σ = some (ae_db (FP.f2d (UInt32.ofNat n)), σ) := by
  rw [mf_widen hn]
  congr 2
  have en : (UInt32.ofNat n).toNat = n := Nat.mod_eq_of_lt hn
  unfold FP.Core.convert
  by_cases h : FP.Core.fIsNaN (UInt32.ofNat n) = true
  · have h2 : isNaN64 (FP.f2d (UInt32.ofNat n)) = true := by rw [ae_isN]; exact (FP.f2d_nan _).trans h
    rw [FP.Core.fIsNaN_iff] at h
    unfold FP.Core.val32 at h
    rw [en] at h
    rw [h]
    unfold ae_db
    rw [if_pos h2]
    exact mf_nanE.symm
  · have h2 : FP.f2d (UInt32.ofNat n) = FP.Core.of64 (FP.Core.round FP.Core.b64 (FP.Core.decode FP.Core.b32 (UInt32.ofNat n).toNat)) := FP.f2d_core (by simpa using h)
    rw [h2, mg_op (FP.Core.round_fits FP.Core.good_b64 _), en]
theorem mg_nan32 (d : UInt32) : isNaN32 d = FP.Core.fIsNaN d := by
  rw [Bool.eq_iff_iff, isNaN32_iff, FP.Core.isNaN_bits32]
  rw [show (0x7fffffff : Nat) = 2 ^ 31 - 1 from rfl, Nat.and_two_pow_sub_one_eq_mod]
theorem mg_ti (d : UInt32) : d.toInt32 = nI d.toNat := Int32.toBitVec_inj.mp (by
  show d.toBitVec = BitVec.ofNat 32 d.toNat
  apply BitVec.eq_of_toNat_eq
  rw [BitVec.toNat_ofNat, Nat.mod_eq_of_lt d.toNat_lt]
  rfl)
theorem mg_op32 {X : FP.Core.Datum} (hX : FP.Core.fits FP.Core.b32 X) (hn : X ≠ .nan) : ae_fb (FP.Core.of32 X) = nI (FP.Core.encode FP.Core.b32 X) := by
  unfold ae_fb
  rw [if_neg, mg_ti, FP.Core.toNat_of32 hX]
  rw [mg_nan32, FP.Core.fIsNaN_iff, FP.Core.val32_of32 hX]
  exact hn
theorem mg_d2f (d : UInt64) : ae_fb (FP.d2f d) = nI (FP.Core.convert FP.Core.b64 FP.Core.b32 d.toNat) := by
  by_cases h : FP.Core.dIsNaN d = true
  · have h2 : isNaN32 (FP.d2f d) = true := by rw [mg_nan32]; exact (FP.d2f_nan _).trans h
    rw [FP.Core.dIsNaN_iff] at h
    unfold FP.Core.val64 at h
    unfold ae_fb FP.Core.convert
    rw [if_pos h2, h]
    show _ = nI (FP.Core.encode FP.Core.b32 .nan)
    rw [mf_encnan32]; rfl
  · have h2 : FP.d2f d = FP.Core.of32 (FP.Core.round FP.Core.b32 (FP.Core.decode FP.Core.b64 d.toNat)) := FP.d2f_core (by simpa using h)
    rw [h2, mg_op32 (FP.Core.round_fits FP.Core.good_b32 _)]
    · rfl
    · intro q
      apply h
      rw [FP.Core.dIsNaN_iff]
      unfold FP.Core.val64
      rcases mf_cs (n := d.toNat) d.toNat_lt with ⟨h1, h3⟩ | ⟨h1, h3⟩ | ⟨h1, h3⟩
      · exact h3
      · rw [h3] at q; cases q
      · rw [h3] at q; exact absurd q (FP.Core.roundRatio_ne_nan _ _ _ _ _)
theorem mg_l2f (x : Int64) : ae_fb (FP.l2f x) = nI (FP.Core.fromInt FP.Core.b32 x.toInt) :=
  mg_op32 (FP.Core.round_fits FP.Core.good_b32 _) (FP.Core.roundRatio_ne_nan _ _ _ _ _)
theorem mg_narrow (d : UInt64) (σ : ae_S) : F_X2_narrowed (ae_db d) σ = some (lN (FP.Core.convert FP.Core.b64 FP.Core.b32 d.toNat), σ) := by
  rw [mg_db, mf_narrow (mg_plLt _)]
  unfold FP.Core.convert
  rw [mg_plD]
theorem mg_lt32 {X : FP.Core.Datum} (hX : FP.Core.fits FP.Core.b32 X) : FP.Core.encode FP.Core.b32 X < 2 ^ 32 := by
  have h := FP.Core.encode_lt FP.Core.good_b32 _ hX
  rw [FP.Core.size_b32] at h
  exact h
/-- bits alike as far as an element goes -/
def mg_ag (k : Nat) (x y : Int64) : Prop := ∀ i, i < 8 * mv_by k → x.toBitVec.getLsbD i = y.toBitVec.getLsbD i
theorem mg_agr (k : Nat) (x : Int64) : mg_ag k x x := fun _ _ => rfl
theorem mg_lyb {x y : Int64} {b : Nat} (h : ∀ i, i < 8 * b → x.toBitVec.getLsbD i = y.toBitVec.getLsbD i) {k : Nat} (hk : k < b) : ml_lyb x k = ml_lyb y k := by
  unfold ml_lyb
  congr 1
  apply Nat.eq_of_testBit_eq
  intro i
  rw [show (256 : Nat) = 2 ^ 8 from rfl, Nat.testBit_mod_two_pow, Nat.testBit_mod_two_pow, Nat.testBit_div_two_pow, Nat.testBit_div_two_pow]
  by_cases q : i < 8
  · have := h (i + 8 * k) (by omega)
    rw [BitVec.getLsbD, BitVec.getLsbD] at this
    rw [this]
  · simp [q]
theorem mg_ly {m : Nat → Int32} {w : mv_V} {i : Nat} {x y : Int64} (h : mg_ag (mv_kd w) x y) : ∀ k, k ≤ mv_by (mv_kd w) → ml_ly m w i x k = ml_ly m w i y k
  | 0, _ => rfl
  | k + 1, hk => by
    funext j
    rw [ml_ly, ml_ly, mg_lyb h (show k < mv_by (mv_kd w) by omega), mg_ly h k (by omega)]
theorem mg_lay {m : Nat → Int32} {w : mv_V} {i : Nat} {x y : Int64} (h : mg_ag (mv_kd w) x y) : ml_lay m w i x = ml_lay m w i y := mg_ly h _ (Nat.le_refl _)
theorem mg_put {m : Nat → Int32} {w : mv_V} {i : Nat} {x y : Int64} (h : mg_ag (mv_kd w) x y) : ml_put m w i x = ml_put m w i y := by
  unfold ml_put
  refine mg_lay (fun j hj => ?_)
  by_cases q : mv_ac w = 2
  · rw [if_pos q, if_pos q, Int64.toBitVec_and, Int64.toBitVec_and, Int64.toBitVec_xor, Int64.toBitVec_xor, BitVec.getLsbD_and, BitVec.getLsbD_and, BitVec.getLsbD_xor, BitVec.getLsbD_xor, h j hj]
  · rw [if_neg q, if_neg q]; exact h j hj
theorem mg_ag32 {n : Nat} (hn : n < 2 ^ 32) : mg_ag 7 (lN n) (nI n).toInt64 := fun i hi => by
  have hi2 : i < 32 := hi
  show (BitVec.ofNat 64 n).getLsbD i = ((BitVec.ofNat 32 n).signExtend 64).getLsbD i
  rw [BitVec.getLsbD_signExtend, BitVec.getLsbD_ofNat, BitVec.getLsbD_ofNat]
  simp [hi2, show i < 64 by omega]
