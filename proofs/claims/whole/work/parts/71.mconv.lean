/-! from one kind of number to another, and the order, as the class does it -/
theorem mf_neg {n : Nat} (hn : n ≤ 2 ^ 64) : -lN n = lN (2 ^ 64 - n) := wb_inj (by
  rw [Int64.toBitVec_neg, wb_tb, wb_tb]
  apply BitVec.eq_of_toNat_eq
  rw [BitVec.toNat_neg, BitVec.toNat_ofNat, BitVec.toNat_ofNat]
  omega)
theorem mf_oI (n : Nat) : Int64.ofInt (n : Int) = lN n := Int64.toBitVec_inj.mp (BitVec.ofInt_natCast 64 n)
theorem mf_oIn (n : Nat) : Int64.ofInt (-(n : Int)) = -lN n := by rw [Int64.ofInt_neg, mf_oI]
theorem mf_abs {n : Nat} (hn : n < 2 ^ 64) : (lN n).toInt.natAbs = (if n < 2 ^ 63 then n else 2 ^ 64 - n) ∧ decide ((lN n).toInt < 0) = decide (2 ^ 63 ≤ n) := by
  rw [lN_ti hn]
  by_cases h : n < 2 ^ 63
  · rw [if_pos h, if_pos h]
    exact ⟨by omega, by rw [decide_eq_false (by omega), decide_eq_false (by omega)]⟩
  · rw [if_neg h, if_neg h]
    exact ⟨by omega, by rw [decide_eq_true (by omega), decide_eq_true (by omega)]⟩
theorem mf_fI (f : FP.Core.Fmt) (i : Int) : FP.Core.fromInt f i = FP.Core.encode f (FP.Core.roundRatio f (decide (i < 0)) i.natAbs 1 0) := rfl
theorem mf_ofWhole (x : Int64) (σ : ae_S) : F_X2_ofWhole x σ = some (lN (FP.Core.fromInt FP.Core.b64 x.toInt), σ) := by
  obtain ⟨n, hn, rfl⟩ := wb_of x
  refine ma_eq ?_
  unfold F_X2_ofWhole F_X2_ofWhole_17
  rw [mf_fI, (mf_abs hn).1, (mf_abs hn).2, mf_ms hn, show (0 : Int32) = iN 0 from rfl, mf_half]
  by_cases h : n < 2 ^ 63
  · rw [if_pos h]
    refine ma_T ((mf_lsg hn).mpr h) (ma_be (mf_rnd64 (by omega) (by omega) (by omega)) (ma_ret ⟨?_, rfl⟩))
    exact mf_sor _ (mf_lt63 (by decide) _)
  · rw [if_neg h]
    refine ma_F (fun q => h ((mf_lsg hn).mp q)) ?_
    rw [mf_neg (by omega)]
    exact ma_be (mf_rnd64 (by omega) (by omega) (by omega)) (ma_ret ⟨mf_sor _ (mf_lt63 (by decide) _), rfl⟩)
theorem mf_sor32 (s : Bool) {m : Nat} (h : m < 2 ^ 31) : lN (s.toNat * 2 ^ 31) ||| lN m = lN (s.toNat * 2 ^ 31 + m) := g_or (k := 31) rfl h (by cases s <;> simp <;> omega)
theorem mf_small (x : Int64) (σ : ae_S) : F_X2_smallOfWhole x σ = some (lN (FP.Core.fromInt FP.Core.b32 x.toInt), σ) := by
  obtain ⟨n, hn, rfl⟩ := wb_of x
  refine ma_eq ?_
  unfold F_X2_smallOfWhole F_X2_smallOfWhole_13 F_X2_smallOfWhole_25
  rw [mf_fI, (mf_abs hn).1, (mf_abs hn).2, show (0 : Int32) = iN 0 from rfl, mf_half32]
  by_cases h : n < 2 ^ 63
  · rw [if_pos h, decide_eq_false (show ¬ 2 ^ 63 ≤ n by omega)]
    refine ma_T ((mf_lsg hn).mpr h) (ma_T ((mf_lsg hn).mpr h) (ma_be (mf_rnd32 (by omega) (by omega) (by omega)) (ma_ret ⟨?_, rfl⟩)))
    exact mf_sor32 false (mf_lt31 (by decide) _)
  · rw [if_neg h, decide_eq_true (show 2 ^ 63 ≤ n by omega)]
    refine ma_F (fun q => h ((mf_lsg hn).mp q)) (ma_F (fun q => h ((mf_lsg hn).mp q)) ?_)
    rw [mf_neg (by omega)]
    refine ma_be (mf_rnd32 (by omega) (by omega) (by omega)) (ma_ret ⟨?_, rfl⟩)
    exact mf_sor32 true (mf_lt31 (by decide) _)
theorem mf_68 {n M : Nat} (hn : n < 2 ^ 64) (σ : ae_S) : F_X2_toWhole_68 (lN n) (lN M) σ = some (Int64.ofInt (FP.Core.signed (decide (2 ^ 63 ≤ n)) M), σ) := by
  refine ma_eq ?_
  unfold F_X2_toWhole_68 F_X2_toWhole_82 FP.Core.signed
  by_cases h : n < 2 ^ 63
  · rw [decide_eq_false (show ¬ 2 ^ 63 ≤ n by omega)]
    exact ma_T ((mf_lsg hn).mpr h) (ma_ret ⟨(mf_oI M).symm, rfl⟩)
  · rw [decide_eq_true (show 2 ^ 63 ≤ n by omega)]
    exact ma_F (fun q => h ((mf_lsg hn).mp q)) (ma_ret ⟨(mf_oIn M).symm, rfl⟩)
theorem mf_clampS {s : Bool} {M : Nat} (h : M < 2 ^ 63) : max (-2 ^ 63) (min (2 ^ 63 - 1) (FP.Core.signed s M)) = FP.Core.signed s M := by
  unfold FP.Core.signed
  cases s
  · simp only [Bool.false_eq_true, if_false]; omega
  · simp only [if_true]; omega
theorem mf_toWhole {n : Nat} (hn : n < 2 ^ 64) (σ : ae_S) : F_X2_toWhole (lN n) σ = some (FP.Core.toL (FP.Core.decode FP.Core.b64 n), σ) := by
  refine ma_eq ?_
  unfold F_X2_toWhole F_X2_toWhole_35
  refine ma_be (mf_isNan hn σ) ?_
  rcases mf_cs hn with ⟨h1, h2⟩ | ⟨h1, h2⟩ | ⟨h1, h2⟩
  · rw [if_pos h1, h2]; exact ma_F ma_01 (ma_ret ⟨rfl, rfl⟩)
  · rw [if_neg (c := 9218868437227405312 < n % 2 ^ 63) (by omega), h2]
    refine ma_T rfl (ma_be (mf_pow hn σ) ?_)
    have hq : mf_q n = 972 := by
      unfold mf_q
      rw [if_neg (by omega)]; omega
    rw [hq]
    refine ma_F (by decide) ?_
    by_cases h : n < 2 ^ 63
    · rw [decide_eq_false (show ¬ 2 ^ 63 ≤ n by omega)]
      exact ma_T ((mf_lsg hn).mpr h) (ma_ret ⟨by decide, rfl⟩)
    · rw [decide_eq_true (show 2 ^ 63 ≤ n by omega)]
      exact ma_F (fun q => h ((mf_lsg hn).mp q)) (ma_ret ⟨by decide, rfl⟩)
  · rw [if_neg (c := 9218868437227405312 < n % 2 ^ 63) (by omega), h2]
    obtain ⟨b1, b2, b3, b4⟩ := mf_cB n
    refine ma_T rfl (ma_be (mf_pow hn σ) ?_)
    have eL : ∀ s c q, FP.Core.toL (.fin s c q) = Int64.ofInt (max (-2 ^ 63) (min (2 ^ 63 - 1) (FP.Core.signed s (c * 2 ^ q.toNat / 2 ^ (-q).toNat)))) := fun _ _ _ => rfl
    rw [eL]
    have hdig := mf_dig hn σ
    generalize mf_c n = c at b1 b4 hdig ⊢
    generalize mf_q n = q at b2 b3 b4 ⊢
    rw [show (10 : Int32) = iN 10 from rfl]
    refine ma_if (fun g => ma_be hdig ?_) (fun g => ?_)
    · rw [iN_le (by omega) (by omega)] at g
      refine ma_if (fun g2 => ?_) (fun g2 => ?_)
      · rw [show (0 : Int32) = iN 0 from rfl, iN_lt (by omega) (by omega)] at g2
        obtain ⟨z, rfl⟩ : ∃ z : Nat, q = -(z : Int) := ⟨(-q).toNat, by omega⟩
        have hz : c / 2 ^ z ≤ c := Nat.div_le_self _ _
        rw [show (-(z : Int)).toNat = 0 by omega, show (- -(z : Int)).toNat = z by omega, Nat.pow_zero, Nat.mul_one, mf_clampS (by omega)]
        refine ma_if (fun g3 => ?_) (fun g3 => ma_lt ?_)
        · rw [show (-53 : Int32) = iN (-53) by decide, iN_le (by omega) (by omega)] at g3
          rw [Nat.div_eq_of_lt (Nat.lt_of_lt_of_le b1 (Nat.pow_le_pow_right (by decide) (by omega)))]
          exact ma_of (mf_68 (M := 0) hn σ) ⟨rfl, rfl⟩
        · rw [show (-53 : Int32) = iN (-53) by decide, iN_le (by omega) (by omega)] at g3
          rw [iN_neg, show - -(z : Int) = (z : Int) by omega, ← iN_nI, wb_shr (by omega) (by omega)]
          exact ma_of (mf_68 hn σ) ⟨rfl, rfl⟩
      · rw [show (0 : Int32) = iN 0 from rfl, iN_lt (by omega) (by omega)] at g2
        obtain ⟨z, rfl⟩ : ∃ z : Nat, q = (z : Int) := ⟨q.toNat, by omega⟩
        have hz : c * 2 ^ z ≤ c * 2 ^ 10 := Nat.mul_le_mul_left c (Nat.pow_le_pow_right (by decide) (by omega))
        rw [show ((z : Int)).toNat = z by omega, show (-(z : Int)).toNat = 0 by omega, Nat.pow_zero, Nat.div_one, mf_clampS (by omega)]
        refine ma_lt ?_
        rw [← iN_nI, wb_shl c (by omega)]
        exact ma_of (mf_68 hn σ) ⟨rfl, rfl⟩
    · rw [iN_le (by omega) (by omega)] at g
      obtain ⟨z, rfl⟩ : ∃ z : Nat, q = (z : Int) := ⟨q.toNat, by omega⟩
      have hz : 2 ^ 52 * 2 ^ 11 ≤ c * 2 ^ z := Nat.mul_le_mul (by omega) (Nat.pow_le_pow_right (by decide) (by omega))
      rw [show ((z : Int)).toNat = z by omega, show (-(z : Int)).toNat = 0 by omega, Nat.pow_zero, Nat.div_one]
      generalize c * 2 ^ z = M at hz ⊢
      by_cases h : n < 2 ^ 63
      · rw [decide_eq_false (show ¬ 2 ^ 63 ≤ n by omega), show max (-2 ^ 63) (min (2 ^ 63 - 1) (FP.Core.signed false M)) = 2 ^ 63 - 1 by
          unfold FP.Core.signed
          simp only [Bool.false_eq_true, if_false]
          omega]
        exact ma_T ((mf_lsg hn).mpr h) (ma_ret ⟨by decide, rfl⟩)
      · rw [decide_eq_true (show 2 ^ 63 ≤ n by omega), show max (-2 ^ 63) (min (2 ^ 63 - 1) (FP.Core.signed true M)) = -2 ^ 63 by
          unfold FP.Core.signed
          simp only [if_true]
          omega]
        exact ma_F (fun q => h ((mf_lsg hn).mp q)) (ma_ret ⟨by decide, rfl⟩)
theorem mf_narrow {n : Nat} (hn : n < 2 ^ 64) (σ : ae_S) : F_X2_narrowed (lN n) σ = some (lN (FP.Core.convert FP.Core.b64 FP.Core.b32 n), σ) := by
  refine ma_eq ?_
  unfold F_X2_narrowed FP.Core.convert
  refine ma_be (mf_isNan hn σ) ?_
  have key : ∀ s : Bool, s = decide (2 ^ 63 ≤ n) → n % 2 ^ 63 ≤ 9218868437227405312 → ma_wp (F_X2_narrowed_24 (lN n) (lN (s.toNat * 2 ^ 31)) σ) (fun x t => x = lN (FP.Core.encode FP.Core.b32 (FP.Core.round FP.Core.b32 (FP.Core.decode FP.Core.b64 n))) ∧ t = σ) := by
    intro s hs hle
    unfold F_X2_narrowed_24
    refine ma_be (mf_isInf hn σ) ?_
    rcases mf_cs hn with ⟨h1, h2⟩ | ⟨h1, h2⟩ | ⟨h1, h2⟩
    · omega
    · rw [if_pos h1, h2, ← hs]
      refine ma_F ma_01 (ma_ret ⟨?_, rfl⟩)
      have e : FP.Core.encode FP.Core.b32 (FP.Core.round FP.Core.b32 (.inf s)) = s.toNat * 2 ^ 31 + 2139095040 := by cases s <;> decide
      rw [e]
      exact mf_sor32 s (by decide)
    · obtain ⟨b1, b2, b3, b4⟩ := mf_cB n
      rw [if_neg (c := n % 2 ^ 63 = 9218868437227405312) (by omega), h2, ← hs]
      have e : FP.Core.round FP.Core.b32 (.fin s (mf_c n) (mf_q n)) = FP.Core.roundRatio FP.Core.b32 s (mf_c n) 1 (mf_q n) := rfl
      rw [e, mf_half32]
      refine ma_T rfl (ma_be (mf_dig hn σ) (ma_be (mf_pow hn σ) (ma_be (mf_rnd32 (by omega) (by omega) (by omega)) (ma_ret ⟨?_, rfl⟩))))
      exact mf_sor32 s (mf_lt31 (by decide) _)
  by_cases hN : 9218868437227405312 < n % 2 ^ 63
  · rcases mf_cs hn with ⟨h1, h2⟩ | ⟨h1, h2⟩ | ⟨h1, h2⟩
    · rw [if_pos h1, h2]
      refine ma_F ma_01 (ma_ret ⟨?_, rfl⟩)
      show _ = lN (FP.Core.encode FP.Core.b32 .nan)
      rw [mf_encnan32]; rfl
    · omega
    · omega
  · rw [if_neg hN]
    refine ma_T rfl ?_
    by_cases h : n < 2 ^ 63
    · exact ma_T ((mf_lsg hn).mpr h) (key false (decide_eq_false (by omega)).symm (by omega))
    · exact ma_F (fun q => h ((mf_lsg hn).mp q)) (key true (decide_eq_true (by omega)).symm (by omega))
def mf_c3 (n : Nat) : Nat := if n / 2 ^ 23 % 256 = 0 then n % 2 ^ 23 else n % 2 ^ 23 + 2 ^ 23
def mf_q3 (n : Nat) : Int := if n / 2 ^ 23 % 256 = 0 then -149 else (n / 2 ^ 23 % 256 : Nat) - 150
theorem mf_cs3 {n : Nat} (hn : n < 2 ^ 32) : (2139095040 < n % 2 ^ 31 ∧ FP.Core.decode FP.Core.b32 n = .nan) ∨ (n % 2 ^ 31 = 2139095040 ∧ FP.Core.decode FP.Core.b32 n = .inf (decide (2 ^ 31 ≤ n))) ∨ (n % 2 ^ 31 < 2139095040 ∧ FP.Core.decode FP.Core.b32 n = .fin (decide (2 ^ 31 ≤ n)) (mf_c3 n) (mf_q3 n)) := by
  have hs : FP.Core.fieldS FP.Core.b32 n = decide (2 ^ 31 ≤ n) := by
    have := FP.Core.fieldS_mag FP.Core.b32 (n := n) (by rw [FP.Core.half_b32]; omega)
    rw [FP.Core.half_b32] at this
    exact this
  have hE : FP.Core.fieldE FP.Core.b32 n = n / 2 ^ 23 % 256 := rfl
  have hT : FP.Core.fieldT FP.Core.b32 n = n % 2 ^ 23 := rfl
  have hX : FP.Core.b32.exps - 1 = 255 := FP.Core.exps_b32
  unfold FP.Core.decode
  rw [hs, hE, hT, hX, FP.Core.qmin_b32, FP.Core.tails_b32]
  unfold mf_c3 mf_q3
  by_cases h1 : n / 2 ^ 23 % 256 = 255
  · rw [if_pos h1]
    by_cases h2 : n % 2 ^ 23 = 0
    · rw [if_pos h2]
      exact .inr (.inl ⟨by omega, rfl⟩)
    · rw [if_neg h2]
      exact .inl ⟨by omega, rfl⟩
  · rw [if_neg h1]
    refine .inr (.inr ⟨by omega, ?_⟩)
    by_cases h2 : n / 2 ^ 23 % 256 = 0
    · rw [if_pos h2, if_pos h2, if_pos h2]
    · rw [if_neg h2, if_neg h2, if_neg h2, Nat.add_comm (2 ^ 23)]
      congr 1
      omega
theorem mf_cB3 (n : Nat) : mf_c3 n < 2 ^ 24 ∧ -149 ≤ mf_q3 n ∧ mf_q3 n ≤ 105 := by
  unfold mf_c3 mf_q3
  by_cases h : n / 2 ^ 23 % 256 = 0
  · rw [if_pos h, if_pos h]; omega
  · rw [if_neg h, if_neg h]; omega
theorem mf_widen {n : Nat} (hn : n < 2 ^ 32) (σ : ae_S) : F_X2_widened (lN n) σ = some (lN (FP.Core.convert FP.Core.b32 FP.Core.b64 n), σ) := by
  have key : ∀ s : Bool, s = decide (2 ^ 31 ≤ n) → ma_wp (F_X2_widened_17 (lN n) (lN (s.toNat * 2 ^ 63)) σ) (fun x t => x = lN (FP.Core.encode FP.Core.b64 (FP.Core.round FP.Core.b64 (FP.Core.decode FP.Core.b32 n))) ∧ t = σ) := by
    intro s hs
    have e7 : (lN n &&& (-2147483649 : Int64)) &&& (4294967295 : Int64) = lN (n % 2 ^ 31) := by
      rw [show (-2147483649 : Int64) = lN 18446744071562067967 by decide, show (4294967295 : Int64) = lN 4294967295 from rfl, fb_andL, fb_andL, Nat.and_assoc, show (18446744071562067967 &&& 4294967295 : Nat) = 2 ^ 31 - 1 by decide, Nat.and_two_pow_sub_one_eq_mod]
    have e1 : lg_cmp (lN (n % 2 ^ 31)) (2139095040 : Int64) ≤ 0 ↔ n % 2 ^ 31 ≤ 2139095040 := by
      rw [lg_cmp_le, show (2139095040 : Int64) = lN 2139095040 from rfl, mf_lNle (by omega) (by decide)]
    have e2 : lg_cmp (lN (n % 2 ^ 31)) (2139095040 : Int64) = 0 ↔ n % 2 ^ 31 = 2139095040 := by
      rw [lg_cmp_eq, show (2139095040 : Int64) = lN 2139095040 from rfl, mf_lN_eq (by omega) (by decide)]
    unfold F_X2_widened_17
    refine ma_lt ?_
    rw [e7]
    rcases mf_cs3 hn with ⟨h1, h2⟩ | ⟨h1, h2⟩ | ⟨h1, h2⟩
    · rw [h2]
      refine ma_F (fun q => by have := e1.mp q; omega) (ma_ret ⟨?_, rfl⟩)
      show _ = lN (FP.Core.encode FP.Core.b64 .nan)
      rw [mf_encnan]; rfl
    · rw [h2, ← hs]
      refine ma_T (e1.mpr (by omega)) (ma_T (e2.mpr h1) (ma_ret ⟨?_, rfl⟩))
      have e : FP.Core.encode FP.Core.b64 (FP.Core.round FP.Core.b64 (.inf s)) = s.toNat * 2 ^ 63 + 9218868437227405312 := by cases s <;> decide
      rw [e]
      exact mf_sor s (by decide)
    · rw [h2, ← hs]
      obtain ⟨b1, b2, b3⟩ := mf_cB3 n
      have e : FP.Core.round FP.Core.b64 (.fin s (mf_c3 n) (mf_q3 n)) = FP.Core.roundRatio FP.Core.b64 s (mf_c3 n) 1 (mf_q3 n) := rfl
      rw [e, mf_half]
      refine ma_T (e1.mpr (by omega)) (ma_F (fun q => by have := e2.mp q; omega) (ma_lt (ma_lt ?_)))
      have x13 : ((lN (n % 2 ^ 31)).toUInt64 >>> ((23 : Int32).toInt64.toUInt64 &&& Int64.toUInt64 63)).toInt64.toInt32 = nI (n / 2 ^ 23 % 256) := by
        rw [show (23 : Int32) = nI 23 from rfl, wb_shr (by omega) (by decide), lN_i]
        congr 1
        omega
      have x15 : lN (n % 2 ^ 31) &&& (8388607 : Int64) = lN (n % 2 ^ 23) := by
        rw [show (8388607 : Int64) = lN (2 ^ 23 - 1) from rfl, wb_mask (by omega) (by decide)]
        congr 1
        omega
      rw [x13, x15]
      have fin : ∀ (D : Nat), D = mf_c3 n → ma_wp (F_X2_widened_89 (lN (s.toNat * 2 ^ 63)) (nI (n / 2 ^ 23 % 256)) (lN D) σ) (fun x t => x = lN (s.toNat * 2 ^ 63 + FP.Core.encode FP.Core.b64 (FP.Core.roundRatio FP.Core.b64 false (mf_c3 n) 1 (mf_q3 n))) ∧ t = σ) := by
        intro D hD
        subst hD
        unfold F_X2_widened_89
        refine ma_lt ?_
        have ep : ((if nI (n / 2 ^ 23 % 256) < (1 : Int32) then (1 : Int32) else nI (n / 2 ^ 23 % 256)) - (1 : Int32)) + (-149 : Int32) = iN (mf_q3 n) := by
          unfold mf_q3
          by_cases h : n / 2 ^ 23 % 256 = 0
          · rw [h, if_pos rfl]; decide
          · rw [if_neg (c := nI (n / 2 ^ 23 % 256) < 1) (nI_nlt (b := 1) (by omega) (by omega)), if_neg h, iN_nI, show (1 : Int32) = iN 1 from rfl, iN_sub, show (-149 : Int32) = iN (-149) by decide, iN_add]
            congr 1
            omega
        rw [ep]
        exact ma_be (mf_rnd64 (by omega) (by omega) (by omega)) (ma_ret ⟨mf_sor s (mf_lt63 (by decide) _), rfl⟩)
      refine ma_if (fun g => ?_) (fun g => ?_)
      · refine fin _ ?_
        rw [show (0 : Int32) = nI 0 from rfl, nI_eq (by omega) (by decide)] at g
        unfold mf_c3
        rw [if_pos g]
      · have g2 : ¬ n / 2 ^ 23 % 256 = 0 := fun q => g (by rw [q]; rfl)
        have := g_or' (k := 23) (p := 2 ^ 23) (a := n % 2 ^ 23) (b := 1) rfl (by omega) (by omega)
        rw [Nat.one_mul] at this
        rw [show (8388608 : Int64) = lN (2 ^ 23) from rfl, this]
        refine fin _ ?_
        unfold mf_c3
        rw [if_neg g2]
  refine ma_eq ?_
  unfold F_X2_widened FP.Core.convert
  have e0 : lg_cmp (lN n &&& (2147483648 : Int64)) (0 : Int64) = 0 ↔ n < 2 ^ 31 := by
    have h := mf_andp n 1 31
    rw [show (2 ^ 1 - 1) * 2 ^ 31 = 2147483648 by decide] at h
    rw [lg_cmp_eq, show (2147483648 : Int64) = lN 2147483648 from rfl, wb_and (by omega) (by decide), h, show (0 : Int64) = lN 0 from rfl, mf_lN_eq (by omega) (by decide)]
    omega
  by_cases h : n < 2 ^ 31
  · exact ma_T (e0.mpr h) (key false (decide_eq_false (by omega)).symm)
  · refine ma_F (fun q => h (e0.mp q)) ?_
    have := key true (decide_eq_true (by omega)).symm
    rw [show lN (true.toNat * 2 ^ 63) = (-9223372036854775808 : Int64) by decide] at this
    exact this
/-- the order -/
theorem mf_order {n : Nat} (hn : n < 2 ^ 64) (σ : ae_S) : ∃ z : Int64, F_X2_orderOf (lN n) σ = some (z, σ) ∧ z.toInt = if n < 2 ^ 63 then (n : Int) else -1 - ((n % 2 ^ 63 : Nat) : Int) := by
  by_cases h : n < 2 ^ 63
  · refine ⟨lN n, ma_eq ?_, ?_⟩
    · unfold F_X2_orderOf F_X2_orderOf_15
      exact ma_T ((mf_lsg hn).mpr h) (ma_ret ⟨rfl, rfl⟩)
    · rw [if_pos h, pf_lI h]
  · refine ⟨lN n ^^^ (9223372036854775807 : Int64), ma_eq ?_, ?_⟩
    · unfold F_X2_orderOf F_X2_orderOf_15
      exact ma_F (fun q => h ((mf_lsg hn).mp q)) (ma_ret ⟨rfl, rfl⟩)
    · rw [if_neg h, mf_63, lN_xor]
      have e : n ^^^ (2 ^ 63 - 1) = 2 ^ 64 - 1 - (n % 2 ^ 63) := by
        have h1 : n = 2 ^ 63 * 1 + n % 2 ^ 63 := by omega
        have h2 : n % 2 ^ 63 < 2 ^ 63 := Nat.mod_lt _ (by decide)
        generalize n % 2 ^ 63 = m at h1 h2 ⊢
        subst h1
        apply Nat.eq_of_testBit_eq
        intro i
        rw [Nat.testBit_xor, Nat.testBit_two_pow_mul_add 1 h2, Nat.testBit_two_pow_sub_one, show 2 ^ 64 - 1 - m = 2 ^ 63 * 1 + (2 ^ 63 - (m + 1)) by omega, Nat.testBit_two_pow_mul_add 1 (by omega), Nat.testBit_two_pow_sub_succ h2]
        by_cases q : i < 63
        · simp [q]
        · simp [q]
      rw [e, lN_ti (by omega), if_neg (by omega)]
      omega
theorem mf_key {n : Nat} : FP.Core.key FP.Core.b64 n = if n < 2 ^ 63 then ((n % 2 ^ 63 : Nat) : Int) else -((n % 2 ^ 63 : Nat) : Int) := by
  unfold FP.Core.key FP.Core.mag
  rw [FP.Core.half_b64]
  unfold FP.Core.signed
  by_cases h : n < 2 ^ 63
  · rw [if_pos h, decide_eq_false (show ¬ 2 ^ 63 ≤ n by omega)]; rfl
  · rw [if_neg h, decide_eq_true (show 2 ^ 63 ≤ n by omega)]; rfl
theorem mf_cmpN {n m : Nat} (hn : n < 2 ^ 64) (hm : m < 2 ^ 64) (h : 9218868437227405312 < n % 2 ^ 63 ∨ 9218868437227405312 < m % 2 ^ 63) : FP.Core.cmp FP.Core.b64 n m = none := by
  unfold FP.Core.cmp
  rw [FP.Core.order_none]
  refine h.imp (fun h => ?_) (fun h => ?_)
  · rcases mf_cs hn with ⟨h1, h2⟩ | ⟨h1, h2⟩ | ⟨h1, h2⟩
    · exact h2
    · omega
    · omega
  · rcases mf_cs hm with ⟨h1, h2⟩ | ⟨h1, h2⟩ | ⟨h1, h2⟩
    · exact h2
    · omega
    · omega
theorem mf_cmpK {n m : Nat} (hn : n < 2 ^ 64) (hm : m < 2 ^ 64) (h1 : ¬ 9218868437227405312 < n % 2 ^ 63) (h2 : ¬ 9218868437227405312 < m % 2 ^ 63) : FP.Core.cmp FP.Core.b64 n m = some (compare (FP.Core.key FP.Core.b64 n) (FP.Core.key FP.Core.b64 m)) := by
  refine FP.Core.cmp_key FP.Core.good_b64 (by rw [FP.Core.half_b64]; omega) (by rw [FP.Core.half_b64]; omega) (fun q => ?_) (fun q => ?_)
  · rw [FP.Core.decode_nan, FP.Core.infBits_b64] at q
    unfold FP.Core.mag at q
    rw [FP.Core.half_b64] at q
    omega
  · rw [FP.Core.decode_nan, FP.Core.infBits_b64] at q
    unfold FP.Core.mag at q
    rw [FP.Core.half_b64] at q
    omega
theorem mf_less {n m : Nat} (hn : n < 2 ^ 64) (hm : m < 2 ^ 64) (σ : ae_S) : F_X2_less (lN n) (lN m) σ = some (if FP.Core.cmp FP.Core.b64 n m = some .lt then 1 else 0, σ) := by
  refine ma_eq ?_
  unfold F_X2_less F_X2_less_28
  refine ma_be (mf_isNan hn σ) ?_
  by_cases h1 : 9218868437227405312 < n % 2 ^ 63
  · rw [if_pos h1, mf_cmpN hn hm (.inl h1), if_neg (c := (none : Option Ordering) = some .lt) (by simp)]
    exact ma_F ma_01 (ma_ret ⟨rfl, rfl⟩)
  rw [if_neg h1]
  refine ma_T rfl (ma_be (mf_isNan hm σ) ?_)
  by_cases h2 : 9218868437227405312 < m % 2 ^ 63
  · rw [if_pos h2, mf_cmpN hn hm (.inr h2), if_neg (c := (none : Option Ordering) = some .lt) (by simp)]
    exact ma_F ma_01 (ma_ret ⟨rfl, rfl⟩)
  rw [if_neg h2, mf_cmpK hn hm h1 h2]
  refine ma_T rfl (ma_be (mf_isZero hn σ) ?_)
  have ec : (some (compare (FP.Core.key FP.Core.b64 n) (FP.Core.key FP.Core.b64 m)) = some Ordering.lt) ↔ FP.Core.key FP.Core.b64 n < FP.Core.key FP.Core.b64 m := by
    rw [Option.some.injEq, FP.Core.compare_lt_iff]
  rw [ma_ic (j := inferInstance) ec, mf_key, mf_key]
  have go : ¬ (n % 2 ^ 63 = 0 ∧ m % 2 ^ 63 = 0) → ma_wp (F_X2_less_30 (lN n) (lN m) σ) (fun x t => x = (if (if n < 2 ^ 63 then ((n % 2 ^ 63 : Nat) : Int) else -((n % 2 ^ 63 : Nat) : Int)) < (if m < 2 ^ 63 then ((m % 2 ^ 63 : Nat) : Int) else -((m % 2 ^ 63 : Nat) : Int)) then 1 else 0) ∧ t = σ) := by
    intro hz
    obtain ⟨z1, f1, g1⟩ := mf_order hn σ
    obtain ⟨z2, f2, g2⟩ := mf_order hm σ
    unfold F_X2_less_30 F_X2_less_47
    refine ma_be f1 (ma_be f2 ?_)
    have ez : 0 ≤ lg_cmp z1 z2 ↔ ¬ (if n < 2 ^ 63 then ((n % 2 ^ 63 : Nat) : Int) else -((n % 2 ^ 63 : Nat) : Int)) < (if m < 2 ^ 63 then ((m % 2 ^ 63 : Nat) : Int) else -((m % 2 ^ 63 : Nat) : Int)) := by
      rw [lg_cmp_ge, fa_le64, g1, g2]
      by_cases a1 : n < 2 ^ 63
      · rw [if_pos a1, if_pos a1]
        by_cases a2 : m < 2 ^ 63
        · rw [if_pos a2, if_pos a2]; omega
        · rw [if_neg a2, if_neg a2]; omega
      · rw [if_neg a1, if_neg a1]
        by_cases a2 : m < 2 ^ 63
        · rw [if_pos a2, if_pos a2]; omega
        · rw [if_neg a2, if_neg a2]; omega
    refine ma_if (fun g => ?_) (fun g => ?_)
    · rw [if_neg (ez.mp g)]; exact ma_gd ma_z0 (ma_ret ⟨rfl, rfl⟩)
    · rw [if_pos (Decidable.not_not.mp (fun q => g (ez.mpr q)))]; exact ma_gd ma_z1 (ma_ret ⟨rfl, rfl⟩)
  by_cases z1 : n % 2 ^ 63 = 0
  · rw [if_pos z1]
    refine ma_F ma_01 (ma_be (mf_isZero hm σ) ?_)
    by_cases z2 : m % 2 ^ 63 = 0
    · rw [if_pos z2]
      refine ma_F ma_01 (ma_ret ⟨?_, rfl⟩)
      rw [z1, z2]
      simp
    · rw [if_neg z2]
      exact ma_T rfl (go (fun q => z2 q.2))
  · rw [if_neg z1]
    exact ma_T rfl (go (fun q => z1 q.1))
theorem mf_alike {n m : Nat} (hn : n < 2 ^ 64) (hm : m < 2 ^ 64) (σ : ae_S) : F_X2_alike (lN n) (lN m) σ = some (if FP.Core.cmp FP.Core.b64 n m = some .eq then 1 else 0, σ) := by
  refine ma_eq ?_
  unfold F_X2_alike F_X2_alike_14 F_X2_alike_36 F_X2_alike_40 F_X2_alike_41
  refine ma_be (mf_isNan hn σ) ?_
  by_cases h1 : 9218868437227405312 < n % 2 ^ 63
  · rw [if_pos h1, mf_cmpN hn hm (.inl h1), if_neg (c := (none : Option Ordering) = some .eq) (by simp)]
    exact ma_F ma_01 (ma_ret ⟨rfl, rfl⟩)
  rw [if_neg h1]
  refine ma_T rfl (ma_be (mf_isNan hm σ) ?_)
  by_cases h2 : 9218868437227405312 < m % 2 ^ 63
  · rw [if_pos h2, mf_cmpN hn hm (.inr h2), if_neg (c := (none : Option Ordering) = some .eq) (by simp)]
    exact ma_F ma_01 (ma_ret ⟨rfl, rfl⟩)
  rw [if_neg h2, mf_cmpK hn hm h1 h2]
  have ec : (some (compare (FP.Core.key FP.Core.b64 n) (FP.Core.key FP.Core.b64 m)) = some Ordering.eq) ↔ (n = m ∨ n % 2 ^ 63 = 0 ∧ m % 2 ^ 63 = 0) := by
    rw [Option.some.injEq, FP.Core.compare_eq_iff, mf_key, mf_key]
    by_cases a1 : n < 2 ^ 63
    · rw [if_pos a1]
      by_cases a2 : m < 2 ^ 63
      · rw [if_pos a2]; omega
      · rw [if_neg a2]; omega
    · rw [if_neg a1]
      by_cases a2 : m < 2 ^ 63
      · rw [if_pos a2]; omega
      · rw [if_neg a2]; omega
  rw [ma_ic (j := inferInstance) ec]
  refine ma_T rfl (ma_if (fun g => ?_) (fun g => ?_))
  · rw [lg_cmp_eq, mf_lN_eq hn hm] at g
    rw [if_pos (c := n = m ∨ n % 2 ^ 63 = 0 ∧ m % 2 ^ 63 = 0) (.inl g)]; exact ma_gd ma_z1 (ma_ret ⟨rfl, rfl⟩)
  · rw [lg_cmp_eq, mf_lN_eq hn hm] at g
    refine ma_be (mf_isZero hn σ) ?_
    by_cases z1 : n % 2 ^ 63 = 0
    · rw [if_pos z1]
      refine ma_F ma_01 (ma_be (mf_isZero hm σ) ?_)
      by_cases z2 : m % 2 ^ 63 = 0
      · rw [if_pos z2, if_pos (c := n = m ∨ n % 2 ^ 63 = 0 ∧ m % 2 ^ 63 = 0) (.inr ⟨z1, z2⟩)]; exact ma_F ma_01 (ma_gd ma_z1 (ma_ret ⟨rfl, rfl⟩))
      · rw [if_neg z2, if_neg (c := n = m ∨ n % 2 ^ 63 = 0 ∧ m % 2 ^ 63 = 0) (by omega)]; exact ma_T rfl (ma_gd ma_z0 (ma_ret ⟨rfl, rfl⟩))
    · rw [if_neg z1, if_neg (c := n = m ∨ n % 2 ^ 63 = 0 ∧ m % 2 ^ 63 = 0) (by omega)]; exact ma_T rfl (ma_gd ma_z0 (ma_ret ⟨rfl, rfl⟩))
