/-! what an element's bits mean, what bits a value becomes: of the class and of the model -/
theorem mg_se {s : Nat} (hs : s < 64) (x : Int64) {i : Nat} (hi : i < 64) : ((x <<< ((nI s).toInt64 &&& 63)) >>> ((nI s).toInt64 &&& 63)).toBitVec.getLsbD i = if i < 64 - s then x.toBitVec.getLsbD i else x.toBitVec.getLsbD (63 - s) := by
  have hsm : ∀ s, s < 64 → ((lN s).toBitVec.smod 64).toNat = s := by decide +kernel
  rw [wb_c _ hs, Int64.toBitVec_shiftRight]
  show (((x <<< lN s).toBitVec).sshiftRight ((lN s).toBitVec.smod 64).toNat).getLsbD i = _
  rw [hsm _ hs, Int64.toBitVec_shiftLeft, BitVec.shiftLeft_eq', hsm _ hs, BitVec.getLsbD_sshiftRight, BitVec.getLsbD_shiftLeft, BitVec.msb_eq_getLsbD_last, BitVec.getLsbD_shiftLeft]
  by_cases h : i < 64 - s
  · rw [if_pos h, if_pos (by omega), decide_eq_false (show ¬ 64 ≤ i by omega), decide_eq_true (show s + i < 64 by omega), decide_eq_false (show ¬ s + i < s by omega), show s + i - s = i by omega]
    simp
  · rw [if_neg h, if_neg (by omega), decide_eq_false (show ¬ 64 ≤ i by omega)]
    simp [show 63 - s = 64 - 1 - s by omega, hs, show ¬ 63 < s by omega]
theorem mg_bext {x y : Int64} (h : ∀ i, i < 64 → x.toBitVec.getLsbD i = y.toBitVec.getLsbD i) : x = y := wb_inj (BitVec.eq_of_getLsbD_eq h)
theorem mg_s56 (x : Int64) : (x <<< ((nI 56).toInt64 &&& 63)) >>> ((nI 56).toInt64 &&& 63) = x.toInt32.toInt8.toInt32.toInt64 := mg_bext (fun i hi => by
  rw [mg_se (by decide) x hi]
  show _ = ((((x.toBitVec.signExtend 32).signExtend 8).signExtend 32).signExtend 64).getLsbD i
  rw [BitVec.getLsbD_signExtend, BitVec.msb_eq_getLsbD_last, BitVec.getLsbD_signExtend, BitVec.getLsbD_signExtend, BitVec.msb_eq_getLsbD_last, BitVec.getLsbD_signExtend, BitVec.getLsbD_signExtend, BitVec.getLsbD_signExtend, BitVec.getLsbD_signExtend]
  have hm : (BitVec.signExtend 8 (BitVec.signExtend 32 x.toBitVec)).msb = x.toBitVec.getLsbD 7 := by
    rw [BitVec.msb_eq_getLsbD_last, BitVec.getLsbD_signExtend, BitVec.getLsbD_signExtend]
    simp
  by_cases h : i < 8
  · simp [h, hi, show i < 32 by omega]
  · by_cases h2 : i < 32
    · simp [h, h2, hi, hm]
    · simp [h, h2, hi, hm])
theorem mg_s48 (x : Int64) : (x <<< ((nI 48).toInt64 &&& 63)) >>> ((nI 48).toInt64 &&& 63) = x.toInt32.toInt16.toInt32.toInt64 := mg_bext (fun i hi => by
  rw [mg_se (by decide) x hi]
  show _ = ((((x.toBitVec.signExtend 32).signExtend 16).signExtend 32).signExtend 64).getLsbD i
  rw [BitVec.getLsbD_signExtend, BitVec.msb_eq_getLsbD_last, BitVec.getLsbD_signExtend, BitVec.getLsbD_signExtend, BitVec.msb_eq_getLsbD_last, BitVec.getLsbD_signExtend, BitVec.getLsbD_signExtend, BitVec.getLsbD_signExtend, BitVec.getLsbD_signExtend]
  have hm : (BitVec.signExtend 16 (BitVec.signExtend 32 x.toBitVec)).msb = x.toBitVec.getLsbD 15 := by
    rw [BitVec.msb_eq_getLsbD_last, BitVec.getLsbD_signExtend, BitVec.getLsbD_signExtend]
    simp
  by_cases h : i < 16
  · simp [h, hi, show i < 32 by omega]
  · by_cases h2 : i < 32
    · simp [h, h2, hi, hm]
    · simp [h, h2, hi, hm])
theorem mg_s32 (x : Int64) : (x <<< ((nI 32).toInt64 &&& 63)) >>> ((nI 32).toInt64 &&& 63) = x.toInt32.toInt64 := mg_bext (fun i hi => by
  rw [mg_se (by decide) x hi]
  show _ = ((x.toBitVec.signExtend 32).signExtend 64).getLsbD i
  rw [BitVec.getLsbD_signExtend, BitVec.msb_eq_getLsbD_last, BitVec.getLsbD_signExtend, BitVec.getLsbD_signExtend]
  by_cases h : i < 32
  · simp [h, hi, show i < 64 by omega]
  · simp [h, hi])
theorem mg_s0 (x : Int64) : (x <<< ((nI 0).toInt64 &&& 63)) >>> ((nI 0).toInt64 &&& 63) = x := mg_bext (fun i hi => by
  rw [mg_se (by decide) x hi, if_pos (by omega)])
def mg_wh (k : Nat) (x : Int64) : Int64 := if k = 1 then x.toInt32.toInt8.toInt32.toInt64 else if k = 3 then x.toInt32.toInt16.toInt32.toInt64 else if k = 5 then x.toInt32.toInt64 else x
def mg_fl (k : Nat) (x : Int64) : UInt64 := if k = 7 then FP.f2d x.toInt32.toUInt32 else x.toUInt64
def mg_vl (k : Nat) (x : Int64) : Int64 := if 7 ≤ k then ae_db (mg_fl k x) else mg_wh k x
def mg_told (k : Nat) (x : Int64) : Int64 := if k = 7 then (ae_fb (FP.d2f (mg_fl k x))).toInt64 else mg_vl k x
def mg_bw (k : Nat) (x : Int64) : Int64 := if k = 7 then (ae_fb (FP.l2f x)).toInt64 else if k = 8 then ae_db (FP.l2d x) else x
def mg_bf (k : Nat) (d : UInt64) : Int64 := if k = 7 then (ae_fb (FP.d2f d)).toInt64 else if k = 8 then ae_db d else FP.d2l d
theorem mg_bits {m : Nat → Int32} (hb : ∀ k, mb_by (m k)) (w : mv_V) (i : Nat) (h8 : mv_by (mv_kd w) ≤ 8) : ∃ n, n < 2 ^ (8 * mv_by (mv_kd w)) ∧ ml_bits m w i = lN n := by
  have key : ∀ k, k ≤ 8 → ∃ n, n < 2 ^ (8 * k) ∧ ml_bt m w i k = lN n := by
    intro k
    induction k with
    | zero => intro _; exact ⟨0, by decide, rfl⟩
    | succ k ih =>
      intro hk
      obtain ⟨n, hn, e⟩ := ih (by omega)
      obtain ⟨b, hb1, hb2⟩ := hb (mv_of w i + (if mv_bg w = true then k else mv_by (mv_kd w) - 1 - k))
      have hp : 2 ^ (8 * (k + 1)) = 2 ^ (8 * k) * 256 := by rw [show 8 * (k + 1) = 8 * k + 8 by omega, Nat.pow_add]
      have hp2 : 2 ^ (8 * (k + 1)) ≤ 2 ^ 64 := Nat.pow_le_pow_right (by decide) (by omega)
      refine ⟨n * 2 ^ 8 + b, by omega, ?_⟩
      rw [ml_bt, e, hb2, nI_l (by omega), show (8 : Int32) = nI 8 from rfl, wb_shl n (by decide)]
      exact g_or (k := 8) rfl hb1 (by omega)
  exact key _ h8
theorem mg_valC {sz : Nat} {w : mv_V} {j : Fin 32} {σ : ae_S} {x : Int64} (hw : mv_W1 sz w) (c : mv_C1 j w σ) (hx : ∃ n, n < 2 ^ (8 * mv_by (mv_kd w)) ∧ x = lN n) : F_X9_valueOf j x σ = some (mg_vl (mv_kd w) x, σ) := by
  have c2 := c.2.1
  have hk := hw.1
  refine ma_eq ?_
  unfold F_X9_valueOf F_X9_valueOf_66 F_X9_valueOf_32 mg_vl
  generalize mv_kd w = k at c2 hk hx ⊢
  refine mv_kk c2 hk ?_
  have hcs : k = 0 ∨ k = 1 ∨ k = 2 ∨ k = 3 ∨ k = 4 ∨ k = 5 ∨ k = 6 ∨ k = 7 ∨ k = 8 := by omega
  rcases hcs with rfl | rfl | rfl | rfl | rfl | rfl | rfl | rfl | rfl
  · refine ma_T (by decide) (mv_kk c2 hk (ma_lt (mv_kk c2 hk (ma_T (by decide) (ma_ret ⟨rfl, rfl⟩)))))
  · refine ma_T (by decide) (mv_kk c2 hk (ma_lt (mv_kk c2 hk (ma_F (by decide) (ma_ret ⟨?_, rfl⟩)))))
    rw [show ((64 : Int32) - ((8 : Int32) * (ae_kByt (Fin.ofNat 32 1)))) = nI 56 by decide]
    exact mg_s56 x
  · refine ma_T (by decide) (mv_kk c2 hk (ma_lt (mv_kk c2 hk (ma_T (by decide) (ma_ret ⟨rfl, rfl⟩)))))
  · refine ma_T (by decide) (mv_kk c2 hk (ma_lt (mv_kk c2 hk (ma_F (by decide) (ma_ret ⟨?_, rfl⟩)))))
    rw [show ((64 : Int32) - ((8 : Int32) * (ae_kByt (Fin.ofNat 32 3)))) = nI 48 by decide]
    exact mg_s48 x
  · refine ma_T (by decide) (mv_kk c2 hk (ma_lt (mv_kk c2 hk (ma_T (by decide) (ma_ret ⟨rfl, rfl⟩)))))
  · refine ma_T (by decide) (mv_kk c2 hk (ma_lt (mv_kk c2 hk (ma_F (by decide) (ma_ret ⟨?_, rfl⟩)))))
    rw [show ((64 : Int32) - ((8 : Int32) * (ae_kByt (Fin.ofNat 32 5)))) = nI 32 by decide]
    exact mg_s32 x
  · refine ma_T (by decide) (mv_kk c2 hk (ma_lt (mv_kk c2 hk (ma_F (by decide) (ma_ret ⟨?_, rfl⟩)))))
    rw [show ((64 : Int32) - ((8 : Int32) * (ae_kByt (Fin.ofNat 32 6)))) = nI 0 by decide]
    exact mg_s0 x
  · obtain ⟨n, hn, rfl⟩ := hx
    refine ma_F (by decide) (mv_kk c2 hk (ma_T (by decide) (ma_be (mg_widen hn σ) (ma_ret ⟨?_, rfl⟩))))
    rw [if_pos (by decide)]
    unfold mg_fl
    rw [if_pos rfl, lN_i]
    rfl
  · refine ma_F (by decide) (mv_kk c2 hk (ma_F (by decide) (ma_be (mg_plain x σ) (ma_ret ⟨?_, rfl⟩))))
    rw [if_pos (by decide)]
    rfl
theorem mg_ansC {sz : Nat} {w : mv_V} {j : Fin 32} {σ : ae_S} {x : Int64} (hw : mv_W1 sz w) (c : mv_C1 j w σ) (hx : ∃ n, n < 2 ^ (8 * mv_by (mv_kd w)) ∧ x = lN n) : F_X9_answerOf j x σ = some (mg_told (mv_kd w) x, σ) := by
  refine ma_eq ?_
  unfold F_X9_answerOf F_X9_answerOf_36 F_X9_answerOf_37
  refine ma_be (mg_valC hw c hx) ?_
  have c2 := c.2.1
  have hk := hw.1
  unfold mg_told mg_vl
  generalize mv_kd w = k at c2 hk ⊢
  refine mv_kk c2 hk ?_
  rw [mv_kF k hk]
  by_cases h : 7 ≤ k
  · rw [decide_eq_true h, if_pos h]
    refine ma_F (by decide) (mv_kk c2 hk ?_)
    have hcs : k = 7 ∨ k = 8 := by omega
    rcases hcs with rfl | rfl
    · refine ma_T (by decide) (ma_be (mg_narrow _ σ) (ma_ret ⟨?_, rfl⟩))
      rw [if_pos rfl, mg_d2f, lN_i]
    · exact ma_F (by decide) (ma_ret ⟨rfl, rfl⟩)
  · rw [decide_eq_false h, if_neg h, if_neg (c := k = 7) (by omega)]
    exact ma_T rfl (ma_ret ⟨rfl, rfl⟩)
theorem mg_bwC {sz : Nat} {w : mv_V} {j : Fin 32} {σ : ae_S} (x : Int64) (hw : mv_W1 sz w) (c : mv_C1 j w σ) : ∃ y, F_X9_bitsOfWhole j x σ = some (y, σ) ∧ mg_ag (mv_kd w) y (mg_bw (mv_kd w) x) := by
  have c2 := c.2.1
  have hk := hw.1
  unfold mg_bw
  generalize mv_kd w = k at c2 hk ⊢
  by_cases h : 7 ≤ k
  · have hcs : k = 7 ∨ k = 8 := by omega
    rcases hcs with rfl | rfl
    · refine ⟨lN (FP.Core.fromInt FP.Core.b32 x.toInt), ma_eq ?_, ?_⟩
      · unfold F_X9_bitsOfWhole F_X9_bitsOfWhole_32
        exact mv_kk c2 hk (ma_F (by decide) (mv_kk c2 hk (ma_T (by decide) (ma_be (mf_small x σ) (ma_ret ⟨rfl, rfl⟩)))))
      · rw [if_pos rfl, mg_l2f]
        exact mg_ag32 (mg_lt32 (FP.Core.round_fits FP.Core.good_b32 _))
    · refine ⟨ae_db (FP.l2d x), ma_eq ?_, mg_agr _ _⟩
      unfold F_X9_bitsOfWhole F_X9_bitsOfWhole_32
      exact mv_kk c2 hk (ma_F (by decide) (mv_kk c2 hk (ma_F (by decide) (ma_be (mg_ofWhole x σ) (ma_ret ⟨rfl, rfl⟩)))))
  · refine ⟨x, ma_eq ?_, ?_⟩
    · unfold F_X9_bitsOfWhole F_X9_bitsOfWhole_32
      refine mv_kk c2 hk ?_
      rw [mv_kF k hk, decide_eq_false h]
      exact ma_T rfl (ma_ret ⟨rfl, rfl⟩)
    · rw [if_neg (by omega), if_neg (by omega)]
      exact mg_agr _ _
/-- a double, by bits that stand for it -/
def mg_R (x : Int64) (d : UInt64) : Prop := ∃ n, n < 2 ^ 64 ∧ x = lN n ∧ FP.Core.decode FP.Core.b64 n = FP.Core.decode FP.Core.b64 d.toNat
theorem mg_Rdb (d : UInt64) : mg_R (ae_db d) d := ⟨mf_pl64 d.toNat, mg_plLt _, mg_db d, mg_plD _⟩
theorem mg_Rraw (x : Int64) : mg_R x x.toUInt64 := by
  obtain ⟨n, hn, rfl⟩ := wb_of x
  have e : (lN n).toUInt64.toNat = n := lN_nat hn
  exact ⟨n, hn, rfl, by rw [e]⟩
theorem mg_bfC {sz : Nat} {w : mv_V} {j : Fin 32} {σ : ae_S} {x : Int64} {d : UInt64} (hR : mg_R x d) (hw : mv_W1 sz w) (c : mv_C1 j w σ) : ∃ y, F_X9_bitsOfFloat j x σ = some (y, σ) ∧ mg_ag (mv_kd w) y (mg_bf (mv_kd w) d) := by
  obtain ⟨n, hn, rfl, hR⟩ := hR
  have c2 := c.2.1
  have hk := hw.1
  unfold mg_bf
  generalize mv_kd w = k at c2 hk ⊢
  by_cases h : 7 ≤ k
  · have hcs : k = 7 ∨ k = 8 := by omega
    rcases hcs with rfl | rfl
    · refine ⟨lN (FP.Core.convert FP.Core.b64 FP.Core.b32 n), ma_eq ?_, ?_⟩
      · unfold F_X9_bitsOfFloat F_X9_bitsOfFloat_32
        exact mv_kk c2 hk (ma_F (by decide) (mv_kk c2 hk (ma_T (by decide) (ma_be (mf_narrow hn σ) (ma_ret ⟨rfl, rfl⟩)))))
      · rw [if_pos rfl, mg_d2f]
        have e : FP.Core.convert FP.Core.b64 FP.Core.b32 d.toNat = FP.Core.convert FP.Core.b64 FP.Core.b32 n := by
          unfold FP.Core.convert
          rw [hR]
        rw [e]
        exact mg_ag32 (mg_lt32 (FP.Core.round_fits FP.Core.good_b32 _))
    · refine ⟨ae_db d, ma_eq ?_, mg_agr _ _⟩
      unfold F_X9_bitsOfFloat F_X9_bitsOfFloat_32
      refine mv_kk c2 hk (ma_F (by decide) (mv_kk c2 hk (ma_F (by decide) (ma_be (mf_plain hn σ) (ma_ret ⟨?_, rfl⟩)))))
      rw [mg_db]
      unfold mf_pl64
      rw [hR]
  · refine ⟨FP.d2l d, ma_eq ?_, ?_⟩
    · unfold F_X9_bitsOfFloat F_X9_bitsOfFloat_32
      refine mv_kk c2 hk ?_
      rw [mv_kF k hk, decide_eq_false h]
      refine ma_T rfl (ma_be (mf_toWhole hn σ) (ma_ret ⟨?_, rfl⟩))
      rw [hR]
      rfl
    · rw [if_neg (by omega), if_neg (by omega)]
      exact mg_agr _ _
/-! of the model -/
theorem mg_isFl {sz v : Nat} {w : mv_V} {σ : ae_S} (hv : v < 16) (hw : mv_W1 sz w) (c : mv_M1 v w σ) : F_X12_isFloating (nI v) σ = some (mv_bI (decide (7 ≤ mv_kd w)), σ) := by
  have hk := hw.1
  refine ma_eq ?_
  unfold F_X12_isFloating F_X12_isFloating_16
  refine ma_gd (ma_ib v rfl (by omega) (by decide)) ?_
  rw [nI_clamp (by omega)]
  refine ma_ls (mv_kd w) 7 c.2.1 rfl (by omega) (by decide) (fun q => ?_) (fun q => ?_)
  · rw [decide_eq_false (by omega)]; exact ma_gd ma_z0 (ma_ret ⟨rfl, rfl⟩)
  · rw [decide_eq_true q]; exact ma_gd ma_z1 (ma_ret ⟨rfl, rfl⟩)
section MGM
variable {sz v i : Nat} {m : Nat → Int32} {w : mv_V} {σ : ae_S}
theorem mg_whM (hs : sz ≤ 256) (hv : v < 16) (hw : mv_W1 sz w) (hi : i < mv_ct w) (c : mv_M1 v w σ) (H : ∀ k, k < 256 → σ.1 31 0 k = m k) : F_X12_wholeOf (nI v) (nI i) σ = some (mg_wh (mv_kd w) (ml_bits m w i), σ) := by
  have hk := hw.1
  refine ma_eq ?_
  unfold F_X12_wholeOf mg_wh
  refine ma_be (ml_bitsOf hs hv hw hi c H) (ma_gd (ma_ib v rfl (by omega) (by decide)) (ma_lt ?_))
  rw [nI_clamp (by omega)]
  refine ma_en (mv_kd w) 1 c.2.1 rfl (by omega) (by decide) (fun q => ?_) (fun q => ?_)
  · rw [if_pos q]; exact ma_ret ⟨rfl, rfl⟩
  rw [if_neg q]
  refine ma_en (mv_kd w) 3 c.2.1 rfl (by omega) (by decide) (fun q => ?_) (fun q => ?_)
  · rw [if_pos q]; exact ma_ret ⟨rfl, rfl⟩
  rw [if_neg q]
  refine ma_en (mv_kd w) 5 c.2.1 rfl (by omega) (by decide) (fun q => ?_) (fun q => ?_)
  · rw [if_pos q]; exact ma_ret ⟨rfl, rfl⟩
  rw [if_neg q]
  exact ma_ret ⟨rfl, rfl⟩
theorem mg_flM (hs : sz ≤ 256) (hv : v < 16) (hw : mv_W1 sz w) (hi : i < mv_ct w) (c : mv_M1 v w σ) (H : ∀ k, k < 256 → σ.1 31 0 k = m k) : F_X12_floatOf (nI v) (nI i) σ = some (mg_fl (mv_kd w) (ml_bits m w i), σ) := by
  have hk := hw.1
  refine ma_eq ?_
  unfold F_X12_floatOf F_X12_floatOf_31 mg_fl
  refine ma_be (ml_bitsOf hs hv hw hi c H) (ma_gd (ma_ib v rfl (by omega) (by decide)) ?_)
  rw [nI_clamp (by omega)]
  refine ma_en (mv_kd w) 7 c.2.1 rfl (by omega) (by decide) (fun q => ?_) (fun q => ?_)
  · rw [if_pos q]; exact ma_ret ⟨rfl, rfl⟩
  · rw [if_neg q]; exact ma_ret ⟨rfl, rfl⟩
theorem mg_tlM (hs : sz ≤ 256) (hv : v < 16) (hw : mv_W1 sz w) (hi : i < mv_ct w) (c : mv_M1 v w σ) (H : ∀ k, k < 256 → σ.1 31 0 k = m k) : F_X12_toldOf (nI v) (nI i) σ = some (mg_told (mv_kd w) (ml_bits m w i), σ) := by
  have hk := hw.1
  refine ma_eq ?_
  unfold F_X12_toldOf F_X12_toldOf_46 mg_told mg_vl
  refine ma_be (mg_isFl hv hw c) ?_
  by_cases h : 7 ≤ mv_kd w
  · rw [decide_eq_true h, if_pos (c := 7 ≤ mv_kd w) h]
    refine ma_F (by decide) (ma_be (mg_flM hs hv hw hi c H) (ma_gd (ma_ib v rfl (by omega) (by decide)) ?_))
    rw [nI_clamp (by omega)]
    refine ma_en (mv_kd w) 7 c.2.1 rfl (by omega) (by decide) (fun q => ?_) (fun q => ?_)
    · rw [if_pos q]; exact ma_ret ⟨rfl, rfl⟩
    · rw [if_neg q]; exact ma_ret ⟨rfl, rfl⟩
  · rw [decide_eq_false h, if_neg (c := 7 ≤ mv_kd w) h, if_neg (c := mv_kd w = 7) (by omega)]
    exact ma_T rfl (ma_be (mg_whM hs hv hw hi c H) (ma_ret ⟨rfl, rfl⟩))
theorem mg_bwM (x : Int64) (d : UInt64) (hv : v < 16) (hw : mv_W1 sz w) (c : mv_M1 v w σ) : F_X12_bitsBy (nI v) 0 x d σ = some (mg_bw (mv_kd w) x, σ) := by
  have hk := hw.1
  refine ma_eq ?_
  unfold F_X12_bitsBy F_X12_bitsBy_23 F_X12_bitsBy_50 F_X12_bitsBy_65 mg_bw
  refine ma_gd (ma_ib v rfl (by omega) (by decide)) ?_
  rw [nI_clamp (by omega)]
  refine ma_en (mv_kd w) 7 c.2.1 rfl (by omega) (by decide) (fun q => ma_T rfl ?_) (fun q => ma_gd (ma_ib v rfl (by omega) (by decide)) ?_)
  · rw [if_pos q]; exact ma_ret ⟨rfl, rfl⟩
  rw [if_neg q]
  refine ma_en (mv_kd w) 8 c.2.1 rfl (by omega) (by decide) (fun q => ma_T rfl ?_) (fun q => ma_T rfl ?_)
  · rw [if_pos q]; exact ma_ret ⟨rfl, rfl⟩
  · rw [if_neg q]; exact ma_ret ⟨rfl, rfl⟩
theorem mg_bfM (x : Int64) (d : UInt64) (hv : v < 16) (hw : mv_W1 sz w) (c : mv_M1 v w σ) : F_X12_bitsBy (nI v) 1 x d σ = some (mg_bf (mv_kd w) d, σ) := by
  have hk := hw.1
  refine ma_eq ?_
  unfold F_X12_bitsBy F_X12_bitsBy_23 F_X12_bitsBy_50 F_X12_bitsBy_65 mg_bf
  refine ma_gd (ma_ib v rfl (by omega) (by decide)) ?_
  rw [nI_clamp (by omega)]
  refine ma_en (mv_kd w) 7 c.2.1 rfl (by omega) (by decide) (fun q => ma_F ma_01 ?_) (fun q => ma_gd (ma_ib v rfl (by omega) (by decide)) ?_)
  · rw [if_pos q]; exact ma_ret ⟨rfl, rfl⟩
  rw [if_neg q]
  refine ma_en (mv_kd w) 8 c.2.1 rfl (by omega) (by decide) (fun q => ma_F ma_01 ?_) (fun q => ma_F ma_01 ?_)
  · rw [if_pos q]; exact ma_ret ⟨rfl, rfl⟩
  · rw [if_neg q]; exact ma_ret ⟨rfl, rfl⟩
end MGM
