/-! the class's rounded answers the bits of what is rounded -/
theorem mf_184 {W R K : Nat} {σ : ae_S} (hW : 1 ≤ W) (hW2 : W ≤ 64) (hR : R < 2 ^ 31) : F_X2_rounded_184 (nI W) (nI R) (lN K) σ = some (lN (R * 2 ^ (W - 1) + K), σ) := by
  unfold F_X2_rounded_184
  rw [show nI W - (1 : Int32) = nI (W - 1) by rw [← nI_pred (W - 1), show W - 1 + 1 = W by omega], nI_l hR, wb_shl R (by omega), lN_add]
theorem mf_lN_eq {a b : Nat} (ha : a < 2 ^ 64) (hb : b < 2 ^ 64) : lN a = lN b ↔ a = b := ⟨fun h => by
  have := congrArg (fun z : Int64 => z.toBitVec.toNat) h
  simp only [lN_nat ha, lN_nat hb] at this
  exact this, fun h => by rw [h]⟩
theorem mf_lNlt {a b : Nat} (ha : a < 2 ^ 63) (hb : b < 2 ^ 63) : lN a < lN b ↔ a < b := by
  rw [fa_lt64, pf_lI ha, pf_lI hb]; omega
theorem mf_lNle {a b : Nat} (ha : a < 2 ^ 63) (hb : b < 2 ^ 63) : lN a ≤ lN b ↔ a ≤ b := by
  rw [fa_le64, pf_lI ha, pf_lI hb]; omega
theorem mf_log {D : Nat} (h : 0 < D) : ∃ a, 2 ^ a ≤ D ∧ D < 2 ^ (a + 1) := ⟨D.log2, Nat.log2_self_le (by omega), Nat.lt_log2_self⟩
theorem mf_r49 {f : FP.Core.Fmt} (hf : FP.Core.Good f) {D W N : Nat} {p L : Int} {v3 : Int32} {σ : ae_S} (hW : f.p = W) (hW1 : 2 ≤ W) (hW2 : W ≤ 60) (hL : f.qmin = L) (hL1 : -2000 ≤ L) (hL2 : L ≤ 0) (hN : f.qmax = L + N - 1) (hN2 : N ≤ 3000) (hI : (if v3 = 0 then (9218868437227405312 : Int64) else 2139095040) = lN (FP.Core.infBits f)) (h0 : 0 < D) (hD : D ≤ 2 ^ 63) (hp1 : -5000 ≤ p) (hp2 : p ≤ 5000) : F_X2_rounded_49 (lN D) (iN p) v3 (nI W) (iN L) (nI N) σ = some (lN (FP.Core.encode f (FP.Core.roundRatio f false D 1 p)), σ) := by
  obtain ⟨a, h1, h2⟩ := mf_log h0
  have ha : a ≤ 63 := by
    have := mf_pl (k := 64) h1 (by omega)
    omega
  have hq : FP.Core.quantum f D 1 p = max L ((a : Int) + p - ((W : Int) - 1)) := by
    unfold FP.Core.quantum
    rw [mf_lead h1 h2, hL, hW]
  obtain ⟨cut, hcut⟩ : ∃ cut : Int, cut = max ((a : Int) + 1 - W) (L - p) := ⟨_, rfl⟩
  rw [mf_enc hf (q := p + cut) h0 (by decide) (by rw [hq]; omega), hN, hL]
  have htl : f.tails = 2 ^ (W - 1) := by unfold FP.Core.Fmt.tails; rw [hW]
  rw [htl]
  refine ma_eq ?_
  unfold F_X2_rounded_49 F_X2_rounded_103 F_X2_rounded_178
  refine ma_be (mf_nlz h1 h2 ha) (ma_lt (ma_lt ?_))
  have e7 : (64 : Int32) - nI (63 - a) = iN ((a : Int) + 1) := by
    rw [show (64 : Int32) = nI 64 from rfl, pk_sub (by omega), iN_nI]
    congr 1
    omega
  have e9 : (if ((64 : Int32) - nI (63 - a)) - nI W < iN L - iN p then iN L - iN p else ((64 : Int32) - nI (63 - a)) - nI W) = iN cut := by
    rw [e7, iN_nI W, iN_sub, iN_sub]
    by_cases q : (a : Int) + 1 - W < L - p
    · rw [if_pos ((iN_lt (by omega) (by omega)).mpr q)]
      congr 1; omega
    · rw [if_neg (fun q2 => q ((iN_lt (by omega) (by omega)).mp q2))]
      congr 1; omega
  rw [e9]
  refine ma_lt ?_
  have e11 : iN p + iN cut - iN L = nI (p + cut - L).toNat := by
    rw [iN_add, iN_sub, iN_nI]
    congr 1
    omega
  rw [e11]
  refine ma_ls (p + cut - L).toNat N rfl rfl (by omega) (by omega) (fun q => ?_) (fun q => ?_)
  · rw [if_pos (show p + cut ≤ L + N - 1 by omega)]
    refine ma_if (fun q1 => ?_) (fun q1 => ?_)
    · rw [show (0 : Int32) = iN 0 from rfl, iN_lt (by omega) (by omega)] at q1
      obtain ⟨C, rfl⟩ : ∃ C : Nat, cut = ((C + 1 : Nat) : Int) := ⟨(cut - 1).toNat, by omega⟩
      have eN : FP.Core.nearest (FP.Core.unitsNum D p (p + ((C + 1 : Nat) : Int))) (FP.Core.unitsDen 1 p (p + ((C + 1 : Nat) : Int))) = FP.Core.nearest D (2 ^ (C + 1)) := by
        unfold FP.Core.unitsNum FP.Core.unitsDen
        rw [show (p - (p + ((C + 1 : Nat) : Int))).toNat = 0 by omega, show (p + ((C + 1 : Nat) : Int) - p).toNat = C + 1 by omega, Nat.pow_zero, Nat.mul_one, Nat.one_mul]
      rw [eN, ← iN_nI]
      refine ma_ls 63 (C + 1) rfl rfl (by decide) (by omega) (fun q2 => ?_) (fun q2 => ma_lt (ma_lt (ma_lt ?_)))
      · rw [mf_n0 hD (by omega)]
        exact ma_of (mf_184 (K := 0) (by omega) (by omega) (by omega)) ⟨rfl, rfl⟩
      · have hp3 : 2 ^ (C + 1) = 2 * 2 ^ C := by rw [Nat.pow_succ, Nat.mul_comm]
        have hpC : 2 ^ C ≤ 2 ^ 62 := Nat.pow_le_pow_right (by decide) (by omega)
        have hp0 : 0 < 2 ^ C := Nat.two_pow_pos C
        have hml := Nat.mod_lt D (show 0 < 2 ^ (C + 1) by omega)
        have x19 : ((lN D).toUInt64 >>> ((nI (C + 1)).toInt64.toUInt64 &&& Int64.toUInt64 63)).toInt64 = lN (D / 2 ^ (C + 1)) := wb_shr (by omega) (by omega)
        have x21 : lN D &&& (((1 : Int64) <<< ((nI (C + 1)).toInt64 &&& 63)) - (1 : Int64)) = lN (D % 2 ^ (C + 1)) := by
          rw [show (1 : Int64) = lN 1 from rfl, wb_shl 1 (by omega), Nat.one_mul, lN_sub (by omega), wb_mask (by omega) (by omega)]
        have x23 : (1 : Int64) <<< ((nI (C + 1) - (1 : Int32)).toInt64 &&& 63) = lN (2 ^ C) := by
          rw [nI_pred, show (1 : Int64) = lN 1 from rfl, wb_shl 1 (by omega), Nat.one_mul]
        rw [x19, x21, x23, mf_nr]
        have hdl : D / 2 ^ (C + 1) ≤ D := Nat.div_le_self _ _
        have c1 : 0 < lg_cmp (lN (D % 2 ^ (C + 1))) (lN (2 ^ C)) ↔ 2 ^ C < D % 2 ^ (C + 1) := by
          rw [lg_cmp_gt, mf_lNlt (by omega) (by omega)]
        have c2 : lg_cmp (lN (D % 2 ^ (C + 1))) (lN (2 ^ C)) = 0 ↔ D % 2 ^ (C + 1) = 2 ^ C := by
          rw [lg_cmp_eq, mf_lN_eq (by omega) (by omega)]
        have c3 : lg_cmp (lN (D / 2 ^ (C + 1)) &&& (1 : Int64)) (1 : Int64) = 0 ↔ D / 2 ^ (C + 1) % 2 = 1 := by
          rw [lg_cmp_eq, wb_a1 (by omega), show (1 : Int64) = lN 1 from rfl, mf_lN_eq (by omega) (by omega)]
        have up : ma_wp (ae_lt (lN (D / 2 ^ (C + 1)) + (1 : Int64)) (fun x1 => F_X2_rounded_184 (nI W) (nI (p + ((C + 1 : Nat) : Int) - L).toNat) x1 σ)) (fun x t => x = lN ((p + ((C + 1 : Nat) : Int) - L).toNat * 2 ^ (W - 1) + (D / 2 ^ (C + 1) + 1)) ∧ t = σ) := by
          refine ma_lt ?_
          rw [lN_1]
          exact ma_of (mf_184 (by omega) (by omega) (by omega)) ⟨rfl, rfl⟩
        have dn : ma_wp (F_X2_rounded_184 (nI W) (nI (p + ((C + 1 : Nat) : Int) - L).toNat) (lN (D / 2 ^ (C + 1))) σ) (fun x t => x = lN ((p + ((C + 1 : Nat) : Int) - L).toNat * 2 ^ (W - 1) + (D / 2 ^ (C + 1) + 0)) ∧ t = σ) :=
          ma_of (mf_184 (by omega) (by omega) (by omega)) ⟨rfl, rfl⟩
        refine ma_if (fun g1 => ?_) (fun g1 => ma_if (fun g2 => ma_if (fun g3 => ?_) (fun g3 => ?_)) (fun g2 => ?_))
        · rw [if_pos (.inl (c1.mp g1))]; exact up
        · rw [if_pos (.inr ⟨c2.mp g2, c3.mp g3⟩)]; exact up
        · rw [if_neg (fun g => g.elim (fun g => g1 (c1.mpr g)) (fun g => g3 (c3.mpr g.2)))]; exact dn
        · rw [if_neg (fun g => g.elim (fun g => g1 (c1.mpr g)) (fun g => g2 (c2.mpr g.1)))]; exact dn
    · rw [show (0 : Int32) = iN 0 from rfl, iN_lt (by omega) (by omega)] at q1
      obtain ⟨Z, rfl⟩ : ∃ Z : Nat, cut = -(Z : Int) := ⟨(-cut).toNat, by omega⟩
      have eN : FP.Core.nearest (FP.Core.unitsNum D p (p + -(Z : Int))) (FP.Core.unitsDen 1 p (p + -(Z : Int))) = D * 2 ^ Z := by
        unfold FP.Core.unitsNum FP.Core.unitsDen
        rw [show (p - (p + -(Z : Int))).toNat = Z by omega, show (p + -(Z : Int) - p).toNat = 0 by omega, Nat.pow_zero, Nat.mul_one, mf_n1]
      rw [eN]
      refine ma_lt ?_
      rw [iN_neg, show -(-(Z : Int)) = (Z : Int) by omega, ← iN_nI, wb_shl D (by omega)]
      exact ma_of (mf_184 (by omega) (by omega) (by omega)) ⟨rfl, rfl⟩
  · rw [if_neg (show ¬ p + cut ≤ L + N - 1 by omega), ← hI]
    refine ma_if (fun g => ?_) (fun g => ?_)
    · rw [if_pos g]; exact ma_ret ⟨rfl, rfl⟩
    · rw [if_neg g]; exact ma_ret ⟨rfl, rfl⟩
theorem mf_enc0 (f : FP.Core.Fmt) (p : Int) : FP.Core.encode f (FP.Core.roundRatio f false 0 1 p) = 0 := by
  unfold FP.Core.roundRatio
  rw [if_pos rfl, mf_eF, if_pos (FP.Core.tails_pos f)]
  unfold FP.Core.assemble
  rw [Bool.toNat_false, Nat.zero_mul, Nat.zero_add, Nat.zero_mul]
theorem mf_rnd64 {D : Nat} {p : Int} {σ : ae_S} (hD : D ≤ 2 ^ 63) (hp1 : -5000 ≤ p) (hp2 : p ≤ 5000) : F_X2_rounded (lN D) (iN p) 0 σ = some (lN (FP.Core.encode FP.Core.b64 (FP.Core.roundRatio FP.Core.b64 false D 1 p)), σ) := by
  refine ma_eq ?_
  unfold F_X2_rounded F_X2_rounded_19 F_X2_rounded_34
  refine ma_if (fun g => ?_) (fun g => ma_T rfl (ma_T rfl (ma_T rfl ?_)))
  · rw [lg_cmp_eq, show (0 : Int64) = lN 0 from rfl, mf_lN_eq (by omega) (by decide)] at g
    subst g
    rw [mf_enc0]
    exact ma_ret ⟨rfl, rfl⟩
  · have h0 : 0 < D := by
      rcases Nat.eq_zero_or_pos D with q | q
      · subst q; exact absurd rfl g
      · exact q
    rw [show (53 : Int32) = nI 53 from rfl, show (-1074 : Int32) = iN (-1074) by decide, show (2046 : Int32) = nI 2046 from rfl]
    exact ma_of (mf_r49 (W := 53) (N := 2046) (L := -1074) FP.Core.good_b64 rfl (by decide) (by decide) FP.Core.qmin_b64 (by decide) (by decide) (by decide) (by decide) (by rw [FP.Core.infBits_b64]; decide) h0 hD hp1 hp2) ⟨rfl, rfl⟩
theorem mf_rnd32 {D : Nat} {p : Int} {σ : ae_S} (hD : D ≤ 2 ^ 63) (hp1 : -5000 ≤ p) (hp2 : p ≤ 5000) : F_X2_rounded (lN D) (iN p) 1 σ = some (lN (FP.Core.encode FP.Core.b32 (FP.Core.roundRatio FP.Core.b32 false D 1 p)), σ) := by
  refine ma_eq ?_
  unfold F_X2_rounded F_X2_rounded_19 F_X2_rounded_34
  refine ma_if (fun g => ?_) (fun g => ma_F ma_01 (ma_F ma_01 (ma_F ma_01 ?_)))
  · rw [lg_cmp_eq, show (0 : Int64) = lN 0 from rfl, mf_lN_eq (by omega) (by decide)] at g
    subst g
    rw [mf_enc0]
    exact ma_ret ⟨rfl, rfl⟩
  · have h0 : 0 < D := by
      rcases Nat.eq_zero_or_pos D with q | q
      · subst q; exact absurd rfl g
      · exact q
    rw [show (24 : Int32) = nI 24 from rfl, show (-149 : Int32) = iN (-149) by decide, show (254 : Int32) = nI 254 from rfl]
    exact ma_of (mf_r49 (W := 24) (N := 254) (L := -149) FP.Core.good_b32 rfl (by decide) (by decide) FP.Core.qmin_b32 (by decide) (by decide) (by decide) (by decide) (by rw [FP.Core.infBits_b32]; decide) h0 hD hp1 hp2) ⟨rfl, rfl⟩
