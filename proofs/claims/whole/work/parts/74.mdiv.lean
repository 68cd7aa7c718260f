theorem mf_shl1 (n : Nat) : lN n <<< ((1 : Int32).toInt64 &&& 63) = lN (2 * n) := by
  rw [show (1 : Int32) = nI 1 from rfl, wb_shl n (by decide), Nat.pow_one, Nat.mul_comm]
theorem mf_or1e (u : Nat) : lN (2 * u) ||| (1 : Int64) = lN (2 * u + 1) := by
  rw [show (1 : Int64) = lN 1 from rfl, fb_orL, mf_or1]
  congr 1
  omega
theorem mf_quot {a b : Nat} {p : Int} (ha1 : 2 ^ 52 ≤ a) (ha2 : a < 2 ^ 53) (hb1 : 2 ^ 52 ≤ b) (hb2 : b < 2 ^ 53) (hp1 : -4000 ≤ p) (hp2 : p ≤ 4000) (σ : ae_S) : F_X2_quotient (lN a) (lN b) (iN p) σ = some (lN (FP.Core.encode FP.Core.b64 (FP.Core.roundRatio FP.Core.b64 false (a * 2 ^ 59) b (p - 59))), σ) := by
  have loop : ∀ n i left dig : Nat, 60 < i + n → i ≤ 60 → a * 2 ^ i = left + 2 * b * dig → left < 2 * b → (0 < i → left % 2 = 0) → dig < 2 ^ i → ma_wp (F_X2_quotient_9 n (lN b) (iN p) (lN left) (lN dig) (nI i) σ) (fun x t => x = lN (FP.Core.encode FP.Core.b64 (FP.Core.roundRatio FP.Core.b64 false (a * 2 ^ 59) b (p - 59))) ∧ t = σ) := by
    intro n
    induction n with
    | zero => intro i left dig h hi; omega
    | succ n ih =>
      intro i left dig h hi he hl hev hd
      unfold F_X2_quotient_9 F_X2_quotient_66 F_X2_quotient_41
      have hp60 : 2 ^ i ≤ 2 ^ 60 := Nat.pow_le_pow_right (by decide) hi
      refine ma_le 60 i rfl rfl (by decide) (by omega) (fun q => ?_) (fun q => ma_lt ?_)
      · obtain rfl : i = 60 := by omega
        have hev := hev (by decide)
        have e59 : a * 2 ^ 59 = b * dig + left / 2 := by
          have e60 : a * 2 ^ 60 = 2 * (a * 2 ^ 59) := by rw [show (2 : Nat) ^ 60 = 2 * 2 ^ 59 from rfl, Nat.mul_left_comm]
          rw [e60, Nat.mul_assoc] at he
          generalize a * 2 ^ 59 = Y at he ⊢
          generalize b * dig = Z at he ⊢
          clear hd hp60 ih
          omega
        have hq : a * 2 ^ 59 / b = dig := by
          rw [e59, Nat.mul_add_div (by omega), Nat.div_eq_of_lt (by omega), Nat.add_zero]
        have hr : a * 2 ^ 59 % b = left / 2 := by
          rw [e59, Nat.mul_add_mod, Nat.mod_eq_of_lt (by omega)]
        have hbig : 2 ^ 58 ≤ dig := by
          rw [← hq, Nat.le_div_iff_mul_le (by omega)]
          omega
        have st := mf_dv (A := a * 2 ^ 59) (B := b) (by omega)
        have fin : ∀ D : Nat, D = (if a * 2 ^ 59 % b = 0 then a * 2 ^ 59 / b else a * 2 ^ 59 / b ||| 1) → ma_wp (ae_bd (F_X2_rounded (lN D) (iN p - (59 : Int32)) (0 : Int32) σ) (fun (r1 : Int64) s2 => some (r1, s2))) (fun x t => x = lN (FP.Core.encode FP.Core.b64 (FP.Core.roundRatio FP.Core.b64 false (a * 2 ^ 59) b (p - 59))) ∧ t = σ) := by
          intro D hD
          have hDB : dig ≤ D ∧ D ≤ dig + 1 := by
            rw [hD, hq]
            by_cases g : a * 2 ^ 59 % b = 0
            · rw [if_pos g]; omega
            · rw [if_neg g, mf_or1]; omega
          rw [← hD] at st
          have S : mf_St D (a * 2 ^ 59) b := st.imp id (fun h => ⟨by omega, h⟩)
          rw [show (59 : Int32) = iN 59 from rfl, iN_sub, mf_stR (by omega) S]
          exact ma_be (mf_rnd64 (by omega) (by omega) (by omega)) (ma_ret ⟨rfl, rfl⟩)
        have e0 : lg_cmp (lN left) (0 : Int64) = 0 ↔ left = 0 := by
          rw [lg_cmp_eq, show (0 : Int64) = lN 0 from rfl, mf_lN_eq (by omega) (by decide)]
        refine ma_if (fun g => ?_) (fun g => ma_lt ?_)
        · have g2 := e0.mp g
          exact fin _ (by rw [if_pos (by omega), hq])
        · have g2 : ¬ left = 0 := fun x => g (e0.mpr x)
          rw [show (1 : Int64) = lN 1 from rfl, fb_orL]
          exact fin _ (by rw [if_neg (by omega), hq])
      · rw [mf_shl1]
        have hp3 : 2 ^ (i + 1) = 2 * 2 ^ i := by rw [Nat.pow_succ, Nat.mul_comm]
        have he2 : a * 2 ^ (i + 1) = 2 * (left + 2 * b * dig) := by rw [hp3, Nat.mul_left_comm, he]
        have e1 : lg_cmp (lN left) (lN b) < 0 ↔ left < b := by
          rw [lg_cmp_lt, mf_lNlt (by omega) (by omega)]
        refine ma_if (fun g => ma_lt (ma_lt ?_)) (fun g => ma_lt (ma_lt (ma_lt (ma_lt ?_))))
        · have g2 := e1.mp g
          rw [mf_shl1, nI_1]
          refine ih (i + 1) (2 * left) (2 * dig) (by omega) (by omega) ?_ (by omega) (fun _ => by omega) (by omega)
          rw [he2, Nat.mul_add, Nat.mul_left_comm 2 (2 * b) dig]
        · have g2 : ¬ left < b := fun x => g (e1.mpr x)
          rw [lN_sub (by omega), mf_shl1 (left - b), mf_shl1 dig, mf_or1e, nI_1]
          refine ih (i + 1) (2 * (left - b)) (2 * dig + 1) (by omega) (by omega) ?_ (by omega) (fun _ => by omega) (by omega)
          rw [he2, Nat.mul_add (2 * b), Nat.mul_one, Nat.mul_left_comm (2 * b) 2 dig]
          generalize 2 * b * dig = X
          omega
  refine ma_eq ?_
  unfold F_X2_quotient
  exact loop ae_fu 0 a 0 (by rw [ae_fu]; omega) (by omega) (by omega) (by omega) (fun h => by omega) (by decide)
theorem mf_div {n m : Nat} (hn : n < 2 ^ 64) (hm : m < 2 ^ 64) (σ : ae_S) : F_X2_divide (lN n) (lN m) σ = some (lN (FP.Core.div FP.Core.b64 n m), σ) := by
  have z1 := mf_c0 n
  have z2 := mf_c0 m
  have rn : ∀ s, FP.Core.round FP.Core.b64 (.inf s) = .inf s := fun _ => rfl
  refine ma_eq ?_
  unfold F_X2_divide F_X2_divide_14 F_X2_divide_93 FP.Core.div
  refine ma_be (mf_isNan hn σ) ?_
  rcases mf_cs hn with ⟨a1, a2⟩ | ⟨a1, a2⟩ | ⟨a1, a2⟩
  · rw [if_pos a1, a2]
    exact ma_F ma_01 (ma_ret ⟨mf_nanE, rfl⟩)
  · rw [if_neg (c := 9218868437227405312 < n % 2 ^ 63) (by omega), a2]
    refine ma_T rfl (ma_be (mf_isNan hm σ) ?_)
    rcases mf_cs hm with ⟨c1, c2⟩ | ⟨c1, c2⟩ | ⟨c1, c2⟩
    · rw [if_pos c1, c2]
      exact ma_F ma_01 (ma_ret ⟨mf_nanE, rfl⟩)
    · rw [if_neg (c := 9218868437227405312 < m % 2 ^ 63) (by omega), c2, mf_xs hn hm]
      refine ma_T rfl (ma_lt (ma_be (mf_isInf hn σ) ?_))
      rw [if_pos a1]
      refine ma_F ma_01 ?_
      unfold F_X2_divide_41 F_X2_divide_59 F_X2_divide_78
      refine ma_be (mf_isInf hn σ) ?_
      rw [if_pos a1]
      refine ma_F ma_01 (ma_be (mf_isInf hm σ) ?_)
      rw [if_pos c1]
      exact ma_F ma_01 (ma_ret ⟨mf_nanE, rfl⟩)
    · rw [if_neg (c := 9218868437227405312 < m % 2 ^ 63) (by omega), c2, mf_xs hn hm]
      refine ma_T rfl (ma_lt (ma_be (mf_isInf hn σ) ?_))
      rw [if_pos a1]
      refine ma_F ma_01 ?_
      unfold F_X2_divide_41 F_X2_divide_59 F_X2_divide_78
      refine ma_be (mf_isInf hn σ) ?_
      rw [if_pos a1]
      refine ma_F ma_01 (ma_be (mf_isInf hm σ) ?_)
      rw [if_neg (c := m % 2 ^ 63 = 9218868437227405312) (by omega)]
      exact ma_T rfl (ma_ret ⟨mf_inf _, rfl⟩)
  · rw [if_neg (c := 9218868437227405312 < n % 2 ^ 63) (by omega), a2]
    refine ma_T rfl (ma_be (mf_isNan hm σ) ?_)
    rcases mf_cs hm with ⟨c1, c2⟩ | ⟨c1, c2⟩ | ⟨c1, c2⟩
    · rw [if_pos c1, c2]
      exact ma_F ma_01 (ma_ret ⟨mf_nanE, rfl⟩)
    · rw [if_neg (c := 9218868437227405312 < m % 2 ^ 63) (by omega), c2, mf_xs hn hm]
      refine ma_T rfl (ma_lt (ma_be (mf_isInf hn σ) ?_))
      rw [if_neg (c := n % 2 ^ 63 = 9218868437227405312) (by omega)]
      refine ma_T rfl (ma_be (mf_isZero hm σ) ?_)
      rw [if_neg (c := m % 2 ^ 63 = 0) (by omega)]
      refine ma_T rfl (ma_be (mf_isInf hm σ) ?_)
      rw [if_pos c1]
      refine ma_F ma_01 (ma_ret ⟨?_, rfl⟩)
      have e : FP.Core.quotient FP.Core.b64 (.fin (decide (2 ^ 63 ≤ n)) (mf_c n) (mf_q n)) (.inf (decide (2 ^ 63 ≤ m))) = FP.Core.roundRatio FP.Core.b64 (decide (2 ^ 63 ≤ n) != decide (2 ^ 63 ≤ m)) 0 1 0 := rfl
      rw [e]
      exact mf_zero _ _
    · rw [if_neg (c := 9218868437227405312 < m % 2 ^ 63) (by omega), c2, mf_xs hn hm]
      refine ma_T rfl (ma_lt (ma_be (mf_isInf hn σ) ?_))
      rw [if_neg (c := n % 2 ^ 63 = 9218868437227405312) (by omega)]
      refine ma_T rfl (ma_be (mf_isZero hm σ) ?_)
      have eP : FP.Core.quotient FP.Core.b64 (.fin (decide (2 ^ 63 ≤ n)) (mf_c n) (mf_q n)) (.fin (decide (2 ^ 63 ≤ m)) (mf_c m) (mf_q m)) = if mf_c m = 0 then (if mf_c n = 0 then .nan else .inf (decide (2 ^ 63 ≤ n) != decide (2 ^ 63 ≤ m))) else FP.Core.roundRatio FP.Core.b64 (decide (2 ^ 63 ≤ n) != decide (2 ^ 63 ≤ m)) (mf_c n) (mf_c m) (mf_q n - mf_q m) := rfl
      rw [eP]
      generalize (decide (2 ^ 63 ≤ n) != decide (2 ^ 63 ≤ m)) = S
      by_cases g2 : m % 2 ^ 63 = 0
      · rw [if_pos g2, if_pos (z2.mpr g2)]
        refine ma_F ma_01 ?_
        unfold F_X2_divide_41 F_X2_divide_59 F_X2_divide_78
        refine ma_be (mf_isInf hn σ) ?_
        rw [if_neg (c := n % 2 ^ 63 = 9218868437227405312) (by omega)]
        refine ma_T rfl (ma_be (mf_isZero hn σ) ?_)
        by_cases g : n % 2 ^ 63 = 0
        · rw [if_pos g, if_pos (z1.mpr g)]
          exact ma_F ma_01 (ma_ret ⟨mf_nanE, rfl⟩)
        · rw [if_neg g, if_neg (fun q => g (z1.mp q))]
          exact ma_T rfl (ma_ret ⟨mf_inf _, rfl⟩)
      rw [if_neg g2, if_neg (fun q => g2 (z2.mp q))]
      refine ma_T rfl (ma_be (mf_isInf hm σ) ?_)
      rw [if_neg (c := m % 2 ^ 63 = 9218868437227405312) (by omega)]
      refine ma_T rfl (ma_be (mf_isZero hn σ) ?_)
      by_cases g : n % 2 ^ 63 = 0
      · rw [if_pos g, z1.mpr g]
        refine ma_F ma_01 (ma_ret ⟨?_, rfl⟩)
        have er : ∀ (B : Nat) (e : Int), FP.Core.roundRatio FP.Core.b64 S 0 B e = .fin S 0 FP.Core.b64.qmin := fun B e => by
          unfold FP.Core.roundRatio
          rw [if_pos rfl]
        rw [er, ← er 1 0]
        exact mf_zero _ _
      rw [if_neg g]
      have hc : 0 < mf_c n := by omega
      have hd : 0 < mf_c m := by omega
      obtain ⟨b1, b2, b3, b4⟩ := mf_cB n
      obtain ⟨d1, d2, d3, d4⟩ := mf_cB m
      obtain ⟨l, hl1, hl2, hl3, hl4⟩ := mf_lift hn hc σ
      obtain ⟨k, hk1, hk2, hk3, hk4⟩ := mf_lift hm hd σ
      refine ma_T rfl (ma_be hl1 (ma_be hk1 (ma_be (mf_pow hn σ) (ma_be (mf_pow hm σ) (ma_lt (ma_be (mf_dig hn σ) (ma_be (mf_dig hm σ) ?_)))))))
      rw [wb_shl _ (by omega), wb_shl _ (by omega), iN_nI, iN_nI, iN_sub, iN_sub, iN_add]
      refine ma_be (mf_quot hl3 hl4 hk3 hk4 (by omega) (by omega) σ) (ma_ret ⟨?_, rfl⟩)
      rw [mf_sor S (mf_lt63 (by omega) _), ← mf_half]
      congr 2
      refine FP.Core.roundRatio_congr (by omega) (by omega) ?_
      rw [show (mf_q n - (l : Int) - mf_q m + (k : Int) - 59 - (mf_q n - mf_q m)).toNat = 0 by omega, show (mf_q n - mf_q m - (mf_q n - (l : Int) - mf_q m + (k : Int) - 59)).toNat = l + 59 - k by omega, Nat.pow_zero, Nat.mul_one]
      have e : 2 ^ l * 2 ^ 59 = 2 ^ k * 2 ^ (l + 59 - k) := by rw [← Nat.pow_add, ← Nat.pow_add, show k + (l + 59 - k) = l + 59 by omega]
      rw [Nat.mul_assoc (mf_c n), e, ← Nat.mul_assoc (mf_c n) (mf_c m), Nat.mul_assoc (mf_c n * mf_c m), Nat.mul_right_comm]
theorem mf_remL {n m c d k : Nat} {r : Int} (hn : n < 2 ^ 64) (hm : m < 2 ^ 64) (hd : 0 < d) (hd2 : d < 2 ^ 53) (hr1 : -2000 ≤ r) (hr2 : r ≤ 2000) (hq : mf_q m = r) (hk : k ≤ 2050) (σ : ae_S) : ∀ f i left : Nat, k < i + f → i ≤ k → left = c * 2 ^ i % d → ma_wp (F_X2_remainder_93 f (lN n) (lN m) (nI k) (lN d) (lN left) (nI i) σ) (fun x t => x = lN (FP.Core.encode FP.Core.b64 (FP.Core.roundRatio FP.Core.b64 (decide (2 ^ 63 ≤ n)) (c * 2 ^ k % d) 1 r)) ∧ t = σ) := by
  have fin : ma_wp (F_X2_remainder_135 (lN n) (lN m) (lN (c * 2 ^ k % d)) σ) (fun x t => x = lN (FP.Core.encode FP.Core.b64 (FP.Core.roundRatio FP.Core.b64 (decide (2 ^ 63 ≤ n)) (c * 2 ^ k % d) 1 r)) ∧ t = σ) := by
    have hl := Nat.mod_lt (c * 2 ^ k) hd
    unfold F_X2_remainder_135
    rw [mf_half]
    refine ma_be (mf_pow hm σ) ?_
    rw [hq, mf_ms hn]
    exact ma_be (mf_rnd64 (by omega) (by omega) (by omega)) (ma_ret ⟨mf_sor _ (mf_lt63 (by decide) _), rfl⟩)
  intro f
  induction f with
  | zero => intro i left h hi; omega
  | succ f ih =>
    intro i left h hi hl
    have hlt := Nat.mod_lt (c * 2 ^ i) hd
    unfold F_X2_remainder_93 F_X2_remainder_129
    refine ma_le k i rfl rfl (by omega) (by omega) (fun q => ?_) (fun q => ?_)
    · obtain rfl : i = k := by omega
      rw [hl]; exact fin
    · refine ma_F (nI_ge (b := 2100) (by omega) (by decide)) (ma_lt ?_)
      rw [mf_shl1]
      have e1 : lg_cmp (lN (2 * left)) (lN d) < 0 ↔ 2 * left < d := by
        rw [lg_cmp_lt, mf_lNlt (by omega) (by omega)]
      have e2 : c * 2 ^ (i + 1) % d = 2 * left % d := by
        rw [hl, Nat.pow_succ, ← Nat.mul_assoc, Nat.mul_comm 2, Nat.mod_mul_mod]
      refine ma_if (fun g => ma_lt ?_) (fun g => ma_lt (ma_lt ?_))
      · have g2 := e1.mp g
        rw [nI_1]
        exact ih (i + 1) _ (by omega) (by omega) (by rw [e2, Nat.mod_eq_of_lt g2])
      · have g2 : ¬ 2 * left < d := fun x => g (e1.mpr x)
        rw [lN_sub (by omega), nI_1]
        refine ih (i + 1) _ (by omega) (by omega) ?_
        rw [e2, Nat.mod_eq_sub_mod (by omega), Nat.mod_eq_of_lt (by omega)]
theorem mf_rem {n m : Nat} (hn : n < 2 ^ 64) (hm : m < 2 ^ 64) (σ : ae_S) : F_X2_remainder (lN n) (lN m) σ = some (lN (FP.Core.rem FP.Core.b64 n m), σ) := by
  have z1 := mf_c0 n
  have z2 := mf_c0 m
  refine ma_eq ?_
  unfold F_X2_remainder F_X2_remainder_28 F_X2_remainder_62 FP.Core.rem
  refine ma_be (mf_isNan hn σ) ?_
  rcases mf_cs hn with ⟨a1, a2⟩ | ⟨a1, a2⟩ | ⟨a1, a2⟩
  · rw [if_pos a1, a2]
    exact ma_F ma_01 (ma_ret ⟨mf_nanE, rfl⟩)
  · rw [if_neg (c := 9218868437227405312 < n % 2 ^ 63) (by omega), a2]
    refine ma_T rfl (ma_be (mf_isNan hm σ) ?_)
    have en : ∀ x, FP.Core.exactRemainder (.inf (decide (2 ^ 63 ≤ n))) x = .nan := fun x => by cases x <;> rfl
    rw [en]
    by_cases g : 9218868437227405312 < m % 2 ^ 63
    · rw [if_pos g]
      exact ma_F ma_01 (ma_ret ⟨mf_nanE, rfl⟩)
    · rw [if_neg g]
      refine ma_T rfl (ma_be (mf_isInf hn σ) ?_)
      rw [if_pos a1]
      exact ma_F ma_01 (ma_ret ⟨mf_nanE, rfl⟩)
  · rw [if_neg (c := 9218868437227405312 < n % 2 ^ 63) (by omega)]
    have hnn : FP.Core.decode FP.Core.b64 n ≠ .nan := by rw [a2]; exact FP.Core.Datum.noConfusion
    have hfit := FP.Core.decode_fits FP.Core.good_b64 n
    have hself : lN n = lN (FP.Core.encode FP.Core.b64 (FP.Core.round FP.Core.b64 (FP.Core.decode FP.Core.b64 n))) := by
      rw [FP.Core.round_of_fits FP.Core.good_b64 hfit, mf_ed hn hnn]
    refine ma_T rfl (ma_be (mf_isNan hm σ) ?_)
    rcases mf_cs hm with ⟨c1, c2⟩ | ⟨c1, c2⟩ | ⟨c1, c2⟩
    · rw [if_pos c1, a2, c2]
      exact ma_F ma_01 (ma_ret ⟨mf_nanE, rfl⟩)
    · rw [if_neg (c := 9218868437227405312 < m % 2 ^ 63) (by omega)]
      refine ma_T rfl (ma_be (mf_isInf hn σ) ?_)
      rw [if_neg (c := n % 2 ^ 63 = 9218868437227405312) (by omega)]
      refine ma_T rfl (ma_be (mf_isZero hm σ) ?_)
      rw [if_neg (c := m % 2 ^ 63 = 0) (by omega)]
      refine ma_T rfl (ma_be (mf_pow hn σ) (ma_be (mf_pow hm σ) (ma_lt (ma_be (mf_isInf hm σ) ?_))))
      rw [if_pos c1]
      refine ma_F ma_01 (ma_ret ⟨hself.trans ?_, rfl⟩)
      rw [a2, c2]
      rfl
    · rw [if_neg (c := 9218868437227405312 < m % 2 ^ 63) (by omega)]
      obtain ⟨b1, b2, b3, b4⟩ := mf_cB n
      obtain ⟨d1, d2, d3, d4⟩ := mf_cB m
      refine ma_T rfl (ma_be (mf_isInf hn σ) ?_)
      rw [if_neg (c := n % 2 ^ 63 = 9218868437227405312) (by omega)]
      refine ma_T rfl (ma_be (mf_isZero hm σ) ?_)
      have eP : FP.Core.exactRemainder (.fin (decide (2 ^ 63 ≤ n)) (mf_c n) (mf_q n)) (.fin (decide (2 ^ 63 ≤ m)) (mf_c m) (mf_q m)) = if mf_c m = 0 then .nan else .fin (decide (2 ^ 63 ≤ n)) (FP.Core.inUnits (mf_c n) (mf_q n) (min (mf_q n) (mf_q m)) % FP.Core.inUnits (mf_c m) (mf_q m) (min (mf_q n) (mf_q m))) (min (mf_q n) (mf_q m)) := rfl
      by_cases g2 : m % 2 ^ 63 = 0
      · rw [if_pos g2, a2, c2, eP, if_pos (z2.mpr g2)]
        exact ma_F ma_01 (ma_ret ⟨mf_nanE, rfl⟩)
      rw [if_neg g2]
      have hd : 0 < mf_c m := by omega
      refine ma_T rfl (ma_be (mf_pow hn σ) (ma_be (mf_pow hm σ) (ma_lt (ma_be (mf_isInf hm σ) ?_))))
      rw [if_neg (c := m % 2 ^ 63 = 9218868437227405312) (by omega)]
      refine ma_T rfl (ma_be (mf_isZero hn σ) ?_)
      rw [iN_sub]
      by_cases g : n % 2 ^ 63 = 0
      · rw [if_pos g]
        refine ma_F ma_01 (ma_ret ⟨?_, rfl⟩)
        rw [a2, c2, eP, if_neg (by omega), z1.mpr g]
        unfold FP.Core.inUnits
        rw [Nat.zero_mul, Nat.zero_mod]
        have := mf_bit63 hn g
        show _ = lN (FP.Core.encode FP.Core.b64 (FP.Core.roundRatio FP.Core.b64 (decide (2 ^ 63 ≤ n)) 0 1 (min (mf_q n) (mf_q m))))
        rw [← mf_zero, ← this]
      rw [if_neg g]
      refine ma_T rfl (ma_if (fun g3 => ?_) (fun g3 => ?_))
      · rw [show (0 : Int32) = iN 0 from rfl, iN_le (by omega) (by omega)] at g3
        obtain ⟨k, hk⟩ : ∃ k : Nat, mf_q n = mf_q m + k := ⟨(mf_q n - mf_q m).toNat, by omega⟩
        refine ma_be (mf_dig hm σ) ?_
        have e0 : lN (mf_c m) = 0 ↔ mf_c m = 0 := by
          rw [show (0 : Int64) = lN 0 from rfl, mf_lN_eq (by omega) (by decide)]
        refine ma_F (fun q => by rw [lg_cmp_eq, e0] at q; omega) (ma_be (mf_dig hn σ) (ma_gd (by rw [decide_eq_false (fun q => by rw [e0] at q; omega)]; rfl) (ma_lt ?_)))
        rw [pk_lRem (by omega) hd (by omega), show mf_q n - mf_q m = (k : Int) by omega, ← iN_nI, a2, c2, eP, if_neg (by omega)]
        have := mf_remL (c := mf_c n) (d := mf_c m) (k := k) (r := mf_q m) hn hm hd d1 (by omega) (by omega) rfl (by omega) σ ae_fu 0 (mf_c n % mf_c m) (by rw [ae_fu]; omega) (by omega) (by rw [Nat.pow_zero, Nat.mul_one])
        refine ma_mono this (fun x t q => ⟨q.1.trans ?_, q.2⟩)
        unfold FP.Core.inUnits
        rw [show min (mf_q n) (mf_q m) = mf_q m by omega, show (mf_q n - mf_q m).toNat = k by omega, show (mf_q m - mf_q m).toNat = 0 by omega, Nat.pow_zero, Nat.mul_one]
        rfl
      · rw [show (0 : Int32) = iN 0 from rfl, iN_le (by omega) (by omega)] at g3
        refine ma_ret ⟨hself.trans ?_, rfl⟩
        rw [a2, c2, eP, if_neg (by omega)]
        unfold FP.Core.inUnits
        rw [show min (mf_q n) (mf_q m) = mf_q n by omega, show (mf_q n - mf_q n).toNat = 0 by omega, Nat.pow_zero, Nat.mul_one, Nat.mod_eq_of_lt]
        have : 2 ^ 52 * 2 ^ 1 ≤ mf_c m * 2 ^ (mf_q m - mf_q n).toNat := Nat.mul_le_mul (by omega) (Nat.pow_le_pow_right (by decide) (by omega))
        omega
