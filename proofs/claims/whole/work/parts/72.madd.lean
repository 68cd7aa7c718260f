/-! sums, as the class does them -/
theorem mf_or1 (u : Nat) : u ||| 1 = u + (1 - u % 2) := by
  have h := Nat.two_pow_add_eq_or_of_lt (i := 1) (b := 1) (by decide) (u / 2)
  by_cases q : u % 2 = 0
  · have e : u = 2 ^ 1 * (u / 2) := by omega
    rw [show u ||| 1 = 2 ^ 1 * (u / 2) ||| 1 by rw [← e], ← h]; omega
  · have e : u = 2 ^ 1 * (u / 2) + 1 := by omega
    rw [show u ||| 1 = (2 ^ 1 * (u / 2) + 1) ||| 1 by rw [← e], h, Nat.or_assoc, Nat.or_self, ← h]; omega
def mf_St (D A B : Nat) : Prop := D * B = A ∨ 2 ^ 54 ≤ D ∧ D % 2 = 1 ∧ (D - 1) * B < A ∧ A < (D + 1) * B
theorem mf_stR {s : Bool} {A B D : Nat} {e : Int} (hB : 0 < B) (h : mf_St D A B) : FP.Core.roundRatio FP.Core.b64 s A B e = FP.Core.roundRatio FP.Core.b64 s D 1 e := mf_sticky FP.Core.good_b64 hB h
/-- the whole part of a quotient, its lowest bit set if something is left -/
theorem mf_dv {A B : Nat} (hB : 0 < B) : (if A % B = 0 then A / B else A / B ||| 1) * B = A ∨ (if A % B = 0 then A / B else A / B ||| 1) % 2 = 1 ∧ ((if A % B = 0 then A / B else A / B ||| 1) - 1) * B < A ∧ A < ((if A % B = 0 then A / B else A / B ||| 1) + 1) * B := by
  have h := Nat.div_add_mod A B
  have hl := Nat.mod_lt A hB
  by_cases q : A % B = 0
  · rw [if_pos q]
    refine .inl ?_
    rw [Nat.mul_comm]; omega
  · rw [if_neg q, mf_or1]
    generalize A / B = u at h ⊢
    generalize A % B = r at h hl q
    refine .inr ⟨by omega, ?_, ?_⟩
    · have : (u + (1 - u % 2) - 1) * B ≤ u * B := Nat.mul_le_mul_right B (by omega)
      rw [Nat.mul_comm u B] at this
      omega
    · have : (u + 1) * B ≤ (u + (1 - u % 2) + 1) * B := Nat.mul_le_mul_right B (by omega)
      rw [Nat.add_mul u, Nat.mul_comm u B, Nat.one_mul] at this
      omega
theorem mf_or0 (u : Nat) : lN u ||| (0 : Int32).toInt64 = lN u := by
  rw [show (0 : Int32).toInt64 = lN 0 by decide, fb_orL, Nat.or_zero]
theorem mf_orI (u : Nat) : lN u ||| (1 : Int32).toInt64 = lN (u ||| 1) := by
  rw [show (1 : Int32).toInt64 = lN 1 by decide, fb_orL]
theorem mf_lower {X k : Nat} (hX : X < 2 ^ 62) (hk : k < 2 ^ 31) (σ : ae_S) : F_X2_loweredBy (lN X) (nI k) σ = some (lN (if X % 2 ^ k = 0 then X / 2 ^ k else X / 2 ^ k ||| 1), σ) := by
  refine ma_eq ?_
  unfold F_X2_loweredBy F_X2_loweredBy_23 F_X2_loweredBy_46
  refine ma_ls 0 k rfl rfl (by decide) hk (fun q => ?_) (fun q => ?_)
  · refine ma_le k 62 rfl rfl hk (by decide) (fun q2 => ma_lt ?_) (fun q2 => ?_)
    · have hp : 0 < 2 ^ k := Nat.two_pow_pos k
      have hp2 : 2 ^ k ≤ 2 ^ 62 := Nat.pow_le_pow_right (by decide) q2
      have hml := Nat.mod_lt X hp
      rw [show (1 : Int64) = lN 1 from rfl, wb_shl 1 (by omega), Nat.one_mul, lN_sub (by omega), wb_mask (by omega) (by omega), wb_shr (by omega) (by omega)]
      have e : lg_cmp (lN (X % 2 ^ k)) (0 : Int64) = 0 ↔ X % 2 ^ k = 0 := by
        rw [lg_cmp_eq, show (0 : Int64) = lN 0 from rfl, mf_lN_eq (by omega) (by decide)]
      refine ma_if (fun g => ?_) (fun g => ?_)
      · rw [if_pos (e.mp g), mf_or0]; exact ma_ret ⟨rfl, rfl⟩
      · rw [if_neg (fun q => g (e.mpr q)), mf_orI]; exact ma_ret ⟨rfl, rfl⟩
    · have hp2 : 2 ^ 63 ≤ 2 ^ k := Nat.pow_le_pow_right (by decide) q2
      rw [Nat.mod_eq_of_lt (by omega), Nat.div_eq_of_lt (by omega)]
      have e : lg_cmp (lN X) (0 : Int64) = 0 ↔ X = 0 := by
        rw [lg_cmp_eq, show (0 : Int64) = lN 0 from rfl, mf_lN_eq (by omega) (by decide)]
      refine ma_if (fun g => ?_) (fun g => ?_)
      · rw [if_pos (e.mp g)]; exact ma_ret ⟨rfl, rfl⟩
      · rw [if_neg (fun q => g (e.mpr q))]; exact ma_ret ⟨rfl, rfl⟩
  · rw [show k = 0 by omega, Nat.pow_zero, Nat.mod_one, if_pos rfl, Nat.div_one]; exact ma_ret ⟨rfl, rfl⟩
/-- L: the lower number, lowered -/
def mf_Lo (c d k L : Nat) : Prop := L * 2 ^ k = d * 2 ^ 9 ∨ 2 ^ 52 ≤ c ∧ L % 2 = 1 ∧ L ≤ 2 ^ 53 ∧ (L - 1) * 2 ^ k < d * 2 ^ 9 ∧ d * 2 ^ 9 < (L + 1) * 2 ^ k
theorem mf_lo {c d k : Nat} (hd : d < 2 ^ 53) (hk : k = 0 ∨ 2 ^ 52 ≤ c) : mf_Lo c d k (if d * 2 ^ 9 % 2 ^ k = 0 then d * 2 ^ 9 / 2 ^ k else d * 2 ^ 9 / 2 ^ k ||| 1) ∧ (if d * 2 ^ 9 % 2 ^ k = 0 then d * 2 ^ 9 / 2 ^ k else d * 2 ^ 9 / 2 ^ k ||| 1) ≤ 2 ^ 62 := by
  have hp : 0 < 2 ^ k := Nat.two_pow_pos k
  have hle : d * 2 ^ 9 / 2 ^ k ≤ d * 2 ^ 9 := Nat.div_le_self _ _
  refine ⟨?_, ?_⟩
  · by_cases q : d * 2 ^ 9 % 2 ^ k = 0
    · rw [if_pos q]
      refine .inl ?_
      have := Nat.div_add_mod (d * 2 ^ 9) (2 ^ k)
      rw [Nat.mul_comm]; omega
    · have h10 : 10 ≤ k := by
        rcases Nat.lt_or_ge k 10 with h | h
        · exfalso
          apply q
          have e : d * 2 ^ 9 = 2 ^ k * (d * 2 ^ (9 - k)) := by
            rw [show 2 ^ 9 = 2 ^ k * 2 ^ (9 - k) by rw [← Nat.pow_add, show k + (9 - k) = 9 by omega], Nat.mul_left_comm]
          rw [e, Nat.mul_mod_right]
        · exact h
      have hp2 : 2 ^ 10 ≤ 2 ^ k := Nat.pow_le_pow_right (by decide) h10
      have hdl : d * 2 ^ 9 / 2 ^ k ≤ 2 ^ 52 := by
        apply Nat.le_of_lt_succ
        rw [Nat.div_lt_iff_lt_mul hp]
        have : 2 ^ 52 * 2 ^ 10 ≤ (2 ^ 52).succ * 2 ^ k := Nat.mul_le_mul (by omega) hp2
        omega
      rcases mf_dv (A := d * 2 ^ 9) hp with h | ⟨h1, h2, h3⟩
      · exact .inl h
      · refine .inr ⟨by omega, h1, ?_, h2, h3⟩
        rw [if_neg q, mf_or1]; omega
  · by_cases q : d * 2 ^ 9 % 2 ^ k = 0
    · rw [if_pos q]; omega
    · rw [if_neg q, mf_or1]; omega
theorem mf_stp {c d k L : Nat} (h : mf_Lo c d k L) : mf_St (c * 2 ^ 9 + L) ((c * 2 ^ k + d) * 2 ^ 9) (2 ^ k) := by
  have hp : 0 < 2 ^ k := Nat.two_pow_pos k
  unfold mf_Lo at h
  unfold mf_St
  generalize 2 ^ k = B at h hp ⊢
  have e : c * 2 ^ 9 * B = c * B * 2 ^ 9 := Nat.mul_right_comm ..
  rcases h with h | ⟨h0, h1, h2, h3, h4⟩
  · exact .inl (by rw [Nat.add_mul, Nat.add_mul, h, e])
  · refine .inr ⟨by omega, by omega, ?_, ?_⟩
    · rw [show c * 2 ^ 9 + L - 1 = c * 2 ^ 9 + (L - 1) by omega, Nat.add_mul, Nat.add_mul, e]
      exact Nat.add_lt_add_left h3 _
    · rw [show c * 2 ^ 9 + L + 1 = c * 2 ^ 9 + (L + 1) by omega, Nat.add_mul, Nat.add_mul, e]
      exact Nat.add_lt_add_left h4 _
theorem mf_stm {c d k L : Nat} (h : mf_Lo c d k L) : (L ≤ c * 2 ^ 9 ∧ d ≤ c * 2 ^ k ∧ mf_St (c * 2 ^ 9 - L) ((c * 2 ^ k - d) * 2 ^ 9) (2 ^ k) ∧ (c * 2 ^ 9 - L = 0 ↔ c * 2 ^ k - d = 0)) ∨ (c * 2 ^ 9 < L ∧ c * 2 ^ k < d ∧ mf_St (L - c * 2 ^ 9) ((d - c * 2 ^ k) * 2 ^ 9) (2 ^ k)) := by
  have hp : 0 < 2 ^ k := Nat.two_pow_pos k
  unfold mf_Lo at h
  unfold mf_St
  generalize 2 ^ k = B at h hp ⊢
  have e : c * 2 ^ 9 * B = c * B * 2 ^ 9 := Nat.mul_right_comm ..
  rcases h with h | ⟨h0, h1, h2, h3, h4⟩
  · by_cases q : L ≤ c * 2 ^ 9
    · have a1 : L * B ≤ c * 2 ^ 9 * B := Nat.mul_le_mul_right B q
      refine .inl ⟨q, by omega, .inl ?_, ?_⟩
      · rw [Nat.sub_mul, Nat.sub_mul, h, e]
      · constructor
        · intro g
          have g2 : L = c * 2 ^ 9 := by omega
          rw [g2, e] at h
          omega
        · intro g
          have g2 : L * B = c * 2 ^ 9 * B := by rw [h, e]; omega
          have := Nat.eq_of_mul_eq_mul_right hp g2
          omega
    · have a1 : (c * 2 ^ 9 + 1) * B ≤ L * B := Nat.mul_le_mul_right B (by omega)
      rw [Nat.add_mul, Nat.one_mul] at a1
      refine .inr ⟨by omega, by omega, .inl ?_⟩
      rw [Nat.sub_mul, Nat.sub_mul, h, e]
  · have a1 : (L + 1) * B ≤ c * 2 ^ 9 * B := Nat.mul_le_mul_right B (by omega)
    refine .inl ⟨by omega, by omega, .inr ⟨by omega, by omega, ?_, ?_⟩, ?_⟩
    · rw [show c * 2 ^ 9 - L - 1 = c * 2 ^ 9 - (L + 1) by omega, Nat.sub_mul, Nat.sub_mul, e]; omega
    · rw [show c * 2 ^ 9 - L + 1 = c * 2 ^ 9 - (L - 1) by omega, Nat.sub_mul, Nat.sub_mul, e]; omega
    · constructor
      · intro g; omega
      · intro g
        exfalso
        omega
/-- the end of an addition: a total within a long -/
theorem mf_62 {T q : Int} {t0 t1 : Int64} {σ : ae_S} (ht : t1 + t0 = Int64.ofInt T) (h1 : -2 ^ 63 < T) (h2 : T < 2 ^ 63) (hq1 : -2000 ≤ q) (hq2 : q ≤ 2000) : F_X2_addLower_62 (iN q) t0 t1 σ = some (lN (FP.Core.encode FP.Core.b64 (FP.Core.roundRatio FP.Core.b64 (decide (T < 0)) T.natAbs 1 (q - 9))), σ) := by
  refine ma_eq ?_
  unfold F_X2_addLower_62 F_X2_addLower_80
  refine ma_lt ?_
  rw [ht, mf_half, show (9 : Int32) = iN 9 from rfl, iN_sub]
  by_cases h : 0 ≤ T
  · obtain ⟨D, rfl⟩ : ∃ D : Nat, T = (D : Int) := ⟨T.toNat, by omega⟩
    rw [mf_oI, decide_eq_false (show ¬ (D : Int) < 0 by omega), Int.natAbs_natCast]
    refine ma_T ((mf_lsg (by omega)).mpr (by omega)) (ma_be (mf_rnd64 (by omega) (by omega) (by omega)) (ma_ret ⟨?_, rfl⟩))
    rw [mf_ms (by omega), decide_eq_false (show ¬ 2 ^ 63 ≤ D by omega)]
    exact mf_sor false (mf_lt63 (by decide) _)
  · obtain ⟨D, rfl⟩ : ∃ D : Nat, T = -(D : Int) := ⟨(-T).toNat, by omega⟩
    rw [mf_oIn, decide_eq_true (show -(D : Int) < 0 by omega), show (-(D : Int)).natAbs = D by omega, mf_neg (n := D) (by omega), mf_neg (n := 2 ^ 64 - D) (by omega), show 2 ^ 64 - (2 ^ 64 - D) = D by omega]
    refine ma_F (fun q => by have := (mf_lsg (by omega)).mp q; omega) (ma_be (mf_rnd64 (by omega) (by omega) (by omega)) (ma_ret ⟨?_, rfl⟩))
    rw [mf_ms (by omega), decide_eq_true (show 2 ^ 63 ≤ 2 ^ 64 - D by omega)]
    exact mf_sor true (mf_lt63 (by decide) _)
theorem mf_sgI (s : Bool) (M : Nat) : (if s = true then -lN M else lN M) = Int64.ofInt (FP.Core.signed s M) := by
  cases s
  · exact (mf_oI M).symm
  · exact (mf_oIn M).symm
theorem mf_move {s : Bool} {V k : Nat} {r : Int} : FP.Core.roundRatio FP.Core.b64 s V 1 r = FP.Core.roundRatio FP.Core.b64 s (V * 2 ^ 9) (2 ^ k) (r + k - 9) := by
  refine FP.Core.roundRatio_congr (by decide) (Nat.two_pow_pos k) ?_
  by_cases h : 9 ≤ k
  · rw [show (r - (r + k - 9)).toNat = 0 by omega, show (r + k - 9 - r).toNat = k - 9 by omega, Nat.pow_zero, Nat.mul_one, Nat.mul_one, Nat.mul_assoc, ← Nat.pow_add, show 9 + (k - 9) = k by omega]
  · rw [show (r - (r + k - 9)).toNat = 9 - k by omega, show (r + k - 9 - r).toNat = 0 by omega, Nat.pow_zero, Nat.mul_one, Nat.mul_one, Nat.mul_assoc, ← Nat.pow_add, show k + (9 - k) = 9 by omega]
theorem mf_sumR {s t : Bool} {c d k L : Nat} {q r : Int} (hq : q = r + k) (hL : mf_Lo c d k L) (hz : ¬ (c = 0 ∧ d = 0)) : FP.Core.round FP.Core.b64 (FP.Core.exactSum (.fin s c q) (.fin t d r)) = FP.Core.roundRatio FP.Core.b64 (decide (FP.Core.signed s (c * 2 ^ 9) + FP.Core.signed t L < 0)) (FP.Core.signed s (c * 2 ^ 9) + FP.Core.signed t L).natAbs 1 (q - 9) := by
  have hp : 0 < 2 ^ k := Nat.two_pow_pos k
  have e1 : FP.Core.exactSum (.fin s c q) (.fin t d r) = .fin (FP.Core.sumSign s t (FP.Core.signed s (c * 2 ^ k) + FP.Core.signed t d)) (FP.Core.signed s (c * 2 ^ k) + FP.Core.signed t d).natAbs r := by
    show FP.Core.Datum.fin (FP.Core.sumSign s t (FP.Core.sumUnits s c q t d r (min q r))) (FP.Core.sumUnits s c q t d r (min q r)).natAbs (min q r) = _
    rw [show min q r = r by omega]
    unfold FP.Core.sumUnits FP.Core.inUnits
    rw [show (q - r).toNat = k by omega, show (r - r).toNat = 0 by omega, Nat.pow_zero, Nat.mul_one]
  rw [e1]
  show FP.Core.roundRatio FP.Core.b64 _ _ 1 r = _
  rw [mf_move (k := k), show r + k - 9 = q - 9 by omega]
  have hcz : c = 0 ↔ c * 2 ^ k = 0 := ⟨fun h => by rw [h, Nat.zero_mul], fun h => by
    rcases Nat.mul_eq_zero.mp h with h | h
    · exact h
    · omega⟩
  have P := mf_stp hL
  have M := mf_stm hL
  generalize c * 2 ^ k = C at P M hcz ⊢
  obtain ⟨H, hH⟩ : ∃ H, H = c * 2 ^ 9 := ⟨_, rfl⟩
  rw [← hH] at P M ⊢
  unfold FP.Core.sumSign
  cases s <;> cases t <;> simp only [FP.Core.signed, Bool.false_eq_true, if_false, if_true, Bool.and_true, Bool.and_false, Bool.true_and, Bool.false_and, Bool.and_self]
  · rw [show ((C : Int) + (d : Int)).natAbs = C + d by omega, show ((H : Int) + (L : Int)).natAbs = H + L by omega, mf_stR hp P]
    congr 1
    by_cases g : (C : Int) + d = 0
    · rw [if_pos g, decide_eq_false (by omega)]
    · rw [if_neg g, decide_eq_false (by omega), decide_eq_false (by omega)]
  · rcases M with ⟨m1, m2, m3, m4⟩ | ⟨m1, m2, m3⟩
    · rw [show ((C : Int) + -(d : Int)).natAbs = C - d by omega, show ((H : Int) + -(L : Int)).natAbs = H - L by omega, mf_stR hp m3]
      congr 1
      by_cases g : (C : Int) + -(d : Int) = 0
      · rw [if_pos g, decide_eq_false (by omega)]
      · rw [if_neg g, decide_eq_false (by omega), decide_eq_false (by omega)]
    · rw [show ((C : Int) + -(d : Int)).natAbs = d - C by omega, show ((H : Int) + -(L : Int)).natAbs = L - H by omega, mf_stR hp m3]
      congr 1
      rw [if_neg (by omega), decide_eq_true (by omega), decide_eq_true (by omega)]
  · rcases M with ⟨m1, m2, m3, m4⟩ | ⟨m1, m2, m3⟩
    · rw [show (-(C : Int) + (d : Int)).natAbs = C - d by omega, show (-(H : Int) + (L : Int)).natAbs = H - L by omega, mf_stR hp m3]
      congr 1
      by_cases g : -(C : Int) + (d : Int) = 0
      · rw [if_pos g, decide_eq_false (by omega)]
      · rw [if_neg g, decide_eq_true (by omega), decide_eq_true (by omega)]
    · rw [show (-(C : Int) + (d : Int)).natAbs = d - C by omega, show (-(H : Int) + (L : Int)).natAbs = L - H by omega, mf_stR hp m3]
      congr 1
      rw [if_neg (by omega), decide_eq_false (by omega), decide_eq_false (by omega)]
  · rw [show (-(C : Int) + -(d : Int)).natAbs = C + d by omega, show (-(H : Int) + -(L : Int)).natAbs = H + L by omega, mf_stR hp P]
    congr 1
    have : 0 < H + L := by
      rcases Nat.eq_zero_or_pos (H + L) with g | g
      · exfalso
        have hH0 : H = 0 := by omega
        have hc0 : c = 0 := by omega
        rcases hL with h | ⟨h, _⟩
        · rw [show L = 0 by omega, Nat.zero_mul] at h
          omega
        · omega
      · exact g
    rw [if_neg (by omega), decide_eq_true (by omega), decide_eq_true (by omega)]
theorem mf_addL {n m : Nat} (hn : n < 2 ^ 64) (hm : m < 2 ^ 64) (hq : mf_q m ≤ mf_q n) (hz : ¬ (mf_c n = 0 ∧ mf_c m = 0)) (σ : ae_S) : F_X2_addLower (lN n) (lN m) σ = some (lN (FP.Core.encode FP.Core.b64 (FP.Core.round FP.Core.b64 (FP.Core.exactSum (.fin (decide (2 ^ 63 ≤ n)) (mf_c n) (mf_q n)) (.fin (decide (2 ^ 63 ≤ m)) (mf_c m) (mf_q m))))), σ) := by
  obtain ⟨b1, b2, b3, b4⟩ := mf_cB n
  obtain ⟨d1, d2, d3, d4⟩ := mf_cB m
  obtain ⟨k, hk⟩ : ∃ k : Nat, mf_q n = mf_q m + k := ⟨(mf_q n - mf_q m).toNat, by omega⟩
  obtain ⟨hL, hL2⟩ := mf_lo (c := mf_c n) (d := mf_c m) (k := k) d1 (by omega)
  have hlow := mf_lower (X := mf_c m * 2 ^ 9) (k := k) (by omega) (by omega) σ
  generalize (if mf_c m * 2 ^ 9 % 2 ^ k = 0 then mf_c m * 2 ^ 9 / 2 ^ k else mf_c m * 2 ^ 9 / 2 ^ k ||| 1) = L at hL hL2 hlow
  rw [mf_sumR hk hL hz]
  refine ma_eq ?_
  unfold F_X2_addLower F_X2_addLower_48
  refine ma_be (mf_pow hn σ) (ma_be (mf_dig hn σ) (ma_lt (ma_be (mf_dig hm σ) (ma_be (mf_pow hm σ) ?_))))
  rw [show (9 : Int32) = nI 9 from rfl, wb_shl _ (by decide), wb_shl _ (by decide), iN_sub, show mf_q n - mf_q m = ((k : Nat) : Int) by omega, ← iN_nI]
  refine ma_be hlow ?_
  have hH : mf_c n * 2 ^ 9 < 2 ^ 62 := by omega
  generalize mf_c n * 2 ^ 9 = H at hH ⊢
  have fin : ∀ (x y : Int64), x = Int64.ofInt (FP.Core.signed (decide (2 ^ 63 ≤ n)) H) → y = Int64.ofInt (FP.Core.signed (decide (2 ^ 63 ≤ m)) L) → ma_wp (F_X2_addLower_62 (iN (mf_q n)) y x σ) (fun a t => a = lN (FP.Core.encode FP.Core.b64 (FP.Core.roundRatio FP.Core.b64 (decide (FP.Core.signed (decide (2 ^ 63 ≤ n)) H + FP.Core.signed (decide (2 ^ 63 ≤ m)) L < 0)) (FP.Core.signed (decide (2 ^ 63 ≤ n)) H + FP.Core.signed (decide (2 ^ 63 ≤ m)) L).natAbs 1 (mf_q n - 9))) ∧ t = σ) := by
    intro x y hx hy
    have hb : ∀ (s : Bool) (M : Nat), -(M : Int) ≤ FP.Core.signed s M ∧ FP.Core.signed s M ≤ M := fun s M => by
      unfold FP.Core.signed
      cases s
      · simp only [Bool.false_eq_true, if_false]; omega
      · simp only [if_true]; omega
    have q1 := hb (decide (2 ^ 63 ≤ n)) H
    have q2 := hb (decide (2 ^ 63 ≤ m)) L
    exact ma_of (mf_62 (by rw [hx, hy, Int64.ofInt_add]) (by omega) (by omega) (by omega) (by omega)) ⟨rfl, rfl⟩
  by_cases g1 : n < 2 ^ 63
  · refine ma_T ((mf_lsg hn).mpr g1) ?_
    by_cases g2 : m < 2 ^ 63
    · refine ma_T ((mf_lsg hm).mpr g2) (fin _ _ ?_ ?_)
      · rw [← mf_sgI, decide_eq_false (show ¬ 2 ^ 63 ≤ n by omega)]; rfl
      · rw [← mf_sgI, decide_eq_false (show ¬ 2 ^ 63 ≤ m by omega)]; rfl
    · refine ma_F (fun q => g2 ((mf_lsg hm).mp q)) (fin _ _ ?_ ?_)
      · rw [← mf_sgI, decide_eq_false (show ¬ 2 ^ 63 ≤ n by omega)]; rfl
      · rw [← mf_sgI, decide_eq_true (show 2 ^ 63 ≤ m by omega)]; rfl
  · refine ma_F (fun q => g1 ((mf_lsg hn).mp q)) ?_
    by_cases g2 : m < 2 ^ 63
    · refine ma_T ((mf_lsg hm).mpr g2) (fin _ _ ?_ ?_)
      · rw [← mf_sgI, decide_eq_true (show 2 ^ 63 ≤ n by omega)]; rfl
      · rw [← mf_sgI, decide_eq_false (show ¬ 2 ^ 63 ≤ m by omega)]; rfl
    · refine ma_F (fun q => g2 ((mf_lsg hm).mp q)) (fin _ _ ?_ ?_)
      · rw [← mf_sgI, decide_eq_true (show 2 ^ 63 ≤ n by omega)]; rfl
      · rw [← mf_sgI, decide_eq_true (show 2 ^ 63 ≤ m by omega)]; rfl
theorem mf_addZ : ∀ s t : Bool, lN (s.toNat * 2 ^ 63) &&& lN (t.toNat * 2 ^ 63) = lN (FP.Core.add FP.Core.b64 (s.toNat * 2 ^ 63) (t.toNat * 2 ^ 63)) := by decide +kernel
theorem mf_bit63 {n : Nat} (hn : n < 2 ^ 64) (h : n % 2 ^ 63 = 0) : n = (decide (2 ^ 63 ≤ n)).toNat * 2 ^ 63 := by
  by_cases q : 2 ^ 63 ≤ n
  · rw [decide_eq_true q]; show n = 1 * 2 ^ 63; omega
  · rw [decide_eq_false q]; show n = 0 * 2 ^ 63; omega
theorem mf_add {n m : Nat} (hn : n < 2 ^ 64) (hm : m < 2 ^ 64) (σ : ae_S) : F_X2_add (lN n) (lN m) σ = some (lN (FP.Core.add FP.Core.b64 n m), σ) := by
  have nn : ∀ s, FP.Core.Datum.inf s ≠ .nan := fun s => FP.Core.Datum.noConfusion
  refine ma_eq ?_
  unfold F_X2_add F_X2_add_14
  refine ma_be (mf_isNan hn σ) ?_
  have enan : lN (FP.Core.encode FP.Core.b64 (FP.Core.round FP.Core.b64 .nan)) = (9221120237041090560 : Int64) := by
    show lN (FP.Core.encode FP.Core.b64 .nan) = _
    rw [mf_encnan]; rfl
  rcases mf_cs hn with ⟨a1, a2⟩ | ⟨a1, a2⟩ | ⟨a1, a2⟩
  · rw [if_pos a1]
    unfold FP.Core.add
    rw [a2, show FP.Core.exactSum .nan (FP.Core.decode FP.Core.b64 m) = .nan from rfl, enan]
    exact ma_F ma_01 (ma_ret ⟨rfl, rfl⟩)
  · rw [if_neg (c := 9218868437227405312 < n % 2 ^ 63) (by omega)]
    refine ma_T rfl (ma_be (mf_isNan hm σ) ?_)
    have ei : FP.Core.encode FP.Core.b64 (.inf (decide (2 ^ 63 ≤ n))) = n := by rw [← a2]; exact mf_ed hn (by rw [a2]; exact nn _)
    rcases mf_cs hm with ⟨c1, c2⟩ | ⟨c1, c2⟩ | ⟨c1, c2⟩
    · rw [if_pos c1]
      unfold FP.Core.add
      rw [a2, c2, show FP.Core.exactSum (.inf (decide (2 ^ 63 ≤ n))) .nan = .nan from rfl, enan]
      exact ma_F ma_01 (ma_ret ⟨rfl, rfl⟩)
    · rw [if_neg (c := 9218868437227405312 < m % 2 ^ 63) (by omega)]
      refine ma_T rfl (ma_be (mf_isInf hn σ) ?_)
      rw [if_pos a1]
      refine ma_F ma_01 ?_
      unfold F_X2_add_32 F_X2_add_56 F_X2_add_57 F_X2_add_82
      refine ma_be (mf_isInf hn σ) ?_
      rw [if_pos a1]
      refine ma_F ma_01 (ma_be (mf_isInf hm σ) ?_)
      rw [if_pos c1]
      refine ma_F ma_01 ?_
      unfold FP.Core.add
      rw [a2, c2, show FP.Core.exactSum (.inf (decide (2 ^ 63 ≤ n))) (.inf (decide (2 ^ 63 ≤ m))) = if decide (2 ^ 63 ≤ n) = decide (2 ^ 63 ≤ m) then .inf (decide (2 ^ 63 ≤ n)) else .nan from rfl]
      refine ma_if (fun g => ?_) (fun g => ?_)
      · rw [lg_cmp_eq, mf_lN_eq hn hm] at g
        subst g
        rw [if_pos (c := decide (2 ^ 63 ≤ n) = decide (2 ^ 63 ≤ n)) rfl]
        refine ma_T rfl (ma_be (mf_isInf hn σ) ?_)
        rw [if_pos a1]
        refine ma_F ma_01 (ma_ret ⟨?_, rfl⟩)
        show _ = lN (FP.Core.encode FP.Core.b64 (.inf (decide (2 ^ 63 ≤ n))))
        rw [ei]
      · rw [lg_cmp_eq, mf_lN_eq hn hm] at g
        rw [if_neg (c := decide (2 ^ 63 ≤ n) = decide (2 ^ 63 ≤ m)) (fun h => by rw [decide_eq_decide] at h; omega), enan]
        exact ma_F ma_01 (ma_ret ⟨rfl, rfl⟩)
    · rw [if_neg (c := 9218868437227405312 < m % 2 ^ 63) (by omega)]
      refine ma_T rfl (ma_be (mf_isInf hn σ) ?_)
      rw [if_pos a1]
      refine ma_F ma_01 ?_
      unfold F_X2_add_32 F_X2_add_56 F_X2_add_57 F_X2_add_82
      refine ma_be (mf_isInf hn σ) ?_
      rw [if_pos a1]
      refine ma_F ma_01 (ma_be (mf_isInf hm σ) ?_)
      rw [if_neg (c := m % 2 ^ 63 = 9218868437227405312) (by omega)]
      refine ma_T rfl (ma_T rfl (ma_be (mf_isInf hn σ) ?_))
      rw [if_pos a1]
      unfold FP.Core.add
      rw [a2, c2]
      refine ma_F ma_01 (ma_ret ⟨?_, rfl⟩)
      show _ = lN (FP.Core.encode FP.Core.b64 (.inf (decide (2 ^ 63 ≤ n))))
      rw [ei]
  · rw [if_neg (c := 9218868437227405312 < n % 2 ^ 63) (by omega)]
    refine ma_T rfl (ma_be (mf_isNan hm σ) ?_)
    rcases mf_cs hm with ⟨c1, c2⟩ | ⟨c1, c2⟩ | ⟨c1, c2⟩
    · rw [if_pos c1]
      unfold FP.Core.add
      rw [a2, c2, show FP.Core.exactSum (.fin (decide (2 ^ 63 ≤ n)) (mf_c n) (mf_q n)) .nan = .nan from rfl, enan]
      exact ma_F ma_01 (ma_ret ⟨rfl, rfl⟩)
    · rw [if_neg (c := 9218868437227405312 < m % 2 ^ 63) (by omega)]
      refine ma_T rfl (ma_be (mf_isInf hn σ) ?_)
      rw [if_neg (c := n % 2 ^ 63 = 9218868437227405312) (by omega)]
      refine ma_T rfl (ma_be (mf_isInf hm σ) ?_)
      rw [if_pos c1]
      refine ma_F ma_01 ?_
      unfold F_X2_add_32 F_X2_add_56 F_X2_add_57 F_X2_add_82
      refine ma_be (mf_isInf hn σ) ?_
      rw [if_neg (c := n % 2 ^ 63 = 9218868437227405312) (by omega)]
      refine ma_T rfl (ma_T rfl (ma_be (mf_isInf hn σ) ?_))
      rw [if_neg (c := n % 2 ^ 63 = 9218868437227405312) (by omega)]
      unfold FP.Core.add
      rw [a2, c2]
      refine ma_T rfl (ma_ret ⟨?_, rfl⟩)
      show _ = lN (FP.Core.encode FP.Core.b64 (.inf (decide (2 ^ 63 ≤ m))))
      rw [← c2, mf_ed hm (by rw [c2]; exact nn _)]
    · rw [if_neg (c := 9218868437227405312 < m % 2 ^ 63) (by omega)]
      refine ma_T rfl (ma_be (mf_isInf hn σ) ?_)
      rw [if_neg (c := n % 2 ^ 63 = 9218868437227405312) (by omega)]
      refine ma_T rfl (ma_be (mf_isInf hm σ) ?_)
      rw [if_neg (c := m % 2 ^ 63 = 9218868437227405312) (by omega)]
      refine ma_T rfl (ma_be (mf_isZero hn σ) ?_)
      have go : ¬ (mf_c n = 0 ∧ mf_c m = 0) → ma_wp (F_X2_add_101 (lN n) (lN m) σ) (fun x t => x = lN (FP.Core.add FP.Core.b64 n m) ∧ t = σ) := by
        intro hz
        obtain ⟨b1, b2, b3, b4⟩ := mf_cB n
        obtain ⟨d1, d2, d3, d4⟩ := mf_cB m
        unfold F_X2_add_101 F_X2_add_125 FP.Core.add
        rw [a2, c2]
        refine ma_be (mf_pow hn σ) (ma_be (mf_pow hm σ) ?_)
        refine ma_if (fun g => ?_) (fun g => ?_)
        · rw [iN_lt (by omega) (by omega)] at g
          rw [FP.Core.exactSum_comm]
          exact ma_be (mf_addL hm hn (by omega) (fun q => hz ⟨q.2, q.1⟩) σ) (ma_ret ⟨rfl, rfl⟩)
        · rw [iN_lt (by omega) (by omega)] at g
          exact ma_be (mf_addL hn hm (by omega) hz σ) (ma_ret ⟨rfl, rfl⟩)
      by_cases z1 : n % 2 ^ 63 = 0
      · rw [if_pos z1]
        refine ma_F ma_01 (ma_be (mf_isZero hm σ) ?_)
        by_cases z2 : m % 2 ^ 63 = 0
        · rw [if_pos z2]
          refine ma_F ma_01 (ma_ret ⟨?_, rfl⟩)
          rw [mf_bit63 hn z1, mf_bit63 hm z2]
          exact mf_addZ _ _
        · rw [if_neg z2]
          exact ma_T rfl (go (fun q => z2 ((mf_c0 m).mp q.2)))
      · rw [if_neg z1]
        exact ma_T rfl (go (fun q => z1 ((mf_c0 n).mp q.1)))
