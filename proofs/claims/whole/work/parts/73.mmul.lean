/-! products, quotients, what is left, as the class does them -/
theorem mf_tb {x : Nat} (hx : x < 2 ^ 64) : decide (2 ^ 63 ≤ x) = x.testBit 63 := by
  rw [Nat.testBit_eq_decide_div_mod_eq]
  exact decide_eq_decide.mpr (by omega)
theorem mf_xlt {n m : Nat} (hn : n < 2 ^ 64) (hm : m < 2 ^ 64) : n ^^^ m < 2 ^ 64 := Nat.xor_lt_two_pow hn hm
theorem mf_xs {n m : Nat} (hn : n < 2 ^ 64) (hm : m < 2 ^ 64) : (lN n ^^^ lN m) &&& (-9223372036854775808 : Int64) = lN ((decide (2 ^ 63 ≤ n) != decide (2 ^ 63 ≤ m)).toNat * 2 ^ 63) := by
  rw [lN_xor, mf_ms (mf_xlt hn hm), mf_tb (mf_xlt hn hm), Nat.testBit_xor, ← mf_tb hn, ← mf_tb hm]
theorem mf_lift {n : Nat} (hn : n < 2 ^ 64) (hz : 0 < mf_c n) (σ : ae_S) : ∃ l : Nat, F_X2_liftOf (lN n) σ = some (nI l, σ) ∧ l ≤ 52 ∧ 2 ^ 52 ≤ mf_c n * 2 ^ l ∧ mf_c n * 2 ^ l < 2 ^ 53 := by
  obtain ⟨b1, -, -, -⟩ := mf_cB n
  obtain ⟨a, h1, h2⟩ := mf_log hz
  have ha : a ≤ 52 := by have := mf_pl (k := 53) h1 b1; omega
  refine ⟨52 - a, ma_eq ?_, by omega, ?_, ?_⟩
  · unfold F_X2_liftOf
    refine ma_be (mf_dig hn σ) (ma_be (mf_nlz h1 h2 (by omega)) (ma_ret ⟨?_, rfl⟩))
    rw [show (11 : Int32) = nI 11 from rfl, pk_sub (by omega), if_neg (nI_pos (by omega)), show 63 - a - 11 = 52 - a by omega]
  · have := Nat.mul_le_mul_right (2 ^ (52 - a)) h1
    rwa [← Nat.pow_add, show a + (52 - a) = 52 by omega] at this
  · have := Nat.mul_lt_mul_of_pos_right h2 (Nat.two_pow_pos (52 - a))
    rwa [← Nat.pow_add, show a + 1 + (52 - a) = 53 by omega] at this
theorem mf_prod {a b : Nat} {p : Int} (ha1 : 2 ^ 52 ≤ a) (ha2 : a < 2 ^ 53) (hb1 : 2 ^ 52 ≤ b) (hb2 : b < 2 ^ 53) (hp1 : -4000 ≤ p) (hp2 : p ≤ 4000) (σ : ae_S) : F_X2_product (lN a) (lN b) (iN p) σ = some (lN (FP.Core.encode FP.Core.b64 (FP.Core.roundRatio FP.Core.b64 false (a * b) 1 p)), σ) := by
  have e26 : ∀ n, n < 2 ^ 64 → lN n &&& (67108863 : Int64) = lN (n % 2 ^ 26) := fun n hn => by
    rw [show (67108863 : Int64) = lN (2 ^ 26 - 1) from rfl, wb_mask hn (by decide)]
  have s26 : ∀ n, n < 2 ^ 64 → ((lN n).toUInt64 >>> ((26 : Int32).toInt64.toUInt64 &&& Int64.toUInt64 63)).toInt64 = lN (n / 2 ^ 26) := fun n hn => by
    rw [show (26 : Int32) = nI 26 from rfl, wb_shr hn (by decide)]
  have ea : a = 2 ^ 26 * (a / 2 ^ 26) + a % 2 ^ 26 := by omega
  have eb : b = 2 ^ 26 * (b / 2 ^ 26) + b % 2 ^ 26 := by omega
  have la0 : a % 2 ^ 26 < 2 ^ 26 := Nat.mod_lt _ (by decide)
  have lb0 : b % 2 ^ 26 < 2 ^ 26 := Nat.mod_lt _ (by decide)
  have la1 : a / 2 ^ 26 < 2 ^ 27 := by omega
  have lb1 : b / 2 ^ 26 < 2 ^ 27 := by omega
  have hab : a * b = 2 ^ 52 * (a / 2 ^ 26 * (b / 2 ^ 26)) + 2 ^ 26 * (a / 2 ^ 26 * (b % 2 ^ 26) + a % 2 ^ 26 * (b / 2 ^ 26)) + a % 2 ^ 26 * (b % 2 ^ 26) := by
    generalize a / 2 ^ 26 = a1 at ea
    generalize a % 2 ^ 26 = a0 at ea
    generalize b / 2 ^ 26 = b1 at eb
    generalize b % 2 ^ 26 = b0 at eb
    subst ea eb
    rw [Nat.add_mul, Nat.mul_add, Nat.mul_add, Nat.mul_add, show 2 ^ 26 * a1 * (2 ^ 26 * b1) = 2 ^ 52 * (a1 * b1) by rw [Nat.mul_mul_mul_comm], Nat.mul_assoc (2 ^ 26) a1 b0, Nat.mul_left_comm a0 (2 ^ 26) b1]
    omega
  have p00 : a % 2 ^ 26 * (b % 2 ^ 26) < 2 ^ 26 * 2 ^ 26 := Nat.mul_lt_mul'' la0 lb0
  have p10 : a / 2 ^ 26 * (b % 2 ^ 26) < 2 ^ 27 * 2 ^ 26 := Nat.mul_lt_mul'' la1 lb0
  have p01 : a % 2 ^ 26 * (b / 2 ^ 26) < 2 ^ 26 * 2 ^ 27 := Nat.mul_lt_mul'' la0 lb1
  have p11 : a / 2 ^ 26 * (b / 2 ^ 26) < 2 ^ 27 * 2 ^ 27 := Nat.mul_lt_mul'' la1 lb1
  have lo : 2 ^ 52 * 2 ^ 52 ≤ a * b := Nat.mul_le_mul ha1 hb1
  have hi : a * b < 2 ^ 53 * 2 ^ 53 := Nat.mul_lt_mul'' ha2 hb2
  refine ma_eq ?_
  unfold F_X2_product F_X2_product_115
  rw [e26 a (by omega), e26 b (by omega), s26 a (by omega), s26 b (by omega), lN_mul, lN_mul, lN_mul, lN_mul, lN_add]
  generalize a % 2 ^ 26 * (b % 2 ^ 26) = P00 at hab p00 ⊢
  generalize a / 2 ^ 26 * (b % 2 ^ 26) = P10 at hab p10 ⊢
  generalize a % 2 ^ 26 * (b / 2 ^ 26) = P01 at hab p01 ⊢
  generalize a / 2 ^ 26 * (b / 2 ^ 26) = P11 at hab p11 ⊢
  generalize a * b = A at hab lo hi ⊢
  refine ma_lt ?_
  rw [s26 P00 (by omega), lN_add, e26 P00 (by omega)]
  refine ma_lt ?_
  obtain ⟨mid, hmid⟩ : ∃ mid, mid = P10 + P01 + P00 / 2 ^ 26 := ⟨_, rfl⟩
  rw [← hmid, s26 mid (by omega), lN_add, e26 mid (by omega)]
  refine ma_lt ?_
  obtain ⟨high, hhigh⟩ : ∃ high, high = P11 + mid / 2 ^ 26 := ⟨_, rfl⟩
  rw [← hhigh, show (26 : Int32) = nI 26 from rfl, wb_shl _ (by decide), g_or (k := 26) (p := 2 ^ 26) rfl (by omega) (by omega)]
  refine ma_lt ?_
  obtain ⟨low, hlow⟩ : ∃ low, low = mid % 2 ^ 26 * 2 ^ 26 + P00 % 2 ^ 26 := ⟨_, rfl⟩
  have hA : A = high * 2 ^ 52 + low := by omega
  have hlow2 : low < 2 ^ 52 := by omega
  have hh : high < 2 ^ 54 := by omega
  have e15 : lN low &&& (((1 : Int64) <<< ((44 : Int32).toInt64 &&& 63)) - (1 : Int64)) = lN (A % 2 ^ 44) := by
    rw [show (((1 : Int64) <<< ((44 : Int32).toInt64 &&& 63)) - (1 : Int64)) = lN (2 ^ 44 - 1) by decide, wb_mask (by omega) (by decide)]
    congr 1
    omega
  have eu : (lN high <<< ((8 : Int32).toInt64 &&& 63)) ||| ((lN low).toUInt64 >>> ((44 : Int32).toInt64.toUInt64 &&& Int64.toUInt64 63)).toInt64 = lN (A / 2 ^ 44) := by
    rw [show (8 : Int32) = nI 8 from rfl, wb_shl _ (by decide), show (44 : Int32) = nI 44 from rfl, wb_shr (by omega) (by decide), g_or (k := 8) (p := 2 ^ 8) rfl (by omega) (by omega)]
    congr 1
    omega
  rw [← hlow, e15, eu]
  refine ma_lt ?_
  have st := mf_dv (A := A) (B := 2 ^ 44) (by decide)
  have hu : 2 ^ 54 ≤ A / 2 ^ 44 ∧ A / 2 ^ 44 < 2 ^ 62 := by omega
  have fin : ∀ D : Nat, D = (if A % 2 ^ 44 = 0 then A / 2 ^ 44 else A / 2 ^ 44 ||| 1) → ma_wp (ae_lt (lN D) (fun x1 => ae_bd (F_X2_rounded x1 (iN p + (44 : Int32)) (0 : Int32) σ) (fun (r3 : Int64) s4 => some (r3, s4)))) (fun x t => x = lN (FP.Core.encode FP.Core.b64 (FP.Core.roundRatio FP.Core.b64 false A 1 p)) ∧ t = σ) := by
    intro D hD
    have hDB : A / 2 ^ 44 ≤ D ∧ D ≤ A / 2 ^ 44 + 1 := by
      rw [hD]
      by_cases q : A % 2 ^ 44 = 0
      · rw [if_pos q]; omega
      · rw [if_neg q, mf_or1]; omega
    rw [← hD] at st
    have S : mf_St D A (2 ^ 44) := st.imp id (fun h => ⟨by omega, h⟩)
    refine ma_lt ?_
    rw [show (44 : Int32) = iN 44 from rfl, iN_add]
    refine ma_be (mf_rnd64 (by omega) (by omega) (by omega)) (ma_ret ⟨?_, rfl⟩)
    rw [← mf_stR (by decide) S]
    congr 2
    refine FP.Core.roundRatio_congr (by decide) (by decide) ?_
    rw [show (p + 44 - p).toNat = 44 by omega, show (p - (p + 44)).toNat = 0 by omega, Nat.mul_one, Nat.pow_zero, Nat.mul_one]
  have e0 : lg_cmp (lN (A % 2 ^ 44)) (0 : Int64) = 0 ↔ A % 2 ^ 44 = 0 := by
    rw [lg_cmp_eq, show (0 : Int64) = lN 0 from rfl, mf_lN_eq (by omega) (by decide)]
  refine ma_if (fun g => ?_) (fun g => ?_)
  · rw [mf_or0]
    exact fin _ (by rw [if_pos (e0.mp g)])
  · rw [mf_orI]
    exact fin _ (by rw [if_neg (fun q => g (e0.mpr q))])
theorem mf_inf (s : Bool) : lN (s.toNat * 2 ^ 63) ||| (9218868437227405312 : Int64) = lN (FP.Core.encode FP.Core.b64 (FP.Core.round FP.Core.b64 (.inf s))) := by
  have e : FP.Core.encode FP.Core.b64 (FP.Core.round FP.Core.b64 (.inf s)) = s.toNat * 2 ^ 63 + 9218868437227405312 := by cases s <;> decide
  rw [e]
  exact mf_sor s (by decide)
theorem mf_zero (s : Bool) (q : Int) : lN (s.toNat * 2 ^ 63) = lN (FP.Core.encode FP.Core.b64 (FP.Core.roundRatio FP.Core.b64 s 0 1 q)) := by
  rw [mf_half, mf_enc0, Nat.add_zero]
theorem mf_nanE : (9221120237041090560 : Int64) = lN (FP.Core.encode FP.Core.b64 (FP.Core.round FP.Core.b64 .nan)) := by
  show _ = lN (FP.Core.encode FP.Core.b64 .nan)
  rw [mf_encnan]; rfl
theorem mf_mul {n m : Nat} (hn : n < 2 ^ 64) (hm : m < 2 ^ 64) (σ : ae_S) : F_X2_multiply (lN n) (lN m) σ = some (lN (FP.Core.mul FP.Core.b64 n m), σ) := by
  have z1 := mf_c0 n
  have z2 := mf_c0 m
  refine ma_eq ?_
  unfold F_X2_multiply F_X2_multiply_14 F_X2_multiply_82 FP.Core.mul
  refine ma_be (mf_isNan hn σ) ?_
  rcases mf_cs hn with ⟨a1, a2⟩ | ⟨a1, a2⟩ | ⟨a1, a2⟩
  · rw [if_pos a1, a2]
    exact ma_F ma_01 (ma_ret ⟨mf_nanE, rfl⟩)
  · rw [if_neg (c := 9218868437227405312 < n % 2 ^ 63) (by omega), a2]
    refine ma_T rfl (ma_be (mf_isNan hm σ) ?_)
    rcases mf_cs hm with ⟨c1, c2⟩ | ⟨c1, c2⟩ | ⟨c1, c2⟩
    · rw [if_pos c1, c2]
      exact ma_F ma_01 (ma_ret ⟨mf_nanE, rfl⟩)
    · rw [if_neg (c := 9218868437227405312 < m % 2 ^ 63) (by omega), c2, mf_xs hn hm]
      refine ma_T rfl (ma_lt (ma_be (mf_isInf hn σ) ?_))
      rw [if_pos a1]
      refine ma_F ma_01 ?_
      unfold F_X2_multiply_41 F_X2_multiply_55 F_X2_multiply_67
      refine ma_be (mf_isZero hn σ) ?_
      rw [if_neg (c := n % 2 ^ 63 = 0) (by omega)]
      refine ma_T rfl (ma_be (mf_isZero hm σ) ?_)
      rw [if_neg (c := m % 2 ^ 63 = 0) (by omega)]
      exact ma_T rfl (ma_ret ⟨mf_inf _, rfl⟩)
    · rw [if_neg (c := 9218868437227405312 < m % 2 ^ 63) (by omega), c2, mf_xs hn hm]
      refine ma_T rfl (ma_lt (ma_be (mf_isInf hn σ) ?_))
      rw [if_pos a1]
      refine ma_F ma_01 ?_
      unfold F_X2_multiply_41 F_X2_multiply_55 F_X2_multiply_67
      refine ma_be (mf_isZero hn σ) ?_
      rw [if_neg (c := n % 2 ^ 63 = 0) (by omega)]
      refine ma_T rfl (ma_be (mf_isZero hm σ) ?_)
      rw [show FP.Core.exactProduct (.inf (decide (2 ^ 63 ≤ n))) (.fin (decide (2 ^ 63 ≤ m)) (mf_c m) (mf_q m)) = if mf_c m = 0 then .nan else .inf (decide (2 ^ 63 ≤ n) != decide (2 ^ 63 ≤ m)) from rfl]
      by_cases g : m % 2 ^ 63 = 0
      · rw [if_pos g, if_pos (z2.mpr g)]
        exact ma_F ma_01 (ma_ret ⟨mf_nanE, rfl⟩)
      · rw [if_neg g, if_neg (fun q => g (z2.mp q))]
        exact ma_T rfl (ma_ret ⟨mf_inf _, rfl⟩)
  · rw [if_neg (c := 9218868437227405312 < n % 2 ^ 63) (by omega), a2]
    refine ma_T rfl (ma_be (mf_isNan hm σ) ?_)
    rcases mf_cs hm with ⟨c1, c2⟩ | ⟨c1, c2⟩ | ⟨c1, c2⟩
    · rw [if_pos c1, c2]
      exact ma_F ma_01 (ma_ret ⟨mf_nanE, rfl⟩)
    · rw [if_neg (c := 9218868437227405312 < m % 2 ^ 63) (by omega), c2, mf_xs hn hm]
      refine ma_T rfl (ma_lt (ma_be (mf_isInf hn σ) ?_))
      rw [if_neg (c := n % 2 ^ 63 = 9218868437227405312) (by omega)]
      refine ma_T rfl (ma_be (mf_isInf hm σ) ?_)
      rw [if_pos c1]
      refine ma_F ma_01 ?_
      unfold F_X2_multiply_41 F_X2_multiply_55 F_X2_multiply_67
      refine ma_be (mf_isZero hn σ) ?_
      rw [show FP.Core.exactProduct (.fin (decide (2 ^ 63 ≤ n)) (mf_c n) (mf_q n)) (.inf (decide (2 ^ 63 ≤ m))) = if mf_c n = 0 then .nan else .inf (decide (2 ^ 63 ≤ n) != decide (2 ^ 63 ≤ m)) from rfl]
      by_cases g : n % 2 ^ 63 = 0
      · rw [if_pos g, if_pos (z1.mpr g)]
        exact ma_F ma_01 (ma_ret ⟨mf_nanE, rfl⟩)
      · rw [if_neg g, if_neg (fun q => g (z1.mp q))]
        refine ma_T rfl (ma_be (mf_isZero hm σ) ?_)
        rw [if_neg (c := m % 2 ^ 63 = 0) (by omega)]
        exact ma_T rfl (ma_ret ⟨mf_inf _, rfl⟩)
    · rw [if_neg (c := 9218868437227405312 < m % 2 ^ 63) (by omega), c2, mf_xs hn hm]
      refine ma_T rfl (ma_lt (ma_be (mf_isInf hn σ) ?_))
      rw [if_neg (c := n % 2 ^ 63 = 9218868437227405312) (by omega)]
      refine ma_T rfl (ma_be (mf_isInf hm σ) ?_)
      rw [if_neg (c := m % 2 ^ 63 = 9218868437227405312) (by omega)]
      refine ma_T rfl (ma_be (mf_isZero hn σ) ?_)
      have eP : FP.Core.round FP.Core.b64 (FP.Core.exactProduct (.fin (decide (2 ^ 63 ≤ n)) (mf_c n) (mf_q n)) (.fin (decide (2 ^ 63 ≤ m)) (mf_c m) (mf_q m))) = FP.Core.roundRatio FP.Core.b64 (decide (2 ^ 63 ≤ n) != decide (2 ^ 63 ≤ m)) (mf_c n * mf_c m) 1 (mf_q n + mf_q m) := rfl
      rw [eP]
      generalize (decide (2 ^ 63 ≤ n) != decide (2 ^ 63 ≤ m)) = S
      by_cases g : n % 2 ^ 63 = 0
      · rw [if_pos g, z1.mpr g, Nat.zero_mul]
        exact ma_F ma_01 (ma_ret ⟨mf_zero _ _, rfl⟩)
      rw [if_neg g]
      refine ma_T rfl (ma_be (mf_isZero hm σ) ?_)
      by_cases g2 : m % 2 ^ 63 = 0
      · rw [if_pos g2, z2.mpr g2, Nat.mul_zero]
        exact ma_F ma_01 (ma_ret ⟨mf_zero _ _, rfl⟩)
      rw [if_neg g2]
      have hc : 0 < mf_c n := by omega
      have hd : 0 < mf_c m := by omega
      obtain ⟨b1, b2, b3, b4⟩ := mf_cB n
      obtain ⟨d1, d2, d3, d4⟩ := mf_cB m
      obtain ⟨l, hl1, hl2, hl3, hl4⟩ := mf_lift hn hc σ
      obtain ⟨k, hk1, hk2, hk3, hk4⟩ := mf_lift hm hd σ
      refine ma_T rfl (ma_be hl1 (ma_be hk1 (ma_be (mf_pow hn σ) (ma_be (mf_pow hm σ) (ma_lt (ma_be (mf_dig hn σ) (ma_be (mf_dig hm σ) ?_)))))))
      rw [wb_shl _ (by omega), wb_shl _ (by omega), iN_nI, iN_nI, iN_sub, iN_add, iN_sub]
      refine ma_be (mf_prod hl3 hl4 hk3 hk4 (by omega) (by omega) σ) (ma_ret ⟨?_, rfl⟩)
      rw [mf_sor S (mf_lt63 (by decide) _), ← mf_half]
      congr 2
      refine FP.Core.roundRatio_congr (by decide) (by decide) ?_
      rw [show (mf_q n - (l : Int) + mf_q m - (k : Int) - (mf_q n + mf_q m)).toNat = 0 by omega, show (mf_q n + mf_q m - (mf_q n - (l : Int) + mf_q m - (k : Int))).toNat = l + k by omega, Nat.pow_zero, Nat.mul_one, Nat.mul_one, Nat.mul_one, Nat.pow_add, Nat.mul_mul_mul_comm]
