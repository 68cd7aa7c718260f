/-! the bits of a double: what the class reads of them, and what they stand for -/
theorem mf_andp (n j k : Nat) : n &&& ((2 ^ j - 1) * 2 ^ k) = n / 2 ^ k % 2 ^ j * 2 ^ k := by
  apply Nat.eq_of_testBit_eq
  intro i
  rw [Nat.testBit_and, Nat.testBit_mul_two_pow, Nat.testBit_mul_two_pow, Nat.testBit_two_pow_sub_one, Nat.testBit_mod_two_pow, Nat.testBit_div_two_pow]
  by_cases h : k ≤ i
  · rw [show i - k + k = i by omega]
    cases n.testBit i <;> simp [h]
  · simp [h]
theorem mf_63 : (9223372036854775807 : Int64) = lN (2 ^ 63 - 1) := rfl
theorem mf_sg : (-9223372036854775808 : Int64) = lN (2 ^ 63) := by decide
theorem mf_lsg {n : Nat} (hn : n < 2 ^ 64) : 0 ≤ lg_cmp (lN n) (0 : Int64) ↔ n < 2 ^ 63 := by
  rw [lg_cmp_ge, fa_le64, lN_ti hn]
  show (0 : Int) ≤ _ ↔ _
  by_cases h : n < 2 ^ 63
  · rw [if_pos h]; omega
  · rw [if_neg h]; omega
theorem mf_m63 {n : Nat} (hn : n < 2 ^ 64) : lN n &&& (9223372036854775807 : Int64) = lN (n % 2 ^ 63) := by
  rw [mf_63, wb_mask hn (by decide)]
theorem mf_ms {n : Nat} (hn : n < 2 ^ 64) : lN n &&& (-9223372036854775808 : Int64) = lN ((decide (2 ^ 63 ≤ n)).toNat * 2 ^ 63) := by
  have h := mf_andp n 1 63
  rw [show (2 ^ 1 - 1) * 2 ^ 63 = 2 ^ 63 by decide] at h
  rw [mf_sg, wb_and hn (by decide), h]
  congr 2
  by_cases q : 2 ^ 63 ≤ n
  · rw [decide_eq_true q]; show _ = 1; omega
  · rw [decide_eq_false q]; show _ = 0; omega
theorem mf_sor (s : Bool) {m : Nat} (h : m < 2 ^ 63) : lN (s.toNat * 2 ^ 63) ||| lN m = lN (s.toNat * 2 ^ 63 + m) := g_or (k := 63) rfl h (by cases s <;> simp <;> omega)
theorem mf_isNan {n : Nat} (hn : n < 2 ^ 64) (σ : ae_S) : F_X2_isNan (lN n) σ = some (if 9218868437227405312 < n % 2 ^ 63 then 1 else 0, σ) := by
  refine ma_eq ?_
  unfold F_X2_isNan F_X2_isNan_17
  rw [mf_m63 hn]
  have e : lg_cmp (lN (n % 2 ^ 63)) (9218868437227405312 : Int64) ≤ 0 ↔ n % 2 ^ 63 ≤ 9218868437227405312 := by
    rw [lg_cmp_le, show (9218868437227405312 : Int64) = lN 9218868437227405312 from rfl, mf_lNle (by omega) (by decide)]
  refine ma_if (fun g => ?_) (fun g => ?_)
  · rw [if_neg (by have := e.mp g; omega)]; exact ma_gd ma_z0 (ma_ret ⟨rfl, rfl⟩)
  · rw [if_pos (by have : ¬ _ := fun q => g (e.mpr q); omega)]; exact ma_gd ma_z1 (ma_ret ⟨rfl, rfl⟩)
theorem mf_isInf {n : Nat} (hn : n < 2 ^ 64) (σ : ae_S) : F_X2_isInfinite (lN n) σ = some (if n % 2 ^ 63 = 9218868437227405312 then 1 else 0, σ) := by
  refine ma_eq ?_
  unfold F_X2_isInfinite F_X2_isInfinite_17
  rw [mf_m63 hn]
  have e : lg_cmp (lN (n % 2 ^ 63)) (9218868437227405312 : Int64) = 0 ↔ n % 2 ^ 63 = 9218868437227405312 := by
    rw [lg_cmp_eq, show (9218868437227405312 : Int64) = lN 9218868437227405312 from rfl, mf_lN_eq (by omega) (by decide)]
  refine ma_if (fun g => ?_) (fun g => ?_)
  · rw [if_pos (e.mp g)]; exact ma_gd ma_z1 (ma_ret ⟨rfl, rfl⟩)
  · rw [if_neg (fun q => g (e.mpr q))]; exact ma_gd ma_z0 (ma_ret ⟨rfl, rfl⟩)
theorem mf_isZero {n : Nat} (hn : n < 2 ^ 64) (σ : ae_S) : F_X2_isZero (lN n) σ = some (if n % 2 ^ 63 = 0 then 1 else 0, σ) := by
  refine ma_eq ?_
  unfold F_X2_isZero F_X2_isZero_15
  rw [mf_m63 hn]
  have e : lg_cmp (lN (n % 2 ^ 63)) (0 : Int64) = 0 ↔ n % 2 ^ 63 = 0 := by
    rw [lg_cmp_eq, show (0 : Int64) = lN 0 from rfl, mf_lN_eq (by omega) (by decide)]
  refine ma_if (fun g => ?_) (fun g => ?_)
  · rw [if_pos (e.mp g)]; exact ma_gd ma_z1 (ma_ret ⟨rfl, rfl⟩)
  · rw [if_neg (fun q => g (e.mpr q))]; exact ma_gd ma_z0 (ma_ret ⟨rfl, rfl⟩)
def mf_c (n : Nat) : Nat := if n / 2 ^ 52 % 2048 = 0 then n % 2 ^ 52 else n % 2 ^ 52 + 2 ^ 52
def mf_q (n : Nat) : Int := if n / 2 ^ 52 % 2048 = 0 then -1074 else (n / 2 ^ 52 % 2048 : Nat) - 1075
theorem mf_dig {n : Nat} (hn : n < 2 ^ 64) (σ : ae_S) : F_X2_digitsOf (lN n) σ = some (lN (mf_c n), σ) := by
  refine ma_eq ?_
  unfold F_X2_digitsOf F_X2_digitsOf_25 mf_c
  refine ma_lt ?_
  have e1 : lN n &&& (4503599627370495 : Int64) = lN (n % 2 ^ 52) := by
    rw [show (4503599627370495 : Int64) = lN (2 ^ 52 - 1) from rfl, wb_mask hn (by decide)]
  have e2 : lg_cmp (lN n &&& (9218868437227405312 : Int64)) (0 : Int64) = 0 ↔ n / 2 ^ 52 % 2048 = 0 := by
    have h := mf_andp n 11 52
    rw [show (2 ^ 11 - 1) * 2 ^ 52 = 9218868437227405312 by decide] at h
    rw [lg_cmp_eq, show (9218868437227405312 : Int64) = lN 9218868437227405312 from rfl, wb_and hn (by decide), h, show (0 : Int64) = lN 0 from rfl, mf_lN_eq (by omega) (by decide)]
    omega
  rw [e1]
  refine ma_if (fun g => ?_) (fun g => ?_)
  · rw [if_pos (e2.mp g)]; exact ma_ret ⟨rfl, rfl⟩
  · rw [if_neg (fun q => g (e2.mpr q))]
    refine ma_ret ⟨?_, rfl⟩
    have := g_or' (k := 52) (p := 2 ^ 52) (a := n % 2 ^ 52) (b := 1) rfl (by omega) (by omega)
    rw [Nat.one_mul] at this
    exact this
theorem mf_pow {n : Nat} (hn : n < 2 ^ 64) (σ : ae_S) : F_X2_powerOf (lN n) σ = some (iN (mf_q n), σ) := by
  unfold F_X2_powerOf mf_q ae_lt
  rw [show (52 : Int32) = nI 52 from rfl, wb_shr hn (by decide), lN_i, show (2047 : Int32) = nI (2 ^ 11 - 1) from rfl, fa_mask, show 2 ^ 11 = 2048 from rfl]
  refine congrArg (fun z => some (z, σ)) ?_
  by_cases h : n / 2 ^ 52 % 2048 = 0
  · rw [h, if_pos rfl]; decide
  · rw [if_neg (c := nI (n / 2 ^ 52 % 2048) < 1) (nI_nlt (b := 1) (by omega) (by omega)), if_neg h, iN_nI, show (1 : Int32) = iN 1 from rfl, iN_sub, show (-1074 : Int32) = iN (-1074) by decide, iN_add]
    congr 1
    omega
/-- what the bits stand for: not a number, an infinity, or digits with a power -/
theorem mf_cs {n : Nat} (hn : n < 2 ^ 64) : (9218868437227405312 < n % 2 ^ 63 ∧ FP.Core.decode FP.Core.b64 n = .nan) ∨ (n % 2 ^ 63 = 9218868437227405312 ∧ FP.Core.decode FP.Core.b64 n = .inf (decide (2 ^ 63 ≤ n))) ∨ (n % 2 ^ 63 < 9218868437227405312 ∧ FP.Core.decode FP.Core.b64 n = .fin (decide (2 ^ 63 ≤ n)) (mf_c n) (mf_q n)) := by
  have hs : FP.Core.fieldS FP.Core.b64 n = decide (2 ^ 63 ≤ n) := by
    have := FP.Core.fieldS_mag FP.Core.b64 (n := n) (by rw [FP.Core.half_b64]; omega)
    rw [FP.Core.half_b64] at this
    exact this
  have hE : FP.Core.fieldE FP.Core.b64 n = n / 2 ^ 52 % 2048 := rfl
  have hT : FP.Core.fieldT FP.Core.b64 n = n % 2 ^ 52 := rfl
  have hX : FP.Core.b64.exps - 1 = 2047 := FP.Core.exps_b64
  unfold FP.Core.decode
  rw [hs, hE, hT, hX, FP.Core.qmin_b64, FP.Core.tails_b64]
  unfold mf_c mf_q
  by_cases h1 : n / 2 ^ 52 % 2048 = 2047
  · rw [if_pos h1]
    by_cases h2 : n % 2 ^ 52 = 0
    · rw [if_pos h2]
      exact .inr (.inl ⟨by omega, rfl⟩)
    · rw [if_neg h2]
      exact .inl ⟨by omega, rfl⟩
  · rw [if_neg h1]
    refine .inr (.inr ⟨by omega, ?_⟩)
    by_cases h2 : n / 2 ^ 52 % 2048 = 0
    · rw [if_pos h2, if_pos h2, if_pos h2]
    · rw [if_neg h2, if_neg h2, if_neg h2, Nat.add_comm (2 ^ 52)]
      congr 1
      omega
theorem mf_cB (n : Nat) : mf_c n < 2 ^ 53 ∧ -1074 ≤ mf_q n ∧ mf_q n ≤ 972 ∧ (mf_q n = -1074 ∨ 2 ^ 52 ≤ mf_c n) := by
  unfold mf_c mf_q
  by_cases h : n / 2 ^ 52 % 2048 = 0
  · rw [if_pos h, if_pos h]; omega
  · rw [if_neg h, if_neg h]; omega
theorem mf_c0 (n : Nat) : mf_c n = 0 ↔ n % 2 ^ 63 = 0 := by
  unfold mf_c
  by_cases h : n / 2 ^ 52 % 2048 = 0
  · rw [if_pos h]; omega
  · rw [if_neg h]; omega
theorem mf_half (s : Bool) (A B : Nat) (e : Int) : FP.Core.encode FP.Core.b64 (FP.Core.roundRatio FP.Core.b64 s A B e) = s.toNat * 2 ^ 63 + FP.Core.encode FP.Core.b64 (FP.Core.roundRatio FP.Core.b64 false A B e) := by
  rw [mf_encR, FP.Core.half_b64]
theorem mf_lt63 {A B : Nat} (hB : 0 < B) (e : Int) : FP.Core.encode FP.Core.b64 (FP.Core.roundRatio FP.Core.b64 false A B e) < 2 ^ 63 := by
  have h := FP.Core.encode_lt FP.Core.good_b64 _ (FP.Core.roundRatio_fits FP.Core.good_b64 true A hB e)
  rw [FP.Core.size_b64, mf_half] at h
  simp at h
  omega
theorem mf_half32 (s : Bool) (A B : Nat) (e : Int) : FP.Core.encode FP.Core.b32 (FP.Core.roundRatio FP.Core.b32 s A B e) = s.toNat * 2 ^ 31 + FP.Core.encode FP.Core.b32 (FP.Core.roundRatio FP.Core.b32 false A B e) := by
  rw [mf_encR, FP.Core.half_b32]
theorem mf_lt31 {A B : Nat} (hB : 0 < B) (e : Int) : FP.Core.encode FP.Core.b32 (FP.Core.roundRatio FP.Core.b32 false A B e) < 2 ^ 31 := by
  have h := FP.Core.encode_lt FP.Core.good_b32 _ (FP.Core.roundRatio_fits FP.Core.good_b32 true A hB e)
  rw [FP.Core.size_b32, mf_half32] at h
  simp at h
  omega
/-- the class's own: bits made plain, the sign changed -/
theorem mf_encnan : FP.Core.encode FP.Core.b64 .nan = 9221120237041090560 := by decide
theorem mf_encnan32 : FP.Core.encode FP.Core.b32 .nan = 2143289344 := by decide
theorem mf_ed {n : Nat} (hn : n < 2 ^ 64) (h : FP.Core.decode FP.Core.b64 n ≠ .nan) : FP.Core.encode FP.Core.b64 (FP.Core.decode FP.Core.b64 n) = n := FP.Core.encode_decode FP.Core.good_b64 n (by rw [FP.Core.size_b64]; exact hn) h
def mf_pl64 (n : Nat) : Nat := FP.Core.encode FP.Core.b64 (FP.Core.decode FP.Core.b64 n)
theorem mf_plain {n : Nat} (hn : n < 2 ^ 64) (σ : ae_S) : F_X2_plain (lN n) σ = some (lN (mf_pl64 n), σ) := by
  refine ma_eq ?_
  unfold F_X2_plain F_X2_plain_14 mf_pl64
  refine ma_be (mf_isNan hn σ) ?_
  rcases mf_cs hn with ⟨h1, h2⟩ | ⟨h1, h2⟩ | ⟨h1, h2⟩
  · rw [if_pos h1, h2, mf_encnan]; exact ma_F ma_01 (ma_ret ⟨rfl, rfl⟩)
  · rw [if_neg (c := 9218868437227405312 < n % 2 ^ 63) (by omega), mf_ed hn (by rw [h2]; exact FP.Core.Datum.noConfusion)]; exact ma_T rfl (ma_ret ⟨rfl, rfl⟩)
  · rw [if_neg (c := 9218868437227405312 < n % 2 ^ 63) (by omega), mf_ed hn (by rw [h2]; exact FP.Core.Datum.noConfusion)]; exact ma_T rfl (ma_ret ⟨rfl, rfl⟩)
theorem mf_nge {n : Nat} (hn : n < 2 ^ 64) : FP.Core.encode FP.Core.b64 (FP.Core.negate (FP.Core.decode FP.Core.b64 n)) = if 9218868437227405312 < n % 2 ^ 63 then 9221120237041090560 else (n + 2 ^ 63) % 2 ^ 64 := by
  have key : ∀ k, k < 2 ^ 63 → k ≤ 9218868437227405312 → FP.Core.decode FP.Core.b64 (k + 2 ^ 63) = FP.Core.negate (FP.Core.decode FP.Core.b64 k) := fun k hk _ => by
    have := FP.Core.decode_half (f := FP.Core.b64) (n := k) (by rw [FP.Core.half_b64]; exact hk)
    rw [FP.Core.half_b64] at this
    exact this
  by_cases h : 9218868437227405312 < n % 2 ^ 63
  · rw [if_pos h]
    rcases mf_cs hn with ⟨h1, h2⟩ | ⟨h1, h2⟩ | ⟨h1, h2⟩
    · rw [h2]; exact mf_encnan
    · omega
    · omega
  · rw [if_neg h]
    have hnn : FP.Core.decode FP.Core.b64 ((n + 2 ^ 63) % 2 ^ 64) = FP.Core.negate (FP.Core.decode FP.Core.b64 n) := by
      by_cases q : n < 2 ^ 63
      · rw [Nat.mod_eq_of_lt (by omega)]; exact key n q (by omega)
      · have h3 := key (n - 2 ^ 63) (by omega) (by omega)
        rw [show n - 2 ^ 63 + 2 ^ 63 = n by omega] at h3
        rw [show (n + 2 ^ 63) % 2 ^ 64 = n - 2 ^ 63 by omega, h3, FP.Core.negate_negate]
    rw [← hnn]
    refine mf_ed (by omega) ?_
    rcases mf_cs (n := (n + 2 ^ 63) % 2 ^ 64) (by omega) with ⟨h1, h2⟩ | ⟨h1, h2⟩ | ⟨h1, h2⟩
    · omega
    · rw [h2]; exact FP.Core.Datum.noConfusion
    · rw [h2]; exact FP.Core.Datum.noConfusion
theorem mf_negC {n : Nat} (hn : n < 2 ^ 64) (σ : ae_S) : F_X2_negative (lN n) σ = some (lN (FP.Core.neg FP.Core.b64 n), σ) := by
  refine ma_eq ?_
  unfold F_X2_negative F_X2_negative_18 FP.Core.neg
  rw [mf_nge hn]
  refine ma_be (mf_isNan hn σ) ?_
  by_cases h : 9218868437227405312 < n % 2 ^ 63
  · rw [if_pos h, if_pos h]; exact ma_F ma_01 (ma_ret ⟨rfl, rfl⟩)
  · rw [if_neg h, if_neg h]
    refine ma_T rfl (ma_ret ⟨?_, rfl⟩)
    rw [mf_sg, lN_xor, nat_xor (by omega)]
