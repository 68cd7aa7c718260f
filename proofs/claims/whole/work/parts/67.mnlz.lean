/-! small numbers of either sign; how many zeros lead -/
abbrev iN (z : Int) : Int32 := Int32.ofInt z
theorem iN_t {z : Int} (h1 : -2147483648 ≤ z) (h2 : z < 2147483648) : (iN z).toInt = z := Int32.toInt_ofInt_of_le h1 h2
theorem iN_add (a b : Int) : iN a + iN b = iN (a + b) := (Int32.ofInt_add a b).symm
theorem iN_sub (a b : Int) : iN a - iN b = iN (a - b) := (Int32.ofInt_sub a b).symm
theorem iN_neg (a : Int) : -iN a = iN (-a) := (Int32.ofInt_neg a).symm
theorem iN_nI (n : Nat) : nI n = iN (n : Int) := Int32.toBitVec_inj.mp (BitVec.ofInt_natCast 32 n).symm
theorem iN_of {x : Int32} : x = iN x.toInt := (Int32.ofInt_toInt x).symm
theorem iN_lt {a b : Int} (ha : -2147483648 ≤ a ∧ a < 2147483648) (hb : -2147483648 ≤ b ∧ b < 2147483648) : iN a < iN b ↔ a < b := by rw [fa_lt, iN_t ha.1 ha.2, iN_t hb.1 hb.2]
theorem iN_le {a b : Int} (ha : -2147483648 ≤ a ∧ a < 2147483648) (hb : -2147483648 ≤ b ∧ b < 2147483648) : iN a ≤ iN b ↔ a ≤ b := by rw [fa_le, iN_t ha.1 ha.2, iN_t hb.1 hb.2]
theorem iN_eq {a b : Int} (ha : -2147483648 ≤ a ∧ a < 2147483648) (hb : -2147483648 ≤ b ∧ b < 2147483648) : iN a = iN b ↔ a = b := by rw [fa_eq, iN_t ha.1 ha.2, iN_t hb.1 hb.2]
theorem mf_sh {m a k : Nat} (h1 : 2 ^ a ≤ m) (h2 : m < 2 ^ (a + 1)) (hk : k ≤ a) : 2 ^ (a - k) ≤ m / 2 ^ k ∧ m / 2 ^ k < 2 ^ (a - k + 1) := by
  have hp : 0 < 2 ^ k := Nat.two_pow_pos k
  constructor
  · rw [Nat.le_div_iff_mul_le hp, ← Nat.pow_add, show a - k + k = a by omega]; exact h1
  · rw [Nat.div_lt_iff_lt_mul hp, ← Nat.pow_add, show a - k + 1 + k = a + 1 by omega]; exact h2
theorem mf_pl {a k m : Nat} (h1 : 2 ^ a ≤ m) (h : m < 2 ^ k) : a < k := (Nat.pow_lt_pow_iff_right (by decide : 1 < 2)).mp (Nat.lt_of_le_of_lt h1 h)
theorem mf_pg {a k m : Nat} (h1 : m < 2 ^ (a + 1)) (h : 2 ^ k ≤ m) : k ≤ a := by
  have := (Nat.pow_lt_pow_iff_right (by decide : 1 < 2)).mp (Nat.lt_of_le_of_lt h h1)
  omega
theorem mf_z73 {m a r : Nat} {σ : ae_S} (h1 : 2 ^ a ≤ m) (h2 : m < 2 ^ (a + 1)) (ha : a ≤ 1) (hr : a ≤ r) : F_J6_numberOfLeadingZeros_0f7a4_73 (nI m) (nI r) σ = some (nI (r - a), σ) := by
  unfold F_J6_numberOfLeadingZeros_0f7a4_73
  have hm : m < 4 := Nat.lt_of_lt_of_le h2 (Nat.pow_le_pow_right (by decide) (show a + 1 ≤ 2 by omega))
  have e : m / 2 ^ 1 = a := by
    have : a = 0 ∨ a = 1 := by omega
    rcases this with rfl | rfl
    · have : m < 2 := h2
      omega
    · have : 2 ≤ m := h1
      omega
  rw [pk_ushrN (by omega) 1 1 (by decide), e, pk_sub hr]
theorem mf_mn (r k : Nat) (h : k ≤ r) {x : Int32} (hx : x = -nI k) : nI r + x = nI (r - k) := by
  rw [hx, ← Int32.sub_eq_add_neg, pk_sub h]
theorem mf_z61 {m a r : Nat} {σ : ae_S} (h1 : 2 ^ a ≤ m) (h2 : m < 2 ^ (a + 1)) (ha : a ≤ 3) (hr : a ≤ r) : F_J6_numberOfLeadingZeros_0f7a4_61 (nI m) (nI r) σ = some (nI (r - a), σ) := by
  have hm : m < 16 := Nat.lt_of_lt_of_le h2 (Nat.pow_le_pow_right (by decide) (show a + 1 ≤ 4 by omega))
  refine ma_eq ?_
  unfold F_J6_numberOfLeadingZeros_0f7a4_61
  refine ma_ls m 4 rfl rfl (by omega) (by decide) (fun q => ?_) (fun q => ma_lt (ma_lt ?_))
  · have := mf_pl (k := 2) h1 q
    exact ma_of (mf_z73 h1 h2 (by omega) hr) ⟨rfl, rfl⟩
  · have hk := mf_pg (k := 2) h2 q
    obtain ⟨g1, g2⟩ := mf_sh h1 h2 hk
    rw [mf_mn r 2 (by omega) (by decide), pk_ushrN (by omega) 2 2 (by decide), mf_z73 g1 g2 (by omega) (by omega), show r - 2 - (a - 2) = r - a by omega]
    exact ma_ret ⟨rfl, rfl⟩
theorem mf_z48 {m a r : Nat} {σ : ae_S} (h1 : 2 ^ a ≤ m) (h2 : m < 2 ^ (a + 1)) (ha : a ≤ 7) (hr : a ≤ r) : F_J6_numberOfLeadingZeros_0f7a4_48 (nI m) (nI r) σ = some (nI (r - a), σ) := by
  have hm : m < 256 := Nat.lt_of_lt_of_le h2 (Nat.pow_le_pow_right (by decide) (show a + 1 ≤ 8 by omega))
  refine ma_eq ?_
  unfold F_J6_numberOfLeadingZeros_0f7a4_48
  refine ma_ls m 16 rfl rfl (by omega) (by decide) (fun q => ?_) (fun q => ma_lt (ma_lt ?_))
  · have := mf_pl (k := 4) h1 q
    exact ma_of (mf_z61 h1 h2 (by omega) hr) ⟨rfl, rfl⟩
  · have hk := mf_pg (k := 4) h2 q
    obtain ⟨g1, g2⟩ := mf_sh h1 h2 hk
    rw [mf_mn r 4 (by omega) (by decide), pk_ushrN (by omega) 4 4 (by decide), mf_z61 g1 g2 (by omega) (by omega), show r - 4 - (a - 4) = r - a by omega]
    exact ma_ret ⟨rfl, rfl⟩
theorem mf_z33 {m a r : Nat} {σ : ae_S} (h1 : 2 ^ a ≤ m) (h2 : m < 2 ^ (a + 1)) (ha : a ≤ 15) (hr : a ≤ r) : F_J6_numberOfLeadingZeros_0f7a4_33 (nI m) (nI r) σ = some (nI (r - a), σ) := by
  have hm : m < 65536 := Nat.lt_of_lt_of_le h2 (Nat.pow_le_pow_right (by decide) (show a + 1 ≤ 16 by omega))
  refine ma_eq ?_
  unfold F_J6_numberOfLeadingZeros_0f7a4_33
  refine ma_ls m 256 rfl rfl (by omega) (by decide) (fun q => ?_) (fun q => ma_lt (ma_lt ?_))
  · have := mf_pl (k := 8) h1 q
    exact ma_of (mf_z48 h1 h2 (by omega) hr) ⟨rfl, rfl⟩
  · have hk := mf_pg (k := 8) h2 q
    obtain ⟨g1, g2⟩ := mf_sh h1 h2 hk
    rw [mf_mn r 8 (by omega) (by decide), pk_ushrN (by omega) 8 8 (by decide), mf_z48 g1 g2 (by omega) (by omega), show r - 8 - (a - 8) = r - a by omega]
    exact ma_ret ⟨rfl, rfl⟩
theorem mf_z6 {m a : Nat} {σ : ae_S} (h1 : 2 ^ a ≤ m) (h2 : m < 2 ^ (a + 1)) (ha : a ≤ 31) : F_J6_numberOfLeadingZeros_0f7a4 (nI m) σ = some (nI (31 - a), σ) := by
  have hm : m < 4294967296 := Nat.lt_of_lt_of_le h2 (Nat.pow_le_pow_right (by decide) (show a + 1 ≤ 32 by omega))
  have hp : 0 < 2 ^ a := Nat.two_pow_pos a
  refine ma_eq ?_
  unfold F_J6_numberOfLeadingZeros_0f7a4 F_J6_numberOfLeadingZeros_0f7a4_14
  by_cases q : m < 2 ^ 31
  · refine ma_T (nI_lt (a := 0) (by omega) q) (ma_ls m 65536 rfl rfl q (by decide) (fun q2 => ?_) (fun q2 => ma_lt (ma_lt ?_)))
    · have := mf_pl (k := 16) h1 q2
      exact ma_of (mf_z33 (r := 31) h1 h2 (by omega) (by omega)) ⟨rfl, rfl⟩
    · have hk := mf_pg (k := 16) h2 q2
      have hk2 := mf_pl (k := 31) h1 q
      obtain ⟨g1, g2⟩ := mf_sh h1 h2 hk
      rw [show (31 : Int32) + (-16 : Int32) = nI 15 by decide, pk_ushrN (by omega) 16 16 (by decide), mf_z33 g1 g2 (by omega) (by omega), show 15 - (a - 16) = 31 - a by omega]
      exact ma_ret ⟨rfl, rfl⟩
  · have ea : a = 31 := by have := mf_pg (k := 31) h2 (by omega); omega
    subst ea
    have ht : (nI m).toInt = (m : Int) - 4294967296 := by
      rw [iN_nI, show iN (m : Int) = iN ((m : Int) - 4294967296) from Int32.toInt_inj.mp (by
        rw [Int32.toInt_ofInt, Int32.toInt_ofInt]
        show Int.bmod (m : Int) 4294967296 = Int.bmod ((m : Int) - 4294967296) 4294967296
        rw [Int.bmod_def, Int.bmod_def, show ((m : Int) - 4294967296) % ((4294967296 : Nat) : Int) = (m : Int) % ((4294967296 : Nat) : Int) by omega]), iN_t (by omega) (by omega)]
    refine ma_F (fun h => ?_) (ma_F (fun h => ?_) (ma_ret ⟨rfl, rfl⟩))
    · rw [fa_lt, ht] at h
      have h : (0 : Int) < (m : Int) - 4294967296 := h
      omega
    · rw [fa_eq, ht] at h
      have h : (m : Int) - 4294967296 = 0 := h
      omega
theorem mf_nlz {n a : Nat} {σ : ae_S} (h1 : 2 ^ a ≤ n) (h2 : n < 2 ^ (a + 1)) (ha : a ≤ 63) : F_J13_numberOfLeadingZeros_95d88 (lN n) σ = some (nI (63 - a), σ) := by
  have hn : n < 2 ^ 64 := Nat.lt_of_lt_of_le h2 (Nat.pow_le_pow_right (by decide) (show a + 1 ≤ 64 by omega))
  have hp : 0 < 2 ^ a := Nat.two_pow_pos a
  refine ma_eq ?_
  unfold F_J13_numberOfLeadingZeros_95d88 F_J13_numberOfLeadingZeros_95d88_25
  rw [show (32 : Int32) = nI 32 from rfl, wb_shr hn (by decide), lN_i, lN_i]
  refine ma_lt ?_
  by_cases q : n < 2 ^ 32
  · have hk := mf_pl (k := 32) h1 q
    rw [Nat.div_eq_of_lt q]
    refine ma_T rfl (ma_be (mf_z6 h1 h2 (by omega)) (ma_ret ⟨?_, rfl⟩))
    rw [nI_add, show 32 + (31 - a) = 63 - a by omega]
  · have hk := mf_pg (k := 32) h2 (by omega)
    obtain ⟨g1, g2⟩ := mf_sh h1 h2 hk
    have hne : ¬ nI (n / 2 ^ 32) = 0 := fun h => by
      have h3 := congrArg (fun z : Int32 => z.toBitVec.toNat) h
      have h4 : n / 2 ^ 32 % 2 ^ 32 = 0 := h3
      have : 0 < 2 ^ (a - 32) := Nat.two_pow_pos _
      omega
    refine ma_F hne (ma_be (mf_z6 g1 g2 (by omega)) (ma_ret ⟨?_, rfl⟩))
    rw [show 31 - (a - 32) = 63 - a by omega]
