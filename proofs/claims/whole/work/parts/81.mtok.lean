/-! TOKENS: a text of bytes cut into words, numbers, signs; the j-th of them -/
abbrev kt_T : Type := Nat × (Nat → Nat)
def kt_b (T : kt_T) (p : Nat) : Nat := if p < T.1 then T.2 p else 256
def kt_L (c : Nat) : Bool := decide (97 ≤ c ∧ c ≤ 122)
def kt_D (c : Nat) : Bool := decide (48 ≤ c ∧ c ≤ 57)
def kt_B (c : Nat) : Bool := decide (c = 32 ∨ c = 10)
def kt_run (P : Nat → Bool) : Nat → Nat → Nat
  | 0, p => p
  | n + 1, p => if P p = true then kt_run P n (p + 1) else p
def kt_nx (P : Nat → Bool) (L p : Nat) : Nat := kt_run P (L - p) p
theorem kt_nxT {P : Nat → Bool} {L p : Nat} (h : P p = true) (hL : p < L) : kt_nx P L p = kt_nx P L (p + 1) := by
  unfold kt_nx
  rw [show L - p = (L - (p + 1)) + 1 by omega, kt_run, if_pos h]
theorem kt_nxF {P : Nat → Bool} {L p : Nat} (h : P p = false) : kt_nx P L p = p := by
  unfold kt_nx
  cases L - p with
  | zero => rfl
  | succ n => rw [kt_run, if_neg (by rw [h]; decide)]
theorem kt_run_ge (P : Nat → Bool) : ∀ n p, p ≤ kt_run P n p ∧ kt_run P n p ≤ p + n
  | 0, p => ⟨Nat.le_refl _, Nat.le_refl _⟩
  | n + 1, p => by
    rw [kt_run]
    by_cases h : P p = true
    · rw [if_pos h]
      have := kt_run_ge P n (p + 1)
      omega
    · rw [if_neg h]; omega
theorem kt_nx_ge (P : Nat → Bool) (L p : Nat) : p ≤ kt_nx P L p := (kt_run_ge P _ p).1
theorem kt_nx_le (P : Nat → Bool) {L p : Nat} (h : p ≤ L) : kt_nx P L p ≤ L := by
  have := (kt_run_ge P (L - p) p).2
  unfold kt_nx
  omega
def kt_sk (T : kt_T) (p : Nat) : Nat := kt_nx (fun k => kt_B (kt_b T k)) T.1 p
def kt_we (T : kt_T) (p : Nat) : Nat := kt_nx (fun k => kt_L (kt_b T k) || kt_D (kt_b T k)) T.1 p
def kt_de (T : kt_T) (p : Nat) : Nat := kt_nx (fun k => kt_D (kt_b T k)) T.1 p
def kt_en (T : kt_T) (s : Nat) : Nat := if kt_b T s = 256 then s else if kt_L (kt_b T s) = true then kt_we T s else if kt_D (kt_b T s) = true then kt_de T s else s + 1
def kt_P (T : kt_T) : Nat → Nat
  | 0 => 0
  | j + 1 => kt_en T (kt_sk T (kt_P T j))
def kt_s (T : kt_T) (j : Nat) : Nat := kt_sk T (kt_P T j)
def kt_e (T : kt_T) (j : Nat) : Nat := kt_en T (kt_s T j)
def kt_c (T : kt_T) (j : Nat) : Nat := kt_b T (kt_s T j)
def kt_n (T : kt_T) (j : Nat) : Nat := kt_e T j - kt_s T j
def kt_ty (T : kt_T) (j : Nat) : Nat := if kt_c T j = 256 then 0 else if kt_L (kt_c T j) = true then 1 else if kt_D (kt_c T j) = true then 2 else 3
def kt_fw (T : kt_T) (p : Nat) : Nat → Nat
  | 0 => 0
  | k + 1 => kt_fw T p k * 256 + kt_b T (p + k)
def kt_fn (T : kt_T) (p : Nat) : Nat → Nat
  | 0 => 0
  | k + 1 => kt_fn T p k * 10 + (kt_b T (p + k) - 48)
def kt_wv (T : kt_T) (j : Nat) : Int64 := lN (kt_fw T (kt_s T j) (kt_n T j))
def kt_nv (T : kt_T) (j : Nat) : Nat := kt_fn T (kt_s T j) (kt_n T j)
/-- words of the language, packed -/
def kt_pkn (i : Fin 32) : Nat → Int64
  | 0 => 0
  | k + 1 => (kt_pkn i k <<< ((8 : Int32).toInt64 &&& 63)) ||| (ae_sch i k).toInt64
def kt_pk (i : Fin 32) : Int64 := kt_pkn i (ae_sln i)
theorem kt_pkC {i : Fin 32} (hi : i.val < 28) (σ : ae_S) : F_X8_packed i σ = some (kt_pk i, σ) := by
  have h6 : ae_sln i ≤ 6 := ms_wdlen i
  have loop : ∀ n k : Nat, ae_sln i < k + n → k ≤ ae_sln i → ma_wp (F_X8_packed_4 n i (kt_pkn i k) (nI k) σ) (fun x τ => x = kt_pk i ∧ τ = σ) := by
    intro n
    induction n with
    | zero => intro k a b; omega
    | succ n ih =>
      intro k a b
      unfold F_X8_packed_4
      refine ma_gd (decide_eq_true hi) (ma_le (ae_sln i) k rfl rfl (by omega) (by omega) (fun q => ma_ret ⟨?_, rfl⟩) (fun q => ma_gd (ma_ib k rfl q (by omega)) (ma_lt (ma_lt ?_))))
      · rw [show k = ae_sln i by omega]; rfl
      · rw [nI_clamp (by omega), nI_1]
        exact ih (k + 1) (by omega) (by omega)
  exact ma_eq (loop ae_fu 0 (by rw [ae_fu]; omega) (by omega))
theorem kt_pkM {i : Fin 32} (hi : i.val < 28) (σ : ae_S) : F_X12_packed i σ = some (kt_pk i, σ) := by
  have h6 : ae_sln i ≤ 6 := ms_wdlen i
  have loop : ∀ n k : Nat, ae_sln i < k + n → k ≤ ae_sln i → ma_wp (F_X12_packed_4 n i (kt_pkn i k) (nI k) σ) (fun x τ => x = kt_pk i ∧ τ = σ) := by
    intro n
    induction n with
    | zero => intro k a b; omega
    | succ n ih =>
      intro k a b
      unfold F_X12_packed_4
      refine ma_gd (decide_eq_true hi) (ma_le (ae_sln i) k rfl rfl (by omega) (by omega) (fun q => ma_ret ⟨?_, rfl⟩) (fun q => ma_gd (ma_ib k rfl q (by omega)) (ma_lt (ma_lt ?_))))
      · rw [show k = ae_sln i by omega]; rfl
      · rw [nI_clamp (by omega), nI_1]
        exact ih (k + 1) (by omega) (by omega)
  exact ma_eq (loop ae_fu 0 (by rw [ae_fu]; omega) (by omega))
/-- which kind a word tells: 9 none; whether it is one of the language's own -/
def kt_ko (x : Int64) : Nat := if x = kt_pk 16 then 0 else if x = kt_pk 17 then 1 else if x = kt_pk 18 then 2 else if x = kt_pk 19 then 3 else if x = kt_pk 20 then 4 else if x = kt_pk 21 then 5 else if x = kt_pk 22 then 6 else if x = kt_pk 23 then 7 else if x = kt_pk 24 then 8 else 9
def kt_res (x : Int64) : Bool := decide (x = kt_pk 0 ∨ x = kt_pk 1 ∨ x = kt_pk 2 ∨ x = kt_pk 3 ∨ x = kt_pk 4 ∨ x = kt_pk 5 ∨ x = kt_pk 6 ∨ x = kt_pk 7 ∨ x = kt_pk 8 ∨ kt_ko x ≠ 9)
theorem kt_kw : ∀ i, i < 9 → (ae_kw i).val < 28 ∧ ae_kw i = Fin.ofNat 32 (16 + i) := by decide
theorem kt_koC (x : Int64) (σ : ae_S) : F_X8_kindOf x σ = some (if kt_ko x = 9 then none else some (Fin.ofNat 32 (kt_ko x)), σ) := by
  have step : ∀ (n i : Nat), i < 9 → ∀ {Q : Option (Fin 32) → ae_S → Prop}, (x = kt_pk (Fin.ofNat 32 (16 + i)) → Q (some (Fin.ofNat 32 i)) σ) → (x ≠ kt_pk (Fin.ofNat 32 (16 + i)) → ma_wp (F_X8_kindOf_2 n x (nI (i + 1)) σ) Q) → ma_wp (F_X8_kindOf_2 (n + 1) x (nI i) σ) Q := by
    intro n i hi Q h1 h2
    obtain ⟨k1, k2⟩ := kt_kw i hi
    unfold F_X8_kindOf_2
    refine ma_F (nI_ge (b := 9) hi (by decide)) (ma_gd (ma_ib i rfl hi (by decide)) ?_)
    rw [nI_clamp (by omega)]
    refine ma_gd (mv_k9 i hi) ?_
    rw [mv_val (by omega), k2]
    refine ma_be (kt_pkC (by rw [← k2]; exact k1) σ) (ma_if (fun g => ma_gd (ma_ib i rfl hi (by decide)) (ma_ret (h1 ((lg_cmp_eq _ _).mp g).symm))) (fun g => ma_lt ?_))
    rw [nI_1]
    exact h2 (fun q => g ((lg_cmp_eq _ _).mpr q.symm))
  have fu : ae_fu = 4086 + 1 + 1 + 1 + 1 + 1 + 1 + 1 + 1 + 1 + 1 := rfl
  refine ma_eq ?_
  unfold F_X8_kindOf kt_ko
  rw [fu]
  refine step _ 0 (by decide) (fun e => ⟨by rw [if_pos (show x = kt_pk 16 from e)]; rfl, rfl⟩) (fun e => ?_)
  rw [if_neg (show ¬ x = kt_pk 16 from e)]
  refine step _ 1 (by decide) (fun e => ⟨by rw [if_pos (show x = kt_pk 17 from e)]; rfl, rfl⟩) (fun e => ?_)
  rw [if_neg (show ¬ x = kt_pk 17 from e)]
  refine step _ 2 (by decide) (fun e => ⟨by rw [if_pos (show x = kt_pk 18 from e)]; rfl, rfl⟩) (fun e => ?_)
  rw [if_neg (show ¬ x = kt_pk 18 from e)]
  refine step _ 3 (by decide) (fun e => ⟨by rw [if_pos (show x = kt_pk 19 from e)]; rfl, rfl⟩) (fun e => ?_)
  rw [if_neg (show ¬ x = kt_pk 19 from e)]
  refine step _ 4 (by decide) (fun e => ⟨by rw [if_pos (show x = kt_pk 20 from e)]; rfl, rfl⟩) (fun e => ?_)
  rw [if_neg (show ¬ x = kt_pk 20 from e)]
  refine step _ 5 (by decide) (fun e => ⟨by rw [if_pos (show x = kt_pk 21 from e)]; rfl, rfl⟩) (fun e => ?_)
  rw [if_neg (show ¬ x = kt_pk 21 from e)]
  refine step _ 6 (by decide) (fun e => ⟨by rw [if_pos (show x = kt_pk 22 from e)]; rfl, rfl⟩) (fun e => ?_)
  rw [if_neg (show ¬ x = kt_pk 22 from e)]
  refine step _ 7 (by decide) (fun e => ⟨by rw [if_pos (show x = kt_pk 23 from e)]; rfl, rfl⟩) (fun e => ?_)
  rw [if_neg (show ¬ x = kt_pk 23 from e)]
  refine step _ 8 (by decide) (fun e => ⟨by rw [if_pos (show x = kt_pk 24 from e)]; rfl, rfl⟩) (fun e => ?_)
  rw [if_neg (show ¬ x = kt_pk 24 from e)]
  unfold F_X8_kindOf_2
  exact ma_T (by decide) (ma_ret ⟨rfl, rfl⟩)
theorem kt_resC (x : Int64) (σ : ae_S) : F_X8_isReserved x σ = some (mv_bI (kt_res x), σ) := by
  refine ma_eq ?_
  unfold F_X8_isReserved F_X8_isReserved_97 F_X8_isReserved_102
  have yes : kt_res x = true → ma_wp (ae_gd (ae_zz (1 : Int32)) (some ((1 : Int32), σ))) (fun r τ => r = mv_bI (kt_res x) ∧ τ = σ) := fun h => by rw [h]; exact ma_gd ma_z1 (ma_ret ⟨rfl, rfl⟩)
  have lc : ∀ i, lg_cmp x (kt_pk i) = 0 ↔ x = kt_pk i := fun i => lg_cmp_eq _ _
  refine ma_be (kt_pkC (by decide) σ) (ma_if (fun g => yes (decide_eq_true (by rw [lc] at g; simp [g]))) (fun g0 => ?_))
  refine ma_be (kt_pkC (by decide) σ) (ma_if (fun g => yes (decide_eq_true (by rw [lc] at g; simp [g]))) (fun g1 => ?_))
  refine ma_be (kt_pkC (by decide) σ) (ma_if (fun g => yes (decide_eq_true (by rw [lc] at g; simp [g]))) (fun g2 => ?_))
  refine ma_be (kt_pkC (by decide) σ) (ma_if (fun g => yes (decide_eq_true (by rw [lc] at g; simp [g]))) (fun g3 => ?_))
  refine ma_be (kt_pkC (by decide) σ) (ma_if (fun g => yes (decide_eq_true (by rw [lc] at g; simp [g]))) (fun g4 => ?_))
  refine ma_be (kt_pkC (by decide) σ) (ma_if (fun g => yes (decide_eq_true (by rw [lc] at g; simp [g]))) (fun g5 => ?_))
  refine ma_be (kt_pkC (by decide) σ) (ma_if (fun g => yes (decide_eq_true (by rw [lc] at g; simp [g]))) (fun g6 => ?_))
  refine ma_be (kt_pkC (by decide) σ) (ma_if (fun g => yes (decide_eq_true (by rw [lc] at g; simp [g]))) (fun g7 => ?_))
  refine ma_be (kt_pkC (by decide) σ) (ma_if (fun g => yes (decide_eq_true (by rw [lc] at g; simp [g]))) (fun g8 => ?_))
  rw [lc] at g0 g1 g2 g3 g4 g5 g6 g7 g8
  refine ma_be (kt_koC x σ) ?_
  by_cases q : kt_ko x = 9
  · rw [if_pos q]
    refine ma_mn (ma_gd ma_z0 (ma_ret ⟨?_, rfl⟩))
    have : kt_res x = false := decide_eq_false (by simp [g0, g1, g2, g3, g4, g5, g6, g7, g8, q])
    rw [this]; rfl
  · rw [if_neg q]
    exact ma_ms (yes (decide_eq_true (by simp [q])))
/-! the class cuts the text -/
def kt_cty (T : kt_T) (D j : Nat) : Nat := if kt_ty T j = 0 then 0 else if kt_ty T j = 1 then (if kt_n T j ≤ 6 then (if kt_res (kt_wv T j) = true then 2 else 1) else 5) else if kt_ty T j = 2 then (if kt_n T j ≤ D then 3 else 5) else 4
def kt_cvl (T : kt_T) (j : Nat) : Int64 := if kt_ty T j = 0 then 0 else if kt_ty T j = 1 then (if kt_n T j ≤ 6 then kt_wv T j else 0) else if kt_ty T j = 2 then lN (kt_nv T j) else lN (kt_c T j)
def kt_row (T : kt_T) (D N : Nat) (σ : ae_S) : Prop := ∀ i, i < N → σ.1 13 0 i = nI (kt_cty T D i) ∧ σ.1 13 1 i = nI (kt_s T i) ∧ σ.1 13 2 i = nI (kt_n T i) ∧ σ.2.1 14 0 i = kt_cvl T i
def kt_tp (T : kt_T) (σ : ae_S) : Prop := σ.1 1 0 1 = nI T.1 ∧ ∀ k, k < T.1 → σ.1 2 0 k = nI (T.2 k)
def kt_W (T : kt_T) : Prop := T.1 ≤ 500 ∧ ∀ k, T.2 k < 256
section KT
variable {T : kt_T} {σ τ : ae_S} {D : Nat}
theorem kt_len (h : kt_tp T σ) : F_X7_length 0 σ = some (nI T.1, σ) := by
  refine ma_eq ?_
  unfold F_X7_length
  exact ma_gd (by decide) (ma_ret ⟨h.1, rfl⟩)
theorem kt_get (hT : kt_W T) (h : kt_tp T σ) {p : Nat} (hp : p < T.1) : F_X7_get 0 (nI p) σ = some (nI (kt_b T p), σ) := by
  have := hT.1
  refine ma_eq ?_
  unfold F_X7_get F_X7_get_22 F_X7_get_23
  refine ma_F (nI_pos (by omega)) (ma_gd (by decide) (ma_gd (by decide) (ma_F (nI_ge (b := 500) (by omega) (by decide)) (ma_gd (ma_ib p rfl (show p < 500 by omega) (by decide)) (ma_ret ⟨?_, rfl⟩)))))
  rw [nI_clamp (by omega), h.2 p hp]
  unfold kt_b
  rw [if_pos hp]
theorem kt_bl (hT : kt_W T) (p : Nat) : kt_b T p ≤ 256 ∧ (kt_b T p = 256 ↔ T.1 ≤ p) := by
  unfold kt_b
  have := hT.2 p
  by_cases h : p < T.1
  · rw [if_pos h]; omega
  · rw [if_neg h]; omega
theorem kt_isL {c : Nat} (hc : c ≤ 256) (σ : ae_S) : F_X8_isLetter (nI c) σ = some (mv_bI (kt_L c), σ) := by
  refine ma_eq ?_
  unfold F_X8_isLetter F_X8_isLetter_16 F_X8_isLetter_17 kt_L
  refine ma_ls c 97 rfl rfl (by omega) (by decide) (fun q => ?_) (fun q => ma_ls 122 c rfl rfl (by decide) (by omega) (fun q2 => ?_) (fun q2 => ?_))
  · rw [decide_eq_false (by omega)]; exact ma_gd ma_z0 (ma_ret ⟨rfl, rfl⟩)
  · rw [decide_eq_false (by omega)]; exact ma_gd ma_z0 (ma_ret ⟨rfl, rfl⟩)
  · rw [decide_eq_true (by omega)]; exact ma_gd ma_z1 (ma_ret ⟨rfl, rfl⟩)
theorem kt_isD {c : Nat} (hc : c ≤ 256) (σ : ae_S) : F_X8_isDigit (nI c) σ = some (mv_bI (kt_D c), σ) := by
  refine ma_eq ?_
  unfold F_X8_isDigit F_X8_isDigit_16 F_X8_isDigit_17 kt_D
  refine ma_ls c 48 rfl rfl (by omega) (by decide) (fun q => ?_) (fun q => ma_ls 57 c rfl rfl (by decide) (by omega) (fun q2 => ?_) (fun q2 => ?_))
  · rw [decide_eq_false (by omega)]; exact ma_gd ma_z0 (ma_ret ⟨rfl, rfl⟩)
  · rw [decide_eq_false (by omega)]; exact ma_gd ma_z0 (ma_ret ⟨rfl, rfl⟩)
  · rw [decide_eq_true (by omega)]; exact ma_gd ma_z1 (ma_ret ⟨rfl, rfl⟩)
theorem kt_isLD {c : Nat} (hc : c ≤ 256) (σ : ae_S) : F_X8_isLetterOrDigit (nI c) σ = some (mv_bI (kt_L c || kt_D c), σ) := by
  refine ma_eq ?_
  unfold F_X8_isLetterOrDigit F_X8_isLetterOrDigit_14 F_X8_isLetterOrDigit_19
  refine ma_be (kt_isL hc σ) ?_
  cases kt_L c with
  | true => exact ma_F (by decide) (ma_gd ma_z1 (ma_ret ⟨rfl, rfl⟩))
  | false =>
    refine ma_T rfl (ma_be (kt_isD hc σ) ?_)
    cases kt_D c with
    | true => exact ma_F (by decide) (ma_gd ma_z1 (ma_ret ⟨rfl, rfl⟩))
    | false => exact ma_T rfl (ma_gd ma_z0 (ma_ret ⟨rfl, rfl⟩))
theorem kt_fwB (hT : kt_W T) (p : Nat) : ∀ k, p + k ≤ T.1 → kt_fw T p k < 256 ^ k
  | 0, _ => by show (0 : Nat) < 1; decide
  | k + 1, h => by
    have h1 := kt_fwB hT p k (by omega)
    have h2 := kt_bl hT (p + k)
    rw [kt_fw, Nat.pow_succ]
    omega
/-- a token is added -/
theorem kt_addT {i : Nat} (hi : i < 501) (h5 : σ.1 12 0 5 = nI i) (a b c : Int32) (x : Int64) : ma_wp (F_X8_addToken a b c x σ) (fun _ τ => τ.1 12 0 5 = nI (i + 1) ∧ τ.1 13 0 i = a ∧ τ.1 13 1 i = b ∧ τ.1 13 2 i = c ∧ τ.2.1 14 0 i = x ∧ ma_fr (fun g _ k => ¬ (g = 12 ∧ k = 5) ∧ ¬ ((g = 13 ∨ g = 14) ∧ k = i)) σ τ) := by
  have e1 : (ae_wI σ 13 0 i a).1 12 0 5 = nI i := by rw [ma_rIn (by simp)]; exact h5
  have e2 : (ae_wI (ae_wI σ 13 0 i a) 13 1 i b).1 12 0 5 = nI i := by rw [ma_rIn (by simp)]; exact e1
  have e3 : (ae_wI (ae_wI (ae_wI σ 13 0 i a) 13 1 i b) 13 2 i c).1 12 0 5 = nI i := by rw [ma_rIn (by simp)]; exact e2
  have e4 : (ae_wL (ae_wI (ae_wI (ae_wI σ 13 0 i a) 13 1 i b) 13 2 i c) 14 0 i x).1 12 0 5 = nI i := e3
  unfold F_X8_addToken F_X8_addToken_63
  rw [h5, nI_clamp (by omega)]
  refine ma_F (nI_ge (b := 501) hi (by decide)) (ma_gd (ma_ib i rfl hi (by decide)) (ma_lt ?_))
  rw [e1, nI_clamp (by omega)]
  refine ma_gd (ma_ib i rfl hi (by decide)) (ma_lt ?_)
  rw [e2, nI_clamp (by omega)]
  refine ma_gd (ma_ib i rfl hi (by decide)) (ma_lt ?_)
  rw [e3, nI_clamp (by omega)]
  refine ma_gd (ma_ib i rfl hi (by decide)) (ma_lt (ma_lt (ma_ret ?_)))
  rw [e4, nI_1]
  refine ⟨ma_rI, ?_, ?_, ?_, ?_, ?_⟩
  · rw [ma_rIn (by simp)]
    show (ae_wI (ae_wI (ae_wI σ 13 0 i a) 13 1 i b) 13 2 i c).1 13 0 i = a
    rw [ma_rIn (by simp), ma_rIn (by simp), ma_rI]
  · rw [ma_rIn (by simp)]
    show (ae_wI (ae_wI (ae_wI σ 13 0 i a) 13 1 i b) 13 2 i c).1 13 1 i = b
    rw [ma_rIn (by simp), ma_rI]
  · rw [ma_rIn (by simp)]
    show (ae_wI (ae_wI (ae_wI σ 13 0 i a) 13 1 i b) 13 2 i c).1 13 2 i = c
    rw [ma_rI]
  · show (ae_wL (ae_wI (ae_wI (ae_wI σ 13 0 i a) 13 1 i b) 13 2 i c) 14 0 i x).2.1 14 0 i = x
    exact ma_rL
  · exact (ma_fwI (by simp)).tr ((ma_fwI (by simp)).tr ((ma_fwI (by simp)).tr ((ma_fwL (by simp)).tr (ma_fwI (by simp)))))
end KT
