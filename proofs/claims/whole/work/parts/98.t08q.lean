/-! how high the steps of an expression pile values; how many indexes they have -/
section KU
variable {T : kt_T} {j j0 o : Nat} {vs : List mv_V}
def ks_ef (p : Int32) (h : Nat) : Nat := if p = 1 ∨ p = 2 then h + 1 else if 1 ≤ ks_rk p ∧ ks_rk p ≤ 3 then h - 1 else h
def ks_en : ks_E → Nat → Nat
  | [], h => h
  | s :: c, h => ks_en c (ks_ef s.1 h)
def ks_pk : ks_E → Nat → Nat
  | [], h => h
  | s :: c, h => max h (ks_pk c (ks_ef s.1 h))
def ks_n3 : ks_E → Nat
  | [] => 0
  | s :: c => (if s.1 = 3 then 1 else 0) + ks_n3 c
theorem ks_enA : ∀ (c d : ks_E) (h : Nat), ks_en (c ++ d) h = ks_en d (ks_en c h)
  | [], _, _ => rfl
  | s :: c, d, h => ks_enA c d (ks_ef s.1 h)
theorem ks_pkL : ∀ (c : ks_E) (h : Nat), h ≤ ks_pk c h ∧ ks_en c h ≤ ks_pk c h
  | [], h => ⟨Nat.le_refl _, Nat.le_refl _⟩
  | s :: c, h => ⟨Nat.le_max_left _ _, Nat.le_trans (ks_pkL c (ks_ef s.1 h)).2 (Nat.le_max_right _ _)⟩
theorem ks_pkA : ∀ (c d : ks_E) (h : Nat), ks_pk (c ++ d) h = max (ks_pk c h) (ks_pk d (ks_en c h))
  | [], d, h => by
    show ks_pk d h = max h (ks_pk d h)
    rw [Nat.max_eq_right (ks_pkL d h).1]
  | s :: c, d, h => by
    show max h (ks_pk (c ++ d) (ks_ef s.1 h)) = max (max h (ks_pk c (ks_ef s.1 h))) (ks_pk d (ks_en c (ks_ef s.1 h)))
    rw [ks_pkA c d, Nat.max_assoc]
theorem ks_n3A : ∀ (c d : ks_E), ks_n3 (c ++ d) = ks_n3 c + ks_n3 d
  | [], d => by show ks_n3 d = 0 + ks_n3 d; omega
  | s :: c, d => by
    show (if s.1 = 3 then 1 else 0) + ks_n3 (c ++ d) = (if s.1 = 3 then 1 else 0) + ks_n3 c + ks_n3 d
    rw [ks_n3A c d]; omega
def ks_q (j : Nat) (x : ks_E × Nat) : Prop := j < x.2 ∧ 3 * ks_n3 x.1 ≤ x.2 - j ∧ ∀ h, ks_en x.1 h = h + 1 ∧ 2 * ks_pk x.1 h ≤ 2 * h + (x.2 - j) + 1
theorem ks_q1 {s : ks_S} {k : Nat} (hs : s.1 = 1 ∨ s.1 = 2) (hk : j < k) : ks_q j ([s], k) := by
  refine ⟨hk, ?_, fun h => ?_⟩
  · show 3 * ((if s.1 = 3 then 1 else 0) + 0) ≤ k - j
    rw [if_neg (by rcases hs with e | e <;> rw [e] <;> decide)]
    omega
  · have e : ks_ef s.1 h = h + 1 := if_pos hs
    constructor
    · show ks_ef s.1 h = h + 1
      exact e
    · show 2 * max h (ks_ef s.1 h) ≤ 2 * h + (k - j) + 1
      rw [e]; omega
theorem ks_qs {c : ks_E} {k k2 : Nat} (H : ks_q j0 (c, k)) {s : ks_S} (hs : s.1 = 4 ∨ s.1 = 6) (hj : j ≤ j0) (hk : k ≤ k2) : ks_q j (c ++ [s], k2) := by
  obtain ⟨h1, h2, h3⟩ := H
  have h1 : j0 < k := h1
  have h2 : 3 * ks_n3 c ≤ k - j0 := h2
  have e : ∀ h, ks_ef s.1 h = h := fun h => by rcases hs with q | q <;> rw [q] <;> rfl
  have n : ks_n3 [s] = 0 := by
    show (if s.1 = 3 then 1 else 0) + 0 = 0
    rw [if_neg (by rcases hs with e | e <;> rw [e] <;> decide)]
  refine ⟨by show j < k2; omega, ?_, fun h => ?_⟩
  · show 3 * ks_n3 (c ++ [s]) ≤ k2 - j
    rw [ks_n3A, n]; omega
  · have g := h3 h
    have g1 : ks_en c h = h + 1 := g.1
    have g2 : 2 * ks_pk c h ≤ 2 * h + (k - j0) + 1 := g.2
    constructor
    · show ks_en (c ++ [s]) h = h + 1
      rw [ks_enA, g1]; exact e _
    · show 2 * ks_pk (c ++ [s]) h ≤ 2 * h + (k2 - j) + 1
      rw [ks_pkA, g1]
      have : ks_pk [s] (h + 1) = h + 1 := by
        show max (h + 1) (ks_ef s.1 (h + 1)) = h + 1
        rw [e]; exact Nat.max_self _
      rw [this]
      have := (ks_pkL c h).2
      omega
theorem ks_q3 {c : ks_E} {k k2 : Nat} (H : ks_q (j + 2) (c, k)) (hk : k + 1 ≤ k2) (x : Int64) : ks_q j (c ++ [(3, x, 0)], k2) := by
  obtain ⟨h1, h2, h3⟩ := H
  have h1 : j + 2 < k := h1
  have h2 : 3 * ks_n3 c ≤ k - (j + 2) := h2
  refine ⟨by show j < k2; omega, ?_, fun h => ?_⟩
  · show 3 * ks_n3 (c ++ [(3, x, 0)]) ≤ k2 - j
    have n : ks_n3 [((3 : Int32), x, (0 : Int32))] = 1 := rfl
    rw [ks_n3A, n]; omega
  · have g := h3 h
    have g1 : ks_en c h = h + 1 := g.1
    have g2 : 2 * ks_pk c h ≤ 2 * h + (k - (j + 2)) + 1 := g.2
    constructor
    · show ks_en (c ++ [(3, x, 0)]) h = h + 1
      rw [ks_enA, g1]; rfl
    · show 2 * ks_pk (c ++ [(3, x, 0)]) h ≤ 2 * h + (k2 - j) + 1
      rw [ks_pkA, g1]
      have : ks_pk [((3 : Int32), x, (0 : Int32))] (h + 1) = h + 1 := by
        show max (h + 1) (h + 1) = h + 1
        exact Nat.max_self _
      rw [this]
      have := (ks_pkL c h).2
      omega
theorem ks_qw {c : ks_E} {k k2 : Nat} (H : ks_q j0 (c, k)) (hj : j ≤ j0) (hk : k ≤ k2) : ks_q j (c, k2) := by
  obtain ⟨h1, h2, h3⟩ := H
  have h1 : j0 < k := h1
  have h2 : 3 * ks_n3 c ≤ k - j0 := h2
  refine ⟨by show j < k2; omega, by show 3 * ks_n3 c ≤ k2 - j; omega, fun h => ?_⟩
  have g := h3 h
  have g2 : 2 * ks_pk c h ≤ 2 * h + (k - j0) + 1 := g.2
  exact ⟨g.1, by show 2 * ks_pk c h ≤ 2 * h + (k2 - j) + 1; omega⟩
theorem ks_qb {c d : ks_E} {k k2 : Nat} (H : ks_q j (c, k)) (G : ks_q (k + 1) (d, k2)) {p : Int32} (h1 : 1 ≤ ks_rk p) (h2 : ks_rk p ≤ 3) : ks_q j (c ++ d ++ [(p, 0, 0)], k2) := by
  obtain ⟨a1, a2, a3⟩ := H
  obtain ⟨b1, b2, b3⟩ := G
  have a1 : j < k := a1
  have b1 : k + 1 < k2 := b1
  have a2 : 3 * ks_n3 c ≤ k - j := a2
  have b2 : 3 * ks_n3 d ≤ k2 - (k + 1) := b2
  have p1 : ¬ (p = 1 ∨ p = 2) := fun e => by rcases e with e | e <;> rw [e] at h1 <;> exact absurd h1 (by decide)
  have p3 : ¬ p = 3 := fun e => by rw [e] at h1; exact absurd h1 (by decide)
  have e : ∀ h, ks_ef p h = h - 1 := fun h => by
    unfold ks_ef
    rw [if_neg p1, if_pos ⟨h1, h2⟩]
  have n : ks_n3 [(p, (0 : Int64), (0 : Int32))] = 0 := by
    show (if p = 3 then 1 else 0) + 0 = 0
    rw [if_neg p3]
  refine ⟨by show j < k2; omega, ?_, fun h => ?_⟩
  · show 3 * ks_n3 (c ++ d ++ [(p, 0, 0)]) ≤ k2 - j
    rw [ks_n3A, ks_n3A, n]; omega
  · have f1 : ks_en c h = h + 1 := (a3 h).1
    have f2 : 2 * ks_pk c h ≤ 2 * h + (k - j) + 1 := (a3 h).2
    have g1 : ks_en d (h + 1) = h + 1 + 1 := (b3 (h + 1)).1
    have g2 : 2 * ks_pk d (h + 1) ≤ 2 * (h + 1) + (k2 - (k + 1)) + 1 := (b3 (h + 1)).2
    constructor
    · show ks_en (c ++ d ++ [(p, 0, 0)]) h = h + 1
      rw [ks_enA, ks_enA, f1, g1]
      show ks_ef p (h + 1 + 1) = h + 1
      rw [e]; omega
    · show 2 * ks_pk (c ++ d ++ [(p, 0, 0)]) h ≤ 2 * h + (k2 - j) + 1
      rw [ks_pkA, ks_pkA, ks_enA, f1, g1]
      have : ks_pk [(p, (0 : Int64), (0 : Int32))] (h + 1 + 1) = h + 1 + 1 := by
        show max (h + 1 + 1) (ks_ef p (h + 1 + 1)) = h + 1 + 1
        rw [e]; omega
      rw [this]
      have := (ks_pkL d (h + 1)).2
      omega
def ks_qr (a : kv_O (ks_E × Nat)) (j : Nat) : Prop := ∀ x, a = .inr x → ks_q j x
theorem ks_qlp {r : Nat} {a : Nat → kv_O (ks_E × Nat)} (hr : 1 ≤ r ∧ r ≤ 3) (ha : ∀ j', j0 ≤ j' → ks_qr (a j') j') : ∀ (m : Nat) (c : ks_E) (j : Nat), ks_q j0 (c, j) → ks_qr (ks_lp T r a m c j) j0 := by
  intro m
  induction m with
  | zero => intro c j _ x h; cases h
  | succ m ih =>
    intro c j H x h
    rw [ks_lp] at h
    by_cases hk : ks_rk (ks_op T j) = r
    · rw [if_pos hk] at h
      have hj : j0 < j := H.1
      cases e : a (j + 1) with
      | inl q => rw [e] at h; cases h
      | inr y =>
        rw [e, kv_bnr] at h
        exact ih _ _ (ks_qb H (ha (j + 1) (by omega) y e) (by omega) (by omega)) x h
    · rw [if_neg hk] at h
      have h := Sum.inr.inj h
      rw [← h]
      exact H
theorem ks_qtrm {a : Nat → kv_O (ks_E × Nat)} (ha : ∀ j', j ≤ j' → ks_qr (a j') j') : ks_qr (ks_trm T a j) j := by
  intro x h
  unfold ks_trm at h
  cases e : a j with
  | inl q => rw [e] at h; cases h
  | inr y =>
    rw [e, kv_bnr] at h
    exact ks_qlp (by omega) ha _ _ _ (ha j (Nat.le_refl _) y e) x h
theorem ks_qsum {a : Nat → kv_O (ks_E × Nat)} (ha : ∀ j', j ≤ j' → ks_qr (a j') j') : ks_qr (ks_sum T a j) j := by
  intro x h
  unfold ks_sum at h
  cases e : ks_trm T a j with
  | inl q => rw [e] at h; cases h
  | inr y =>
    rw [e, kv_bnr] at h
    exact ks_qlp (by omega) (fun j' hj => ks_qtrm (fun j2 h2 => ha j2 (by omega))) _ _ _ (ks_qtrm ha y e) x h
theorem ks_qall {a : Nat → kv_O (ks_E × Nat)} (ha : ∀ j', j ≤ j' → ks_qr (a j') j') : ks_qr (ks_all T a j) j := by
  intro x h
  unfold ks_all at h
  cases e : ks_sum T a j with
  | inl q => rw [e] at h; cases h
  | inr y =>
    rw [e, kv_bnr] at h
    have H := ks_qsum ha y e
    have hj : j < y.2 := H.1
    by_cases hk : ks_rk (ks_op T y.2) = 1
    · rw [if_pos hk] at h
      cases e2 : ks_sum T a (y.2 + 1) with
      | inl q => rw [e2] at h; cases h
      | inr z =>
        rw [e2, kv_bnr] at h
        have h := Sum.inr.inj h
        rw [← h]
        exact ks_qb H (ks_qsum (fun j2 h2 => ha j2 (by omega)) z e2) (by omega) (by omega)
    · rw [if_neg hk] at h
      have h := Sum.inr.inj h
      rw [← h]
      exact H
/-- a place: its element's steps -/
theorem ks_qplc (hT : kt_W T) {A : Nat → kv_O (ks_E × Nat)} (hA : ks_qr (A (j + 2)) (j + 2)) {x : (Int32 × ks_E × Int32) × Nat} (h : ks_plc T vs A j = .inr x) : ks_q j (x.1.2.1, x.2) := by
  unfold ks_plc at h
  cases e : ks_nam T vs j with
  | inl q => rw [e] at h; cases h
  | inr v =>
    rw [e, kv_bnr] at h
    cases hs : kt_sg T (j + 1) 91 with
    | true =>
      rw [hs, if_pos (c := true = true) rfl] at h
      cases ea : A (j + 2) with
      | inl q => rw [ea] at h; cases h
      | inr y =>
        rw [ea, kv_bnr] at h
        cases h93 : kt_sg T y.2 93 with
        | true =>
          rw [h93, if_pos (c := true = true) rfl] at h
          cases ef : ks_fld T vs v (y.2 + 1) with
          | inl q => rw [ef] at h; cases h
          | inr z =>
            rw [ef, kv_bnr] at h
            have hB := ks_fldB hT ef
            have h := Sum.inr.inj h
            rw [← h]
            exact ks_q3 (hA y ea) hB.1 _
        | false =>
          rw [h93, if_neg (c := false = true) (by decide)] at h
          cases h
    | false =>
      rw [hs, if_neg (c := false = true) (by decide)] at h
      cases ef : ks_fld T vs v (j + 1) with
      | inl q => rw [ef] at h; cases h
      | inr z =>
        rw [ef, kv_bnr] at h
        have hB := ks_fldB hT ef
        have h := Sum.inr.inj h
        rw [← h]
        exact ks_q1 (.inl rfl) (by omega)
theorem ks_qX (hT : kt_W T) : ∀ m : Nat, (∀ o j, ks_qr ((ks_X T vs m).1 o j) j) ∧ (∀ o j, ks_qr ((ks_X T vs m).2 o j) j) := by
  intro m
  induction m with
  | zero => exact ⟨fun o j x h => (by cases h), fun o j x h => (by cases h)⟩
  | succ m ih =>
    have fac : ∀ o j, ks_qr (ks_fac T vs (ks_X T vs m).2 (ks_X T vs m).1 o j) j := by
      intro o j x h
      unfold ks_fac at h
      cases h45 : kt_sg T j 45 with
      | true =>
        rw [h45, if_pos (c := true = true) rfl] at h
        cases e : (ks_X T vs m).1 o (j + 1) with
        | inl q => rw [e] at h; cases h
        | inr y =>
          rw [e, kv_bnr] at h
          have h := Sum.inr.inj h
          rw [← h]
          exact ks_qs (ih.1 o (j + 1) y e) (.inr rfl) (by omega) (Nat.le_refl _)
      | false =>
        rw [h45, if_neg (c := false = true) (by decide)] at h
        cases h40 : kt_sg T j 40 with
        | true =>
          rw [h40, if_pos (c := true = true) rfl] at h
          by_cases ho : o < 5
          · rw [if_pos ho] at h
            cases e : (ks_X T vs m).2 (o + 1) (j + 1) with
            | inl q => rw [e] at h; cases h
            | inr y =>
              rw [e, kv_bnr] at h
              cases h41 : kt_sg T y.2 41 with
              | true =>
                rw [h41, if_pos (c := true = true) rfl] at h
                have h := Sum.inr.inj h
                rw [← h]
                exact ks_qw (ih.2 (o + 1) (j + 1) y e) (by omega) (by omega)
              | false =>
                rw [h41, if_neg (c := false = true) (by decide)] at h
                cases h
          · rw [if_neg ho] at h
            cases h
        | false =>
          rw [h40, if_neg (c := false = true) (by decide)] at h
          cases h9 : kt_nu T 9 j with
          | true =>
            rw [h9, if_pos (c := true = true) rfl] at h
            have hB := ks_numB hT h9 h
            unfold ks_num at h
            split at h
            · split at h
              · have h := Sum.inr.inj h
                rw [← h] at hB ⊢
                exact ks_q1 (.inr rfl) hB.1
              · cases h
            · have h := Sum.inr.inj h
              rw [← h] at hB ⊢
              exact ks_q1 (.inl rfl) hB.1
          | false =>
            rw [h9, if_neg (c := false = true) (by decide)] at h
            cases e : ks_plc T vs ((ks_X T vs m).2 o) j with
            | inl q => rw [e] at h; cases h
            | inr y =>
              rw [e, kv_bnr] at h
              have h := Sum.inr.inj h
              rw [← h]
              exact ks_qs (ks_qplc hT (ih.2 o (j + 2)) e) (.inl rfl) (Nat.le_refl _) (Nat.le_refl _)
    exact ⟨fac, fun o j => ks_qall (fun j' _ => fac o j')⟩
/-- what the doing of an expression needs -/
def kn_B (c : ks_E) : Prop := ks_n3 c ≤ 166 ∧ ∀ h, ks_en c h = h + 1 ∧ ks_pk c h ≤ h + 250
theorem kn_qB {x : ks_E × Nat} (h : ks_q j x) (hx : x.2 ≤ 500) : kn_B x.1 := by
  obtain ⟨h1, h2, h3⟩ := h
  exact ⟨by omega, fun n => ⟨(h3 n).1, by have := (h3 n).2; omega⟩⟩
theorem kn_exB (hT : kt_W T) {x : ks_E × Nat} (h : ks_ex T vs o j = .inr x) (hx : x.2 ≤ 500) : kn_B x.1 := kn_qB ((ks_qX hT 502).2 o j x h) hx
theorem kn_plB (hT : kt_W T) {x : (Int32 × ks_E × Int32) × Nat} (h : ks_plc T vs (ks_ex T vs o) j = .inr x) (hx : x.2 ≤ 500) : kn_B x.1.2.1 := kn_qB (ks_qplc hT ((ks_qX hT 502).2 o (j + 2)) h) hx
end KU
