/-! the class reads what is joined by signs -/
section KZ
variable {T : kt_T} {σ0 : ae_S} {p r o : Nat} {vs : List mv_V}
def kz_Bd (C : ks_E) (X : Nat) (W : kz_W) (j t n : Nat) : Prop := C.length + X ≤ 2 * j ∧ W.length ≤ j ∧ t + X ≤ 2 * j ∧ n + t = 4096 ∧ j ≤ 500
/-- so it goes on behind an operand that began at j0 -/
def kz_K (σ0 : ae_S) (T : kt_T) (vs : List mv_V) (p : Nat) (Q : Int32 → ae_S → Prop) (rk X : Nat) (W : kz_W) (c0 : ks_E) (o j0 j : Nat) : Prop := ∀ (n t : Nat) (C : ks_E) (R : kz_W) (τ : ae_S), C ++ kz_ops R = c0 → kz_Bd c0 X W j t n → W.length + R.length ≤ j → j0 < j → ks_rk (ks_op T j) < rk → (∀ w ∈ R, rk ≤ ks_rk w.1) → kz_St σ0 T vs p C (W ++ R.reverse) o 2 j τ → ma_wp (F_X5_compile_24 n (nI t) τ) Q
def kz_Rd (σ0 : ae_S) (T : kt_T) (vs : List mv_V) (p rk l : Nat) (g : Nat → kv_O (ks_E × Nat)) (o m0 : Nat) : Prop := ∀ (j : Nat), m0 ≤ j → ∀ (X : Nat) (W : kz_W) (C : ks_E) (n t : Nat) (σ : ae_S) (Q : Int32 → ae_S → Prop), kz_low l W → kz_St σ0 T vs p C W o 1 j σ → kz_Bd C X W j t n → kv_po (g j) (fun f q => ∀ τ, kz_bad σ0 f q τ → Q 0 τ) (fun x => kz_K σ0 T vs p Q rk X W (C ++ x.1) o j x.2) → ma_wp (F_X5_compile_24 n (nI t) σ) Q
theorem kz_low.mo {a b : Nat} {W : kz_W} (h : kz_low a W) (hab : a ≤ b) : kz_low b W := by
  rcases h with e | ⟨V, w, e, hw⟩
  · exact .inl e
  · exact .inr ⟨V, w, e, by omega⟩
theorem ks_rkN {x : Int32} (h : 1 ≤ ks_rk x) : x ≠ -1 := fun e => by
  rw [e] at h
  exact absurd h (by decide)
theorem kz_opsA (R : kz_W) (w : Int32 × Int32 × Int32) : kz_ops (R ++ [w]) = kz_ops R ++ [(w.1, 0, 0)] := by unfold kz_ops; rw [List.map_append]; rfl
theorem kz_join (hT : kt_W T) {l m0 : Nat} {g : Nat → kv_O (ks_E × Nat)} (hr : 2 ≤ r ∧ r ≤ 3) (hl : r < l) (hg : kz_Rd σ0 T vs p (r + 1) l g o m0) : kz_Rd σ0 T vs p r r (fun j => kv_bn (g j) (fun x => ks_lp T r g 501 x.1 x.2)) o m0 := by
  intro j hj X W C n t σ Q hlow H B hpo
  have loop : ∀ (m : Nat) (c : ks_E) (j2 n t : Nat) (C2 : ks_E) (R : kz_W) (τ : ae_S), C2 ++ kz_ops R = C ++ c → kz_Bd (C ++ c) X W j2 t n → W.length + R.length ≤ j2 → j < j2 → ks_rk (ks_op T j2) < r + 1 → (∀ w ∈ R, r ≤ ks_rk w.1) → kz_St σ0 T vs p C2 (W ++ R.reverse) o 2 j2 τ → 501 ≤ m + j2 → kv_po (ks_lp T r g m c j2) (fun f q => ∀ τ, kz_bad σ0 f q τ → Q 0 τ) (fun x => kz_K σ0 T vs p Q r X W (C ++ x.1) o j x.2) → ma_wp (F_X5_compile_24 n (nI t) τ) Q := by
    intro m
    induction m with
    | zero => intro c j2 n t C2 R τ _ B2 _ _ _ _ _ hm; have := B2.2.2.2.2; omega
    | succ m ih =>
      intro c j2 n t C2 R τ e B2 hW hjj hk hR H2 hm hq
      unfold ks_lp at hq
      by_cases hop : ks_rk (ks_op T j2) = r
      · rw [if_pos (c := ks_rk (ks_op T j2) = r) hop] at hq
        have hne := ks_rkN (x := ks_op T j2) (by omega)
        have hj5 := ks_jB hT (ks_opT hne)
        have hlen : C2.length + R.length = (C ++ c).length := by rw [← e, List.length_append]; unfold kz_ops; rw [List.length_map]
        obtain ⟨b1, b2, b3, b4, b5⟩ := B2
        obtain ⟨n, rfl⟩ : ∃ n2, n = n2 + 1 := ⟨n - 1, by omega⟩
        refine kz_oper (r := r) hT H2 hne hop.symm (by omega) hlow (fun w hw => ⟨hR w hw, by have := hR w hw; omega⟩) hW (by omega) (by omega) (fun φ Hφ => ?_)
        rw [e] at Hφ
        have lW : (W ++ [(ks_op T j2, (0 : Int32), (0 : Int32))]).length = W.length + 1 := by rw [List.length_append, List.length_singleton]
        refine hg (j2 + 1) (by omega) (X + 1) (W ++ [(ks_op T j2, 0, 0)]) (C ++ c) n (t + 1) φ Q (.inr ⟨W, _, rfl, (by omega : ks_rk (ks_op T j2) < l)⟩) Hφ ⟨by omega, by omega, by omega, by omega, by omega⟩ ?_
        cases ho : g (j2 + 1) with
        | inl e2 => rw [ho] at hq; exact hq
        | inr x =>
          rw [ho] at hq
          have hq : kv_po (ks_lp T r g m (c ++ x.1 ++ [(ks_op T j2, 0, 0)]) x.2) (fun f q => ∀ τ, kz_bad σ0 f q τ → Q 0 τ) (fun x => kz_K σ0 T vs p Q r X W (C ++ x.1) o j x.2) := hq
          intro n3 t3 C3 R3 τ3 e3 B3 hW3 hj3 hk3 hR3 H3
          rw [lW] at hW3
          obtain ⟨d1, d2, d3, d4, d5⟩ := B3
          have e4 : C3 ++ kz_ops (R3 ++ [(ks_op T j2, 0, 0)]) = C ++ (c ++ x.1 ++ [(ks_op T j2, 0, 0)]) := by rw [kz_opsA, ← List.append_assoc, e3, List.append_assoc, List.append_assoc, List.append_assoc]
          have l4 : (C ++ (c ++ x.1 ++ [(ks_op T j2, (0 : Int64), (0 : Int32))])).length = (C ++ c ++ x.1).length + 1 := by rw [← List.append_assoc, ← List.append_assoc, List.length_append, List.length_singleton]
          refine ih (c ++ x.1 ++ [(ks_op T j2, 0, 0)]) x.2 n3 t3 C3 (R3 ++ [(ks_op T j2, 0, 0)]) τ3 e4 ⟨by rw [l4]; omega, by omega, by omega, d4, d5⟩ (by rw [List.length_append, List.length_singleton]; omega) (by omega) hk3 (fun w hw => ?_) ?_ (by omega) hq
          · rcases List.mem_append.mp hw with h | h
            · have := hR3 w h; omega
            · rw [List.mem_singleton.mp h]; exact Nat.le_of_eq hop.symm
          · rw [List.reverse_append, ← List.append_assoc]
            exact H3
      · rw [if_neg (c := ks_rk (ks_op T j2) = r) hop] at hq
        exact hq n t C2 R τ e B2 hW hjj (by omega : ks_rk (ks_op T j2) < r) hR H2
  refine hg j hj X W C n t σ Q (hlow.mo (by omega)) H B ?_
  cases ho : g j with
  | inl e => 
    have hpo : kv_po (kv_bn (g j) (fun x => ks_lp T r g 501 x.1 x.2)) (fun f q => ∀ τ, kz_bad σ0 f q τ → Q 0 τ) (fun x => kz_K σ0 T vs p Q r X W (C ++ x.1) o j x.2) := hpo
    rw [ho] at hpo
    exact hpo
  | inr x =>
    have hpo : kv_po (kv_bn (g j) (fun x => ks_lp T r g 501 x.1 x.2)) (fun f q => ∀ τ, kz_bad σ0 f q τ → Q 0 τ) (fun x => kz_K σ0 T vs p Q r X W (C ++ x.1) o j x.2) := hpo
    rw [ho] at hpo
    intro n2 t2 C2 R2 τ2 e2 B2 hW2 hj2 hk2 hR2 H2
    exact loop 501 x.1 x.2 n2 t2 C2 R2 τ2 e2 B2 hW2 hj2 hk2 (fun w hw => by have := hR2 w hw; omega) H2 (by omega) hpo
/-- behind a whole expression: no sign of an operation, or a second comparison -/
def kz_KA (σ0 : ae_S) (T : kt_T) (vs : List mv_V) (p : Nat) (Q : Int32 → ae_S → Prop) (X : Nat) (W : kz_W) (c0 : ks_E) (o j0 j : Nat) : Prop := ∀ (n t : Nat) (C : ks_E) (R : kz_W) (τ : ae_S), C ++ kz_ops R = c0 → kz_Bd c0 X W j t n → W.length + R.length ≤ j → j0 < j → (ks_rk (ks_op T j) = 0 ∧ (∀ w ∈ R, 1 ≤ ks_rk w.1)) ∨ (ks_rk (ks_op T j) = 1 ∧ ∃ R2 w, R = R2 ++ [w] ∧ ks_rk w.1 = 1 ∧ ∀ w ∈ R2, 2 ≤ ks_rk w.1) → kz_St σ0 T vs p C (W ++ R.reverse) o 2 j τ → ma_wp (F_X5_compile_24 n (nI t) τ) Q
def kz_RA (σ0 : ae_S) (T : kt_T) (vs : List mv_V) (p : Nat) (g : Nat → kv_O (ks_E × Nat)) (o m0 : Nat) : Prop := ∀ (j : Nat), m0 ≤ j → ∀ (X : Nat) (W : kz_W) (C : ks_E) (n t : Nat) (σ : ae_S) (Q : Int32 → ae_S → Prop), kz_low 1 W → kz_St σ0 T vs p C W o 1 j σ → kz_Bd C X W j t n → kv_po (g j) (fun f q => ∀ τ, kz_bad σ0 f q τ → Q 0 τ) (fun x => kz_KA σ0 T vs p Q X W (C ++ x.1) o j x.2) → ma_wp (F_X5_compile_24 n (nI t) σ) Q
theorem kz_all (hT : kt_W T) {m0 : Nat} {f : Nat → kv_O (ks_E × Nat)} (hf : kz_Rd σ0 T vs p 4 5 f o m0) : kz_RA σ0 T vs p (ks_all T f) o m0 := by
  have ht : kz_Rd σ0 T vs p 3 3 (ks_trm T f) o m0 := kz_join hT ⟨by decide, by decide⟩ (by decide) hf
  have hs : kz_Rd σ0 T vs p 2 2 (ks_sum T f) o m0 := kz_join hT ⟨by decide, by decide⟩ (by decide) ht
  intro j hj X W C n t σ Q hlow H B hpo
  refine hs j hj X W C n t σ Q (hlow.mo (by omega)) H B ?_
  unfold ks_all at hpo
  cases ho : ks_sum T f j with
  | inl e => rw [ho] at hpo; exact hpo
  | inr x =>
    rw [ho] at hpo
    have hpo : kv_po (if ks_rk (ks_op T x.2) = 1 then kv_bn (ks_sum T f (x.2 + 1)) (fun y => .inr (x.1 ++ y.1 ++ [(ks_op T x.2, 0, 0)], y.2)) else (.inr x : kv_O (ks_E × Nat))) (fun f q => ∀ τ, kz_bad σ0 f q τ → Q 0 τ) (fun x => kz_KA σ0 T vs p Q X W (C ++ x.1) o j x.2) := hpo
    intro n2 t2 C2 R2 τ2 e2 B2 hW2 hj2 hk2 hR2 H2
    by_cases hop : ks_rk (ks_op T x.2) = 1
    · rw [if_pos (c := ks_rk (ks_op T x.2) = 1) hop] at hpo
      have hne := ks_rkN (x := ks_op T x.2) (by omega)
      have hj5 := ks_jB hT (ks_opT hne)
      have hlen : C2.length + R2.length = (C ++ x.1).length := by rw [← e2, List.length_append]; unfold kz_ops; rw [List.length_map]
      obtain ⟨b1, b2, b3, b4, b5⟩ := B2
      obtain ⟨n2, rfl⟩ : ∃ n3, n2 = n3 + 1 := ⟨n2 - 1, by omega⟩
      refine kz_oper (r := 1) hT H2 hne hop.symm (by omega) hlow (fun w hw => ⟨by have := hR2 w hw; omega, hR2 w hw⟩) hW2 (by omega) (by omega) (fun φ Hφ => ?_)
      rw [e2] at Hφ
      have lW : (W ++ [(ks_op T x.2, (0 : Int32), (0 : Int32))]).length = W.length + 1 := by rw [List.length_append, List.length_singleton]
      refine hs (x.2 + 1) (by omega) (X + 1) (W ++ [(ks_op T x.2, 0, 0)]) (C ++ x.1) n2 (t2 + 1) φ Q (.inr ⟨W, _, rfl, (by omega : ks_rk (ks_op T x.2) < 2)⟩) Hφ ⟨by omega, by omega, by omega, by omega, by omega⟩ ?_
      cases ho2 : ks_sum T f (x.2 + 1) with
      | inl e => rw [ho2] at hpo; exact hpo
      | inr y =>
        rw [ho2] at hpo
        have hpo : kz_KA σ0 T vs p Q X W (C ++ (x.1 ++ y.1 ++ [(ks_op T x.2, 0, 0)])) o j y.2 := hpo
        intro n3 t3 C3 R3 τ3 e3 B3 hW3 hj3 hk3 hR3 H3
        rw [lW] at hW3
        obtain ⟨d1, d2, d3, d4, d5⟩ := B3
        have e4 : C3 ++ kz_ops (R3 ++ [(ks_op T x.2, 0, 0)]) = C ++ (x.1 ++ y.1 ++ [(ks_op T x.2, 0, 0)]) := by rw [kz_opsA, ← List.append_assoc, e3, List.append_assoc, List.append_assoc, List.append_assoc]
        have l4 : (C ++ (x.1 ++ y.1 ++ [(ks_op T x.2, (0 : Int64), (0 : Int32))])).length = (C ++ x.1 ++ y.1).length + 1 := by rw [← List.append_assoc, ← List.append_assoc, List.length_append, List.length_singleton]
        refine hpo n3 t3 C3 (R3 ++ [(ks_op T x.2, 0, 0)]) τ3 e4 ⟨by rw [l4]; omega, by omega, by omega, d4, d5⟩ (by rw [List.length_append, List.length_singleton]; omega) (by omega) ?_ ?_
        · by_cases h1 : ks_rk (ks_op T y.2) = 1
          · exact .inr ⟨h1, R3, _, rfl, hop, hR3⟩
          · refine .inl ⟨by omega, fun w hw => ?_⟩
            rcases List.mem_append.mp hw with h | h
            · have := hR3 w h; omega
            · rw [List.mem_singleton.mp h]; exact Nat.le_of_eq hop.symm
        · rw [List.reverse_append, ← List.append_assoc]
          exact H3
    · rw [if_neg (c := ks_rk (ks_op T x.2) = 1) hop] at hpo
      have hpo : kz_KA σ0 T vs p Q X W (C ++ x.1) o j x.2 := hpo
      exact hpo n2 t2 C2 R2 τ2 e2 B2 hW2 hj2 (.inl ⟨by omega, fun w hw => by have := hR2 w hw; omega⟩) H2
end KZ
