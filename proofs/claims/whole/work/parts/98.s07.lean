/-! the class ends statements; targets and values -/
section KZ
variable {T : kt_T} {σ0 σ τ : ae_S} {p r o md j n t X : Nat} {vs : List mv_V} {C : ks_E} {W V : kz_W} {ps : List Nat} {Q : Int32 → ae_S → Prop}
def kz_ifs (ps : List Nat) : kz_W := ps.map (fun q => (102, nI q, 0))
def kz_nif (V : kz_W) : Prop := V = [] ∨ ∃ U w, V = U ++ [w] ∧ w.1 ≠ 102
theorem kz_ldL (C : ks_E) (i : Nat) : (kz_ld C i).length = C.length := by unfold kz_ld; rw [List.length_modify]
theorem kz_ldF : ∀ (ps : List Nat) (C : ks_E), (ps.foldl kz_ld C).length = C.length := by
  intro ps
  induction ps with
  | nil => intro C; rfl
  | cons q ps ih => intro C; rw [List.foldl_cons, ih, kz_ldL]
theorem kz_end5 (hV : kz_nif V) : ∀ (ps : List Nat) (n : Nat) (C : ks_E) (σ : ae_S), ps.length < n → V.length + ps.length ≤ 501 → C.length ≤ 1002 → (∀ q ∈ ps, q < C.length) → kz_St σ0 T vs p C (V ++ (kz_ifs ps).reverse) o md j σ → ma_wp (F_X5_endStatement_5 n (nI (V.length + ps.length)) σ) (fun _ τ => kz_St σ0 T vs p (ps.foldl kz_ld C) V o 0 j τ) := by
  intro ps
  induction ps with
  | nil =>
    intro n C σ hn h1 h2 hq H
    obtain ⟨n, rfl⟩ : ∃ n2, n = n2 + 1 := ⟨n - 1, by simp at hn; omega⟩
    have H : kz_St σ0 T vs p C V o md j σ := by
      have e : V ++ (kz_ifs []).reverse = V := by show V ++ [] = V; rw [List.append_nil]
      rw [e] at H; exact H
    have fin : ma_wp (F_X5_endStatement_39 σ) (fun _ τ => kz_St σ0 T vs p C V o 0 j τ) := by
      unfold F_X5_endStatement_39
      exact ma_lt (ma_ret (H.smd 0))
    rw [F_X5_endStatement_5]
    rcases hV with e | ⟨U, w, e, hw⟩
    · exact ma_T (by rw [e]; decide) fin
    · have H2 := H
      rw [e] at H2 h1
      have hl : U.length < 501 := by simp at h1; omega
      have e2 : V.length + ([] : List Nat).length = U.length + 1 := by rw [e]; simp
      rw [e2]
      exact ma_F (nI_ge (b := U.length + 1) (a := 0) (by omega) (by omega)) (ma_be (kz_top H2.2.2.1 hl).1 (ma_F hw fin))
  | cons q ps ih =>
    intro n C σ hn h1 h2 hq H
    rw [List.length_cons] at hn h1
    obtain ⟨n, rfl⟩ : ∃ n2, n = n2 + 1 := ⟨n - 1, by omega⟩
    have H : kz_St σ0 T vs p C ((V ++ (kz_ifs ps).reverse) ++ [(102, nI q, 0)]) o md j σ := by
      have e : V ++ (kz_ifs (q :: ps)).reverse = (V ++ (kz_ifs ps).reverse) ++ [(102, nI q, 0)] := by
        show V ++ ((102, nI q, 0) :: kz_ifs ps).reverse = _
        rw [List.reverse_cons, ← List.append_assoc]
      rw [e] at H; exact H
    have hl : (V ++ (kz_ifs ps).reverse).length < 501 := by rw [List.length_append, List.length_reverse]; unfold kz_ifs; rw [List.length_map]; omega
    have tp := kz_top H.2.2.1 hl
    rw [F_X5_endStatement_5, List.length_cons, show V.length + (ps.length + 1) = V.length + ps.length + 1 from rfl]
    refine ma_F (nI_ge (b := V.length + ps.length + 1) (a := 0) (by omega) (by omega)) (ma_be tp.1 (ma_T rfl (ma_be tp.2.1 ?_)))
    refine ma_bd (kz_lead H.2.1 h2 (hq q List.mem_cons_self)) (fun _ φ q1 => ?_)
    have H1 : kz_St σ0 T vs p (kz_ld C q) ((V ++ (kz_ifs ps).reverse) ++ [(102, nI q, 0)]) o md j φ := H.mk (q1.2.mo (fun g i k q => by unfold kzF at q; omega)) (H.1.fr q1.2 (by decide) (by decide) (fun _ _ => by decide) (fun _ => by decide)) q1.1 (H.2.2.1.fr q1.2 (by decide) (fun _ _ => by decide)) ((q1.2.i (by decide)).trans H.2.2.2.1) ((q1.2.i (by decide)).trans H.2.2.2.2.1)
    refine ma_bd (kz_drop H1.2.2.1 hl) (fun _ ψ q2 => ma_lt ?_)
    have H2 := H1.wt q2.1 (q2.2.mo (fun g i k q => q.1))
    rw [kz_m1]
    exact ih n (kz_ld C q) ψ (by omega) (by omega) (by rw [kz_ldL]; exact h2) (fun u hu => by rw [kz_ldL]; exact hq u (List.mem_cons_of_mem _ hu)) H2
theorem kz_end (hV : kz_nif V) (h1 : V.length + ps.length ≤ 501) (h2 : C.length ≤ 1002) (hq : ∀ q ∈ ps, q < C.length) (H : kz_St σ0 T vs p C (V ++ (kz_ifs ps).reverse) o md j σ) : ma_wp (F_X5_endStatement σ) (fun _ τ => kz_St σ0 T vs p (ps.foldl kz_ld C) V o 0 j τ) := by
  unfold F_X5_endStatement
  have e : σ.1 19 0 6 = nI (V.length + ps.length) := by rw [H.2.2.1.1, List.length_append, List.length_reverse]; unfold kz_ifs; rw [List.length_map]
  refine ma_lt ?_
  rw [e]
  exact kz_end5 hV ps ae_fu C σ (by rw [ae_fu]; omega) h1 h2 hq H
def ks_eq (T : kt_T) (vs : List mv_V) (v : Int32) (j : Nat) : kv_O (Int32 × Nat) := kv_bn (ks_fld T vs v j) (fun y => if kt_sg T y.2 61 = true then .inr (y.1, y.2 + 1) else .inl (1, kt_s T y.2))
theorem kz_equ (hT : kt_W T) (hl : vs.length ≤ 16) (hf : ∀ w ∈ vs, (mv_fs w).length ≤ 8) (H : kz_St σ0 T vs p C W o md j σ) {u : Nat} (hu : u < vs.length) (hW : W.length < 501) : ma_wp (F_X5_takeEquals (nI u) σ) (fun r τ => kv_po (ks_eq T vs (nI u) j) (fun f q => r = 0 ∧ kz_bad σ0 f q τ) (fun y => r = 1 ∧ kz_St σ0 T vs p C (W ++ [(105, nI u, y.1)]) o 1 y.2 τ)) := by
  unfold F_X5_takeEquals F_X5_takeEquals_24 ks_eq
  refine ma_bd (kz_fld hT H.1 H.2.2.2.2.2.1 hl hf hu) (fun r φ q => ?_)
  cases ho : ks_fld T vs (nI u) j with
  | inl e =>
    rw [ho] at q
    obtain ⟨rfl, hb, f⟩ := q
    exact ma_T rfl (ma_ret ⟨rfl, H.bd hb f⟩)
  | inr y =>
    rw [ho] at q
    obtain ⟨rfl, hy, S, f⟩ := q
    have hne : y.1 ≠ -2 := by
      rcases hy with e | ⟨f, w, e, h2, h3⟩
      · rw [e]; decide
      · rw [h3]
        have h8 := hf w (List.mem_of_getElem? e)
        have : ∀ i, i < 8 → nI i ≠ -2 := by decide
        exact this f (by omega)
    have H1 := H.adv f S
    show ma_wp _ (fun r τ => kv_po (if kt_sg T y.2 61 = true then .inr (y.1, y.2 + 1) else (.inl (1, kt_s T y.2) : kv_O (Int32 × Nat))) _ _)
    refine ma_F hne (ma_bd (kz_sign hT H1 (c := 61) (by decide)) (fun r ψ q2 => ?_))
    rcases q2 with ⟨hs, rfl, H2⟩ | ⟨hs, rfl, hb⟩
    · rw [hs, if_pos (c := true = true) rfl]
      refine ma_F ma_01 (ma_bd (kz_await H2.2.2.1 hW (105, nI u, y.1)) (fun _ χ q3 => ma_lt (ma_ret ⟨rfl, ?_⟩)))
      exact (H2.wt q3.1 q3.2).smd 1
    · rw [hs, if_neg (c := false = true) (by decide)]
      exact ma_T rfl (ma_ret ⟨rfl, hb⟩)
theorem ks_eqB (hT : kt_W T) {v : Int32} {y : Int32 × Nat} (h : ks_eq T vs v j = .inr y) : j < y.2 ∧ y.2 ≤ 500 := by
  unfold ks_eq at h
  cases ho : ks_fld T vs v j with
  | inl e => rw [ho] at h; cases h
  | inr z =>
    rw [ho] at h
    have h : (if kt_sg T z.2 61 = true then .inr (z.1, z.2 + 1) else (.inl (1, kt_s T z.2) : kv_O (Int32 × Nat))) = .inr y := h
    have hB := ks_fldB hT ho
    split at h
    · rename_i hs
      have := ks_jB hT (ks_sgT hs)
      have h := Sum.inr.inj h
      rw [← h]
      exact ⟨by show j < z.2 + 1; omega, by show z.2 + 1 ≤ 500; omega⟩
    · cases h
/-- so it goes on behind a statement -/
def kz_KS (σ0 : ae_S) (T : kt_T) (vs : List mv_V) (p : Nat) (Q : Int32 → ae_S → Prop) (V : kz_W) (ps : List Nat) (c0 : ks_E) (o j0 j : Nat) : Prop := ∀ (n t : Nat) (τ : ae_S), kz_Bd c0 0 V j t n → j0 < j → kz_St σ0 T vs p (ps.foldl kz_ld c0) V o 0 j τ → ma_wp (F_X5_compile_24 n (nI t) τ) Q
theorem kz_val (hT : kt_W T) (hl : vs.length ≤ 16) (hf : ∀ w ∈ vs, (mv_fs w).length ≤ 8) (ho : o ≤ 5) (hV : kz_nif V) {c : ks_E} {u : Nat} {f : Int32} {j0 : Nat} (hq : ∀ q ∈ ps, q < C.length) (H : kz_St σ0 T vs p C (V ++ (kz_ifs ps).reverse ++ [(105, nI u, f)]) o 1 j σ) (B : kz_Bd C 1 (V ++ (kz_ifs ps).reverse ++ [(105, nI u, f)]) j t n) (h0 : j0 < j) (hpo : kv_po (kv_bn (ks_ex T vs o j) (fun y => if kt_sg T y.2 59 = true then .inr (y.1 ++ [(5, (nI u).toInt64, f)], y.2 + 1) else (.inl (1, kt_s T y.2) : kv_O (ks_E × Nat)))) (fun f q => ∀ τ, kz_bad σ0 f q τ → Q 0 τ) (fun x => kz_KS σ0 T vs p Q V ps (C ++ x.1) o j0 x.2)) : ma_wp (F_X5_compile_24 n (nI t) σ) Q := by
  refine kz_ex hT hl hf ho j (Nat.zero_le _) 1 _ C n t σ Q (.inr ⟨_, _, rfl, (by decide : ks_rk 105 < 1)⟩) H B ?_
  cases hv : ks_ex T vs o j with
  | inl e => rw [hv] at hpo; exact hpo
  | inr y =>
    rw [hv] at hpo
    have hpo : kv_po (if kt_sg T y.2 59 = true then .inr (y.1 ++ [(5, (nI u).toInt64, f)], y.2 + 1) else (.inl (1, kt_s T y.2) : kv_O (ks_E × Nat))) (fun f q => ∀ τ, kz_bad σ0 f q τ → Q 0 τ) (fun x => kz_KS σ0 T vs p Q V ps (C ++ x.1) o j0 x.2) := hpo
    intro n3 t3 C3 R3 τ3 e3 B3 hW3 hj3 hcase H4
    have hlen := kz_len e3
    have lW : (V ++ (kz_ifs ps).reverse ++ [((105 : Int32), nI u, f)]).length = V.length + ps.length + 1 := by rw [List.length_append, List.length_append, List.length_reverse, List.length_singleton]; unfold kz_ifs; rw [List.length_map]
    have lW2 : (V ++ (kz_ifs ps).reverse).length = V.length + ps.length := by rw [List.length_append, List.length_reverse]; unfold kz_ifs; rw [List.length_map]
    rw [lW] at hW3
    obtain ⟨d1, d2, d3, d4, d5⟩ := B3
    obtain ⟨n3, rfl⟩ : ∃ n2, n3 = n2 + 1 := ⟨n3 - 1, by omega⟩
    refine kz_turn2 H4 (by omega) ?_
    rcases hcase with ⟨hop, hR⟩ | ⟨hop, R2, w, rfl, hw, hR2⟩
    · refine kz_behA hT H4 (by decide : ks_rk 105 = 0) hop hR (by rw [lW2]; omega) (by omega) (fun φ2 Hφ => ?_)
      rw [e3] at Hφ
      unfold kz_sw
      have tp := kz_top Hφ.2.2.1 (by rw [lW2]; omega)
      refine ma_F (by decide : ¬ (105 : Int32) = 103) (ma_F (by decide : ¬ (105 : Int32) = 104) (ma_T rfl (ma_be tp.2.2 (ma_bd (kz_add Hφ.2.1 (by omega) 5 ((nI u).toInt64) f) (fun _ φ3 q5 => ?_)))))
      have H5 := Hφ.add q5.2.1 q5.2.2
      refine ma_bd (kz_drop H5.2.2.1 (by rw [lW2]; omega)) (fun _ φ4 q6 => ?_)
      have H6 := H5.wt q6.1 (q6.2.mo (fun g i k q => q.1))
      refine ma_bd (kz_end hV (by omega) (by rw [List.length_append, List.length_singleton]; omega) (fun q h => by have := hq q h; rw [List.length_append, List.length_append]; omega) H6) (fun _ φ5 H7 => ?_)
      refine ma_bd (kz_sign hT H7 (c := 59) (by decide)) (fun r φ6 q8 => ?_)
      rcases q8 with ⟨hs, rfl, H8⟩ | ⟨hs, rfl, hb⟩
      · rw [hs, if_pos (c := true = true) rfl] at hpo
        have hpo : kz_KS σ0 T vs p Q V ps (C ++ (y.1 ++ [(5, (nI u).toInt64, f)])) o j0 (y.2 + 1) := hpo
        have hx5 := ks_jB hT (ks_sgT hs)
        rw [← List.append_assoc] at hpo
        exact ma_gd ma_z1 (ma_ret (.inr ⟨rfl, hpo n3 (t3 + 1) φ6 ⟨by rw [List.length_append, List.length_singleton]; omega, by omega, by omega, by omega, by omega⟩ (by omega) H8⟩))
      · rw [hs, if_neg (c := false = true) (by decide)] at hpo
        exact ma_gd ma_z0 (ma_ret (.inl ⟨rfl, hpo φ6 hb⟩))
    · rw [ks_opS hop (by decide), if_neg (c := false = true) (by decide)] at hpo
      rw [List.length_append, List.length_singleton] at hW3 hlen
      exact ma_mono (kz_behB hT H4 hw hop hR2 (by rw [lW]; omega) (by omega)) (fun r τ q => .inl ⟨q.1, hpo τ q.2⟩)
end KZ
