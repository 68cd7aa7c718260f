/-! what the class takes of a script -/
section KZ
variable {T : kt_T} {C : ks_E} {W : List (Int32 × Int32 × Int32)} {σ τ : ae_S} {j p r : Nat} {vs : List mv_V}
abbrev kz_W : Type := List (Int32 × Int32 × Int32)
def kz_ops (R : kz_W) : ks_E := R.map (fun w => (w.1, 0, 0))
def kz_low (r : Nat) (W : kz_W) : Prop := W = [] ∨ ∃ V w, W = V ++ [w] ∧ ks_rk w.1 < r
theorem ks_rkB (x : Int32) : ks_rk x ≤ 4 := by
  unfold ks_rk
  repeat' split
  all_goals decide
theorem kz_m1 (k : Nat) : nI (k + 1) + (-1 : Int32) = nI k := by
  rw [← nI_1, Int32.add_assoc]
  exact Int32.add_zero _
def kzS (g : Nat) (_ : Fin 32) (k : Nat) : Prop := ¬ (g = 19 ∧ k = 6) ∧ g ≠ 15 ∧ g ≠ 16 ∧ g ≠ 17
theorem kz_settle5 (hlow : kz_low r W) (hr : 1 ≤ r ∧ r < 100) : ∀ (R : kz_W) (n : Nat) (C : ks_E) (σ : ae_S), R.length < n → W.length + R.length ≤ 501 → C.length + R.length ≤ 1002 → kz_wt (W ++ R.reverse) σ → kz_cd C σ → (∀ w ∈ R, r ≤ ks_rk w.1) → ma_wp (F_X5_settle_5 n (nI r) (nI (W.length + R.length)) σ) (fun _ τ => kz_wt W τ ∧ kz_cd (C ++ kz_ops R) τ ∧ ma_fr kzS σ τ) := by
  intro R
  induction R with
  | nil =>
    intro n C σ hn h1 h2 HW HC hR
    obtain ⟨n, rfl⟩ : ∃ n2, n = n2 + 1 := ⟨n - 1, by simp at hn; omega⟩
    have HW : kz_wt W σ := by rw [List.reverse_nil, List.append_nil] at HW; exact HW
    have HC : kz_cd (C ++ kz_ops []) σ := by show kz_cd (C ++ []) σ; rw [List.append_nil]; exact HC
    rw [F_X5_settle_5]
    unfold F_X5_settle_44
    rcases hlow with e | ⟨V, w, e, hw⟩
    · refine ma_T (by rw [e]; decide) (ma_ret ⟨HW, HC, ma_fr.rf⟩)
    · rw [e] at h1 HW ⊢
      have hl : V.length < 501 := by simp at h1; omega
      have e2 : (V ++ [w]).length + ([] : kz_W).length = V.length + 1 := by simp
      rw [e2]
      refine ma_F (nI_ge (b := V.length + 1) (a := 0) (by omega) (by omega)) (ma_be (kz_top HW hl).1 (ma_be (kz_rank _ _) ?_))
      exact ma_ls (ks_rk w.1) r rfl rfl (by omega) (by omega) (fun _ => ma_ret ⟨HW, HC, ma_fr.rf⟩) (fun q => by omega)
  | cons w R ih =>
    intro n C σ hn h1 h2 HW HC hR
    rw [List.length_cons] at hn h1 h2
    obtain ⟨n, rfl⟩ : ∃ n2, n = n2 + 1 := ⟨n - 1, by omega⟩
    have HW : kz_wt ((W ++ R.reverse) ++ [w]) σ := by rw [List.reverse_cons, ← List.append_assoc] at HW; exact HW
    have hl : (W ++ R.reverse).length < 501 := by rw [List.length_append, List.length_reverse]; omega
    have hw := hR w List.mem_cons_self
    have hk := ks_rkB w.1
    rw [F_X5_settle_5, List.length_cons, show W.length + (R.length + 1) = W.length + R.length + 1 from rfl]
    refine ma_F (nI_ge (b := W.length + R.length + 1) (a := 0) (by omega) (by omega)) (ma_be (kz_top HW hl).1 (ma_be (kz_rank _ _) ?_))
    refine ma_ls (ks_rk w.1) r rfl rfl (by omega) (by omega) (fun q => by omega) (fun q => ma_be (kz_top HW hl).1 ?_)
    refine ma_bd (kz_add HC (by omega) w.1 0 0) (fun _ τ1 q1 => ?_)
    obtain ⟨_, C1, f1⟩ := q1
    refine ma_bd (kz_drop (HW.fr f1 (by decide) (fun _ _ => by decide)) hl) (fun _ τ2 q2 => ma_lt ?_)
    rw [kz_m1]
    refine ma_mono (ih n (C ++ [(w.1, 0, 0)]) τ2 (by omega) (by omega) (by rw [List.length_append, List.length_singleton]; omega) q2.1 (C1.fr q2.2 (fun g _ _ _ _ => by omega)) (fun u hu => hR u (List.mem_cons_of_mem _ hu))) (fun _ τ q => ⟨q.1, ?_, ((f1.mo (fun g i k q => q.2)).tr (q2.2.mo (fun g i k q => q.1))).tr q.2.2⟩)
    have e : C ++ kz_ops (w :: R) = C ++ [(w.1, 0, 0)] ++ kz_ops R := by rw [List.append_assoc]; rfl
    rw [e]
    exact q.2.1
theorem kz_settle {R : kz_W} (hlow : kz_low r W) (hr : 1 ≤ r ∧ r < 100) (h1 : W.length + R.length ≤ 501) (h2 : C.length + R.length ≤ 1002) (HW : kz_wt (W ++ R.reverse) σ) (HC : kz_cd C σ) (hR : ∀ w ∈ R, r ≤ ks_rk w.1) : ma_wp (F_X5_settle (nI r) σ) (fun _ τ => kz_wt W τ ∧ kz_cd (C ++ kz_ops R) τ ∧ ma_fr kzS σ τ) := by
  unfold F_X5_settle
  refine ma_lt ?_
  have e : σ.1 19 0 6 = nI (W.length + R.length) := by rw [HW.1, List.length_append, List.length_reverse]
  rw [e]
  exact kz_settle5 hlow hr R ae_fu C σ (by rw [ae_fu]; omega) h1 h2 HW HC hR
theorem kz_opH (hT : kt_W T) (H : kt_St T 9 j σ) : F_X5_operationHere σ = some (ks_op T j, σ) := by
  refine ma_eq ?_
  unfold F_X5_operationHere F_X5_operationHere_123 ks_op
  refine ma_be (kc_sign H hT (c := 60) (by decide)) ?_
  cases kt_sg T j 60 with
  | true => exact ma_F (by decide) (ma_ret ⟨rfl, rfl⟩)
  | false =>
    refine ma_T rfl (ma_be (kc_sign H hT (c := 62) (by decide)) ?_)
    cases kt_sg T j 62 with
    | true => exact ma_F (by decide) (ma_ret ⟨rfl, rfl⟩)
    | false =>
      refine ma_T rfl (ma_be (kc_sign H hT (c := 126) (by decide)) ?_)
      cases kt_sg T j 126 with
      | true => exact ma_F (by decide) (ma_ret ⟨rfl, rfl⟩)
      | false =>
        refine ma_T rfl (ma_be (kc_sign H hT (c := 43) (by decide)) ?_)
        cases kt_sg T j 43 with
        | true => exact ma_F (by decide) (ma_ret ⟨rfl, rfl⟩)
        | false =>
          refine ma_T rfl (ma_be (kc_sign H hT (c := 45) (by decide)) ?_)
          cases kt_sg T j 45 with
          | true => exact ma_F (by decide) (ma_ret ⟨rfl, rfl⟩)
          | false =>
            refine ma_T rfl (ma_be (kc_sign H hT (c := 42) (by decide)) ?_)
            cases kt_sg T j 42 with
            | true => exact ma_F (by decide) (ma_ret ⟨rfl, rfl⟩)
            | false =>
              refine ma_T rfl (ma_be (kc_sign H hT (c := 47) (by decide)) ?_)
              cases kt_sg T j 47 with
              | true => exact ma_F (by decide) (ma_ret ⟨rfl, rfl⟩)
              | false =>
                refine ma_T rfl (ma_be (kc_sign H hT (c := 37) (by decide)) ?_)
                cases kt_sg T j 37 with
                | true => exact ma_F (by decide) (ma_ret ⟨rfl, rfl⟩)
                | false => exact ma_T rfl (ma_ret ⟨rfl, rfl⟩)
theorem my_fdS {q : Nat → Bool} : ∀ r i, my_fd q r i = -1 ∨ ∃ k, i ≤ k ∧ k < i + r ∧ my_fd q r i = nI k := by
  intro r
  induction r with
  | zero => intro i; exact .inl rfl
  | succ r ih =>
    intro i
    rw [my_fd]
    cases q i with
    | true => exact .inr ⟨i, by omega, by omega, rfl⟩
    | false =>
      rcases ih (i + 1) with h | ⟨k, h1, h2, h3⟩
      · exact .inl h
      · exact .inr ⟨k, by omega, by omega, h3⟩
theorem ks_ixS {x : Int64} (h : kv_ix vs x ≠ -1) : ∃ u, u < vs.length ∧ kv_ix vs x = nI u := by
  rcases my_fdS (q := kv_p vs x) vs.length 0 with e | ⟨k, _, h2, h3⟩
  · exact absurd e h
  · exact ⟨k, by omega, h3⟩
theorem kz_nam (H : kt_St T 9 j σ) (HV : mv_Cp p vs σ) (hl : vs.length ≤ 16) : ma_wp (F_X5_takeViewName σ) (fun r τ => kv_po (ks_nam T vs j) (fun f q => r = -1 ∧ kc_bad f q τ ∧ ma_fr (fun g _ k => ¬ (g = 12 ∧ (k = 7 ∨ k = 8))) σ τ) (fun v => r = v ∧ (∃ u, u < vs.length ∧ v = nI u) ∧ kt_St T 9 (j + 1) τ ∧ ma_fr (fun g _ k => ¬ (g = 12 ∧ k = 6)) σ τ)) := by
  unfold F_X5_takeViewName ks_nam
  refine ma_be (kc_name H) ?_
  cases hn : kt_nm T j with
  | false =>
    rw [if_neg (c := false = true) (by decide)]
    refine ma_T rfl (ma_bd (kc_ref H 1) (fun r τ q => ?_))
    exact ma_ret (kv_pol ⟨rfl, ⟨q.2.1, q.2.2.1⟩, q.2.2.2⟩)
  | true =>
    rw [if_pos (c := true = true) rfl]
    refine ma_F (by decide) (ma_be (kc_value H) ?_)
    rw [kt_nmV hn]
    refine ma_be (kv_numOf _ HV hl) (ma_if (fun g => ?_) (fun g => ?_))
    · rw [if_pos (c := kv_ix vs (kt_wv T j) = -1) g]
      refine ma_bd (kc_ref H 2) (fun r τ q => ?_)
      exact ma_ret (kv_pol ⟨rfl, ⟨q.2.1, q.2.2.1⟩, q.2.2.2⟩)
    · rw [if_neg (c := kv_ix vs (kt_wv T j) = -1) g]
      exact ma_bd (kc_adv H) (fun _ τ q => ma_ret (kv_por ⟨rfl, ks_ixS g, q.1, q.2⟩))
theorem kz_fld (hT : kt_W T) (H : kt_St T 9 j σ) (HV : mv_Cp p vs σ) (hl : vs.length ≤ 16) (hf : ∀ w ∈ vs, (mv_fs w).length ≤ 8) {u : Nat} (hu : u < vs.length) : ma_wp (F_X5_takeFieldName (nI u) σ) (fun r τ => kv_po (ks_fld T vs (nI u) j) (fun f q => r = -2 ∧ kc_bad f q τ ∧ ma_fr (fun g _ k => ¬ (g = 12 ∧ (k = 6 ∨ k = 7 ∨ k = 8))) σ τ) (fun x => r = x.1 ∧ (x.1 = -1 ∨ ∃ f w, vs[u]? = some w ∧ f < (mv_fs w).length ∧ x.1 = nI f) ∧ kt_St T 9 x.2 τ ∧ ma_fr (fun g _ k => ¬ (g = 12 ∧ k = 6)) σ τ)) := by
  unfold F_X5_takeFieldName F_X5_takeFieldName_71 ks_fld
  refine ma_be (kc_sign H hT (c := 46) (by decide)) ?_
  cases hs : kt_sg T j 46 with
  | false =>
    rw [if_neg (c := false = true) (by decide)]
    exact ma_T rfl (ma_ret (kv_por ⟨rfl, .inl rfl, H, ma_fr.rf⟩))
  | true =>
    rw [if_pos (c := true = true) rfl]
    refine ma_F (by decide) (ma_bd (kc_adv H) (fun _ τ1 q1 => ?_))
    obtain ⟨H1, f1⟩ := q1
    have f1w : ma_fr (fun g _ k => ¬ (g = 12 ∧ (k = 6 ∨ k = 7 ∨ k = 8))) σ τ1 := f1.mo (fun g i k q => by omega)
    refine ma_be (kc_name H1) ?_
    cases hn : kt_nm T (j + 1) with
    | false =>
      rw [if_neg (c := false = true) (by decide)]
      refine ma_T rfl (ma_bd (kc_ref H1 1) (fun r τ q => ?_))
      exact ma_ret (kv_pol ⟨rfl, ⟨q.2.1, q.2.2.1⟩, f1w.tr (q.2.2.2.mo (fun g i k q => by omega))⟩)
    | true =>
      rw [if_pos (c := true = true) rfl]
      have HV1 : mv_Cp p vs τ1 := HV.fr f1 (fun _ => by omega) (fun _ _ => by omega) (fun _ _ => by omega) (fun _ _ => by omega) (fun _ _ => by omega)
      refine ma_F (by decide) (ma_be (mv_getS HV1 hl hu) (ma_ms (ma_be (kc_value H1) ?_)))
      rw [kt_nmV hn]
      have e : vs[u]? = some vs[u] := List.getElem?_eq_getElem hu
      have h8 := hf vs[u] (List.mem_of_getElem? e)
      have c := HV1.2.2.2.2 u vs[u] e
      have ef : ks_fix vs (nI u) (kt_wv T (j + 1)) = kv_fix (mv_fs vs[u]) (kt_wv T (j + 1)) := by
        unfold ks_fix
        rw [nI_clamp (by omega), e]
      rw [ef]
      refine ma_be (kv_fnC (fs := mv_fs vs[u]) h8 _ c) (ma_if (fun g => ?_) (fun g => ?_))
      · rw [if_pos (c := kv_fix (mv_fs vs[u]) (kt_wv T (j + 1)) = -1) g]
        refine ma_bd (kc_ref H1 2) (fun r τ q => ?_)
        exact ma_ret (kv_pol ⟨rfl, ⟨q.2.1, q.2.2.1⟩, f1w.tr (q.2.2.2.mo (fun g i k q => by omega))⟩)
      · rw [if_neg (c := kv_fix (mv_fs vs[u]) (kt_wv T (j + 1)) = -1) g]
        refine ma_bd (kc_adv H1) (fun _ τ q => ma_ret (kv_por ⟨rfl, .inr ?_, q.1, f1.tr q.2⟩))
        rcases my_fdS (q := fun k => decide ((mv_fs vs[u])[k]?.map (fun q => q.1) = some (kt_wv T (j + 1)))) (mv_fs vs[u]).length 0 with h | ⟨k, _, h2, h3⟩
        · exact absurd h g
        · exact ⟨k, vs[u], e, by omega, h3⟩
theorem ks_byP : ∀ n, n ≤ 9 → ks_by n = FP.l2d (lN (10 ^ n)) := by decide +kernel
theorem kz_num (hT : kt_W T) (H : kt_St T 9 j σ) (HC : kz_cd C σ) (hl : C.length < 1002) (hn : kt_nu T 9 j = true) : ma_wp (F_X5_takeNumber σ) (fun r τ => kv_po (ks_num T j) (fun f q => r = 0 ∧ kc_bad f q τ ∧ ma_fr (fun g _ k => ¬ (g = 12 ∧ (k = 6 ∨ k = 7 ∨ k = 8)) ∧ ¬ (g = 19 ∧ k = 8)) σ τ) (fun x => r = 1 ∧ kt_St T 9 x.2 τ ∧ kz_cd (C ++ x.1) τ ∧ τ.1 19 0 8 = 2 ∧ ma_fr (fun g _ k => ¬ (g = 12 ∧ k = 6) ∧ ¬ (g = 19 ∧ k = 8) ∧ g ≠ 15 ∧ g ≠ 16 ∧ g ≠ 17) σ τ)) := by
  unfold F_X5_takeNumber ks_num
  refine ma_be (kc_value H) (ma_bd (kc_adv H) (fun _ τ1 q1 => ma_lt ?_))
  obtain ⟨H1, f1⟩ := q1
  rw [kt_nuV hn]
  have m2 : (ae_wI τ1 19 0 8 2).1 19 0 8 = 2 := ma_rI
  have f2 : ma_fr (fun g _ k => ¬ (g = 12 ∧ k = 6) ∧ ¬ (g = 19 ∧ k = 8)) σ (ae_wI τ1 19 0 8 2) := (f1.mo (fun g i k q => q.1)).tr (ma_fwI (by simp))
  have H2 : kt_St T 9 (j + 1) (ae_wI τ1 19 0 8 2) := H1.fr (P := fun g _ _ => g ≠ 19) (ma_fwI (by simp)) (by decide) (by decide) (fun _ _ => by decide) (fun _ => by decide)
  generalize ae_wI τ1 19 0 8 2 = τ2 at m2 f2 H2 ⊢
  have C2 : kz_cd C τ2 := HC.fr f2 (fun g _ _ _ _ => by omega)
  refine ma_be (kc_sign H2 hT (c := 46) (by decide)) ?_
  cases hs : kt_sg T (j + 1) 46 with
  | false =>
    rw [if_neg (c := false = true) (by decide)]
    refine ma_T rfl (ma_bd (kz_add C2 hl 1 (lN (kt_nv T j)) 0) (fun _ τ3 q3 => ma_ret (kv_por ⟨rfl, ?_, q3.2.1, ?_, ?_⟩)))
    · exact H2.fr q3.2.2 (by decide) (by decide) (fun _ _ => by decide) (fun _ => by decide)
    · exact (q3.2.2.i (by decide)).trans m2
    · exact (f2.mo (fun g i k q => by omega)).tr (q3.2.2.mo (fun g i k q => by omega))
  | true =>
    rw [if_pos (c := true = true) rfl]
    refine ma_F (by decide) (ma_bd (kc_adv H2) (fun _ τ3 q3 => ?_))
    obtain ⟨H3, f3⟩ := q3
    have H3 : kt_St T 9 (j + 2) τ3 := H3
    have f23 : ma_fr (fun g _ k => ¬ (g = 12 ∧ k = 6) ∧ ¬ (g = 19 ∧ k = 8)) σ τ3 := f2.tr (f3.mo (fun g i k q => q.1))
    have C3 : kz_cd C τ3 := C2.fr f3 (fun g _ _ _ _ => by omega)
    have m3 : τ3.1 19 0 8 = 2 := (f3.i (by omega)).trans m2
    refine ma_be (kc_num H3) ?_
    cases hn3 : kt_nu T 9 (j + 2) with
    | false =>
      rw [if_neg (c := false = true) (by decide)]
      refine ma_T rfl (ma_bd (kc_ref H3 1) (fun r τ q => ?_))
      obtain ⟨rfl, q⟩ := q
      exact ma_gd ma_z0 (ma_ret (kv_pol ⟨rfl, ⟨q.1, q.2.1⟩, (f23.mo (fun g i k q => by omega)).tr (q.2.2.mo (fun g i k q => by omega))⟩))
    | true =>
      rw [if_pos (c := true = true) rfl]
      have hd := (of_decide_eq_true hn3).2
      have fin : ma_wp (F_X5_takeNumber_107 (lN (kt_nv T j)) (lN (10 ^ kt_n T (j + 2))) τ3) (fun r τ => kv_po (.inr ([(2, ae_db (ks_dec T j), 0)], j + 3) : kv_O (ks_E × Nat)) (fun f q => r = 0 ∧ kc_bad f q τ ∧ ma_fr (fun g _ k => ¬ (g = 12 ∧ (k = 6 ∨ k = 7 ∨ k = 8)) ∧ ¬ (g = 19 ∧ k = 8)) σ τ) (fun x => r = 1 ∧ kt_St T 9 x.2 τ ∧ kz_cd (C ++ x.1) τ ∧ τ.1 19 0 8 = 2 ∧ ma_fr (fun g _ k => ¬ (g = 12 ∧ k = 6) ∧ ¬ (g = 19 ∧ k = 8) ∧ g ≠ 15 ∧ g ≠ 16 ∧ g ≠ 17) σ τ)) := by
        unfold F_X5_takeNumber_107
        refine ma_be (kc_value H3) ?_
        rw [kt_nuV hn3]
        refine ma_be (mg_ofWhole _ _) (ma_be (mg_ofWhole _ _) (ma_be (mg_div _ _ _) (ma_be (mg_ofWhole _ _) (ma_be (mg_add _ _ _) ?_))))
        rw [← ks_byP _ hd]
        refine ma_bd (kz_add C3 hl 2 _ 0) (fun _ τ4 q4 => ?_)
        have H4 : kt_St T 9 (j + 2) τ4 := H3.fr q4.2.2 (by decide) (by decide) (fun _ _ => by decide) (fun _ => by decide)
        refine ma_bd (kc_adv H4) (fun _ τ5 q5 => ma_ret (kv_por ⟨rfl, q5.1, q4.2.1.fr q5.2 (fun g _ _ _ _ => by omega), ?_, ?_⟩))
        · exact (q5.2.i (by omega)).trans ((q4.2.2.i (by decide)).trans m3)
        · exact ((f23.mo (fun g i k q => by omega)).tr (q4.2.2.mo (fun g i k q => by omega))).tr (q5.2.mo (fun g i k q => by omega))
      have loop : ∀ m n i, m < n → i + m = kt_n T (j + 2) → ma_wp (F_X5_takeNumber_76 n (lN (kt_nv T j)) (lN (10 ^ i)) (nI i) τ3) (fun r τ => kv_po (.inr ([(2, ae_db (ks_dec T j), 0)], j + 3) : kv_O (ks_E × Nat)) (fun f q => r = 0 ∧ kc_bad f q τ ∧ ma_fr (fun g _ k => ¬ (g = 12 ∧ (k = 6 ∨ k = 7 ∨ k = 8)) ∧ ¬ (g = 19 ∧ k = 8)) σ τ) (fun x => r = 1 ∧ kt_St T 9 x.2 τ ∧ kz_cd (C ++ x.1) τ ∧ τ.1 19 0 8 = 2 ∧ ma_fr (fun g _ k => ¬ (g = 12 ∧ k = 6) ∧ ¬ (g = 19 ∧ k = 8) ∧ g ≠ 15 ∧ g ≠ 16 ∧ g ≠ 17) σ τ)) := by
        intro m
        induction m with
        | zero =>
          intro n i hn2 hi
          obtain ⟨n, rfl⟩ : ∃ n2, n = n2 + 1 := ⟨n - 1, by omega⟩
          rw [F_X5_takeNumber_76]
          refine ma_be (kc_len H3) (ma_T (nI_le (by omega) (by omega)) ?_)
          rw [show i = kt_n T (j + 2) by omega]
          exact fin
        | succ m ih =>
          intro n i hn2 hi
          obtain ⟨n, rfl⟩ : ∃ n2, n = n2 + 1 := ⟨n - 1, by omega⟩
          rw [F_X5_takeNumber_76]
          refine ma_be (kc_len H3) (ma_F (nI_ge (by omega) (by omega)) (ma_F (nI_ge (b := 9) (by omega) (by decide)) (ma_lt (ma_lt ?_))))
          rw [nI_1, show (10 : Int64) = lN 10 from rfl, lN_mul, ← Nat.pow_succ]
          exact ih n (i + 1) (by omega) (by omega)
      exact ma_F (by decide) (loop (kt_n T (j + 2)) ae_fu 0 (by rw [ae_fu]; omega) (by omega))
end KZ
