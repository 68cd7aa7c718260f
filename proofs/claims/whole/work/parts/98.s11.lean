/-! the class reads groups and all statements -/
section KZ
variable {T : kt_T} {σ0 σ τ : ae_S} {p r o md j n t X : Nat} {vs : List mv_V} {C : ks_E} {W V : kz_W} {ps : List Nat} {Q : Int32 → ae_S → Prop}
theorem kz_cls (hV : kz_nif V) {b : Nat} (hb : b < C.length) (hq : ∀ q ∈ ps, q < C.length) (H : kz_St σ0 T vs p C (V ++ (kz_ifs ps).reverse ++ [(101, nI b, 0)]) (o + 1) md j σ) (b1 : C.length ≤ 1000) (b2 : V.length + ps.length ≤ 500) : ma_wp (F_X5_closeGroup σ) (fun _ τ => kz_St σ0 T vs p (ps.foldl kz_ld (kz_ld (C ++ [(18, 0, 0)]) b)) V o 0 (j + 1) τ) := by
  have lW := kz_lenI (V := V) (ps := ps)
  unfold F_X5_closeGroup
  refine ma_bd (kz_add H.2.1 (by omega) 18 0 0) (fun _ φ q => ?_)
  have H1 := H.add q.2.1 q.2.2
  refine ma_be (kz_top H1.2.2.1 (by rw [lW]; omega)).2.1 (ma_bd (kz_lead H1.2.1 (by rw [List.length_append, List.length_singleton]; omega) (by rw [List.length_append]; omega)) (fun _ ψ q1 => ?_))
  have H2 : kz_St σ0 T vs p (kz_ld (C ++ [(18, 0, 0)]) b) (V ++ (kz_ifs ps).reverse ++ [(101, nI b, 0)]) (o + 1) md j ψ := H1.mk (q1.2.mo (fun g i k q => by unfold kzF at q; omega)) (H1.1.fr q1.2 (by decide) (by decide) (fun _ _ => by decide) (fun _ => by decide)) q1.1 (H1.2.2.1.fr q1.2 (by decide) (fun _ _ => by decide)) ((q1.2.i (by decide)).trans H1.2.2.2.1) ((q1.2.i (by decide)).trans H1.2.2.2.2.1)
  refine ma_bd (kz_drop H2.2.2.1 (by rw [lW]; omega)) (fun _ χ q2 => ma_lt ?_)
  have H3 := H2.wt q2.1 (q2.2.mo (fun g i k q => q.1))
  rw [H3.2.2.2.1, show nI (o + 1) - 1 = nI o from nI_pred o]
  have H4 := H3.sop o
  refine ma_bd (kc_adv H4.1) (fun _ φ2 q3 => ?_)
  have H5 := H4.adv q3.2 q3.1
  exact ma_bd (kz_end hV (by omega) (by rw [kz_ldL, List.length_append, List.length_singleton]; omega) (fun q h => by have := hq q h; rw [kz_ldL, List.length_append]; omega) H5) (fun _ φ3 H6 => ma_ret H6)
theorem ks_sg41 {c : Nat} (h : kt_sg T j c = true) : (∀ i, kt_wd T j i = false) ∧ ∀ d, d ≠ c → kt_sg T j d = false := by
  have g := of_decide_eq_true h
  exact ⟨fun i => decide_eq_false (fun e => by omega), fun d hd => decide_eq_false (fun e => by omega)⟩
theorem kz_grpC (hT : kt_W T) {N m0 : Nat} (hS : kz_RS σ0 T vs p (ks_stm T vs N (o + 1)) (o + 1) (m0 + 1)) (hm : m0 ≤ j) (hV : kz_nif V) (hq : ∀ q ∈ ps, q < C.length) : ∀ (m : Nat) (c : ks_E) (j2 n t : Nat) (τ : ae_S), kz_St σ0 T vs p (C ++ [(17, 0, 0)] ++ c) (V ++ (kz_ifs ps).reverse ++ [(101, nI C.length, 0)]) (o + 1) 0 j2 τ → (C ++ [((17 : Int32), (0 : Int64), (0 : Int32))] ++ c).length ≤ 2 * j2 → V.length + ps.length + 1 ≤ j2 → t ≤ 2 * j2 → n + t = 4096 → j2 ≤ 500 → j < j2 → 502 ≤ m + j2 → kv_po (kv_bn (ks_grp T (ks_stm T vs N (o + 1)) m (C.length + 1) c j2) (fun x => (.inr ([(17, lN (C.length + 1 + x.1.length + 1), 0)] ++ x.1 ++ [(18, 0, 0)], x.2) : kv_O (ks_E × Nat)))) (fun f q => ∀ τ, kz_bad σ0 f q τ → Q 0 τ) (fun x => kz_KS σ0 T vs p Q V ps (C ++ x.1) o j x.2) → ma_wp (F_X5_compile_24 n (nI t) τ) Q := by
  intro m
  induction m with
  | zero => intro c j2 n t τ _ _ _ _ _ h5 _ hm; omega
  | succ m ih =>
    intro c j2 n t τ H b1 b2 b3 b4 b5 hj2 hmm hpo
    have lW := kz_lenI (V := V) (ps := ps)
    have lW1 : (V ++ (kz_ifs ps).reverse ++ [((101 : Int32), nI C.length, (0 : Int32))]).length = V.length + ps.length + 1 := by rw [List.length_append, List.length_singleton, lW]
    have lC : (C ++ [((17 : Int32), (0 : Int64), (0 : Int32))] ++ c).length = C.length + 1 + c.length := by rw [List.length_append, List.length_append, List.length_singleton]
    obtain ⟨n, rfl⟩ : ∃ n2, n = n2 + 1 := ⟨n - 1, by omega⟩
    refine kz_turn0 H (by rw [lW1]; omega) (by omega) ?_
    unfold ks_grp at hpo
    cases h41 : kt_sg T j2 41 with
    | true =>
      rw [h41, if_pos (c := true = true) rfl] at hpo
      have hpo : kz_KS σ0 T vs p Q V ps (C ++ ([(17, lN (C.length + 1 + c.length + 1), 0)] ++ c ++ [(18, 0, 0)])) o j (j2 + 1) := hpo
      have hs := ks_sg41 h41
      have hx5 := ks_jB hT (ks_sgT h41)
      unfold F_X5_takeStatement_19
      refine ma_be (kc_word H.1 (i := 7) (by decide)) ?_
      rw [hs.1]
      refine ma_T rfl (ma_be (kc_word H.1 (i := 8) (by decide)) ?_)
      rw [hs.1]
      refine ma_T rfl (ma_be (kc_sign H.1 hT (c := 40) (by decide)) ?_)
      rw [hs.2 40 (by decide)]
      refine ma_T rfl (ma_be (kc_sign H.1 hT (c := 41) (by decide)) ?_)
      rw [h41]
      refine ma_F (by decide) (ma_be (kz_top H.2.2.1 (by rw [lW]; omega)).1 (ma_T rfl ?_))
      refine ma_bd (kz_cls hV (b := C.length) (by rw [lC]; omega) (fun q h => by have := hq q h; rw [lC]; omega) H (by omega) (by omega)) (fun _ φ H2 => ma_ret (kz_R1 ?_))
      have ec : kz_ld (C ++ [(17, 0, 0)] ++ c ++ [(18, 0, 0)]) C.length = C ++ ([(17, lN (C.length + 1 + c.length + 1), 0)] ++ c ++ [(18, 0, 0)]) := by
        rw [List.append_assoc, kz_ldA, List.length_append, List.length_singleton, List.append_assoc, List.append_assoc, ← Nat.add_assoc]
      have el := congrArg List.length ec
      rw [kz_ldL, List.length_append, List.length_singleton] at el
      rw [ec] at H2
      exact hpo n (t + 1) φ ⟨by rw [← el]; omega, by omega, by omega, by omega, by omega⟩ (by omega) H2
    | false =>
      rw [h41, if_neg (c := false = true) (by decide)] at hpo
      have eW : (V ++ (kz_ifs ps).reverse ++ [((101 : Int32), nI C.length, (0 : Int32))]) ++ (kz_ifs []).reverse = V ++ (kz_ifs ps).reverse ++ [(101, nI C.length, 0)] := List.append_nil _
      refine hS j2 (by omega) (V ++ (kz_ifs ps).reverse ++ [(101, nI C.length, 0)]) [] (C ++ [(17, 0, 0)] ++ c) n t τ Q (.inr ⟨_, _, rfl, (by decide : (101 : Int32) ≠ 102)⟩) (fun q h => by simp at h) (fun h => by rw [h41] at h; exact absurd h (by decide)) (by rw [eW]; exact H) (by omega) (by rw [lW1]; exact b2) b3 b4 b5 ?_
      rw [lC]
      cases hv : ks_stm T vs N (o + 1) (C.length + 1 + c.length) j2 with
      | inl e => rw [hv] at hpo; exact hpo
      | inr x =>
        rw [hv] at hpo
        intro n4 t4 τ4 B4 hj4 H4
        have e4 : C ++ [(17, 0, 0)] ++ c ++ x.1 = C ++ [(17, 0, 0)] ++ (c ++ x.1) := List.append_assoc _ _ _
        obtain ⟨d1, d2, d3, d4, d5⟩ := B4
        have H4 : kz_St σ0 T vs p (C ++ [(17, 0, 0)] ++ c ++ x.1) (V ++ (kz_ifs ps).reverse ++ [(101, nI C.length, 0)]) (o + 1) 0 x.2 τ4 := H4
        rw [e4] at H4 d1
        exact ih (c ++ x.1) x.2 n4 t4 τ4 H4 (by omega) (by omega) (by omega) d4 d5 (by omega) (by omega) hpo
theorem kz_stm (hT : kt_W T) (hl : vs.length ≤ 16) (hf : ∀ w ∈ vs, (mv_fs w).length ≤ 8) : ∀ N, N ≤ 502 → ∀ o, o ≤ 5 → kz_RS σ0 T vs p (ks_stm T vs N o) o (502 - N) := by
  intro N
  induction N with
  | zero => intro _ o ho j hj V ps C n t σ Q _ _ _ _ _ _ _ _ h5; omega
  | succ N ih =>
    intro hN o ho j hj V ps C n t σ Q hV hq h101 H b1 b2 b3 b4 b5 hpo
    have e : 502 - N = 502 - (N + 1) + 1 := by omega
    have hI := ih (by omega)
    rw [e] at hI
    have lW := kz_lenI (V := V) (ps := ps)
    unfold ks_stm at hpo
    unfold F_X5_takeStatement_19 F_X5_takeStatement_155
    have tgt : kv_po (ks_set T vs o j) (fun f q => ∀ τ, kz_bad σ0 f q τ → Q 0 τ) (fun x => kz_KS σ0 T vs p Q V ps (C ++ x.1) o j x.2) → ma_wp (ae_bd (F_X5_takeTarget σ) (fun (r1 : Int32) s2 => ae_gd (ae_zz r1) (some (r1, s2)))) (kz_R Q n t) := fun h => ma_bd (kz_set hT hl hf ho hV hq H b1 b2 b3 b4 h) (fun r τ q => ma_gd q.1 (ma_ret q))
    refine ma_be (kc_word H.1 (i := 7) (by decide)) ?_
    cases h7 : kt_wd T j 7 with
    | true =>
      rw [h7, if_pos (c := true = true) rfl] at hpo
      exact ma_F (by decide) (kz_ifC hT hl hf ho (by omega) (hI o ho) hj hV hq H b1 b2 b3 b4 (ks_jB hT (ks_wdT h7)) hpo)
    | false =>
      rw [h7, if_neg (c := false = true) (by decide)] at hpo
      refine ma_T rfl (ma_be (kc_word H.1 (i := 8) (by decide)) ?_)
      cases h8 : kt_wd T j 8 with
      | true =>
        rw [h8, if_pos (c := true = true) rfl] at hpo
        exact ma_F (by decide) (kz_fail hT hV hq H b1 b2 b3 b4 (ks_jB hT (ks_wdT h8)) hpo)
      | false =>
        rw [h8, if_neg (c := false = true) (by decide)] at hpo
        refine ma_T rfl (ma_be (kc_sign H.1 hT (c := 40) (by decide)) ?_)
        cases h40 : kt_sg T j 40 with
        | true =>
          rw [h40, if_pos (c := true = true) rfl] at hpo
          have hj5 := ks_jB hT (ks_sgT h40)
          refine ma_F (by decide) (ma_bd (kz_add H.2.1 (by omega) 17 0 0) (fun r φ q => ?_))
          obtain ⟨rfl, q1, q2⟩ := q
          have H1 := H.add q1 q2
          refine ma_bd (P := kz_R Q n t) ?_ (fun r τ q => ma_gd q.1 (ma_ret q))
          unfold F_X5_takeOpening
          refine ma_ls o 5 H1.2.2.2.1 rfl (by omega) (by decide) (fun g => ma_lt ?_) (fun g => ?_)
          · rw [if_pos (c := o < 5) g] at hpo
            rw [H1.2.2.2.1, nI_1]
            have H2 := H1.sop (o + 1)
            refine ma_bd (kz_await H2.2.2.1 (by rw [lW]; omega) (101, nI C.length, 0)) (fun _ ψ q3 => ?_)
            have H3 := H2.wt q3.1 q3.2
            refine ma_bd (kc_adv H3.1) (fun _ χ q4 => ma_ret (kz_R1 ?_))
            have H4 := H3.adv q4.2 q4.1
            have e0 : C ++ [((17 : Int32), (0 : Int64), (0 : Int32))] ++ [] = C ++ [(17, 0, 0)] := List.append_nil _
            exact kz_grpC hT (hI (o + 1) (by omega)) hj hV hq 502 [] (j + 1) n (t + 1) χ (by rw [e0]; exact H4) (by rw [e0, List.length_append, List.length_singleton]; omega) (by omega) (by omega) (by omega) hj5 (by omega) (by omega) hpo
          · rw [if_neg (c := o < 5) (by omega)] at hpo
            refine ma_bd (kc_ref H1.1 5) (fun r τ q => ?_)
            obtain ⟨rfl, q1, q2, q3⟩ := q
            exact ma_gd ma_z0 (ma_ret (kz_R0 (hpo τ (H1.bd ⟨q1, q2⟩ (q3.mo (fun g i k q => by omega))))))
        | false =>
          rw [h40, if_neg (c := false = true) (by decide)] at hpo
          refine ma_T rfl (ma_be (kc_sign H.1 hT (c := 41) (by decide)) ?_)
          cases h41 : kt_sg T j 41 with
          | false => exact ma_T rfl (tgt hpo)
          | true =>
            refine ma_F (by decide) ?_
            rcases h101 h41 with e0 | ⟨U, w, e0, hw⟩
            · have H2 := H
              rw [e0] at H2
              exact ma_be (kz_top0 H2.2.2.1).1 (ma_F (by decide) (tgt hpo))
            · have H2 := H
              rw [e0] at H2
              have hU : U.length < 501 := by
                have := congrArg List.length e0
                rw [lW, List.length_append, List.length_singleton] at this
                omega
              exact ma_be (kz_top H2.2.2.1 hU).1 (ma_F hw (tgt hpo))
end KZ
