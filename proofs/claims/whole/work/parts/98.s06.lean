/-! the class reads factors: whole expressions -/
section KZ
variable {T : kt_T} {σ0 σ τ : ae_S} {p r o md j n t X : Nat} {vs : List mv_V} {C : ks_E} {W R : kz_W} {Q : Int32 → ae_S → Prop}
theorem ks_opK : ks_rk (ks_op T j) < 4 := by
  unfold ks_op
  repeat' split
  all_goals decide
theorem kz_K.nil {c0 : ks_E} {j0 : Nat} (hK : kz_K σ0 T vs p Q 4 X W c0 o j0 j) (B : kz_Bd c0 X W j t n) (hj : j0 < j) (H : kz_St σ0 T vs p c0 W o 2 j τ) : ma_wp (F_X5_compile_24 n (nI t) τ) Q :=
  hK n t c0 [] τ (List.append_nil _) B B.2.1 hj ks_opK (fun w hw => by simp at hw) (by rw [List.reverse_nil, List.append_nil]; exact H)
theorem ks_numB (hT : kt_W T) (hn : kt_nu T 9 j = true) {x : ks_E × Nat} (h : ks_num T j = .inr x) : j < x.2 ∧ x.1.length = 1 ∧ x.2 ≤ 500 := by
  unfold ks_num at h
  have := ks_jB hT (ks_nuT hn)
  split at h
  · split at h
    · rename_i h2
      have := ks_jB hT (ks_nuT h2)
      have h := Sum.inr.inj h
      rw [← h]
      exact ⟨by show j < j + 3; omega, rfl, by show j + 3 ≤ 500; omega⟩
    · cases h
  · have h := Sum.inr.inj h
    rw [← h]
    exact ⟨by show j < j + 1; omega, rfl, by show j + 1 ≤ 500; omega⟩
theorem ks_namB {v : Int32} (h : ks_nam T vs j = .inr v) : kt_ty T j ≠ 0 := by
  unfold ks_nam at h
  split at h
  · rename_i h2; exact ks_nmT h2
  · cases h
theorem ks_fldB (hT : kt_W T) {v : Int32} {y : Int32 × Nat} (h : ks_fld T vs v j = .inr y) : j ≤ y.2 ∧ (j ≤ 500 → y.2 ≤ 500) := by
  unfold ks_fld at h
  split at h
  · split at h
    · rename_i h2
      have := ks_jB hT (ks_nmT h2)
      split at h
      · cases h
      · have h := Sum.inr.inj h
        rw [← h]
        exact ⟨by show j ≤ j + 2; omega, fun _ => by show j + 2 ≤ 500; omega⟩
    · cases h
  · have h := Sum.inr.inj h
    rw [← h]
    exact ⟨Nat.le_refl _, fun g => g⟩
theorem kz_len {C : ks_E} {R : kz_W} {c0 : ks_E} (e : C ++ kz_ops R = c0) : C.length + R.length = c0.length := by rw [← e, List.length_append]; unfold kz_ops; rw [List.length_map]
theorem kz_facC (hT : kt_W T) (hl : vs.length ≤ 16) (hf : ∀ w ∈ vs, (mv_fs w).length ≤ 8) {A F : Nat → Nat → kv_O (ks_E × Nat)} {m0 : Nat} (hF : ∀ o, o ≤ 5 → kz_Rd σ0 T vs p 4 5 (F o) o (m0 + 1)) (hA : ∀ o, o ≤ 5 → kz_RA σ0 T vs p (A o) o (m0 + 1)) (ho : o ≤ 5) : kz_Rd σ0 T vs p 4 5 (ks_fac T vs A F o) o m0 := by
  intro j hj X W C n t σ Q _ H B hpo
  obtain ⟨b1, b2, b3, b4, b5⟩ := B
  obtain ⟨n, rfl⟩ : ∃ n2, n = n2 + 1 := ⟨n - 1, by omega⟩
  unfold ks_fac at hpo
  refine kz_turn1 H (by omega) ?_
  unfold F_X5_takeOperand
  refine ma_be (kc_sign H.1 hT (c := 45) (by decide)) ?_
  cases h45 : kt_sg T j 45 with
  | true =>
    rw [h45, if_pos (c := true = true) rfl] at hpo
    have hj5 := ks_jB hT (ks_sgT h45)
    refine ma_F (by decide) (ma_bd (kc_adv H.1) (fun _ φ q => ?_))
    have H1 := H.adv q.2 q.1
    refine ma_bd (kz_await H1.2.2.1 (by omega) (6, 0, 0)) (fun _ ψ q2 => ma_ret (.inr ⟨rfl, ?_⟩))
    have H2 := H1.wt q2.1 q2.2
    have lW : (W ++ [((6 : Int32), (0 : Int32), (0 : Int32))]).length = W.length + 1 := by rw [List.length_append, List.length_singleton]
    refine hF o ho (j + 1) (by omega) (X + 1) (W ++ [(6, 0, 0)]) C n (t + 1) ψ Q (.inr ⟨W, _, rfl, by decide⟩) H2 ⟨by omega, by omega, by omega, by omega, by omega⟩ ?_
    cases hv : F o (j + 1) with
    | inl e => rw [hv] at hpo; exact hpo
    | inr x =>
      rw [hv] at hpo
      have hpo : kz_K σ0 T vs p Q 4 X W (C ++ (x.1 ++ [(6, 0, 0)])) o j x.2 := hpo
      intro n3 t3 C3 R3 τ3 e3 B3 hW3 hj3 hk3 hR3 H3
      rw [lW] at hW3
      obtain ⟨d1, d2, d3, d4, d5⟩ := B3
      have e4 : C3 ++ kz_ops (R3 ++ [(6, 0, 0)]) = C ++ (x.1 ++ [(6, 0, 0)]) := by rw [kz_opsA, ← List.append_assoc, e3, List.append_assoc]
      have l4 : (C ++ (x.1 ++ [((6 : Int32), (0 : Int64), (0 : Int32))])).length = (C ++ x.1).length + 1 := by rw [← List.append_assoc, List.length_append, List.length_singleton]
      refine hpo n3 t3 C3 (R3 ++ [(6, 0, 0)]) τ3 e4 ⟨by rw [l4]; omega, by omega, by omega, d4, d5⟩ (by rw [List.length_append, List.length_singleton]; omega) (by omega) hk3 (fun w hw => ?_) ?_
      · rcases List.mem_append.mp hw with h | h
        · exact hR3 w h
        · rw [List.mem_singleton.mp h]; decide
      · rw [List.reverse_append, ← List.append_assoc]
        exact H3
  | false =>
    rw [h45, if_neg (c := false = true) (by decide)] at hpo
    refine ma_T rfl (ma_be (kc_sign H.1 hT (c := 40) (by decide)) ?_)
    cases h40 : kt_sg T j 40 with
    | true =>
      rw [h40, if_pos (c := true = true) rfl] at hpo
      have hj5 := ks_jB hT (ks_sgT h40)
      refine ma_F (by decide) (ma_bd (P := fun r τ => ae_zz r = true ∧ ((r = 0 ∧ Q 0 τ) ∨ (r = 1 ∧ ma_wp (F_X5_compile_24 n (nI (t + 1)) τ) Q))) ?_ (fun r τ q => ma_gd q.1 (ma_ret q.2)))
      unfold F_X5_takeOpening
      refine ma_ls o 5 H.2.2.2.1 rfl (by omega) (by decide) (fun g => ma_lt ?_) (fun g => ?_)
      · rw [if_pos (c := o < 5) g] at hpo
        rw [H.2.2.2.1, nI_1]
        have H1 := H.sop (o + 1)
        generalize ae_wI σ 19 0 7 (nI (o + 1)) = φ at H1 ⊢
        refine ma_bd (kz_await H1.2.2.1 (by omega) (106, 0, 0)) (fun _ ψ q2 => ?_)
        have H2 := H1.wt q2.1 q2.2
        refine ma_bd (kc_adv H2.1) (fun _ χ q3 => ma_ret ⟨ma_z1, .inr ⟨rfl, ?_⟩⟩)
        have H3 := H2.adv q3.2 q3.1
        have lW : (W ++ [((106 : Int32), (0 : Int32), (0 : Int32))]).length = W.length + 1 := by rw [List.length_append, List.length_singleton]
        refine hA (o + 1) (by omega) (j + 1) (by omega) X (W ++ [(106, 0, 0)]) C n (t + 1) χ Q (.inr ⟨W, _, rfl, by decide⟩) H3 ⟨by omega, by omega, by omega, by omega, by omega⟩ ?_
        cases hv : A (o + 1) (j + 1) with
        | inl e => rw [hv] at hpo; exact hpo
        | inr x =>
          rw [hv] at hpo
          have hpo : kv_po (if kt_sg T x.2 41 = true then .inr (x.1, x.2 + 1) else (.inl (1, kt_s T x.2) : kv_O (ks_E × Nat))) (fun f q => ∀ τ, kz_bad σ0 f q τ → Q 0 τ) (fun x => kz_K σ0 T vs p Q 4 X W (C ++ x.1) o j x.2) := hpo
          intro n3 t3 C3 R3 τ3 e3 B3 hW3 hj3 hcase H4
          rw [lW] at hW3
          have hlen := kz_len e3
          obtain ⟨d1, d2, d3, d4, d5⟩ := B3
          obtain ⟨n3, rfl⟩ : ∃ n2, n3 = n2 + 1 := ⟨n3 - 1, by omega⟩
          refine kz_turn2 H4 (by omega) ?_
          rcases hcase with ⟨hop, hR⟩ | ⟨hop, R2, w, rfl, hw, hR2⟩
          · refine kz_behA hT H4 (by decide) hop hR (by omega) (by omega) (fun φ2 Hφ => ?_)
            rw [e3] at Hφ
            unfold kz_sw
            refine ma_F (by decide) (ma_F (by decide) (ma_F (by decide) (ma_T rfl (ma_bd (kz_drop Hφ.2.2.1 (by omega)) (fun _ φ3 q5 => ma_lt ?_)))))
            have H5 := Hφ.wt q5.1 (q5.2.mo (fun g i k q => q.1))
            rw [H5.2.2.2.1, show nI (o + 1) - 1 = nI o from nI_pred o]
            have H6 := H5.sop o
            generalize ae_wI φ3 19 0 7 (nI o) = φ4 at H6 ⊢
            refine ma_bd (kz_sign hT H6 (c := 41) (by decide)) (fun r φ5 q6 => ?_)
            rcases q6 with ⟨hs, rfl, H7⟩ | ⟨hs, rfl, hb⟩
            · rw [hs, if_pos (c := true = true) rfl] at hpo
              have hpo : kz_K σ0 T vs p Q 4 X W (C ++ x.1) o j (x.2 + 1) := hpo
              have hx5 := ks_jB hT (ks_sgT hs)
              exact ma_gd ma_z1 (ma_ret (.inr ⟨rfl, hpo.nil ⟨by omega, by omega, by omega, by omega, by omega⟩ (by omega) H7⟩))
            · rw [hs, if_neg (c := false = true) (by decide)] at hpo
              exact ma_gd ma_z0 (ma_ret (.inl ⟨rfl, hpo φ5 hb⟩))
          · rw [ks_opS hop (by decide), if_neg (c := false = true) (by decide)] at hpo
            rw [List.length_append, List.length_singleton] at hW3 hlen
            exact ma_mono (kz_behB hT H4 hw hop hR2 (by rw [lW]; omega) (by omega)) (fun r τ q => .inl ⟨q.1, hpo τ q.2⟩)
      · rw [if_neg (c := o < 5) (by omega)] at hpo
        refine ma_bd (kc_ref H.1 5) (fun r τ q => ?_)
        obtain ⟨rfl, q1, q2, q3⟩ := q
        exact ma_gd ma_z0 (ma_ret ⟨ma_z0, .inl ⟨rfl, hpo τ (H.bd ⟨q1, q2⟩ (q3.mo (fun g i k q => by omega)))⟩⟩)
    | false =>
      rw [h40, if_neg (c := false = true) (by decide)] at hpo
      refine ma_T rfl (ma_be (kc_num H.1) ?_)
      cases hnu : kt_nu T 9 j with
      | true =>
        rw [hnu, if_pos (c := true = true) rfl] at hpo
        refine ma_F (by decide) (ma_bd (kz_num hT H.1 H.2.1 (by omega) hnu) (fun r τ q => ?_))
        cases hv : ks_num T j with
        | inl e =>
          rw [hv] at hpo q
          obtain ⟨rfl, hb, f⟩ := q
          exact ma_gd ma_z0 (ma_ret (.inl ⟨rfl, hpo τ ⟨hb, (kzG_F H.2.2.2.2.2.2).tr (f.mo (fun g i k q => by unfold kzG at q; omega))⟩⟩))
        | inr x =>
          rw [hv] at hpo q
          have hpo : kz_K σ0 T vs p Q 4 X W (C ++ x.1) o j x.2 := hpo
          obtain ⟨rfl, S, c1, m1, f⟩ := q
          have hB := ks_numB hT hnu hv
          have H1 : kz_St σ0 T vs p (C ++ x.1) W o 2 x.2 τ := H.mk (f.mo (fun g i k q => by unfold kzF at q; omega)) S c1 (H.2.2.1.fr f (by omega) (fun _ _ => by omega)) ((f.i (by omega)).trans H.2.2.2.1) m1
          exact ma_gd ma_z1 (ma_ret (.inr ⟨rfl, hpo.nil ⟨by rw [List.length_append]; omega, by omega, by omega, by omega, hB.2.2⟩ hB.1 H1⟩))
      | false =>
        rw [hnu, if_neg (c := false = true) (by decide)] at hpo
        refine ma_T rfl (ma_bd (kz_nam H.1 H.2.2.2.2.2.1 hl) (fun r τ q => ?_))
        unfold ks_plc at hpo
        cases hv : ks_nam T vs j with
        | inl e =>
          rw [hv] at hpo q
          obtain ⟨rfl, hb, f⟩ := q
          exact ma_T rfl (ma_ret (.inl ⟨rfl, hpo τ (H.bd hb (f.mo (fun g i k q => by omega)))⟩))
        | inr v =>
          rw [hv] at hpo q
          obtain ⟨rfl, ⟨u, hu, rfl⟩, S, f⟩ := q
          have hj5 := ks_jB hT (ks_namB hv)
          have hne : nI u ≠ -1 := by
            have : ∀ i, i < 16 → nI i ≠ -1 := by decide
            exact this u (by omega)
          have H1 := H.adv f S
          refine ma_F hne (ma_be (kc_sign H1.1 hT (c := 91) (by decide)) ?_)
          have hpo : kv_po (kv_bn (if kt_sg T (j + 1) 91 = true then kv_bn (A o (j + 2)) (fun x => if kt_sg T x.2 93 = true then kv_bn (ks_fld T vs (nI u) (x.2 + 1)) (fun y => .inr ((nI u, x.1 ++ [(3, (nI u).toInt64, 0)], y.1), y.2)) else .inl (1, kt_s T x.2)) else kv_bn (ks_fld T vs (nI u) (j + 1)) (fun y => .inr ((nI u, [(1, 0, 0)], y.1), y.2))) (fun x => (.inr (x.1.2.1 ++ [(4, x.1.1.toInt64, x.1.2.2)], x.2) : kv_O (ks_E × Nat)))) (fun f q => ∀ τ, kz_bad σ0 f q τ → Q 0 τ) (fun x => kz_K σ0 T vs p Q 4 X W (C ++ x.1) o j x.2) := hpo
          cases h91 : kt_sg T (j + 1) 91 with
          | false =>
            rw [h91, if_neg (c := false = true) (by decide)] at hpo
            refine ma_T rfl (ma_bd (kz_add H1.2.1 (by omega) 1 0 0) (fun _ φ q2 => ?_))
            have H2 := H1.add q2.2.1 q2.2.2
            refine ma_bd (kz_load hT hl hf H2 hu (by rw [List.length_append, List.length_singleton]; omega)) (fun r ψ q3 => ?_)
            cases hv2 : ks_fld T vs (nI u) (j + 1) with
            | inl e =>
              rw [hv2] at hpo q3
              obtain ⟨rfl, hb⟩ := q3
              exact ma_gd ma_z0 (ma_ret (.inl ⟨rfl, hpo ψ hb⟩))
            | inr y =>
              rw [hv2] at hpo q3
              have hpo : kz_K σ0 T vs p Q 4 X W (C ++ ([(1, 0, 0)] ++ [(4, (nI u).toInt64, y.1)])) o j y.2 := hpo
              obtain ⟨rfl, H3⟩ := q3
              have hB := ks_fldB hT hv2
              have h500 := hB.2 hj5
              rw [List.append_assoc] at H3
              exact ma_gd ma_z1 (ma_ret (.inr ⟨rfl, hpo.nil ⟨by rw [List.length_append]; show C.length + 2 + X ≤ _; omega, by omega, by omega, by omega, h500⟩ (by omega) H3⟩))
          | true =>
            rw [h91, if_pos (c := true = true) rfl] at hpo
            have hj6 := ks_jB hT (ks_sgT h91)
            refine ma_F (by decide) (ma_bd (kc_adv H1.1) (fun _ φ q2 => ?_))
            have H2 := H1.adv q2.2 q2.1
            refine ma_bd (kz_await H2.2.2.1 (by omega) (107, nI u, 0)) (fun _ ψ q3 => ma_ret (.inr ⟨rfl, ?_⟩))
            have H3 := H2.wt q3.1 q3.2
            have lW : (W ++ [((107 : Int32), nI u, (0 : Int32))]).length = W.length + 1 := by rw [List.length_append, List.length_singleton]
            refine hA o ho (j + 2) (by omega) (X + 2) (W ++ [(107, nI u, 0)]) C n (t + 1) ψ Q (.inr ⟨W, _, rfl, (by decide : ks_rk 107 < 1)⟩) H3 ⟨by omega, by omega, by omega, by omega, by omega⟩ ?_
            cases hv2 : A o (j + 2) with
            | inl e => rw [hv2] at hpo; exact hpo
            | inr x =>
              rw [hv2] at hpo
              have hpo : kv_po (kv_bn (if kt_sg T x.2 93 = true then kv_bn (ks_fld T vs (nI u) (x.2 + 1)) (fun y => .inr ((nI u, x.1 ++ [(3, (nI u).toInt64, 0)], y.1), y.2)) else (.inl (1, kt_s T x.2) : kv_O ((Int32 × ks_E × Int32) × Nat))) (fun x => (.inr (x.1.2.1 ++ [(4, x.1.1.toInt64, x.1.2.2)], x.2) : kv_O (ks_E × Nat)))) (fun f q => ∀ τ, kz_bad σ0 f q τ → Q 0 τ) (fun x => kz_K σ0 T vs p Q 4 X W (C ++ x.1) o j x.2) := hpo
              intro n3 t3 C3 R3 τ3 e3 B3 hW3 hj3 hcase H4
              rw [lW] at hW3
              have hlen := kz_len e3
              obtain ⟨d1, d2, d3, d4, d5⟩ := B3
              obtain ⟨n3, rfl⟩ : ∃ n2, n3 = n2 + 1 := ⟨n3 - 1, by omega⟩
              refine kz_turn2 H4 (by omega) ?_
              rcases hcase with ⟨hop, hR⟩ | ⟨hop, R2, w, rfl, hw, hR2⟩
              · refine kz_behA hT H4 (by decide : ks_rk 107 = 0) hop hR (by omega) (by omega) (fun φ2 Hφ => ?_)
                rw [e3] at Hφ
                unfold kz_sw F_X5_takeBehind_128 F_X5_takeBehind_129
                refine ma_F (by decide : ¬ (107 : Int32) = 103) (ma_F (by decide : ¬ (107 : Int32) = 104) (ma_F (by decide : ¬ (107 : Int32) = 105) (ma_F (by decide : ¬ (107 : Int32) = 106) (ma_T rfl (ma_bd (kz_drop Hφ.2.2.1 (by omega)) (fun _ φ3 q5 => ?_))))))
                have H5 := Hφ.wt q5.1 (q5.2.mo (fun g i k q => q.1))
                refine ma_bd (kz_add H5.2.1 (by omega) 3 ((nI u).toInt64) 0) (fun _ φ4 q6 => ?_)
                have H6 := H5.add q6.2.1 q6.2.2
                refine ma_bd (kz_sign hT H6 (c := 93) (by decide)) (fun r φ5 q7 => ?_)
                rcases q7 with ⟨hs, rfl, H7⟩ | ⟨hs, rfl, hb⟩
                · rw [hs, if_pos (c := true = true) rfl] at hpo
                  have hx5 := ks_jB hT (ks_sgT hs)
                  refine ma_F ma_01 (ma_bd (kz_load hT hl hf H7 hu (by rw [List.length_append, List.length_singleton]; omega)) (fun r φ6 q8 => ?_))
                  cases hv3 : ks_fld T vs (nI u) (x.2 + 1) with
                  | inl e =>
                    rw [hv3] at hpo q8
                    obtain ⟨rfl, hb⟩ := q8
                    exact ma_T rfl (ma_gd ma_z0 (ma_ret (.inl ⟨rfl, hpo φ6 hb⟩)))
                  | inr y =>
                    rw [hv3] at hpo q8
                    have hpo : kz_K σ0 T vs p Q 4 X W (C ++ ((x.1 ++ [(3, (nI u).toInt64, 0)]) ++ [(4, (nI u).toInt64, y.1)])) o j y.2 := hpo
                    obtain ⟨rfl, H8⟩ := q8
                    have hB := ks_fldB hT hv3
                    have h500 := hB.2 hx5
                    have el : C ++ ((x.1 ++ [(3, (nI u).toInt64, (0 : Int32))]) ++ [(4, (nI u).toInt64, y.1)]) = C ++ x.1 ++ [(3, (nI u).toInt64, 0)] ++ [(4, (nI u).toInt64, y.1)] := by rw [List.append_assoc, List.append_assoc, List.append_assoc]
                    rw [el] at hpo
                    exact ma_F ma_01 (ma_gd ma_z1 (ma_ret (.inr ⟨rfl, hpo.nil ⟨by rw [List.length_append, List.length_append, List.length_singleton, List.length_singleton]; omega, by omega, by omega, by omega, h500⟩ (by omega) H8⟩)))
                · rw [hs, if_neg (c := false = true) (by decide)] at hpo
                  exact ma_T rfl (ma_gd ma_z0 (ma_ret (.inl ⟨rfl, hpo φ5 hb⟩)))
              · rw [ks_opS hop (by decide), if_neg (c := false = true) (by decide)] at hpo
                rw [List.length_append, List.length_singleton] at hW3 hlen
                exact ma_mono (kz_behB hT H4 hw hop hR2 (by rw [lW]; omega) (by omega)) (fun r τ q => .inl ⟨q.1, hpo τ q.2⟩)
theorem kz_X (hT : kt_W T) (hl : vs.length ≤ 16) (hf : ∀ w ∈ vs, (mv_fs w).length ≤ 8) : ∀ N, N ≤ 502 → ∀ o, o ≤ 5 → kz_Rd σ0 T vs p 4 5 ((ks_X T vs N).1 o) o (502 - N) ∧ kz_RA σ0 T vs p ((ks_X T vs N).2 o) o (502 - N) := by
  intro N
  induction N with
  | zero => exact fun _ o ho => ⟨fun j hj X W C n t σ Q _ _ B => by have := B.2.2.2.2; omega, fun j hj X W C n t σ Q _ _ B => by have := B.2.2.2.2; omega⟩
  | succ N ih =>
    intro hN o ho
    have e : 502 - N = 502 - (N + 1) + 1 := by omega
    have h := ih (by omega)
    rw [e] at h
    have hfac : kz_Rd σ0 T vs p 4 5 (ks_fac T vs (ks_X T vs N).2 (ks_X T vs N).1 o) o (502 - (N + 1)) := kz_facC hT hl hf (fun o ho => (h o ho).1) (fun o ho => (h o ho).2) ho
    exact ⟨hfac, kz_all hT hfac⟩
theorem kz_ex (hT : kt_W T) (hl : vs.length ≤ 16) (hf : ∀ w ∈ vs, (mv_fs w).length ≤ 8) (ho : o ≤ 5) : kz_RA σ0 T vs p (ks_ex T vs o) o 0 := (kz_X hT hl hf 502 (Nat.le_refl _) o ho).2
end KZ
