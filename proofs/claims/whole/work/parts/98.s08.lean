/-! the class reads what sets an element -/
section KZ
variable {T : kt_T} {σ0 σ τ : ae_S} {p r o md j n t X : Nat} {vs : List mv_V} {C : ks_E} {W V : kz_W} {ps : List Nat} {Q : Int32 → ae_S → Prop}
def kz_R (Q : Int32 → ae_S → Prop) (n t : Nat) (r : Int32) (τ : ae_S) : Prop := ae_zz r = true ∧ ((r = 0 ∧ Q 0 τ) ∨ (r = 1 ∧ ma_wp (F_X5_compile_24 n (nI (t + 1)) τ) Q))
theorem kz_R0 (h : Q 0 τ) : kz_R Q n t 0 τ := ⟨ma_z0, .inl ⟨rfl, h⟩⟩
theorem kz_R1 (h : ma_wp (F_X5_compile_24 n (nI (t + 1)) τ) Q) : kz_R Q n t 1 τ := ⟨ma_z1, .inr ⟨rfl, h⟩⟩
def ks_vl (T : kt_T) (vs : List mv_V) (o : Nat) (v : Int32) (c : ks_E) (z : Int32 × Nat) : kv_O (ks_E × Nat) := kv_bn (ks_ex T vs o z.2) (fun y => if kt_sg T y.2 59 = true then .inr (c ++ y.1 ++ [(5, v.toInt64, z.1)], y.2 + 1) else .inl (1, kt_s T y.2))
theorem ks_setE (v : Int32) (c : ks_E) (j : Nat) : kv_bn (kv_bn (ks_fld T vs v j) (fun y => (.inr ((v, c, y.1), y.2) : kv_O ((Int32 × ks_E × Int32) × Nat)))) (fun x => if kt_sg T x.2 61 = true then kv_bn (ks_ex T vs o (x.2 + 1)) (fun y => if kt_sg T y.2 59 = true then .inr (x.1.2.1 ++ y.1 ++ [(5, x.1.1.toInt64, x.1.2.2)], y.2 + 1) else .inl (1, kt_s T y.2)) else (.inl (1, kt_s T x.2) : kv_O (ks_E × Nat))) = kv_bn (ks_eq T vs v j) (ks_vl T vs o v c) := by
  unfold ks_eq
  cases ks_fld T vs v j with
  | inl e => rfl
  | inr y =>
    show (if kt_sg T y.2 61 = true then _ else _) = kv_bn (if kt_sg T y.2 61 = true then _ else _) _
    cases kt_sg T y.2 61 with
    | true => rfl
    | false => rfl
theorem ks_poC {P : ks_E → Nat → Prop} {A : Int32 → Nat → Prop} {v : Int32} {c : ks_E} {z : Int32 × Nat} (h : kv_po (ks_vl T vs o v c z) A (fun x => P (C ++ x.1) x.2)) : kv_po (kv_bn (ks_ex T vs o z.2) (fun y => if kt_sg T y.2 59 = true then .inr (y.1 ++ [(5, v.toInt64, z.1)], y.2 + 1) else (.inl (1, kt_s T y.2) : kv_O (ks_E × Nat)))) A (fun x => P ((C ++ c) ++ x.1) x.2) := by
  unfold ks_vl at h
  cases ho : ks_ex T vs o z.2 with
  | inl e => rw [ho] at h; exact h
  | inr y =>
    rw [ho] at h
    have h : kv_po (if kt_sg T y.2 59 = true then .inr (c ++ y.1 ++ [(5, v.toInt64, z.1)], y.2 + 1) else (.inl (1, kt_s T y.2) : kv_O (ks_E × Nat))) A (fun x => P (C ++ x.1) x.2) := h
    show kv_po (if kt_sg T y.2 59 = true then .inr (y.1 ++ [(5, v.toInt64, z.1)], y.2 + 1) else (.inl (1, kt_s T y.2) : kv_O (ks_E × Nat))) A (fun x => P ((C ++ c) ++ x.1) x.2)
    cases hs : kt_sg T y.2 59 with
    | true =>
      rw [hs, if_pos (c := true = true) rfl] at h
      rw [if_pos (c := true = true) rfl]
      have h : P (C ++ (c ++ y.1 ++ [(5, v.toInt64, z.1)])) (y.2 + 1) := h
      show P ((C ++ c) ++ (y.1 ++ [(5, v.toInt64, z.1)])) (y.2 + 1)
      rw [List.append_assoc, ← List.append_assoc c]
      exact h
    | false =>
      rw [hs, if_neg (c := false = true) (by decide)] at h
      rw [if_neg (c := false = true) (by decide)]
      exact h
theorem kz_set (hT : kt_W T) (hl : vs.length ≤ 16) (hf : ∀ w ∈ vs, (mv_fs w).length ≤ 8) (ho : o ≤ 5) (hV : kz_nif V) (hq : ∀ q ∈ ps, q < C.length) (H : kz_St σ0 T vs p C (V ++ (kz_ifs ps).reverse) o md j σ) (b1 : C.length ≤ 2 * j + 1) (b2 : V.length + ps.length ≤ j) (b3 : t ≤ 2 * j) (b4 : n + 1 + t = 4096) (hpo : kv_po (ks_set T vs o j) (fun f q => ∀ τ, kz_bad σ0 f q τ → Q 0 τ) (fun x => kz_KS σ0 T vs p Q V ps (C ++ x.1) o j x.2)) : ma_wp (F_X5_takeTarget σ) (kz_R Q n t) := by
  have lW : (V ++ (kz_ifs ps).reverse).length = V.length + ps.length := by rw [List.length_append, List.length_reverse]; unfold kz_ifs; rw [List.length_map]
  unfold F_X5_takeTarget
  unfold ks_set ks_plc at hpo
  refine ma_bd (kz_nam H.1 H.2.2.2.2.2.1 hl) (fun r φ q => ?_)
  cases hv : ks_nam T vs j with
  | inl e =>
    rw [hv] at hpo q
    obtain ⟨rfl, hb, f⟩ := q
    exact ma_T rfl (ma_ret (kz_R0 (hpo φ (H.bd hb (f.mo (fun g i k q => by omega))))))
  | inr v =>
    rw [hv] at hpo q
    obtain ⟨rfl, ⟨u, hu, rfl⟩, S, f⟩ := q
    have hj5 := ks_jB hT (ks_namB hv)
    have hne : nI u ≠ -1 := by
      have : ∀ i, i < 16 → nI i ≠ -1 := by decide
      exact this u (by omega)
    have H1 := H.adv f S
    have hpo : kv_po (kv_bn (if kt_sg T (j + 1) 91 = true then kv_bn (ks_ex T vs o (j + 2)) (fun x => if kt_sg T x.2 93 = true then kv_bn (ks_fld T vs (nI u) (x.2 + 1)) (fun y => .inr ((nI u, x.1 ++ [(3, (nI u).toInt64, 0)], y.1), y.2)) else .inl (1, kt_s T x.2)) else kv_bn (ks_fld T vs (nI u) (j + 1)) (fun y => (.inr ((nI u, [(1, 0, 0)], y.1), y.2) : kv_O ((Int32 × ks_E × Int32) × Nat)))) (fun x => if kt_sg T x.2 61 = true then kv_bn (ks_ex T vs o (x.2 + 1)) (fun y => if kt_sg T y.2 59 = true then .inr (x.1.2.1 ++ y.1 ++ [(5, x.1.1.toInt64, x.1.2.2)], y.2 + 1) else .inl (1, kt_s T y.2)) else (.inl (1, kt_s T x.2) : kv_O (ks_E × Nat)))) (fun f q => ∀ τ, kz_bad σ0 f q τ → Q 0 τ) (fun x => kz_KS σ0 T vs p Q V ps (C ++ x.1) o j x.2) := hpo
    refine ma_F hne (ma_be (kc_sign H1.1 hT (c := 91) (by decide)) ?_)
    cases h91 : kt_sg T (j + 1) 91 with
    | false =>
      rw [h91, if_neg (c := false = true) (by decide), ks_setE] at hpo
      refine ma_T rfl (ma_bd (kz_add H1.2.1 (by omega) 1 0 0) (fun _ ψ q2 => ?_))
      have H2 := H1.add q2.2.1 q2.2.2
      refine ma_bd (kz_equ hT hl hf H2 hu (by rw [lW]; omega)) (fun r χ q3 => ?_)
      cases hv2 : ks_eq T vs (nI u) (j + 1) with
      | inl e =>
        rw [hv2] at hpo q3
        obtain ⟨rfl, hb⟩ := q3
        exact ma_gd ma_z0 (ma_ret (kz_R0 (hpo χ hb)))
      | inr z =>
        rw [hv2] at hpo q3
        obtain ⟨rfl, H3⟩ := q3
        have hB := ks_eqB hT hv2
        have hpo := ks_poC (P := fun c x => kz_KS σ0 T vs p Q V ps c o j x) hpo
        refine ma_gd ma_z1 (ma_ret (kz_R1 (kz_val (j0 := j) (c := []) hT hl hf ho hV (fun q h => by have := hq q h; rw [List.length_append]; omega) H3 ⟨?_, ?_, by omega, by omega, hB.2⟩ (by omega) hpo)))
        · rw [List.length_append, List.length_singleton]; omega
        · rw [List.length_append, List.length_singleton, lW]; omega
    | true =>
      rw [h91, if_pos (c := true = true) rfl] at hpo
      have hj6 := ks_jB hT (ks_sgT h91)
      refine ma_F (by decide) (ma_bd (kc_adv H1.1) (fun _ ψ q2 => ?_))
      have H2 := H1.adv q2.2 q2.1
      refine ma_bd (kz_await H2.2.2.1 (by rw [lW]; omega) (104, nI u, 0)) (fun _ χ q3 => ma_lt (ma_ret (kz_R1 ?_)))
      have H3 := (H2.wt q3.1 q3.2).smd 1
      have lW1 : (V ++ (kz_ifs ps).reverse ++ [((104 : Int32), nI u, (0 : Int32))]).length = V.length + ps.length + 1 := by rw [List.length_append, List.length_singleton, lW]
      refine kz_ex hT hl hf ho (j + 2) (Nat.zero_le _) 1 (V ++ (kz_ifs ps).reverse ++ [(104, nI u, 0)]) C n (t + 1) _ Q (.inr ⟨_, _, rfl, (by decide : ks_rk 104 < 1)⟩) H3 ⟨by omega, by omega, by omega, by omega, by omega⟩ ?_
      cases hv2 : ks_ex T vs o (j + 2) with
      | inl e => rw [hv2] at hpo; exact hpo
      | inr x =>
        rw [hv2] at hpo
        have hpo : kv_po (kv_bn (if kt_sg T x.2 93 = true then kv_bn (ks_fld T vs (nI u) (x.2 + 1)) (fun y => .inr ((nI u, x.1 ++ [(3, (nI u).toInt64, 0)], y.1), y.2)) else (.inl (1, kt_s T x.2) : kv_O ((Int32 × ks_E × Int32) × Nat))) (fun x => if kt_sg T x.2 61 = true then kv_bn (ks_ex T vs o (x.2 + 1)) (fun y => if kt_sg T y.2 59 = true then .inr (x.1.2.1 ++ y.1 ++ [(5, x.1.1.toInt64, x.1.2.2)], y.2 + 1) else .inl (1, kt_s T y.2)) else (.inl (1, kt_s T x.2) : kv_O (ks_E × Nat)))) (fun f q => ∀ τ, kz_bad σ0 f q τ → Q 0 τ) (fun x => kz_KS σ0 T vs p Q V ps (C ++ x.1) o j x.2) := hpo
        intro n3 t3 C3 R3 τ3 e3 B3 hW3 hj3 hcase H4
        have hlen := kz_len e3
        rw [lW1] at hW3
        obtain ⟨d1, d2, d3, d4, d5⟩ := B3
        obtain ⟨n3, rfl⟩ : ∃ n2, n3 = n2 + 1 := ⟨n3 - 1, by omega⟩
        refine kz_turn2 H4 (by omega) ?_
        rcases hcase with ⟨hop, hR⟩ | ⟨hop, R2, w, rfl, hw, hR2⟩
        · refine kz_behA hT H4 (by decide : ks_rk 104 = 0) hop hR (by rw [lW]; omega) (by omega) (fun φ2 Hφ => ?_)
          rw [e3] at Hφ
          unfold kz_sw F_X5_takeBehind_170 F_X5_takeBehind_171
          refine ma_F (by decide : ¬ (104 : Int32) = 103) (ma_T rfl (ma_bd (kz_drop Hφ.2.2.1 (by rw [lW]; omega)) (fun _ φ3 q5 => ?_)))
          have H5 := Hφ.wt q5.1 (q5.2.mo (fun g i k q => q.1))
          refine ma_bd (kz_add H5.2.1 (by omega) 3 ((nI u).toInt64) 0) (fun _ φ4 q6 => ?_)
          have H6 := H5.add q6.2.1 q6.2.2
          refine ma_bd (kz_sign hT H6 (c := 93) (by decide)) (fun r φ5 q7 => ?_)
          rcases q7 with ⟨hs, rfl, H7⟩ | ⟨hs, rfl, hb⟩
          · rw [hs, if_pos (c := true = true) rfl, ks_setE] at hpo
            have hx5 := ks_jB hT (ks_sgT hs)
            refine ma_F ma_01 (ma_bd (kz_equ hT hl hf H7 hu (by rw [lW]; omega)) (fun r φ6 q8 => ?_))
            cases hv3 : ks_eq T vs (nI u) (x.2 + 1) with
            | inl e =>
              rw [hv3] at hpo q8
              obtain ⟨rfl, hb⟩ := q8
              exact ma_T rfl (ma_gd ma_z0 (ma_ret (.inl ⟨rfl, hpo φ6 hb⟩)))
            | inr z =>
              rw [hv3] at hpo q8
              obtain ⟨rfl, H8⟩ := q8
              have hB := ks_eqB hT hv3
              have hpo := ks_poC (P := fun c x => kz_KS σ0 T vs p Q V ps c o j x) hpo
              rw [← List.append_assoc] at hpo
              refine ma_F ma_01 (ma_gd ma_z1 (ma_ret (.inr ⟨rfl, kz_val (j0 := j) (c := []) hT hl hf ho hV (fun q h => by have := hq q h; rw [List.length_append, List.length_append]; omega) H8 ⟨?_, ?_, by omega, by omega, hB.2⟩ (by omega) hpo⟩)))
              · rw [List.length_append, List.length_singleton]; omega
              · rw [List.length_append, List.length_singleton, lW]; omega
          · rw [hs, if_neg (c := false = true) (by decide)] at hpo
            exact ma_T rfl (ma_gd ma_z0 (ma_ret (.inl ⟨rfl, hpo φ5 hb⟩)))
        · rw [ks_opS hop (by decide), if_neg (c := false = true) (by decide)] at hpo
          rw [List.length_append, List.length_singleton] at hW3 hlen
          exact ma_mono (kz_behB hT H4 hw hop hR2 (by rw [lW1]; omega) (by omega)) (fun r τ q => .inl ⟨q.1, hpo τ q.2⟩)
end KZ
