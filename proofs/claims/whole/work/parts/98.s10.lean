/-! the class reads statements -/
section KZ
variable {T : kt_T} {σ0 σ τ : ae_S} {p r o md j n t X : Nat} {vs : List mv_V} {C : ks_E} {W V : kz_W} {ps : List Nat} {Q : Int32 → ae_S → Prop}
def kz_RS (σ0 : ae_S) (T : kt_T) (vs : List mv_V) (p : Nat) (s : Nat → Nat → kv_O (ks_E × Nat)) (o m0 : Nat) : Prop := ∀ (j : Nat), m0 ≤ j → ∀ (V : kz_W) (ps : List Nat) (C : ks_E) (n t : Nat) (σ : ae_S) (Q : Int32 → ae_S → Prop), kz_nif V → (∀ q ∈ ps, q < C.length) → (kt_sg T j 41 = true → V ++ (kz_ifs ps).reverse = [] ∨ ∃ U w, V ++ (kz_ifs ps).reverse = U ++ [w] ∧ w.1 ≠ 101) → kz_St σ0 T vs p C (V ++ (kz_ifs ps).reverse) o 0 j σ → C.length ≤ 2 * j + 1 → V.length + ps.length ≤ j → t ≤ 2 * j → n + 1 + t = 4096 → j ≤ 500 → kv_po (s C.length j) (fun f q => ∀ τ, kz_bad σ0 f q τ → Q 0 τ) (fun x => kz_KS σ0 T vs p Q V ps (C ++ x.1) o j x.2) → ma_wp (F_X5_takeStatement_19 σ) (kz_R Q n t)
theorem kz_lenI : (V ++ (kz_ifs ps).reverse).length = V.length + ps.length := by rw [List.length_append, List.length_reverse]; unfold kz_ifs; rw [List.length_map]
theorem kz_ifC (hT : kt_W T) (hl : vs.length ≤ 16) (hf : ∀ w ∈ vs, (mv_fs w).length ≤ 8) (ho : o ≤ 5) {N m0 : Nat} (hN : 1 ≤ N) (hS : kz_RS σ0 T vs p (ks_stm T vs N o) o (m0 + 1)) (hm : m0 ≤ j) (hV : kz_nif V) (hq : ∀ q ∈ ps, q < C.length) (H : kz_St σ0 T vs p C (V ++ (kz_ifs ps).reverse) o 0 j σ) (b1 : C.length ≤ 2 * j + 1) (b2 : V.length + ps.length ≤ j) (b3 : t ≤ 2 * j) (b4 : n + 1 + t = 4096) (hj : j + 1 ≤ 500) (hpo : kv_po (kv_bn (ks_ex T vs o (j + 1)) (fun x => kv_bn (ks_stm T vs N o (C.length + x.1.length + 1) x.2) (fun y => (.inr (x.1 ++ [(15, lN (C.length + x.1.length + 1 + y.1.length), 0)] ++ y.1, y.2) : kv_O (ks_E × Nat))))) (fun f q => ∀ τ, kz_bad σ0 f q τ → Q 0 τ) (fun x => kz_KS σ0 T vs p Q V ps (C ++ x.1) o j x.2)) : ma_wp (ae_bd (F_X8_advance σ) (fun (r69 : Unit) s70 => ae_bd (F_X5_await (103 : Int32) (0 : Int32) (0 : Int32) s70) (fun (r73 : Unit) s74 => ae_lt (ae_wI s74 19 0 8 (1 : Int32)) (fun s77 => some ((1 : Int32), s77))))) (kz_R Q n t) := by
  have lW := kz_lenI (V := V) (ps := ps)
  refine ma_bd (kc_adv H.1) (fun _ φ q => ?_)
  have H1 := H.adv q.2 q.1
  refine ma_bd (kz_await H1.2.2.1 (by rw [lW]; omega) (103, 0, 0)) (fun _ ψ q2 => ma_lt (ma_ret (kz_R1 ?_)))
  have H3 := (H1.wt q2.1 q2.2).smd 1
  have lW1 : (V ++ (kz_ifs ps).reverse ++ [((103 : Int32), (0 : Int32), (0 : Int32))]).length = V.length + ps.length + 1 := by rw [List.length_append, List.length_singleton, lW]
  refine kz_ex hT hl hf ho (j + 1) (Nat.zero_le _) 1 (V ++ (kz_ifs ps).reverse ++ [(103, 0, 0)]) C n (t + 1) _ Q (.inr ⟨_, _, rfl, (by decide : ks_rk 103 < 1)⟩) H3 ⟨by omega, by omega, by omega, by omega, by omega⟩ ?_
  cases hv2 : ks_ex T vs o (j + 1) with
  | inl e => rw [hv2] at hpo; exact hpo
  | inr x =>
    rw [hv2] at hpo
    have hpo : kv_po (kv_bn (ks_stm T vs N o (C.length + x.1.length + 1) x.2) (fun y => (.inr (x.1 ++ [(15, lN (C.length + x.1.length + 1 + y.1.length), 0)] ++ y.1, y.2) : kv_O (ks_E × Nat)))) (fun f q => ∀ τ, kz_bad σ0 f q τ → Q 0 τ) (fun x => kz_KS σ0 T vs p Q V ps (C ++ x.1) o j x.2) := hpo
    intro n3 t3 C3 R3 τ3 e3 B3 hW3 hj3 hcase H4
    have hlen := kz_len e3
    rw [lW1] at hW3
    obtain ⟨d1, d2, d3, d4, d5⟩ := B3
    obtain ⟨n3, rfl⟩ : ∃ n2, n3 = n2 + 1 := ⟨n3 - 1, by omega⟩
    refine kz_turn2 H4 (by omega) ?_
    rcases hcase with ⟨hop, hR⟩ | ⟨hop, R2, w, rfl, hw, hR2⟩
    · refine kz_behA hT H4 (by decide : ks_rk 103 = 0) hop hR (by rw [lW]; omega) (by omega) (fun φ2 Hφ => ?_)
      rw [e3] at Hφ
      unfold kz_sw
      refine ma_T rfl (ma_bd (kz_drop Hφ.2.2.1 (by rw [lW]; omega)) (fun _ φ3 q5 => ?_))
      have H5 := Hφ.wt q5.1 (q5.2.mo (fun g i k q => q.1))
      refine ma_bd (kz_add H5.2.1 (by omega) 15 0 0) (fun r6 φ4 q6 => ?_)
      obtain ⟨rfl, q61, q62⟩ := q6
      have H6 := H5.add q61 q62
      refine ma_bd (kz_await H6.2.2.1 (by rw [lW]; omega) (102, nI (C ++ x.1).length, 0)) (fun _ φ5 q7 => ma_lt (ma_ret (.inr ⟨rfl, ?_⟩)))
      have H7 := (H6.wt q7.1 q7.2).smd 0
      have eW : V ++ (kz_ifs ps).reverse ++ [(102, nI (C ++ x.1).length, 0)] = V ++ (kz_ifs ((C ++ x.1).length :: ps)).reverse := by
        show _ = V ++ ((102, nI (C ++ x.1).length, 0) :: kz_ifs ps).reverse
        rw [List.reverse_cons, ← List.append_assoc]
      rw [eW] at H7
      obtain ⟨n3, rfl⟩ : ∃ n2, n3 = n2 + 1 := ⟨n3 - 1, by omega⟩
      refine kz_turn0 H7 (by rw [kz_lenI, List.length_cons]; omega) (by omega) ?_
      have lC : (C ++ x.1 ++ [((15 : Int32), (0 : Int64), (0 : Int32))]).length = C.length + x.1.length + 1 := by rw [List.length_append, List.length_append, List.length_singleton]
      have lC2 : (C ++ x.1).length = C.length + x.1.length := List.length_append
      refine hS x.2 (by omega) V ((C ++ x.1).length :: ps) (C ++ x.1 ++ [(15, 0, 0)]) n3 (t3 + 1) _ Q hV (fun q h => ?_) (fun _ => .inr ⟨V ++ (kz_ifs ps).reverse, (102, nI (C ++ x.1).length, 0), eW.symm, (by decide : (102 : Int32) ≠ 101)⟩) H7 (by rw [lC]; omega) (by rw [List.length_cons]; omega) (by omega) (by omega) d5 ?_
      · rcases List.mem_cons.mp h with h | h
        · rw [h, lC, lC2]; omega
        · have := hq q h; rw [lC]; omega
      · rw [lC]
        cases hv3 : ks_stm T vs N o (C.length + x.1.length + 1) x.2 with
        | inl e => rw [hv3] at hpo; exact hpo
        | inr y =>
          rw [hv3] at hpo
          have hpo : kz_KS σ0 T vs p Q V ps (C ++ (x.1 ++ [(15, lN (C.length + x.1.length + 1 + y.1.length), 0)] ++ y.1)) o j y.2 := hpo
          intro n4 t4 τ4 B4 hj4 H8
          have ec : kz_ld (C ++ x.1 ++ [(15, 0, 0)] ++ y.1) (C ++ x.1).length = C ++ (x.1 ++ [(15, lN (C.length + x.1.length + 1 + y.1.length), 0)] ++ y.1) := by
            rw [kz_ldA, lC2, ← List.append_assoc, ← List.append_assoc]
          have el := congrArg List.length ec
          rw [kz_ldL] at el
          rw [List.foldl_cons, ec] at H8
          refine hpo n4 t4 τ4 ⟨?_, B4.2.1, B4.2.2.1, B4.2.2.2.1, B4.2.2.2.2⟩ (by omega) H8
          rw [← el]
          exact B4.1
    · obtain ⟨N, rfl⟩ : ∃ N2, N = N2 + 1 := ⟨N - 1, by omega⟩
      rw [ks_stmB hop] at hpo
      rw [List.length_append, List.length_singleton] at hW3 hlen
      exact ma_mono (kz_behB hT H4 hw hop hR2 (by rw [lW1]; omega) (by omega)) (fun r τ q => .inl ⟨q.1, hpo τ q.2⟩)
end KZ
