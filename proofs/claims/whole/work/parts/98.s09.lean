/-! the class reads statements: what they need -/
section KZ
variable {T : kt_T} {σ0 σ τ : ae_S} {p r o md j n t X : Nat} {vs : List mv_V} {C : ks_E} {W V : kz_W} {ps : List Nat} {Q : Int32 → ae_S → Prop}
theorem ks_mdf {α : Type} (f : α → α) (s : α) (B : List α) : ∀ A : List α, (A ++ s :: B).modify A.length f = A ++ f s :: B := by
  intro A
  induction A with
  | nil => rfl
  | cons a A ih =>
    show a :: (A ++ s :: B).modify A.length f = _
    rw [ih]
    rfl
theorem kz_ldA (A B : ks_E) (s : ks_S) : kz_ld (A ++ [s] ++ B) A.length = A ++ [(s.1, lN (A.length + 1 + B.length), s.2.2)] ++ B := by
  unfold kz_ld
  rw [List.append_assoc, List.append_assoc]
  show (A ++ s :: B).modify A.length _ = A ++ (s.1, lN (A.length + 1 + B.length), s.2.2) :: B
  rw [ks_mdf]
  show A ++ (s.1, lN (A ++ s :: B).length, s.2.2) :: B = _
  rw [List.length_append, List.length_cons, show A.length + (B.length + 1) = A.length + 1 + B.length by omega]
theorem kz_turn0 (H : kz_St σ0 T vs p C W o 0 j σ) (hW : 1 ≤ W.length ∧ W.length ≤ 501) (ht : t ≤ 1000) (h : ma_wp (F_X5_takeStatement_19 σ) (kz_R Q n t)) : ma_wp (F_X5_compile_24 (n + 1) (nI t) σ) Q := by
  rw [F_X5_compile_24]
  have h8 : σ.1 19 0 8 = 0 := H.2.2.2.2.1
  have h6 : ¬ σ.1 19 0 6 = 0 := fun e => by
    have := H.2.2.1.1
    rw [e] at this
    have h0 : nI 0 = nI W.length := this
    have h1 := (nI_eq (by decide : 0 < 2 ^ 31) (by omega : W.length < 2 ^ 31)).mp h0
    omega
  unfold F_X5_compile_57 F_X5_takeStatement
  exact ma_ls 1000 t rfl rfl (by decide) (by omega) (fun g => by omega) (fun _ => ma_T h8 (ma_F h6 (ma_T h8 (kz_t90 (ma_F h6 (ma_mono h (fun r τ q => q.2)))))))
theorem ks_sg3 (h : ks_rk (ks_op T j) = 1) : kt_ty T j = 3 := by
  have g : kt_sg T j 60 = true ∨ kt_sg T j 62 = true ∨ kt_sg T j 126 = true := by
    unfold ks_op at h
    cases h60 : kt_sg T j 60 with
    | true => exact .inl rfl
    | false =>
      cases h62 : kt_sg T j 62 with
      | true => exact .inr (.inl rfl)
      | false =>
        cases h126 : kt_sg T j 126 with
        | true => exact .inr (.inr rfl)
        | false =>
          rw [h60, h62, h126] at h
          revert h
          repeat' split
          all_goals (first | (intro h; exact absurd h (by decide)) | simp_all)
  rcases g with g | g | g <;> exact (of_decide_eq_true g).1
theorem ks_stmB {N b : Nat} (h : ks_rk (ks_op T j) = 1) : ks_stm T vs (N + 1) o b j = .inl (1, kt_s T j) := by
  have h3 := ks_sg3 h
  have w : ∀ i, kt_wd T j i = false := fun i => decide_eq_false (fun g => by omega)
  have m : kt_nm T j = false := decide_eq_false (fun g => by omega)
  unfold ks_stm ks_set ks_plc ks_nam
  rw [w, w, ks_opS h (by decide), m]
  rfl
theorem kz_fail (hT : kt_W T) (hV : kz_nif V) (hq : ∀ q ∈ ps, q < C.length) (H : kz_St σ0 T vs p C (V ++ (kz_ifs ps).reverse) o md j σ) (b1 : C.length ≤ 2 * j + 1) (b2 : V.length + ps.length ≤ j) (b3 : t ≤ 2 * j) (b4 : n + 1 + t = 4096) (hj : j + 1 ≤ 500) (hpo : kv_po (if kt_sg T (j + 1) 59 = true then .inr ([(16, 0, 0)], j + 2) else (.inl (1, kt_s T (j + 1)) : kv_O (ks_E × Nat))) (fun f q => ∀ τ, kz_bad σ0 f q τ → Q 0 τ) (fun x => kz_KS σ0 T vs p Q V ps (C ++ x.1) o j x.2)) : ma_wp (ae_bd (F_X8_advance σ) (fun (r51 : Unit) s52 => ae_bd (F_X1_add (16 : Int32) (0 : Int64) (0 : Int32) s52) (fun (r55 : Int32) s56 => ae_bd (F_X5_endStatement s56) (fun (r59 : Unit) s60 => ae_bd (F_X8_takeSign (59 : Int32) s60) (fun (r63 : Int32) s64 => ae_gd (ae_zz r63) (some (r63, s64))))))) (kz_R Q n t) := by
  refine ma_bd (kc_adv H.1) (fun _ φ q => ?_)
  have H1 := H.adv q.2 q.1
  refine ma_bd (kz_add H1.2.1 (by omega) 16 0 0) (fun _ ψ q2 => ?_)
  have H2 := H1.add q2.2.1 q2.2.2
  refine ma_bd (kz_end hV (by omega) (by rw [List.length_append, List.length_singleton]; omega) (fun q h => by have := hq q h; rw [List.length_append]; omega) H2) (fun _ χ H3 => ?_)
  refine ma_bd (kz_sign hT H3 (c := 59) (by decide)) (fun r φ6 q8 => ?_)
  rcases q8 with ⟨hs, rfl, H8⟩ | ⟨hs, rfl, hb⟩
  · rw [hs, if_pos (c := true = true) rfl] at hpo
    have hpo : kz_KS σ0 T vs p Q V ps (C ++ [(16, 0, 0)]) o j (j + 2) := hpo
    have hx5 := ks_jB hT (ks_sgT hs)
    exact ma_gd ma_z1 (ma_ret (kz_R1 (hpo n (t + 1) φ6 ⟨by rw [List.length_append, List.length_singleton]; omega, by omega, by omega, by omega, by omega⟩ (by omega) H8)))
  · rw [hs, if_neg (c := false = true) (by decide)] at hpo
    exact ma_gd ma_z0 (ma_ret (kz_R0 (hpo φ6 hb)))
end KZ
