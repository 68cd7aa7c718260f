/-! the class reads a script -/
section KZ
variable {T : kt_T} {σ0 σ τ : ae_S} {p r o md j n t X : Nat} {vs : List mv_V} {C : ks_E} {Q : Int32 → ae_S → Prop}
theorem kz_prg (hT : kt_W T) (hl : vs.length ≤ 16) (hf : ∀ w ∈ vs, (mv_fs w).length ≤ 8) : ∀ (m : Nat) (c : ks_E) (j n t : Nat) (τ : ae_S), kz_St σ0 T vs p c [] 0 0 j τ → kz_Bd c 0 [] j t n → 502 ≤ m + j → kv_po (ks_prg T vs m c j) (fun f q => ∀ τ, kz_bad σ0 f q τ → Q 0 τ) (fun C => ∀ jj τ, kz_St σ0 T vs p C [] 0 0 jj τ → C.length ≤ 1000 → Q 1 τ) → ma_wp (F_X5_compile_24 n (nI t) τ) Q := by
  intro m
  induction m with
  | zero => intro c j n t τ _ B hm; have := B.2.2.2.2; omega
  | succ m ih =>
    intro c j n t τ H B hm hpo
    obtain ⟨b1, b2, b3, b4, b5⟩ := B
    obtain ⟨n, rfl⟩ : ∃ n2, n = n2 + 1 := ⟨n - 1, by omega⟩
    have h8 : τ.1 19 0 8 = 0 := H.2.2.2.2.1
    have h6 : τ.1 19 0 6 = 0 := H.2.2.1.1
    unfold ks_prg at hpo
    rw [F_X5_compile_24]
    unfold F_X5_compile_57 F_X5_takeStatement
    refine ma_ls 1000 t rfl rfl (by decide) (by omega) (fun g => by omega) (fun _ => ma_T h8 (ma_T h6 (ma_be (kc_end H.1) ?_)))
    by_cases he : kt_ty T j = 0
    · rw [if_pos (c := kt_ty T j = 0) he] at hpo
      rw [decide_eq_true he]
      exact ma_F (by decide) (ma_ret (hpo j τ H (by omega)))
    · rw [if_neg (c := kt_ty T j = 0) he] at hpo
      rw [decide_eq_false he]
      refine ma_T rfl (ma_T h8 (kz_t90 (ma_T h6 (ma_bd (kz_add H.2.1 (by omega) 19 0 0) (fun _ φ q => ?_)))))
      have H1 := H.add q.2.1 q.2.2
      have lC : (c ++ [((19 : Int32), (0 : Int64), (0 : Int32))]).length = c.length + 1 := by rw [List.length_append, List.length_singleton]
      refine ma_mono (kz_stm hT hl hf 502 (Nat.le_refl _) 0 (by decide) j (by omega) [] [] (c ++ [(19, 0, 0)]) n t φ Q (.inl rfl) (fun q h => by simp at h) (fun _ => .inl rfl) H1 (by rw [lC]; omega) (by simp) (by omega) (by omega) b5 ?_) (fun r τ q => q.2)
      rw [lC]
      cases hv : ks_stm T vs 502 0 (c.length + 1) j with
      | inl e => rw [hv] at hpo; exact hpo
      | inr x =>
        rw [hv] at hpo
        intro n4 t4 τ4 B4 hj4 H4
        exact ih (c ++ [(19, 0, 0)] ++ x.1) x.2 n4 t4 τ4 H4 B4 (by omega) hpo
/-- the class's steps of a script -/
theorem kz_comp (hT : kt_W T) (hl : vs.length ≤ 16) (hf : ∀ w ∈ vs, (mv_fs w).length ≤ 8) (H : kt_St T 9 0 σ) (HV : mv_Cp p vs σ) : ma_wp (F_X5_compile σ) (fun r τ => kv_po (ks_prg T vs 502 [] 0) (fun f q => r = 0 ∧ kc_bad f q τ ∧ ma_fr kzG σ τ) (fun C => r = 1 ∧ C.length ≤ 1000 ∧ kz_cd C τ ∧ mv_Cp p vs τ ∧ ma_fr kzF σ τ)) := by
  unfold F_X5_compile F_X1_clear
  refine ma_bd (P := fun _ τ => τ = ae_wI σ 15 0 3 0) (ma_lt (ma_ret rfl)) (fun _ φ q => ma_lt (ma_lt (ma_lt ?_)))
  subst q
  have f : ma_fr (fun g _ k => ¬ (g = 15 ∧ k = 3) ∧ ¬ (g = 19 ∧ 6 ≤ k ∧ k ≤ 8)) σ (ae_wI (ae_wI (ae_wI (ae_wI σ 15 0 3 0) 19 0 6 0) 19 0 7 0) 19 0 8 0) := (ma_fwI (by simp)).tr ((ma_fwI (by simp)).tr ((ma_fwI (by simp)).tr (ma_fwI (by simp))))
  have e3 : (ae_wI (ae_wI (ae_wI (ae_wI σ 15 0 3 0) 19 0 6 0) 19 0 7 0) 19 0 8 0).1 15 0 3 = 0 := by rw [ma_rIn (by simp), ma_rIn (by simp), ma_rIn (by simp), ma_rI]
  have e6 : (ae_wI (ae_wI (ae_wI (ae_wI σ 15 0 3 0) 19 0 6 0) 19 0 7 0) 19 0 8 0).1 19 0 6 = 0 := by rw [ma_rIn (by simp), ma_rIn (by simp), ma_rI]
  have e7 : (ae_wI (ae_wI (ae_wI (ae_wI σ 15 0 3 0) 19 0 6 0) 19 0 7 0) 19 0 8 0).1 19 0 7 = 0 := by rw [ma_rIn (by simp), ma_rI]
  have e8 : (ae_wI (ae_wI (ae_wI (ae_wI σ 15 0 3 0) 19 0 6 0) 19 0 7 0) 19 0 8 0).1 19 0 8 = 0 := ma_rI
  generalize ae_wI (ae_wI (ae_wI (ae_wI σ 15 0 3 0) 19 0 6 0) 19 0 7 0) 19 0 8 0 = φ at f e3 e6 e7 e8 ⊢
  have F : ma_fr kzF σ φ := f.mo (fun g i k q => by unfold kzF at q; omega)
  have H1 : kz_St σ T vs p [] [] 0 0 0 φ := ⟨H.fr f (by omega) (by omega) (fun _ _ => by omega) (fun _ => by omega), ⟨e3, fun i s h => by simp at h⟩, ⟨e6, fun i s h => by simp at h⟩, e7, e8, kz_vw HV F, F⟩
  refine kz_prg hT hl hf 502 [] 0 ae_fu 0 φ H1 ⟨by simp, by simp, by omega, by rw [ae_fu], by omega⟩ (by omega) ?_
  cases hv : ks_prg T vs 502 [] 0 with
  | inl e => exact fun τ h => ⟨rfl, h.1, h.2⟩
  | inr C => exact fun jj τ h hC => ⟨rfl, hC, h.2.1, h.2.2.2.2.2.1, h.2.2.2.2.2.2⟩
end KZ
