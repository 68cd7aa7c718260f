/-! turns of the class's reader -/
section KZ
variable {T : kt_T} {C : ks_E} {W R : kz_W} {σ0 σ τ : ae_S} {j p r o md n t : Nat} {vs : List mv_V} {Q : Int32 → ae_S → Prop}
theorem ks_tyS (h : kt_ty T (j + 1) ≠ 0) : kt_ty T j ≠ 0 := fun e => by
  have := kt_endS e 1
  have := (kt_same (D := 0) this).1
  exact h (this.trans e)
theorem ks_jS (hT : kt_W T) : ∀ j, kt_ty T j ≠ 0 → j ≤ kt_s T j ∧ kt_s T j < T.1 := by
  have lt : ∀ j, kt_ty T j ≠ 0 → kt_s T j < T.1 := fun j h => by
    have hb := (kt_bl hT (kt_s T j)).2
    refine Nat.lt_of_not_le (fun g => h ?_)
    have : kt_c T j = 256 := hb.mpr g
    unfold kt_ty
    rw [if_pos this]
  intro j
  induction j with
  | zero => intro h; exact ⟨Nat.zero_le _, lt 0 h⟩
  | succ j ih =>
    intro h
    refine ⟨?_, lt _ h⟩
    have hj := ks_tyS h
    have h1 := (ih hj).1
    have h2 : kt_s T j < kt_e T j := by
      have hc : kt_b T (kt_s T j) ≠ 256 := fun g => hj (by unfold kt_ty kt_c; rw [if_pos g])
      unfold kt_e kt_en
      rw [if_neg hc]
      have hlt := lt j hj
      split
      · rename_i hL
        unfold kt_we
        rw [kt_nxT (by rw [hL]; rfl) hlt]
        exact kt_nx_ge _ _ _
      · split
        · rename_i hD
          unfold kt_de
          rw [kt_nxT (P := fun k => kt_D (kt_b T k)) hD hlt]
          exact kt_nx_ge _ _ _
        · omega
    have h3 : kt_e T j ≤ kt_s T (j + 1) := kt_nx_ge _ _ _
    omega
theorem ks_jB (hT : kt_W T) (h : kt_ty T j ≠ 0) : j + 1 ≤ 500 := by
  have := ks_jS hT j h
  have := hT.1
  omega
theorem ks_sgT {c : Nat} (h : kt_sg T j c = true) : kt_ty T j ≠ 0 := by have := (of_decide_eq_true h).1; omega
theorem ks_nmT (h : kt_nm T j = true) : kt_ty T j ≠ 0 := by have := (of_decide_eq_true h).1; omega
theorem ks_nuT {D : Nat} (h : kt_nu T D j = true) : kt_ty T j ≠ 0 := by have := (of_decide_eq_true h).1; omega
theorem ks_wdT {i : Fin 32} (h : kt_wd T j i = true) : kt_ty T j ≠ 0 := by have := (of_decide_eq_true h).1; omega
theorem ks_opT (h : ks_op T j ≠ -1) : kt_ty T j ≠ 0 := fun e => h (by
  have hs : ∀ c, kt_sg T j c = false := fun c => decide_eq_false (fun g => by omega)
  unfold ks_op
  rw [hs, hs, hs, hs, hs, hs, hs, hs]
  rfl)
def kzF (g : Nat) (_ : Fin 32) (k : Nat) : Prop := ¬ (g = 12 ∧ k = 6) ∧ ¬ (15 ≤ g ∧ g ≤ 17) ∧ ¬ (g = 19 ∧ 6 ≤ k ∧ k ≤ 8) ∧ g ≠ 20
def kzG (g : Nat) (_ : Fin 32) (k : Nat) : Prop := ¬ (g = 12 ∧ (k = 6 ∨ k = 7 ∨ k = 8)) ∧ ¬ (15 ≤ g ∧ g ≤ 17) ∧ ¬ (g = 19 ∧ 6 ≤ k ∧ k ≤ 8) ∧ g ≠ 20
def kz_bad (σ0 : ae_S) (f : Int32) (q : Nat) (τ : ae_S) : Prop := kc_bad f q τ ∧ ma_fr kzG σ0 τ
def kz_St (σ0 : ae_S) (T : kt_T) (vs : List mv_V) (p : Nat) (C : ks_E) (W : kz_W) (o md j : Nat) (σ : ae_S) : Prop := kt_St T 9 j σ ∧ kz_cd C σ ∧ kz_wt W σ ∧ σ.1 19 0 7 = nI o ∧ σ.1 19 0 8 = nI md ∧ mv_Cp p vs σ ∧ ma_fr kzF σ0 σ
theorem kzG_F (f : ma_fr kzF σ0 σ) : ma_fr kzG σ0 σ := f.mo (fun g i k q => by unfold kzG at q; unfold kzF; omega)
theorem kzG_B (f : ma_fr kzF σ0 σ) (g : ma_fr (fun g _ k => ¬ (g = 12 ∧ (k = 7 ∨ k = 8))) σ τ) : ma_fr kzG σ0 τ := (kzG_F f).tr (g.mo (fun g i k q => by unfold kzG at q; omega))
theorem kz_vw (H : mv_Cp p vs σ) (f : ma_fr kzF σ τ) : mv_Cp p vs τ := H.fr f (fun _ => by unfold kzF; omega) (fun _ _ => by unfold kzF; omega) (fun _ _ => by unfold kzF; omega) (fun _ _ => by unfold kzF; omega) (fun _ _ => by unfold kzF; omega)
theorem kz_St.mk (H : kz_St σ0 T vs p C W o md j σ) {C2 : ks_E} {W2 : kz_W} {o2 md2 j2 : Nat} (f : ma_fr kzF σ τ) (h1 : kt_St T 9 j2 τ) (h2 : kz_cd C2 τ) (h3 : kz_wt W2 τ) (h4 : τ.1 19 0 7 = nI o2) (h5 : τ.1 19 0 8 = nI md2) : kz_St σ0 T vs p C2 W2 o2 md2 j2 τ := ⟨h1, h2, h3, h4, h5, kz_vw H.2.2.2.2.2.1 f, H.2.2.2.2.2.2.tr f⟩
theorem kz_cdA (H : kz_cd C σ) (f : ma_fr (fun g _ k => ¬ (g = 12 ∧ k = 6)) σ τ) : kz_cd C τ := H.fr f (fun g _ _ _ _ => by omega)
theorem kz_wtA (H : kz_wt W σ) (f : ma_fr (fun g _ k => ¬ (g = 12 ∧ k = 6)) σ τ) : kz_wt W τ := H.fr f (by omega) (fun _ _ => by omega)
theorem kzF_A (f : ma_fr (fun g _ k => ¬ (g = 12 ∧ k = 6)) σ τ) : ma_fr kzF σ τ := f.mo (fun g i k q => by unfold kzF at q; omega)
theorem kz_St.adv (H : kz_St σ0 T vs p C W o md j σ) (f : ma_fr (fun g _ k => ¬ (g = 12 ∧ k = 6)) σ τ) {j2 : Nat} (h : kt_St T 9 j2 τ) : kz_St σ0 T vs p C W o md j2 τ := H.mk (kzF_A f) h (kz_cdA H.2.1 f) (kz_wtA H.2.2.1 f) ((f.i (by omega)).trans H.2.2.2.1) ((f.i (by omega)).trans H.2.2.2.2.1)
theorem kz_St.add (H : kz_St σ0 T vs p C W o md j σ) {s : ks_S} (h : kz_cd (C ++ [s]) τ) (f : ma_fr (fun g _ _ => g ≠ 15 ∧ g ≠ 16 ∧ g ≠ 17) σ τ) : kz_St σ0 T vs p (C ++ [s]) W o md j τ := H.mk (f.mo (fun g i k q => by unfold kzF at q; omega)) (H.1.fr f (by decide) (by decide) (fun _ _ => by decide) (fun _ => by decide)) h (H.2.2.1.fr f (by decide) (fun _ _ => by decide)) ((f.i (by decide)).trans H.2.2.2.1) ((f.i (by decide)).trans H.2.2.2.2.1)
theorem kz_St.wt (H : kz_St σ0 T vs p C W o md j σ) {W2 : kz_W} (h : kz_wt W2 τ) (f : ma_fr (fun g _ k => ¬ (g = 19 ∧ k = 6) ∧ g ≠ 20) σ τ) : kz_St σ0 T vs p C W2 o md j τ := H.mk (f.mo (fun g i k q => by unfold kzF at q; omega)) (H.1.fr f (by decide) (by decide) (fun _ _ => by omega) (fun _ => by omega)) (H.2.1.fr f (fun g _ _ _ _ => by omega)) h ((f.i (by decide)).trans H.2.2.2.1) ((f.i (by decide)).trans H.2.2.2.2.1)
theorem kz_St.smd (H : kz_St σ0 T vs p C W o md j σ) (m2 : Nat) : kz_St σ0 T vs p C W o m2 j (ae_wI σ 19 0 8 (nI m2)) := by
  have f : ma_fr (fun g _ k => ¬ (g = 19 ∧ k = 8)) σ (ae_wI σ 19 0 8 (nI m2)) := ma_fwI (by simp)
  exact H.mk (f.mo (fun g i k q => by unfold kzF at q; omega)) (H.1.fr f (by decide) (by decide) (fun _ _ => by omega) (fun _ => by omega)) (H.2.1.fr f (fun g _ _ _ _ => by omega)) (H.2.2.1.fr f (by omega) (fun _ _ => by omega)) ((f.i (by omega)).trans H.2.2.2.1) ma_rI
theorem kz_St.sop (H : kz_St σ0 T vs p C W o md j σ) (o2 : Nat) : kz_St σ0 T vs p C W o2 md j (ae_wI σ 19 0 7 (nI o2)) := by
  have f : ma_fr (fun g _ k => ¬ (g = 19 ∧ k = 7)) σ (ae_wI σ 19 0 7 (nI o2)) := ma_fwI (by simp)
  exact H.mk (f.mo (fun g i k q => by unfold kzF at q; omega)) (H.1.fr f (by decide) (by decide) (fun _ _ => by omega) (fun _ => by omega)) (H.2.1.fr f (fun g _ _ _ _ => by omega)) (H.2.2.1.fr f (by omega) (fun _ _ => by omega)) ma_rI ((f.i (by omega)).trans H.2.2.2.2.1)
theorem kz_t90 {m : Option (Int32 × ae_S)} (h : ma_wp m (fun r τ => (r = 0 ∧ Q 0 τ) ∨ (r = 1 ∧ ma_wp (F_X5_compile_24 n (nI (t + 1)) τ) Q))) : ma_wp (ae_bd m (fun (r9 : Int32) s10 => F_X5_compile_90 (F_X5_compile_24 n) (nI t) r9 s10)) Q := by
  refine ma_bd h (fun r τ q => ?_)
  unfold F_X5_compile_90
  rcases q with ⟨rfl, q⟩ | ⟨rfl, q⟩
  · exact ma_T rfl (ma_ret q)
  · refine ma_F ma_01 (ma_lt ?_)
    rw [nI_1]
    exact q
theorem kz_turn1 (H : kz_St σ0 T vs p C W o 1 j σ) (ht : t ≤ 1000) (h : ma_wp (F_X5_takeOperand σ) (fun r τ => (r = 0 ∧ Q 0 τ) ∨ (r = 1 ∧ ma_wp (F_X5_compile_24 n (nI (t + 1)) τ) Q))) : ma_wp (F_X5_compile_24 (n + 1) (nI t) σ) Q := by
  rw [F_X5_compile_24]
  have h8 : σ.1 19 0 8 = 1 := H.2.2.2.2.1
  unfold F_X5_compile_57
  rw [h8]
  exact ma_ls 1000 t rfl rfl (by decide) (by omega) (fun g => by omega) (fun _ => ma_F ma_01 (ma_F ma_01 (ma_T rfl (kz_t90 h))))
theorem kz_turn2 (H : kz_St σ0 T vs p C W o 2 j σ) (ht : t ≤ 1000) (h : ma_wp (F_X5_takeBehind σ) (fun r τ => (r = 0 ∧ Q 0 τ) ∨ (r = 1 ∧ ma_wp (F_X5_compile_24 n (nI (t + 1)) τ) Q))) : ma_wp (F_X5_compile_24 (n + 1) (nI t) σ) Q := by
  rw [F_X5_compile_24]
  have h8 : σ.1 19 0 8 = 2 := H.2.2.2.2.1
  unfold F_X5_compile_57
  rw [h8]
  exact ma_ls 1000 t rfl rfl (by decide) (by omega) (fun g => by omega) (fun _ => ma_F (by decide) (ma_F (by decide) (ma_F (by decide) (kz_t90 h))))
/-- a sign of an operation behind an operand: what binds as tightly is done with -/
theorem kz_oper (hT : kt_W T) (H : kz_St σ0 T vs p C (W ++ R.reverse) o 2 j σ) (hk : ks_op T j ≠ -1) (hr : r = ks_rk (ks_op T j)) (hr1 : 1 ≤ r) (hlow : kz_low r W) (hR : ∀ w ∈ R, r ≤ ks_rk w.1 ∧ 2 ≤ ks_rk w.1) (hb : W.length + R.length ≤ j) (hc : C.length + R.length ≤ 2 * j) (ht : t ≤ 1000) (h : ∀ τ, kz_St σ0 T vs p (C ++ kz_ops R) (W ++ [(ks_op T j, 0, 0)]) o 1 (j + 1) τ → ma_wp (F_X5_compile_24 n (nI (t + 1)) τ) Q) : ma_wp (F_X5_compile_24 (n + 1) (nI t) σ) Q := by
  have hj := ks_jB hT (ks_opT hk)
  have hrB := ks_rkB (ks_op T j)
  refine kz_turn2 H ht ?_
  unfold F_X5_takeBehind
  refine ma_be (kz_opH hT H.1) (ma_F hk ?_)
  have tail : ∀ (R2 : kz_W) (C2 : ks_E) (φ : ae_S), kz_St σ0 T vs p C2 (W ++ R2.reverse) o 2 j φ → (∀ w ∈ R2, r ≤ ks_rk w.1) → W.length + R2.length ≤ j → C2.length + R2.length ≤ 2 * j → C2 ++ kz_ops R2 = C ++ kz_ops R → ma_wp (F_X5_takeOperation_35 (ks_op T j) (nI r) φ) (fun r τ => ae_zz r = true ∧ ((r = 0 ∧ Q 0 τ) ∨ (r = 1 ∧ ma_wp (F_X5_compile_24 n (nI (t + 1)) τ) Q))) := by
    intro R2 C2 φ H2 hR2 hb2 hc2 e2
    unfold F_X5_takeOperation_35
    refine ma_bd (kz_settle hlow ⟨hr1, by omega⟩ (by omega) (by omega) H2.2.2.1 H2.2.1 hR2) (fun _ φ1 q1 => ?_)
    obtain ⟨w1, c1, f1⟩ := q1
    rw [e2] at c1
    have H3 : kz_St σ0 T vs p (C ++ kz_ops R) W o 2 j φ1 := H2.mk (f1.mo (fun g i k q => by unfold kzF at q; unfold kzS; omega)) (H2.1.fr f1 (by unfold kzS; decide) (by unfold kzS; decide) (fun _ _ => by unfold kzS; omega) (fun _ => by unfold kzS; omega)) c1 w1 ((f1.i (by unfold kzS; decide)).trans H2.2.2.2.1) ((f1.i (by unfold kzS; decide)).trans H2.2.2.2.2.1)
    refine ma_bd (kz_await H3.2.2.1 (by omega) (ks_op T j, 0, 0)) (fun _ φ2 q2 => ?_)
    have H4 := H3.wt q2.1 q2.2
    refine ma_bd (kc_adv H4.1) (fun _ φ3 q3 => ma_lt ?_)
    have H5 := (H4.adv q3.2 q3.1).smd 1
    exact ma_ret ⟨ma_z1, .inr ⟨rfl, h _ H5⟩⟩
  refine ma_bd (P := fun r τ => ae_zz r = true ∧ ((r = 0 ∧ Q 0 τ) ∨ (r = 1 ∧ ma_wp (F_X5_compile_24 n (nI (t + 1)) τ) Q))) ?_ (fun r τ q => ma_gd q.1 (ma_ret q.2))
  unfold F_X5_takeOperation
  refine ma_be (kz_rank _ _) ?_
  rw [← hr]
  refine ma_en r 1 rfl rfl (by omega) (by decide) (fun g => ?_) (fun g => ?_)
  · have low2 : kz_low 2 W := by
      rcases hlow with e | ⟨V, w, e, hw⟩
      · exact .inl e
      · exact .inr ⟨V, w, e, by omega⟩
    refine ma_bd (kz_settle low2 ⟨by decide, by decide⟩ (by omega) (by omega) H.2.2.1 H.2.1 (fun w hw => (hR w hw).2)) (fun _ φ1 q1 => ?_)
    obtain ⟨w1, c1, f1⟩ := q1
    have H3 : kz_St σ0 T vs p (C ++ kz_ops R) W o 2 j φ1 := H.mk (f1.mo (fun g i k q => by unfold kzF at q; unfold kzS; omega)) (H.1.fr f1 (by unfold kzS; decide) (by unfold kzS; decide) (fun _ _ => by unfold kzS; omega) (fun _ => by unfold kzS; omega)) c1 w1 ((f1.i (by unfold kzS; decide)).trans H.2.2.2.1) ((f1.i (by unfold kzS; decide)).trans H.2.2.2.2.1)
    have hcl : (C ++ kz_ops R).length ≤ 2 * j := by rw [List.length_append]; unfold kz_ops; rw [List.length_map]; exact hc
    have tl := tail [] (C ++ kz_ops R) φ1 (by rw [List.reverse_nil, List.append_nil]; exact H3) (fun w hw => by simp at hw) (by simp; omega) (by simp only [List.length_nil]; omega) (List.append_nil _)
    rcases hlow with e | ⟨V, w, e, hw⟩
    · have w1' := w1
      rw [e] at w1'
      refine ma_be (kz_top0 w1').1 (ma_be (kz_rank _ _) (ma_F (by decide) tl))
    · have w1' := w1
      have hV : V.length < 501 := by rw [e, List.length_append, List.length_singleton] at hb; omega
      rw [e] at w1'
      refine ma_be (kz_top w1' hV).1 (ma_be (kz_rank _ _) (ma_F ?_ tl))
      rw [show ks_rk w.1 = 0 by omega]
      decide
  · exact tail R C σ H (fun w hw => (hR w hw).1) hb hc rfl
end KZ
