/-! the reference makes nodes -/
section KN
variable {T : kt_T} {σ τ : ae_S} {j u o : Nat}
def kn_F (u : Nat) (g : Nat) (_ : Fin 32) (k : Nat) : Prop := ¬ (g = 30 ∧ k = 38) ∧ ¬ (47 ≤ g ∧ g ≤ 51 ∧ k = u)
theorem kn_node (h : σ.1 30 0 38 = nI u) (hu : u < 600) (a b c : Int32) : ma_wp (F_X12_node a b c σ) (fun r τ => r = nI u ∧ τ.1 30 0 38 = nI (u + 1) ∧ τ.1 47 0 u = a ∧ τ.1 48 0 u = b ∧ τ.1 49 0 u = c ∧ τ.1 50 0 u = -1 ∧ τ.2.1 51 0 u = -1 ∧ ma_fr (kn_F u) σ τ) := by
  unfold F_X12_node
  refine ma_gd (ma_ib _ h hu (by decide)) (ma_lt ?_)
  rw [ma_cl (x := σ.1 30 0 38) _ h (by omega)]
  have h1 : (ae_wI σ 47 0 u a).1 30 0 38 = nI u := (ma_rIn (by simp)).trans h
  have a1 : (ae_wI σ 47 0 u a).1 47 0 u = a := ma_rI
  have f1 : ma_fr (kn_F u) σ (ae_wI σ 47 0 u a) := ma_fwI (by unfold kn_F; simp)
  generalize ae_wI σ 47 0 u a = σ1 at h1 a1 f1 ⊢
  refine ma_gd (ma_ib _ h1 hu (by decide)) (ma_lt ?_)
  rw [ma_cl (x := σ1.1 30 0 38) _ h1 (by omega)]
  have h2 : (ae_wI σ1 48 0 u b).1 30 0 38 = nI u := (ma_rIn (by simp)).trans h1
  have a2 : (ae_wI σ1 48 0 u b).1 47 0 u = a := (ma_rIn (by simp)).trans a1
  have b2 : (ae_wI σ1 48 0 u b).1 48 0 u = b := ma_rI
  have f2 : ma_fr (kn_F u) σ (ae_wI σ1 48 0 u b) := f1.tr (ma_fwI (by unfold kn_F; simp))
  generalize ae_wI σ1 48 0 u b = σ2 at h2 a2 b2 f2 ⊢
  refine ma_gd (ma_ib _ h2 hu (by decide)) (ma_lt ?_)
  rw [ma_cl (x := σ2.1 30 0 38) _ h2 (by omega)]
  have h3 : (ae_wI σ2 49 0 u c).1 30 0 38 = nI u := (ma_rIn (by simp)).trans h2
  have a3 : (ae_wI σ2 49 0 u c).1 47 0 u = a := (ma_rIn (by simp)).trans a2
  have b3 : (ae_wI σ2 49 0 u c).1 48 0 u = b := (ma_rIn (by simp)).trans b2
  have c3 : (ae_wI σ2 49 0 u c).1 49 0 u = c := ma_rI
  have f3 : ma_fr (kn_F u) σ (ae_wI σ2 49 0 u c) := f2.tr (ma_fwI (by unfold kn_F; simp))
  generalize ae_wI σ2 49 0 u c = σ3 at h3 a3 b3 c3 f3 ⊢
  refine ma_gd (ma_ib _ h3 hu (by decide)) (ma_lt ?_)
  rw [ma_cl (x := σ3.1 30 0 38) _ h3 (by omega)]
  have h4 : (ae_wI σ3 50 0 u (-1)).1 30 0 38 = nI u := (ma_rIn (by simp)).trans h3
  have a4 : (ae_wI σ3 50 0 u (-1)).1 47 0 u = a := (ma_rIn (by simp)).trans a3
  have b4 : (ae_wI σ3 50 0 u (-1)).1 48 0 u = b := (ma_rIn (by simp)).trans b3
  have c4 : (ae_wI σ3 50 0 u (-1)).1 49 0 u = c := (ma_rIn (by simp)).trans c3
  have d4 : (ae_wI σ3 50 0 u (-1)).1 50 0 u = -1 := ma_rI
  have f4 : ma_fr (kn_F u) σ (ae_wI σ3 50 0 u (-1)) := f3.tr (ma_fwI (by unfold kn_F; simp))
  generalize ae_wI σ3 50 0 u (-1) = σ4 at h4 a4 b4 c4 d4 f4 ⊢
  refine ma_gd (ma_ib _ h4 hu (by decide)) (ma_lt ?_)
  rw [ma_cl (x := σ4.1 30 0 38) _ h4 (by omega)]
  have f5 : ma_fr (kn_F u) σ (ae_wL σ4 51 0 u (-1)) := f4.tr (ma_fwL (by unfold kn_F; simp))
  have h5 : (ae_wL σ4 51 0 u (-1)).1 30 0 38 = nI u := h4
  have e5 : (ae_wL σ4 51 0 u (-1)).2.1 51 0 u = -1 := ma_rL
  have a5 : (ae_wL σ4 51 0 u (-1)).1 47 0 u = a := a4
  have b5 : (ae_wL σ4 51 0 u (-1)).1 48 0 u = b := b4
  have c5 : (ae_wL σ4 51 0 u (-1)).1 49 0 u = c := c4
  have d5 : (ae_wL σ4 51 0 u (-1)).1 50 0 u = -1 := d4
  generalize ae_wL σ4 51 0 u (-1) = σ5 at f5 h5 e5 a5 b5 c5 d5 ⊢
  refine ma_lt ?_
  rw [h5, nI_1]
  refine ma_ret ⟨?_, ma_rI, (ma_rIn (by simp)).trans a5, (ma_rIn (by simp)).trans b5, (ma_rIn (by simp)).trans c5, (ma_rIn (by simp)).trans d5, e5, f5.tr (ma_fwI (by unfold kn_F; simp))⟩
  rw [ma_rI]
  exact nI_pred u
theorem kK.node {P : Nat → Fin 32 → Nat → Prop} (H : kK T j σ) (f : ma_fr (kn_F u) σ τ) : kK T j τ := H.fr f (by unfold kn_F; omega) (fun _ _ _ => by unfold kn_F; omega) (fun _ => by unfold kn_F; omega)
theorem kn_open (hT : kt_W T) (H : kK T j σ) (h : σ.1 30 0 39 = nI o) (ho : o ≤ 5) : ma_wp (F_X12_opens σ) (fun r τ => (o < 5 ∧ r = 1 ∧ kK T (j + 1) τ ∧ τ.1 30 0 39 = nI (o + 1) ∧ ma_fr (fun g i k => km_F g i k ∧ ¬ (g = 30 ∧ k = 39)) σ τ) ∨ (o = 5 ∧ r = 0 ∧ km_bad 5 (kt_s T j) τ ∧ ma_fr (fun g _ k => ¬ (g = 30 ∧ (k = 23 ∨ k = 24))) σ τ)) := by
  unfold F_X12_opens
  refine ma_en o 5 h rfl (by omega) (by decide) (fun g => ?_) (fun g => ma_lt ?_)
  · rw [H.1.2.2.1]
    refine ma_bd (km_fail H.2.1 5 _) (fun r τ q => ?_)
    obtain ⟨rfl, hb, f⟩ := q
    exact ma_gd ma_z0 (ma_ret (.inr ⟨g, rfl, hb, f⟩))
  · rw [h, nI_1]
    have f1 : ma_fr (fun g _ k => ¬ (g = 30 ∧ k = 39)) σ (ae_wI σ 30 0 39 (nI (o + 1))) := ma_fwI (by simp)
    have K1 : kK T j (ae_wI σ 30 0 39 (nI (o + 1))) := H.fr f1 (by omega) (fun _ _ _ => by omega) (fun _ => by omega)
    have e1 : (ae_wI σ 30 0 39 (nI (o + 1))).1 30 0 39 = nI (o + 1) := ma_rI
    generalize ae_wI σ 30 0 39 (nI (o + 1)) = σ1 at f1 K1 e1 ⊢
    exact ma_bd (K1.adv hT) (fun _ τ q => ma_ret (.inl ⟨by omega, rfl, q.1, (q.2.i (by unfold km_F; omega)).trans e1, (f1.mo (fun g i k q => q.2)).tr (q.2.mo (fun g i k q => q.1))⟩))
end KN
