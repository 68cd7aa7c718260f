/-! THE REFERENCE DOES: numbers, troubles -/
section KX
variable {σ τ σ0 : ae_S} {sz dn : Nat} {vs : List mv_V} {C : ks_E} {m : Nat → Int32} {tr : mt_T} {v : ka_V}
def ka_eq (a b : UInt64) : Prop := FP.Core.decode FP.Core.b64 a.toNat = FP.Core.decode FP.Core.b64 b.toNat
section
variable {a a' b b' : UInt64}
theorem ka_eqA (h1 : ka_eq a a') (h2 : ka_eq b b') : FP.dadd a b = FP.dadd a' b' := by
  show UInt64.ofNat (FP.Core.add FP.Core.b64 a.toNat b.toNat) = UInt64.ofNat (FP.Core.add FP.Core.b64 a'.toNat b'.toNat)
  unfold FP.Core.add
  rw [show FP.Core.decode FP.Core.b64 a.toNat = _ from h1, show FP.Core.decode FP.Core.b64 b.toNat = _ from h2]
theorem ka_eqS (h1 : ka_eq a a') (h2 : ka_eq b b') : FP.dsub a b = FP.dsub a' b' := by
  show UInt64.ofNat (FP.Core.sub FP.Core.b64 a.toNat b.toNat) = UInt64.ofNat (FP.Core.sub FP.Core.b64 a'.toNat b'.toNat)
  unfold FP.Core.sub
  rw [show FP.Core.decode FP.Core.b64 a.toNat = _ from h1, show FP.Core.decode FP.Core.b64 b.toNat = _ from h2]
theorem ka_eqM (h1 : ka_eq a a') (h2 : ka_eq b b') : FP.dmul a b = FP.dmul a' b' := by
  show UInt64.ofNat (FP.Core.mul FP.Core.b64 a.toNat b.toNat) = UInt64.ofNat (FP.Core.mul FP.Core.b64 a'.toNat b'.toNat)
  unfold FP.Core.mul
  rw [show FP.Core.decode FP.Core.b64 a.toNat = _ from h1, show FP.Core.decode FP.Core.b64 b.toNat = _ from h2]
theorem ka_eqD (h1 : ka_eq a a') (h2 : ka_eq b b') : FP.ddiv a b = FP.ddiv a' b' := by
  show UInt64.ofNat (FP.Core.div FP.Core.b64 a.toNat b.toNat) = UInt64.ofNat (FP.Core.div FP.Core.b64 a'.toNat b'.toNat)
  unfold FP.Core.div
  rw [show FP.Core.decode FP.Core.b64 a.toNat = _ from h1, show FP.Core.decode FP.Core.b64 b.toNat = _ from h2]
theorem ka_eqR (h1 : ka_eq a a') (h2 : ka_eq b b') : FP.drem a b = FP.drem a' b' := by
  show UInt64.ofNat (FP.Core.rem FP.Core.b64 a.toNat b.toNat) = UInt64.ofNat (FP.Core.rem FP.Core.b64 a'.toNat b'.toNat)
  unfold FP.Core.rem
  rw [show FP.Core.decode FP.Core.b64 a.toNat = _ from h1, show FP.Core.decode FP.Core.b64 b.toNat = _ from h2]
theorem ka_eqC (h1 : ka_eq a a') (h2 : ka_eq b b') : FP.dcmp a b = FP.dcmp a' b' := by
  show FP.Core.order (FP.Core.decode FP.Core.b64 a.toNat) (FP.Core.decode FP.Core.b64 b.toNat) = FP.Core.order (FP.Core.decode FP.Core.b64 a'.toNat) (FP.Core.decode FP.Core.b64 b'.toNat)
  rw [show FP.Core.decode FP.Core.b64 a.toNat = _ from h1, show FP.Core.decode FP.Core.b64 b.toNat = _ from h2]
theorem ka_eqN (h1 : ka_eq a a') : ae_db (FP.dneg a) = ae_db (FP.dneg a') := by
  rw [mg_negE, mg_negE]
  unfold FP.Core.neg
  rw [show FP.Core.decode FP.Core.b64 a.toNat = _ from h1]
theorem ka_eqL (h1 : ka_eq a a') : FP.d2l a = FP.d2l a' := by
  show FP.Core.toL (FP.Core.decode FP.Core.b64 a.toNat) = FP.Core.toL (FP.Core.decode FP.Core.b64 a'.toNat)
  rw [show FP.Core.decode FP.Core.b64 a.toNat = _ from h1]
theorem ka_eqB (h1 : ka_eq a a') : ae_db a = ae_db a' := by
  rw [mg_db, mg_db]
  unfold mf_pl64
  rw [show FP.Core.decode FP.Core.b64 a.toNat = _ from h1]
theorem ka_eqF (h1 : ka_eq a a') : ae_fb (FP.d2f a) = ae_fb (FP.d2f a') := by
  rw [mg_d2f, mg_d2f]
  unfold FP.Core.convert
  rw [show FP.Core.decode FP.Core.b64 a.toNat = _ from h1]
theorem ka_eqbf (h1 : ka_eq a a') (k : Nat) : mg_bf k a = mg_bf k a' := by
  unfold mg_bf
  rw [ka_eqF h1, ka_eqB h1, ka_eqL h1]
end
/-- what the reference holds as the latest value -/
def kx_v (v : ka_V) (σ : ae_S) : Prop := (v.2 = true ∧ σ.1 30 0 45 = 1 ∧ ae_db (σ.2.2.1 30 0 47) = v.1) ∨ (v.2 = false ∧ σ.1 30 0 45 = 0 ∧ σ.2.1 30 0 46 = v.1)
def kxF (g : Nat) (_ : Fin 32) (k : Nat) : Prop := ¬ (g = 30 ∧ 40 ≤ k ∧ k ≤ 47) ∧ g ≠ 31 ∧ g ≠ 53 ∧ g ≠ 54
def kxV (g : Nat) (_ : Fin 32) (k : Nat) : Prop := ¬ (g = 30 ∧ 45 ≤ k ∧ k ≤ 47)
def kxQ (g : Nat) (_ : Fin 32) (_ : Nat) : Prop := g = 54
def kx_R (sz : Nat) (σ0 : ae_S) (m : Nat → Int32) (dn : Nat) (tr : mt_T) (σ : ae_S) : Prop := (∀ k, sz ≤ k → m k = 0) ∧ (∀ k, k < 256 → σ.1 31 0 k = m k) ∧ σ.1 30 0 43 = nI dn ∧ mi_Mr tr σ ∧ ma_fr kxF σ0 σ
theorem kx_R.fr (H : kx_R sz σ0 m dn tr σ) (f : ma_fr kxV σ τ) : kx_R sz σ0 m dn tr τ := ⟨H.1, fun k hk => (f.i (by unfold kxV; omega)).trans (H.2.1 k hk), (f.i (by unfold kxV; omega)).trans H.2.2.1, H.2.2.2.1.fr f (by unfold kxV; omega) (fun _ => by unfold kxV; omega), H.2.2.2.2.tr (f.mo (fun g i k q => by unfold kxF at q; unfold kxV; omega))⟩
theorem kx_R.me (H : kx_R sz σ0 m dn tr σ) {m' : Nat → Int32} (f : ma_fr (fun g _ _ => g ≠ 31) σ τ) (h1 : ∀ k, sz ≤ k → m' k = 0) (h2 : ∀ k, k < 256 → τ.1 31 0 k = m' k) : kx_R sz σ0 m' dn tr τ := ⟨h1, h2, (f.i (by omega)).trans H.2.2.1, H.2.2.2.1.fr f (by omega) (fun _ => by omega), H.2.2.2.2.tr (f.mo (fun g i k q => by unfold kxF at q; omega))⟩
theorem kx_VQ (f : ma_fr kxV σ τ) : ma_fr kxQ σ τ := f.mo (fun g i k q => by unfold kxQ at q; unfold kxV; omega)
theorem kx_veq (h : kx_v v σ) : (v.2 = true → ka_eq (σ.2.2.1 30 0 47) v.1.toUInt64) := fun hv => by
  rcases h with ⟨_, _, h⟩ | ⟨h, _⟩
  · exact (ka_dv h).symm
  · rw [hv] at h; cases h
theorem kx_comes (H : kx_R sz σ0 m dn tr σ) (h40 : σ.1 30 0 40 = 0) (htr : tr.1 < 2 ^ 30) (t : Int32) : ma_wp (F_X12_comes t σ) (fun _ τ => τ.1 30 0 40 = t ∧ kx_R sz σ0 m dn (ka_tn t tr) τ ∧ ma_fr kxQ σ τ) := by
  obtain ⟨h1, h2, h3, h4, h5⟩ := H
  unfold F_X12_comes
  refine ma_T h40 (ma_lt ?_)
  have a1 : (ae_wI σ 30 0 40 t).1 30 0 40 = t := ma_rI
  have f1 : ma_fr (fun g _ k => ¬ (g = 30 ∧ k = 40)) σ (ae_wI σ 30 0 40 t) := ma_fwI (by simp)
  generalize ae_wI σ 30 0 40 t = σ1 at a1 f1 ⊢
  have e41 : σ1.1 30 0 41 = nI tr.1 := (f1.i (by omega)).trans h4.1
  have fin : ∀ φ : ae_S, (∀ k, k < tr.1 + 1 → k < 20 → φ.1 53 0 k = (ka_tn t tr).2 k) → ma_fr (fun g _ _ => g ≠ 53) σ1 φ → ma_wp (F_X12_comes_32 φ) (fun _ τ => τ.1 30 0 40 = t ∧ kx_R sz σ0 m dn (ka_tn t tr) τ ∧ ma_fr kxQ σ τ) := by
    intro φ hr f2
    unfold F_X12_comes_32
    rw [show φ.1 30 0 41 = nI tr.1 from (f2.i (by omega)).trans e41, nI_1]
    have f3 : ma_fr (fun g _ k => ¬ (g = 30 ∧ k = 41)) φ (ae_wI φ 30 0 41 (nI (tr.1 + 1))) := ma_fwI (by simp)
    have a3 : (ae_wI φ 30 0 41 (nI (tr.1 + 1))).1 30 0 41 = nI (tr.1 + 1) := ma_rI
    refine ma_lt ?_
    generalize ae_wI φ 30 0 41 (nI (tr.1 + 1)) = ψ at f3 a3 ⊢
    have F : ma_fr (fun g _ k => ¬ (g = 30 ∧ (k = 40 ∨ k = 41)) ∧ g ≠ 53) σ ψ := (f1.mo (fun g i k q => by omega)).tr ((f2.mo (fun g i k q => q.2)).tr (f3.mo (fun g i k q => by omega)))
    refine ma_ret ⟨(f3.i (by omega)).trans ((f2.i (by omega)).trans a1), ⟨h1, fun k hk => (F.i (by omega)).trans (h2 k hk), (F.i (by omega)).trans h3, ⟨a3, fun k k1 k2 => (f3.i (by omega)).trans (hr k k1 k2)⟩, h5.tr (F.mo (fun g i k q => by unfold kxF at q; omega))⟩, F.mo (fun g i k q => by unfold kxQ at q; omega)⟩
  refine ma_le 20 tr.1 rfl e41 (by decide) (by omega) (fun h => fin σ1 (fun k k1 k2 => ?_) ma_fr.rf) (fun h => ma_gd (ma_ib _ e41 h (by decide)) ?_)
  · show σ1.1 53 0 k = if k = tr.1 then t else tr.2 k
    rw [if_neg (by omega)]
    exact (f1.i (by omega)).trans (h4.2 k (by omega) k2)
  · rw [ma_cl (x := σ1.1 30 0 41) _ e41 (by omega)]
    refine ma_lt (fin _ (fun k k1 k2 => ?_) (ma_fwI (by simp)))
    show (ae_wI σ1 53 0 tr.1 t).1 53 0 k = if k = tr.1 then t else tr.2 k
    by_cases hk : k = tr.1
    · rw [if_pos hk, hk, ma_rI]
    · rw [if_neg hk, ma_rIn (by omega)]
      exact (f1.i (by omega)).trans (h4.2 k (by omega) k2)
theorem kx_tells (x : Int64) (σ : ae_S) : ma_wp (F_X12_tells x σ) (fun _ τ => kx_v (x, false) τ ∧ ma_fr kxV σ τ) := by
  unfold F_X12_tells
  refine ma_lt (ma_lt (ma_ret ⟨.inr ⟨rfl, (show (ae_wI σ 30 0 45 0).1 30 0 45 = 0 from ma_rI), ma_rL⟩, (ma_fwI (by unfold kxV; simp)).tr (ma_fwL (by unfold kxV; simp))⟩))
theorem kx_one {α : Type} {Q : α → ae_S → Prop} {t : Int32} {f : Int32 → ae_S → Option (α × ae_S)} (h : ma_wp (f (if t = 0 then 0 else 1) σ) Q) : ma_wp (ae_bd (F_X12_one t σ) f) Q := by
  unfold F_X12_one F_X12_one_9
  by_cases ht : t = 0
  · rw [if_pos ht] at h ⊢
    exact h
  · rw [if_neg ht] at h ⊢
    exact h
theorem kx_cg (o : Option Ordering) : 0 ≤ Op.cmpValue o CmpOp.g ↔ ¬ o = some .lt := by
  cases o with
  | none => decide
  | some x => cases x <;> decide
theorem kx_cl (o : Option Ordering) : Op.cmpValue o CmpOp.l ≤ 0 ↔ ¬ o = some .gt := by
  cases o with
  | none => decide
  | some x => cases x <;> decide
theorem ks_rkC {p : Int32} (h1 : 1 ≤ ks_rk p) (h2 : ks_rk p ≤ 3) : p = 7 ∨ p = 8 ∨ p = 9 ∨ p = 10 ∨ p = 11 ∨ p = 12 ∨ p = 13 ∨ p = 14 := by
  revert h1 h2
  unfold ks_rk
  repeat' split
  all_goals simp_all
theorem kx_as (h : kx_v v σ) : ∃ x, F_X12_asFloat σ = some (x, σ) ∧ ka_eq x (ka_fl v) := by
  unfold F_X12_asFloat F_X12_asFloat_19 ka_fl
  rcases h with ⟨h1, h2, h3⟩ | ⟨h1, h2, h3⟩
  · rw [h2, if_neg (by decide), if_pos h1]
    exact ⟨_, rfl, (ka_dv h3).symm⟩
  · rw [h2, if_pos rfl, h1, if_neg (by decide), h3]
    exact ⟨_, rfl, rfl⟩
theorem kx_wD (σ : ae_S) {x y : UInt64} (h : ae_db x = ae_db y) : ma_wp (ae_lt (ae_wD (ae_wI σ 30 0 45 1) 30 0 47 x) (fun s => F_X12_floats_193 s)) (fun _ τ => kx_v (ae_db y, true) τ ∧ ma_fr kxV σ τ) := by
  unfold F_X12_floats_193
  refine ma_lt (ma_ret ⟨.inl ⟨rfl, (show (ae_wI σ 30 0 45 1).1 30 0 45 = 1 from ma_rI), ?_⟩, (ma_fwI (by unfold kxV; simp)).tr (ma_fwD (by unfold kxV; simp))⟩)
  rw [ma_rD]
  exact h
theorem kx_wT (σ φ : ae_S) (f : ma_fr kxV σ φ) {t : Int32} {y : Int64} (h : (t = 0 ∧ y = 0) ∨ (t ≠ 0 ∧ y = 1)) : ma_wp (ae_bd (F_X12_one t φ) (fun (r1 : Int32) s2 => ae_bd (F_X12_tells r1.toInt64 s2) (fun (_ : Unit) s6 => some ((), s6)))) (fun _ τ => kx_v (y, false) τ ∧ ma_fr kxV σ τ) := by
  refine kx_one ?_
  have e : (if t = 0 then (0 : Int32) else 1).toInt64 = y := by
    rcases h with ⟨h1, h2⟩ | ⟨h1, h2⟩
    · rw [if_pos h1, h2]; rfl
    · rw [if_neg h1, h2]; rfl
  rw [e]
  exact ma_bd (kx_tells y φ) (fun _ τ q => ma_ret ⟨q.1, f.tr q.2⟩)
theorem kx_flo {p : Int32} (h1 : 1 ≤ ks_rk p) (h2 : ks_rk p ≤ 3) {X Y X' Y' : UInt64} (hX : ka_eq X' X) (hY : ka_eq Y' Y) (σ : ae_S) : ma_wp (F_X12_floats (kn_sc p) X' Y' σ) (fun _ τ => kx_v (ka_fb p X Y) τ ∧ ma_fr kxV σ τ) := by
  have f1 : ma_fr kxV σ (ae_wI σ 30 0 45 1) := ma_fwI (by unfold kxV; simp)
  unfold F_X12_floats F_X12_floats_140 F_X12_floats_163 F_X12_floats_186
  refine ma_lt ?_
  rcases ks_rkC h1 h2 with rfl | rfl | rfl | rfl | rfl | rfl | rfl | rfl
  · refine ma_F (by decide) (ma_F (by decide) (ma_F (by decide) (ma_F (by decide) (ma_F (by decide) (ma_T (by decide) ?_)))))
    show ma_wp _ (fun _ τ => kx_v (if FP.dcmp X Y = some .lt then 1 else 0, false) τ ∧ ma_fr kxV σ τ)
    rw [ka_eqC hX hY]
    unfold F_X12_floats_193
    refine ma_if (fun g => ?_) (fun g => ?_)
    · rw [if_neg ((kx_cg _).mp g)]
      exact kx_wT σ _ f1 (.inl ⟨rfl, rfl⟩)
    · rw [if_pos (Classical.not_not.mp (fun h => g ((kx_cg _).mpr h)))]
      exact kx_wT σ _ f1 (.inr ⟨by decide, rfl⟩)
  · refine ma_F (by decide) (ma_F (by decide) (ma_F (by decide) (ma_F (by decide) (ma_F (by decide) (ma_F (by decide) (ma_T (by decide) ?_))))))
    show ma_wp _ (fun _ τ => kx_v (if FP.dcmp X Y = some .gt then 1 else 0, false) τ ∧ ma_fr kxV σ τ)
    rw [ka_eqC hX hY]
    unfold F_X12_floats_193
    refine ma_if (fun g => ?_) (fun g => ?_)
    · rw [if_neg ((kx_cl _).mp g)]
      exact kx_wT σ _ f1 (.inl ⟨rfl, rfl⟩)
    · rw [if_pos (Classical.not_not.mp (fun h => g ((kx_cl _).mpr h)))]
      exact kx_wT σ _ f1 (.inr ⟨by decide, rfl⟩)
  · refine ma_F (by decide) (ma_F (by decide) (ma_F (by decide) (ma_F (by decide) (ma_F (by decide) (ma_F (by decide) (ma_F (by decide) ?_))))))
    show ma_wp _ (fun _ τ => kx_v (if FP.dcmp X Y = some .eq then 1 else 0, false) τ ∧ ma_fr kxV σ τ)
    rw [ka_eqC hX hY]
    unfold F_X12_floats_193
    refine ma_if (fun g => ?_) (fun g => ?_)
    · rw [if_pos ((my_cl0 _).mp g)]
      exact kx_wT σ _ f1 (.inr ⟨by decide, rfl⟩)
    · rw [if_neg (fun h => g ((my_cl0 _).mpr h))]
      exact kx_wT σ _ f1 (.inl ⟨rfl, rfl⟩)
  · refine ma_F (by decide) (ma_F (by decide) (ma_T (by decide) ?_))
    exact kx_wD σ (y := FP.dadd X Y) (by rw [ka_eqA hX hY])
  · refine ma_F (by decide) (ma_F (by decide) (ma_F (by decide) (ma_T (by decide) ?_)))
    exact kx_wD σ (y := FP.dsub X Y) (by rw [ka_eqS hX hY])
  · refine ma_F (by decide) (ma_T (by decide) ?_)
    exact kx_wD σ (y := FP.dmul X Y) (by rw [ka_eqM hX hY])
  · refine ma_F (by decide) (ma_F (by decide) (ma_F (by decide) (ma_F (by decide) (ma_T (by decide) ?_))))
    exact kx_wD σ (y := FP.ddiv X Y) (by rw [ka_eqD hX hY])
  · refine ma_T (by decide) ?_
    exact kx_wD σ (y := FP.drem X Y) (by rw [ka_eqR hX hY])
theorem kx_w25 {p : Int32} (h1 : 1 ≤ ks_rk p) (h2 : ks_rk p ≤ 3) {x y : Int64} (hy : p = 13 ∨ p = 14 → ¬ lg_cmp y 0 = 0) (σ : ae_S) : ma_wp (F_X12_wholes_25 (kn_sc p) x y σ) (fun _ τ => ∃ v, ka_wb p x y = some v ∧ kx_v v τ ∧ ma_fr kxV σ τ) := by
  have tl : ∀ z : Int64, ka_wb p x y = some (z, false) → ma_wp (ae_bd (F_X12_tells z σ) (fun (_ : Unit) s => F_X12_wholes_213 s)) (fun _ τ => ∃ v, ka_wb p x y = some v ∧ kx_v v τ ∧ ma_fr kxV σ τ) := fun z hz => by
    unfold F_X12_wholes_213
    exact ma_bd (kx_tells z σ) (fun _ τ q => ma_ret ⟨_, hz, q.1, q.2⟩)
  have tt : ∀ (t : Int32) (z : Int64), (t = 0 ∧ z = 0) ∨ (t ≠ 0 ∧ z = 1) → ka_wb p x y = some (z, false) → ma_wp (ae_bd (F_X12_one t σ) (fun (r1 : Int32) s2 => ae_bd (F_X12_tells r1.toInt64 s2) (fun (_ : Unit) s6 => F_X12_wholes_213 s6))) (fun _ τ => ∃ v, ka_wb p x y = some v ∧ kx_v v τ ∧ ma_fr kxV σ τ) := fun t z ht hz => by
    unfold F_X12_wholes_213
    exact ma_mono (kx_wT σ σ ma_fr.rf ht) (fun _ τ q => ⟨_, hz, q.1, q.2⟩)
  unfold F_X12_wholes_25 F_X12_wholes_160 F_X12_wholes_183 F_X12_wholes_206
  have nz : p = 13 ∨ p = 14 → (!(decide (y = 0))) = true := fun h => by rw [decide_eq_false (fun g => hy h ((lg_cmp_eq _ _).mpr g))]; rfl
  rcases ks_rkC h1 h2 with rfl | rfl | rfl | rfl | rfl | rfl | rfl | rfl
  · refine ma_F (by decide) (ma_F (by decide) (ma_F (by decide) (ma_F (by decide) (ma_F (by decide) (ma_T (by decide) ?_)))))
    refine ma_if (fun g => tt 0 0 (.inl ⟨rfl, rfl⟩) ?_) (fun g => tt 1 1 (.inr ⟨by decide, rfl⟩) ?_)
    · show some (if 0 ≤ lg_cmp x y then (0 : Int64) else 1, false) = _
      rw [if_pos g]
    · show some (if 0 ≤ lg_cmp x y then (0 : Int64) else 1, false) = _
      rw [if_neg g]
  · refine ma_F (by decide) (ma_F (by decide) (ma_F (by decide) (ma_F (by decide) (ma_F (by decide) (ma_F (by decide) (ma_T (by decide) ?_))))))
    refine ma_if (fun g => tt 0 0 (.inl ⟨rfl, rfl⟩) ?_) (fun g => tt 1 1 (.inr ⟨by decide, rfl⟩) ?_)
    · show some (if lg_cmp x y ≤ 0 then (0 : Int64) else 1, false) = _
      rw [if_pos g]
    · show some (if lg_cmp x y ≤ 0 then (0 : Int64) else 1, false) = _
      rw [if_neg g]
  · refine ma_F (by decide) (ma_F (by decide) (ma_F (by decide) (ma_F (by decide) (ma_F (by decide) (ma_F (by decide) (ma_F (by decide) ?_))))))
    refine ma_if (fun g => tt 1 1 (.inr ⟨by decide, rfl⟩) ?_) (fun g => tt 0 0 (.inl ⟨rfl, rfl⟩) ?_)
    · show some (if lg_cmp x y = 0 then (1 : Int64) else 0, false) = _
      rw [if_pos g]
    · show some (if lg_cmp x y = 0 then (1 : Int64) else 0, false) = _
      rw [if_neg g]
  · exact ma_F (by decide) (ma_F (by decide) (ma_T (by decide) (tl _ rfl)))
  · exact ma_F (by decide) (ma_F (by decide) (ma_F (by decide) (ma_T (by decide) (tl _ rfl))))
  · exact ma_F (by decide) (ma_T (by decide) (tl _ rfl))
  · refine ma_F (by decide) (ma_F (by decide) (ma_F (by decide) (ma_F (by decide) (ma_T (by decide) (ma_gd (nz (.inl rfl)) (tl _ ?_))))))
    show (if lg_cmp y 0 = 0 then none else some (x / y, false)) = _
    rw [if_neg (hy (.inl rfl))]
  · refine ma_T (by decide) (ma_gd (nz (.inr rfl)) (tl _ ?_))
    show (if lg_cmp y 0 = 0 then none else some (x - x / y * y, false)) = _
    rw [if_neg (hy (.inr rfl))]
theorem kx_who {p : Int32} (h1 : 1 ≤ ks_rk p) (h2 : ks_rk p ≤ 3) {x y : Int64} (H : kx_R sz σ0 m dn tr σ) (h40 : σ.1 30 0 40 = 0) (htr : tr.1 < 2 ^ 30) : ma_wp (F_X12_wholes (kn_sc p) x y σ) (fun _ τ => (∃ v, ka_wb p x y = some v ∧ kx_v v τ ∧ ma_fr kxV σ τ) ∨ (ka_wb p x y = none ∧ τ.1 30 0 40 = 2 ∧ kx_R sz σ0 m dn (ka_tn 2 tr) τ ∧ ma_fr kxQ σ τ)) := by
  unfold F_X12_wholes F_X12_wholes_12
  have l25 : (p = 13 ∨ p = 14 → ¬ lg_cmp y 0 = 0) → ma_wp (F_X12_wholes_25 (kn_sc p) x y σ) (fun _ τ => (∃ v, ka_wb p x y = some v ∧ kx_v v τ ∧ ma_fr kxV σ τ) ∨ (ka_wb p x y = none ∧ τ.1 30 0 40 = 2 ∧ kx_R sz σ0 m dn (ka_tn 2 tr) τ ∧ ma_fr kxQ σ τ)) := fun hy => ma_mono (kx_w25 h1 h2 hy σ) (fun _ τ q => .inl q)
  have l12 : p = 13 ∨ p = 14 → ma_wp (if (lg_cmp y (0 : Int64)) = 0 then (ae_bd (F_X12_comes (2 : Int32) σ) (fun (r85 : Unit) s86 => some ((), s86))) else (F_X12_wholes_25 (kn_sc p) x y σ)) (fun _ τ => (∃ v, ka_wb p x y = some v ∧ kx_v v τ ∧ ma_fr kxV σ τ) ∨ (ka_wb p x y = none ∧ τ.1 30 0 40 = 2 ∧ kx_R sz σ0 m dn (ka_tn 2 tr) τ ∧ ma_fr kxQ σ τ)) := fun hp => by
    refine ma_if (fun g => ma_bd (kx_comes H h40 htr 2) (fun _ τ q => ma_ret (.inr ⟨?_, q⟩))) (fun g => l25 (fun _ => g))
    rcases hp with rfl | rfl
    · show (if lg_cmp y 0 = 0 then none else some (x / y, false)) = none
      rw [if_pos g]
    · show (if lg_cmp y 0 = 0 then none else some (x - x / y * y, false)) = none
      rw [if_pos g]
  by_cases h13 : p = 13
  · exact ma_T (by rw [h13]; decide) (l12 (.inl h13))
  · by_cases h14 : p = 14
    · exact ma_F (by rw [h14]; decide) (ma_T (by rw [h14]; decide) (l12 (.inr h14)))
    · have hq : kn_sc p ≠ 47 ∧ kn_sc p ≠ 37 := by
        rcases ks_rkC h1 h2 with rfl | rfl | rfl | rfl | rfl | rfl | rfl | rfl
        all_goals first | decide | (exact absurd rfl h13) | (exact absurd rfl h14)
      exact ma_F hq.1 (ma_F hq.2 (l25 (fun h => by rcases h with h | h; exact absurd h h13; exact absurd h h14)))
theorem kx_nought (h : kx_v v σ) : ∃ r, F_X12_isNought σ = some (r, σ) ∧ (r = 0 ↔ ¬ ka_z v) := by
  unfold F_X12_isNought F_X12_isNought_38 ka_z
  rcases h with ⟨h1, h2, h3⟩ | ⟨h1, h2, h3⟩
  · rw [h2, if_neg (by decide), if_pos h1, ka_eqC (a := σ.2.2.1 30 0 47) (a' := v.1.toUInt64) (b := FP.dconst0) (b' := FP.dconst0) (ka_dv h3).symm rfl]
    by_cases g : FP.dcmp v.1.toUInt64 FP.dconst0 = some .eq
    · rw [if_pos ((my_cl0 _).mpr g)]
      exact ⟨1, rfl, by simp [g]⟩
    · rw [if_neg (fun q => g ((my_cl0 _).mp q))]
      exact ⟨0, rfl, by simp [g]⟩
  · rw [h2, if_pos rfl, h1, if_neg (c := false = true) (by decide), h3]
    by_cases g : v.1 = 0
    · rw [if_pos ((lg_cmp_eq _ _).mpr g)]
      exact ⟨1, rfl, by simp [g]⟩
    · rw [if_neg (fun q => g ((lg_cmp_eq _ _).mp q))]
      exact ⟨0, rfl, by simp [g]⟩
theorem ka_ng2 (hc : ka_cn v) : ka_ng (ka_ng v) = v := by
  obtain ⟨x, b⟩ := v
  cases b with
  | false =>
    show ((- -x, false) : ka_V) = (x, false)
    rw [Int64.neg_neg]
  | true =>
    have hx : ae_db x.toUInt64 = x := hc rfl
    show ((ae_db (FP.dneg (ae_db (FP.dneg x.toUInt64)).toUInt64), true) : ka_V) = (x, true)
    have e1 : ka_eq (ae_db (FP.dneg x.toUInt64)).toUInt64 (FP.dneg x.toUInt64) := ka_dv rfl
    rw [ka_eqN e1]
    have e2 : FP.dneg (FP.dneg x.toUInt64) = x.toUInt64 := by
      show (x.toUInt64 ^^^ 0x8000000000000000) ^^^ 0x8000000000000000 = x.toUInt64
      rw [UInt64.xor_assoc, UInt64.xor_self, UInt64.xor_zero]
    rw [e2, hx]
theorem kx_cn (h : kx_v v σ) : ka_cn v := fun hv => by
  rcases h with ⟨_, _, h⟩ | ⟨h, _⟩
  · rw [← h]
    exact ka_canon _ rfl
  · rw [hv] at h; cases h
end KX
