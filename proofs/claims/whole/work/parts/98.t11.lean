/-! the reference reads groups: whole statements -/
section KN
variable {T : kt_T} {σ σ0 τ φ ρ : ae_S} {j j0 u u0 o X K sz b w lo hi : Nat} {vs : List mv_V} {c : ks_E} {v1 v2 : Int32}
/-- statements read one behind the other -/
def kn_row (vs : List mv_V) (o lo K b : Nat) (l : List (Nat × ks_E)) (x : Int32) (v2 : Int32) (u : Nat) (σ : ae_S) : Prop := (l = [] ∧ v2 = -1 ∧ x = -1) ∨ ∃ L, v2 = nI L ∧ lo ≤ L ∧ L < u ∧ σ.1 50 0 L = -1 ∧ ∀ ρ, kn_ag lo u L σ ρ → kn_LS (fun u b c => kn_S vs K o u b c ρ) ρ l x (ρ.1 50 0 L) b
/-- one more -/
theorem kn_row.add {l : List (Nat × ks_E)} {x : Int32} {u1 u2 L K' j1 X1 : Nat} {y : ks_E × Nat} (hu : u2 ≤ 600) (hK : K ≤ K') (hK2 : y.2 - j1 ≤ K') (hl : lo ≤ u1) (F : ma_fr (kn_G u1) σ τ) (S : kn_so T vs o (b + (kn_cat l).length) u1 X1 j1 (y.2 - j1) y w u2 τ) (hL : lo ≤ L ∧ L < u1) (h50 : σ.1 50 0 L = -1) (H : ∀ ρ, kn_ag lo u1 L σ ρ → kn_LS (fun u b c => kn_S vs K o u b c ρ) ρ l x (ρ.1 50 0 L) b) : kn_row vs o lo K' b (l ++ [(w, y.1)]) x (nI w) u2 (ae_wI τ 50 0 L (nI w)) := by
  obtain ⟨s1, s2, s3, s4, s5, s6, s7, s8, s9, s10⟩ := S
  have f : ma_fr (fun g _ k => ¬ (g = 50 ∧ k = L)) τ (ae_wI τ 50 0 L (nI w)) := ma_fwI (by simp)
  have r : (ae_wI τ 50 0 L (nI w)).1 50 0 L = nI w := ma_rI
  generalize ae_wI τ 50 0 L (nI w) = τ' at f r ⊢
  refine .inr ⟨w, rfl, by omega, s2, (f.i (by omega)).trans s9, fun ρ hρ => ?_⟩
  have ak1 : kn_ak u2 τ τ' := fun k hk => ⟨f.i (by omega), fun _ => ⟨f.i (by omega), f.i (by omega), f.l (by omega), f.d (by omega)⟩⟩
  have h1 : kn_ag lo u1 L σ ρ := by
    refine ⟨((kn_akG F).tr (ak1.le (by omega))).tr (hρ.1.le (by omega)), fun k k1 k2 => ?_⟩
    have a := hρ.2 k k1 (by omega)
    exact ⟨a.1.trans ((f.i (by omega)).trans (F.i (by unfold kn_G; omega))), a.2.1.trans ((f.i (by omega)).trans (F.i (by unfold kn_G; omega))), fun n => (a.2.2 (by omega)).trans ((f.i (by omega)).trans (F.i (by unfold kn_G; omega)))⟩
  have h2 : kn_ag u1 u2 w τ ρ := by
    refine ⟨ak1.tr hρ.1, fun k k1 k2 => ?_⟩
    have a := hρ.2 k (by omega) k2
    exact ⟨a.1.trans (f.i (by omega)), a.2.1.trans (f.i (by omega)), fun n => (a.2.2 n).trans (f.i (by omega))⟩
  have e : ρ.1 50 0 L = nI w := ((hρ.2 L hL.1 (by omega)).2.2 (by omega)).trans r
  have g1 := H ρ h1
  rw [e] at g1
  exact kn_LS.snoc (by omega) l x b (kn_LS.mo (fun u b c q => kn_S.mo _ _ _ _ _ _ _ hK q) l _ _ _ g1) (kn_S.mo _ _ _ _ _ _ _ hK2 (s10 ρ h2))
/-- the first -/
theorem kn_row.one {u1 u2 j1 X1 K' : Nat} {y : ks_E × Nat} (hu : u2 ≤ 600) (hK2 : y.2 - j1 ≤ K') (hl : lo ≤ u1) (S : kn_so T vs o b u1 X1 j1 (y.2 - j1) y w u2 τ) {τ' : ae_S} {L : Nat} (hL : L < lo) (h13 : kn_st (τ.1 47 0 L)) (f : ma_fr (fun g _ k => ¬ (g = 48 ∧ k = L)) τ τ') : kn_row vs o lo K' b [(w, y.1)] (nI w) (nI w) u2 τ' := by
  obtain ⟨s1, s2, s3, s4, s5, s6, s7, s8, s9, s10⟩ := S
  refine .inr ⟨w, rfl, by omega, s2, (f.i (by omega)).trans s9, fun ρ hρ => ?_⟩
  have ak1 : kn_ak u2 τ τ' := fun k hk => ⟨f.i (by omega), fun ns => ⟨f.i (fun e => ns (by rw [e.2]; exact h13)), f.i (by omega), f.l (by omega), f.d (by omega)⟩⟩
  have h2 : kn_ag u1 u2 w τ ρ := by
    refine ⟨ak1.tr hρ.1, fun k k1 k2 => ?_⟩
    have a := hρ.2 k (by omega) k2
    exact ⟨a.1.trans (f.i (by omega)), a.2.1.trans (f.i (by omega)), fun n => (a.2.2 n).trans (f.i (by omega))⟩
  exact ⟨rfl, by show w < 600; omega, kn_S.mo _ _ _ _ _ _ _ hK2 (s10 ρ h2), rfl⟩
theorem kn_gl (hT : kt_W T) {g : GT_B} {m : Nat} (HM : mv_M vs σ0) (hs : ∀ b j, 502 ≤ m + j → kn_sr T vs (o + 1) g.1 (ks_stm T vs m (o + 1) b j) b j) (hmj : 501 ≤ m + j0) : ∀ (mm n : Nat) (l : List (Nat × ks_E)) (j u' : Nat) (v2 : Int32) (σ : ae_S), 502 ≤ mm + j → 502 ≤ n + j → j0 < j → kK T j σ → σ.1 30 0 38 = nI u' → σ.1 30 0 39 = nI (o + 1) → u + 1 ≤ u' → u' + X ≤ j → j ≤ 500 → ma_fr (kn_G u) σ0 σ → σ.1 47 0 u = 13 → σ.1 50 0 u = -1 → kn_row vs (o + 1) (u + 1) (j - (j0 + 1)) (b + 1) l (σ.1 48 0 u) v2 u' σ → ma_wp (F_X12_readGroup_20 g n (nI u) v2 σ) (fun r τ => kv_po (ks_grp T (ks_stm T vs m (o + 1)) mm (b + 1) (kn_cat l) j) (fun f q => kn_bad σ0 u X f q τ) (fun x => r = nI u ∧ ma_fr (kn_G u) σ0 τ ∧ ∃ u2, u < u2 ∧ τ.1 30 0 38 = nI u2 ∧ u2 + X ≤ x.2 ∧ x.2 ≤ 500 ∧ j0 < x.2 ∧ kK T x.2 τ ∧ τ.1 30 0 39 = nI o ∧ τ.1 50 0 u = -1 ∧ τ.1 47 0 u = 13 ∧ ∀ ρ, kn_ag u u2 u τ ρ → ∃ l2, kn_LS (fun u b c => kn_S vs (x.2 - (j0 + 1)) (o + 1) u b c ρ) ρ l2 (ρ.1 48 0 u) (-1) (b + 1) ∧ x.1 = kn_cat l2)) := by
  intro mm
  induction mm with
  | zero => intro n l j u' v2 σ hm _ _ _ _ _ _ _ hj; omega
  | succ mm ih =>
    intro n l j u' v2 σ hm hn hjj H h ho hu hX hj F0 h13 h50 hR
    obtain ⟨n, rfl⟩ : ∃ n2, n = n2 + 1 := ⟨n - 1, by omega⟩
    rw [F_X12_readGroup_20, ks_grp]
    refine ma_be (km_fine H.2.1) (ma_F ma_01 (ma_be (km_sg hT H.1 (c := 41) (by decide)) ?_))
    cases h41 : kt_sg T j 41 with
    | true =>
      rw [if_pos (c := true = true) rfl]
      unfold F_X12_readGroup_77
      have hj5 := ks_jB hT (ks_sgT h41)
      refine ma_F (by decide) (ma_bd (H.take hT (c := 41) (by decide)) (fun r φ q => ?_))
      rcases q with ⟨_, rfl, K1, f1⟩ | ⟨hb, _⟩
      · rw [(f1.i (by unfold km_F; omega) : φ.1 30 0 39 = σ.1 30 0 39), ho, show nI (o + 1) - 1 = nI o from nI_pred o]
        refine ma_F ma_01 (ma_lt ?_)
        have f2 : ma_fr (fun g _ k => ¬ (g = 30 ∧ k = 39)) φ (ae_wI φ 30 0 39 (nI o)) := ma_fwI (by simp)
        have r2 : (ae_wI φ 30 0 39 (nI o)).1 30 0 39 = nI o := ma_rI
        generalize ae_wI φ 30 0 39 (nI o) = ψ at f2 r2 ⊢
        have G : ma_fr (fun g _ k => ¬ (g = 30)) σ ψ := (f1.mo (fun g i k q => by unfold km_F; omega)).tr (f2.mo (fun g i k q => by omega))
        refine ma_ret (kv_por ⟨rfl, F0.tr ((kn_GF f1).tr (f2.mo (fun g i k q => by unfold kn_G at q; omega))), u', by omega, (f2.i (by omega)).trans ((f1.i (by unfold km_F; omega)).trans h), by show u' + X ≤ j + 1; omega, hj5, by show j0 < j + 1; omega, K1.fr f2 (by omega) (fun _ _ _ => by omega) (fun _ => by omega), r2, (G.i (by omega)).trans h50, (G.i (by omega)).trans h13, fun ρ hρ => ⟨l, ?_, rfl⟩⟩)
        have e48 : ρ.1 48 0 u = σ.1 48 0 u := ((hρ.2 u (Nat.le_refl _) (by omega)).1).trans (G.i (by omega))
        rw [e48]
        rcases hR with ⟨rfl, _, hx⟩ | ⟨L, _, k1, k2, k3, k4⟩
        · exact hx
        · have hag : kn_ag (u + 1) u' L σ ρ := by
            refine ⟨fun k hk => ?_, fun k q1 q2 => ?_⟩
            · have a := hρ.1 k hk
              have e47 : ψ.1 47 0 k = σ.1 47 0 k := G.i (by omega)
              rw [e47] at a
              exact ⟨a.1, fun ns => ⟨(a.2 ns).1.trans (G.i (by omega)), (a.2 ns).2.1.trans (G.i (by omega)), (a.2 ns).2.2.1.trans (G.l (by omega)), (a.2 ns).2.2.2.trans (G.d (by omega))⟩⟩
            · have a := hρ.2 k (by omega) q2
              exact ⟨a.1.trans (G.i (by omega)), a.2.1.trans (G.i (by omega)), fun _ => (a.2.2 (by omega)).trans (G.i (by omega))⟩
          have e50 : ρ.1 50 0 L = -1 := ((hρ.2 L (by omega) (by omega)).2.2 (by omega)).trans ((G.i (by omega)).trans k3)
          have g1 := k4 ρ hag
          rw [e50] at g1
          exact kn_LS.mo (fun u b c q => kn_S.mo _ _ _ _ _ _ _ (by show j - (j0 + 1) ≤ j + 1 - (j0 + 1); omega) q) l _ _ _ g1
      · rw [h41] at hb; cases hb
    | false =>
      rw [if_neg (c := false = true) (by decide)]
      refine ma_T rfl (ma_bd (hs (b + 1 + (kn_cat l).length) j (by omega) u' X σ H (kn_MG HM F0) h ho hX hj) (fun r φ q => ?_))
      obtain ⟨n, rfl⟩ : ∃ n2, n = n2 + 1 := ⟨n - 1, by omega⟩
      cases ha : ks_stm T vs m (o + 1) (b + 1 + (kn_cat l).length) j with
      | inl e =>
        rw [ha] at q
        have q : kn_bad σ u' X e.1 e.2 φ := q
        exact ma_be (kn_fineB q) (ma_T rfl (ma_ret (kv_pol (kn_bad.tr F0 (by omega) (Nat.le_refl _) q))))
      | inr y =>
        rw [ha] at q
        obtain ⟨w, u2, rfl, S, F⟩ := q
        have S0 := S
        obtain ⟨s1, s2, s3, s4, s5, s6, s7, s8, s9, s10⟩ := S0
        rw [kv_bnr]
        unfold F_X12_readGroup_72
        refine ma_be (km_fine s7.2.1) (ma_F ma_01 ?_)
        have e13 : φ.1 47 0 u = 13 := (F.i (by unfold kn_G; omega)).trans h13
        have e50u : φ.1 50 0 u = -1 := (F.i (by unfold kn_G; omega)).trans h50
        have F1 : ma_fr (kn_G u) σ0 φ := F0.tr (kn_Gm (by omega) F)
        rcases hR with ⟨rfl, rfl, hx⟩ | ⟨L, rfl, k1, k2, k3, k4⟩
        · refine ma_T rfl (ma_gd (ma_ib u rfl (by omega) (by decide)) (ma_lt ?_))
          rw [nI_clamp (by omega)]
          have f2 : ma_fr (fun g _ k => ¬ (g = 48 ∧ k = u)) φ (ae_wI φ 48 0 u (nI w)) := ma_fwI (by simp)
          have r2 : (ae_wI φ 48 0 u (nI w)).1 48 0 u = nI w := ma_rI
          generalize ae_wI φ 48 0 u (nI w) = ψ at f2 r2 ⊢
          have hrow : kn_row vs (o + 1) (u + 1) (y.2 - (j0 + 1)) (b + 1) [(w, y.1)] (nI w) (nI w) u2 ψ := kn_row.one (by omega) (by omega) (by omega) S (L := u) (by omega) (by rw [e13]; unfold kn_st; decide) f2
          rw [← r2] at hrow
          have := ih (n + 1) [(w, y.1)] y.2 u2 (nI w) ψ (by omega) (by omega) (by omega) (s7.fr f2 (by omega) (fun _ _ _ => by omega) (fun _ => by omega)) ((f2.i (by omega)).trans s3) ((f2.i (by omega)).trans s8) (by omega) s4 s5 (F1.tr (f2.mo (fun g i k q => by unfold kn_G at q; omega))) ((f2.i (by omega)).trans e13) ((f2.i (by omega)).trans e50u) (by rw [r2] at hrow ⊢; exact hrow)
          have e1 : kn_cat [(w, y.1)] = kn_cat [] ++ y.1 := kn_catS (l := [])
          rw [e1] at this
          exact this
        · refine ma_F (kn_nIne (by omega)) (ma_gd (ma_ib L rfl (by omega) (by decide)) (ma_lt ?_))
          rw [nI_clamp (by omega)]
          have e48 : φ.1 48 0 u = σ.1 48 0 u := F.i (by unfold kn_G; omega)
          have hrow : kn_row vs (o + 1) (u + 1) (y.2 - (j0 + 1)) (b + 1) (l ++ [(w, y.1)]) (σ.1 48 0 u) (nI w) u2 (ae_wI φ 50 0 L (nI w)) := kn_row.add (by omega) (by omega) (by omega) (by omega) F S ⟨k1, k2⟩ k3 k4
          have f2 : ma_fr (fun g _ k => ¬ (g = 50 ∧ k = L)) φ (ae_wI φ 50 0 L (nI w)) := ma_fwI (by simp)
          generalize ae_wI φ 50 0 L (nI w) = ψ at f2 hrow ⊢
          have e48' : ψ.1 48 0 u = σ.1 48 0 u := (f2.i (by omega)).trans e48
          have := ih (n + 1) (l ++ [(w, y.1)]) y.2 u2 (nI w) ψ (by omega) (by omega) (by omega) (s7.fr f2 (by omega) (fun _ _ _ => by omega) (fun _ => by omega)) ((f2.i (by omega)).trans s3) ((f2.i (by omega)).trans s8) (by omega) s4 s5 (F1.tr (f2.mo (fun g i k q => by unfold kn_G at q; omega))) ((f2.i (by omega)).trans e13) ((f2.i (by omega)).trans e50u) (by rw [e48']; exact hrow)
          rw [kn_catS] at this
          exact this
theorem kn_grR (hT : kt_W T) (ho5 : o ≤ 5) {g : GT_B} {m : Nat} (hs : o < 5 → ∀ b j, 502 ≤ m + j → kn_sr T vs (o + 1) g.1 (ks_stm T vs m (o + 1) b j) b j) (hm : 501 ≤ m + j) (h40 : kt_sg T j 40 = true) : kn_sr T vs o (FZ_X12_readGroup g) (ks_gs T vs m o b j) b j := by
  intro u X σ H HM h ho hX hj
  have hj5 := ks_jB hT (ks_sgT h40)
  unfold FZ_X12_readGroup ks_gs
  refine ma_bd (kn_open hT H ho ho5) (fun r φ q => ?_)
  rcases q with ⟨g5, rfl, K1, o1, f1⟩ | ⟨g5, rfl, hb1, f1⟩
  · rw [if_pos (c := o < 5) g5]
    have G1 : ma_fr (kn_G u) σ φ := f1.mo (fun g i k q => by unfold kn_G at q; unfold km_F; omega)
    refine ma_F ma_01 (ma_bd (kn_node ((f1.i (by unfold km_F; omega)).trans h) (by omega) 13 (-1) (-1)) (fun r ψ q => ?_))
    obtain ⟨rfl, d1, d2, d3, _, d50, _, d5⟩ := q
    refine ma_mono (kn_gl (j0 := j) (b := b) (X := X) hT HM (hs g5) (by omega) 502 ae_fu [] (j + 1) (u + 1) (-1) ψ (by omega) (by rw [ae_fu]; omega) (by omega) (kn_KF K1 d5) d1 ((d5.i (by unfold kn_F; omega)).trans o1) (by omega) (by omega) hj5 (G1.tr (kn_GN d5)) d2 d50 (.inl ⟨rfl, rfl, d3⟩)) (fun r τ q => ?_)
    have e0 : kn_cat [] = [] := rfl
    rw [e0] at q
    cases ha : ks_grp T (ks_stm T vs m (o + 1)) 502 (b + 1) [] (j + 1) with
    | inl e => rw [ha] at q; exact q
    | inr x =>
      rw [ha] at q
      obtain ⟨rfl, F, u2, q1, q2, q3, q4, q5, q6, q7, q8, q9, q10⟩ := q
      refine kv_por ⟨u, u2, rfl, ⟨Nat.le_refl _, q1, q2, q3, q4, q5, q6, q7, q8, fun ρ hρ => ?_⟩, F⟩
      obtain ⟨l2, a1, a2⟩ := q10 ρ hρ
      obtain ⟨K', hK⟩ : ∃ K', x.2 - j = K' + 1 := ⟨x.2 - j - 1, by omega⟩
      show kn_S vs (x.2 - j) o u b ([(17, lN (b + 1 + x.1.length + 1), 0)] ++ x.1 ++ [(18, 0, 0)]) ρ
      rw [hK, a2]
      unfold kn_S
      rw [show x.2 - (j + 1) = K' by omega] at a1
      exact .inr (.inr (.inr ⟨(hρ.1 u (by omega)).1.trans q9, g5, l2, a1, rfl⟩))
  · rw [if_neg (c := o < 5) (by omega)]
    exact ma_T rfl (ma_ret (kv_pol (kn_badT ma_fr.rf h (Nat.le_refl _) (by omega) (by decide) hb1 f1)))
theorem kn_stB (hT : kt_W T) (hW : mv_W sz vs) : ∀ (d o k m b j : Nat), o + d = 5 → 502 ≤ m + j → kn_sr T vs o (FG_B (2 * d + k + 2)).1 (ks_stm T vs m o b j) b j := by
  intro d
  induction d with
  | zero =>
    intro o k m b j ho hm
    exact kn_stR hT hW (by omega) (g := FG_B (2 * 0 + k + 1)) (fun m b j hm h40 => kn_grR hT (by omega) (g := FG_B (2 * 0 + k)) (fun g => by omega) hm h40) hm
  | succ d ih =>
    intro o k m b j ho hm
    exact kn_stR hT hW (by omega) (g := FG_B (2 * (d + 1) + k + 1)) (fun m b j hm h40 => kn_grR hT (by omega) (g := FG_B (2 * (d + 1) + k)) (fun g b j hj => by
      have := ih (o + 1) k m b j (by omega) hj
      rw [show 2 * d + k + 2 = 2 * (d + 1) + k by omega] at this
      exact this) hm h40) hm
theorem kn_srS (hT : kt_W T) (hW : mv_W sz vs) (b j : Nat) : kn_sr T vs 0 F_X12_readStatement (ks_stm T vs 502 0 b j) b j := kn_stB hT hW 5 0 4 502 b j rfl (by omega)
end KN
