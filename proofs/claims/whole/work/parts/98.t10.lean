/-! the reference reads statements -/
section KN
variable {T : kt_T} {σ σ0 τ φ ρ : ae_S} {j j0 u u0 o X K sz b w lo hi : Nat} {vs : List mv_V} {c : ks_E} {v1 v2 : Int32}
def ks_gs (T : kt_T) (vs : List mv_V) (m o b j : Nat) : kv_O (ks_E × Nat) := if o < 5 then kv_bn (ks_grp T (ks_stm T vs m (o + 1)) 502 (b + 1) [] (j + 1)) (fun x => .inr ([(17, lN (b + 1 + x.1.length + 1), 0)] ++ x.1 ++ [(18, 0, 0)], x.2)) else .inl (5, kt_s T j)
def ks_bd (T : kt_T) (vs : List mv_V) (m o b j : Nat) : kv_O (ks_E × Nat) := if kt_wd T j 8 = true then (if kt_sg T (j + 1) 59 = true then .inr ([(16, 0, 0)], j + 2) else .inl (1, kt_s T (j + 1))) else if kt_sg T j 40 = true then ks_gs T vs m o b j else ks_set T vs o j
theorem kn_58 (hT : kt_W T) (hW : mv_W sz vs) (ho5 : o ≤ 5) {g : GT_B} {m : Nat} (hg : kt_sg T j 40 = true → kn_sr T vs o g.2 (ks_gs T vs m o b j) b j) (H : kK T j σ) (HM : mv_M vs σ) (h : σ.1 30 0 38 = nI u) (ho : σ.1 30 0 39 = nI o) (hX : u + X ≤ j) (hj : j ≤ 500) (hu0 : u0 ≤ u) (F0 : ma_fr (kn_G u0) σ0 σ) (hi : kn_if u0 u v1 v2 σ) : ma_wp (F_X12_readStatement_58 g v1 v2 σ) (fun r τ => kv_po (ks_bd T vs m o b j) (fun f q => kn_bad σ0 u0 X f q τ) (fun x => kn_fin T vs o b σ0 u0 u X j (x.2 - j) v1 v2 σ x r τ)) := by
  unfold F_X12_readStatement_58 ks_bd
  refine ma_be (km_fine H.2.1) (ma_F ma_01 (ma_be (km_sg hT H.1 (c := 40) (by decide)) ?_))
  cases h40 : kt_sg T j 40 with
  | true =>
    have hw8 : kt_wd T j 8 = false := decide_eq_false (fun q => by have := (of_decide_eq_true h40).1; omega)
    rw [hw8, if_neg (c := false = true) (by decide), if_pos (c := true = true) rfl]
    refine ma_F (by decide) (ma_bd (hg h40 u X σ H HM h ho hX hj) (fun r τ q => ?_))
    cases ha : ks_gs T vs m o b j with
    | inl e =>
      rw [ha] at q
      have q : kn_bad σ u X e.1 e.2 τ := q
      exact ma_mono (kn_153B (kn_bad.tr F0 hu0 (Nat.le_refl _) q)) (fun r τ q => kv_pol q)
    | inr x =>
      rw [ha] at q
      obtain ⟨w, u2, rfl, k1, k2⟩ := q
      exact ma_mono (kn_153 hu0 F0 hi (by omega) k1 k2) (fun r τ q => kv_por q)
  | false =>
    rw [if_neg (c := false = true) (by decide)]
    refine ma_T rfl (ma_be (km_wd H.1 (i := 8) (by decide)) ?_)
    cases h8 : kt_wd T j 8 with
    | true =>
      rw [if_pos (c := true = true) rfl]
      have hj5 := ks_jB hT (ks_wdT h8)
      refine ma_F (by decide) (ma_bd (H.adv hT) (fun _ φ q => ?_))
      obtain ⟨K1, f1⟩ := q
      have c1 : φ.1 30 0 38 = nI u := (f1.i (by unfold km_F; omega)).trans h
      refine ma_bd (kn_node c1 (by omega) 12 (-1) (-1)) (fun r ψ q => ?_)
      obtain ⟨rfl, d1, d2, _, _, d50, _, d5⟩ := q
      have G2 : ma_fr (kn_G u) σ ψ := (kn_GF f1).tr (kn_GN d5)
      refine ma_bd ((kn_KF K1 d5).take hT (c := 59) (by decide)) (fun r χ q => ?_)
      rcases q with ⟨hs, rfl, K3, f3⟩ | ⟨hs, rfl, hb, f3⟩
      · rw [if_pos (c := kt_sg T (j + 1) 59 = true) hs]
        have hj6 := ks_jB hT (ks_sgT hs)
        have e47 : χ.1 47 0 u = 12 := (f3.i (by unfold km_F; omega)).trans d2
        have so : kn_so T vs o b u X j (2) (([(16, 0, 0)], j + 2) : ks_E × Nat) u (u + 1) χ := by
          refine ⟨Nat.le_refl _, by omega, (f3.i (by unfold km_F; omega)).trans d1, by show u + 1 + X ≤ j + 2; omega, by show j + 2 ≤ 500; omega, by show j < j + 2; omega, K3, ?_, (f3.i (by unfold km_F; omega)).trans d50, fun ρ hρ => ?_⟩
          · exact (f3.i (by unfold km_F; omega)).trans ((d5.i (by unfold kn_F; omega)).trans ((f1.i (by unfold km_F; omega)).trans ho))
          · unfold kn_S
            exact .inr (.inr (.inl ⟨(hρ.1 u (by omega)).1.trans e47, rfl⟩))
        refine ma_mono (kn_153 hu0 F0 hi (by omega) so (G2.tr (kn_GF f3))) (fun r τ q => kv_por ?_)
        show kn_fin T vs o b σ0 u0 u X j (j + 2 - j) v1 v2 σ ([(16, 0, 0)], j + 2) r τ
        rw [show j + 2 - j = 2 by omega]
        exact q
      · rw [if_neg (c := kt_sg T (j + 1) 59 = true) (by rw [hs]; decide)]
        exact ma_mono (kn_153B (kn_badT (F0.tr (kn_Gm hu0 G2)) d1 (by omega) (by omega) (by decide) hb f3)) (fun r τ q => kv_pol q)
    | false =>
      rw [if_neg (c := false = true) (by decide)]
      unfold ks_set
      refine ma_T rfl (ma_bd (kn_rdP hT hW ho5 j u X σ H HM h ho hX hj) (fun r φ q => ?_))
      cases hp : ks_plc T vs (ks_ex T vs o) j with
      | inl e =>
        rw [hp] at q
        have q : kn_bad σ u X e.1 e.2 φ := q
        exact ma_be (kn_takeB q _) (ma_T rfl (ma_ret (kv_pol (kn_bad.tr F0 hu0 (Nat.le_refl _) q))))
      | inr x =>
        rw [hp] at q
        obtain ⟨p, u3, v, ev, rfl, e1, e2, e3, e4, e5, e6, e7, e8, e9, e10⟩ := q
        rw [kv_bnr, ev]
        refine ma_bd (e7.take hT (c := 61) (by decide)) (fun r φ4 q4 => ?_)
        rcases q4 with ⟨hs4, rfl, K4, f4⟩ | ⟨hs4, rfl, hb4, f4⟩
        · rw [if_pos (c := kt_sg T x.2 61 = true) hs4]
          have hj7 := ks_jB hT (ks_sgT hs4)
          have G4 : ma_fr (kn_G u) σ φ4 := e10.tr (kn_GF f4)
          have g4 : ma_fr (kn_G u3) φ φ4 := kn_GF f4
          have c4 : φ4.1 30 0 38 = nI u3 := (f4.i (by unfold km_F; omega)).trans e2
          have o4 : φ4.1 30 0 39 = nI o := (f4.i (by unfold km_F; omega)).trans e8
          refine ma_F ma_01 (ma_bd (kn_rdA hT hW ho5 (x.2 + 1) u3 (X + 1) φ4 K4 (kn_MG HM G4) c4 o4 (by omega) hj7) (fun r ψ q => ?_))
          cases ha : ks_ex T vs o (x.2 + 1) with
          | inl e =>
            rw [ha] at q
            have q : kn_bad φ4 u3 (X + 1) e.1 e.2 ψ := q
            obtain ⟨b1, b2, ⟨u4, b3, b4, b5⟩, b6⟩ := q
            refine ma_bd (kn_node b3 (by omega) _ _ _) (fun r ω q2 => ?_)
            obtain ⟨_, d1, _, _, _, _, _, d2⟩ := q2
            have hB : kn_bad σ0 u0 X e.1 e.2 ω := ⟨b1, ⟨(d2.i (by unfold kn_F; omega)).trans b2.1, (d2.i (by unfold kn_F; omega)).trans b2.2⟩, ⟨u4 + 1, d1, by omega, by omega⟩, F0.tr (kn_Gm hu0 (G4.tr ((kn_Gm e3 b6).tr (kn_Gm (by omega) (kn_GN d2)))))⟩
            exact ma_be (kn_takeB hB _) (ma_mono (kn_153B hB) (fun r τ q => kv_pol q))
          | inr y =>
            rw [ha] at q
            obtain ⟨w2, u4, rfl, k1, k2, k3, k4, k5, k6, k7, k8, k9, k10⟩ := q
            rw [kv_bnr]
            refine ma_bd (kn_node k2 (by omega) _ _ _) (fun r ω q2 => ?_)
            obtain ⟨rfl, d1, d2, d3, d4, d50, _, d5⟩ := q2
            have g5 : ma_fr (kn_G u4) ψ ω := kn_GN d5
            have G5 : ma_fr (kn_G u) σ ω := (G4.tr (kn_Gm e3 k10)).tr (kn_Gm (by omega) g5)
            refine ma_bd ((kn_KF k7 d5).take hT (c := 59) (by decide)) (fun r χ q => ?_)
            rcases q with ⟨hs, rfl, K6, f6⟩ | ⟨hs, rfl, hb, f6⟩
            · rw [if_pos (c := kt_sg T y.2 59 = true) hs]
              have hj8 := ks_jB hT (ks_sgT hs)
              have g6 : ma_fr (kn_G u4) ω χ := kn_GF f6
              have e47 : χ.1 47 0 u4 = 10 := (f6.i (by unfold km_F; omega)).trans d2
              have e48 : χ.1 48 0 u4 = nI p := (f6.i (by unfold km_F; omega)).trans d3
              have e49 : χ.1 49 0 u4 = nI w2 := (f6.i (by unfold km_F; omega)).trans d4
              have so : kn_so T vs o b u X j (y.2 + 1 - j) ((x.1.2.1 ++ y.1 ++ [(5, (nI v).toInt64, x.1.2.2)], y.2 + 1) : ks_E × Nat) u4 (u4 + 1) χ := by
                refine ⟨by omega, by omega, (f6.i (by unfold km_F; omega)).trans d1, by show u4 + 1 + X ≤ y.2 + 1; omega, by show y.2 + 1 ≤ 500; omega, by show j < y.2 + 1; omega, K6, ?_, (f6.i (by unfold km_F; omega)).trans d50, fun ρ hρ => ?_⟩
                · exact (f6.i (by unfold km_F; omega)).trans ((d5.i (by unfold kn_F; omega)).trans k8)
                · have a := hρ.2 u4 (by omega) (by omega)
                  have A2 : kn_ak u4 ψ ρ := (kn_akG (g5.tr g6)).tr (hρ.1.le (by omega))
                  have A1 : kn_ak u3 φ ρ := ((kn_akG (g4.tr k10)).tr (A2.le k3))
                  obtain ⟨K', hK⟩ : ∃ K', y.2 + 1 - j = K' + 1 := ⟨y.2 - j, by omega⟩
                  rw [hK]
                  unfold kn_S
                  exact .inl ⟨(hρ.1 u4 (by omega)).1.trans e47, p, w2, v, x.1.2.1, y.1, x.1.2.2, by omega, by omega, a.1.trans e48, a.2.1.trans e49, ⟨(e9.mo (by omega)).ak e1 A1, kn_plB hT hp e5⟩, ⟨kn_E.mo _ 500 w2 _ ρ (by omega) (kn_E.ak _ w2 u4 _ ψ ρ k1 A2 k9), kn_exB hT ha k5⟩, rfl⟩
              exact ma_mono (kn_153 hu0 F0 hi (by omega) so (G5.tr (kn_GF f6))) (fun r τ q => kv_por q)
            · rw [if_neg (c := kt_sg T y.2 59 = true) (by rw [hs]; decide)]
              exact ma_mono (kn_153B (kn_badT (F0.tr (kn_Gm hu0 G5)) d1 (by omega) (by omega) (by decide) hb f6)) (fun r τ q => kv_pol q)
        · rw [if_neg (c := kt_sg T x.2 61 = true) (by rw [hs4]; decide)]
          exact ma_T rfl (ma_ret (kv_pol (kn_badT (F0.tr (kn_Gm hu0 e10)) e2 (by omega) (by omega) (by decide) hb4 f4)))
theorem kn_nIne {n : Nat} (h : n < 600) : nI n ≠ -1 := fun e => nI_pos (show n < 2 ^ 31 by omega) (by rw [e]; decide)
theorem kn_s4 (hT : kt_W T) (hW : mv_W sz vs) (ho5 : o ≤ 5) (HM : mv_M vs σ0) {g : GT_B} (hg : ∀ m b j, 501 ≤ m + j → kt_sg T j 40 = true → kn_sr T vs o g.2 (ks_gs T vs m o b j) b j) : ∀ (m n b j u : Nat) (v1 v2 : Int32) (σ : ae_S), 502 ≤ m + j → 502 ≤ n + j → kK T j σ → σ.1 30 0 38 = nI u → σ.1 30 0 39 = nI o → u + X ≤ j → j ≤ 500 → u0 ≤ u → ma_fr (kn_G u0) σ0 σ → kn_if u0 u v1 v2 σ → ma_wp (F_X12_readStatement_4 g n v1 v2 σ) (fun r τ => kv_po (ks_stm T vs m o b j) (fun f q => kn_bad σ0 u0 X f q τ) (fun x => kn_fin T vs o b σ0 u0 u X j (x.2 - j) v1 v2 σ x r τ)) := by
  intro m
  induction m with
  | zero => intro n b j u v1 v2 σ hm _ _ _ _ _ hj; omega
  | succ m ih =>
    intro n b j u v1 v2 σ hm hn H h ho hX hj hu0 F0 hi
    obtain ⟨n, rfl⟩ : ∃ n2, n = n2 + 1 := ⟨n - 1, by omega⟩
    rw [F_X12_readStatement_4, ks_stm]
    refine ma_be (km_wd H.1 (i := 7) (by decide)) ?_
    cases h7 : kt_wd T j 7 with
    | false =>
      rw [if_neg (c := false = true) (by decide)]
      exact ma_T rfl (kn_58 hT hW ho5 (fun h40 => hg m b j (by omega) h40) H (kn_MG HM F0) h ho hX hj hu0 F0 hi)
    | true =>
      rw [if_pos (c := true = true) rfl]
      have hj5 := ks_jB hT (ks_wdT h7)
      obtain ⟨n, rfl⟩ : ∃ n2, n = n2 + 1 := ⟨n - 1, by omega⟩
      refine ma_F (by decide) (ma_be (km_fine H.2.1) (ma_F ma_01 (ma_bd (H.adv hT) (fun _ φ q => ?_))))
      obtain ⟨K1, f1⟩ := q
      have G1 : ma_fr (kn_G u) σ φ := kn_GF f1
      have M1 : mv_M vs φ := kn_MG HM (F0.tr (kn_Gm hu0 G1))
      refine ma_bd (kn_rdA hT hW ho5 (j + 1) u (X + 1) φ K1 M1 ((f1.i (by unfold km_F; omega)).trans h) ((f1.i (by unfold km_F; omega)).trans ho) (by omega) hj5) (fun r ψ q => ?_)
      cases ha : ks_ex T vs o (j + 1) with
      | inl e =>
        rw [ha] at q
        have q : kn_bad φ u (X + 1) e.1 e.2 ψ := q
        obtain ⟨b1, b2, ⟨u2, b3, b4, b5⟩, b6⟩ := q
        refine ma_bd (kn_node b3 (by omega) _ _ _) (fun r ω q2 => ?_)
        obtain ⟨_, d1, _, _, _, _, _, d2⟩ := q2
        have hB : kn_bad σ0 u0 X e.1 e.2 ω := ⟨b1, ⟨(d2.i (by unfold kn_F; omega)).trans b2.1, (d2.i (by unfold kn_F; omega)).trans b2.2⟩, ⟨u2 + 1, d1, by omega, by omega⟩, F0.tr (kn_Gm hu0 (G1.tr (b6.tr (kn_Gm (by omega) (kn_GN d2)))))⟩
        unfold F_X12_readStatement_53
        refine ma_if (fun _ => ma_mono (kn_4B hB) (fun r τ q => kv_pol q)) (fun hv => ?_)
        rcases hi with rfl | ⟨L, h1, rfl, h3, h4, h5⟩
        · exact absurd rfl hv
        · refine ma_gd (ma_ib L rfl (by omega) (by decide)) (ma_lt ?_)
          rw [nI_clamp (by omega)]
          have f2 : ma_fr (fun g _ k => ¬ (g = 49 ∧ k = L)) ω (ae_wI ω 49 0 L r) := ma_fwI (by simp)
          generalize ae_wI ω 49 0 L r = ω2 at f2 ⊢
          obtain ⟨b1, b2, ⟨u5, b3, b4, b5⟩, b6⟩ := hB
          have hB2 : kn_bad σ0 u0 X e.1 e.2 ω2 := ⟨b1, ⟨(f2.i (by omega)).trans b2.1, (f2.i (by omega)).trans b2.2⟩, ⟨u5, (f2.i (by omega)).trans b3, b4, b5⟩, b6.tr (f2.mo (fun g i k q => by unfold kn_G at q; omega))⟩
          exact ma_mono (kn_4B hB2) (fun r τ q => kv_pol q)
      | inr x =>
        rw [ha] at q
        obtain ⟨w, u1, rfl, e1, e2, e3, e4, e5, e6, e7, e8, e9, e10⟩ := q
        rw [kv_bnr]
        refine ma_bd (kn_node e2 (by omega) _ _ _) (fun r ω q2 => ?_)
        obtain ⟨rfl, d1, d2, d3, d4, d50, _, d5⟩ := q2
        have g5 : ma_fr (kn_G u1) ψ ω := kn_GN d5
        have Gw : ma_fr (kn_G u) σ ω := (G1.tr e10).tr (kn_Gm e3 g5)
        have Kw : kK T x.2 ω := kn_KF e7 d5
        have ow : ω.1 30 0 39 = nI o := (d5.i (by unfold kn_F; omega)).trans e8
        have rest : ∀ (ω' : ae_S) (r1 : Int32), r1 ≠ -1 → kK T x.2 ω' → ω'.1 30 0 38 = nI (u1 + 1) → ω'.1 30 0 39 = nI o → ω'.1 47 0 u1 = 11 → ω'.1 48 0 u1 = nI w → ω'.1 50 0 u1 = -1 → ma_fr (kn_G u0) σ0 ω' → kn_ak u1 ψ ω' → ma_wp (F_X12_readStatement_4 g (n + 1) r1 (nI u1) ω') (fun r τ => kv_po (kv_bn (ks_stm T vs m o (b + x.1.length + 1) x.2) (fun y => .inr (x.1 ++ [(15, lN (b + x.1.length + 1 + y.1.length), 0)] ++ y.1, y.2))) (fun f q => kn_bad σ0 u0 X f q τ) (fun y => ∃ u2, kn_so T vs o b u X j (y.2 - j) y u1 u2 τ ∧ r = r1 ∧ ma_fr (kn_G u0) σ0 τ ∧ ma_fr (fun g i k => kn_G (u1 + 1) g i k ∧ ¬ (g = 49 ∧ k = u1)) ω' τ)) := by
          intro ω' r1 hr1 K' c' o' h47 h48 h50 F0' ak'
          refine ma_mono (ih (n + 1) (b + x.1.length + 1) x.2 (u1 + 1) r1 (nI u1) ω' (by omega) (by omega) K' c' o' (by omega) e5 (by omega) F0' (.inr ⟨u1, hr1, rfl, by omega, by omega, h47⟩)) (fun r τ q => ?_)
          cases hs : ks_stm T vs m o (b + x.1.length + 1) x.2 with
          | inl e => rw [hs] at q; exact q
          | inr y =>
            rw [hs] at q
            obtain ⟨w2, u2, S2, F2, hend⟩ := q
            rcases hend with ⟨hr, _⟩ | ⟨L, _, ⟨eL, hL6⟩, rfl, h49, fr⟩
            · exact absurd hr hr1
            · obtain ⟨s1, s2, s3, s4, s5, s6, s7, s8, s9, s10⟩ := S2
              have eL : u1 = L := (nI_eq (by omega) (by omega)).mp eL
              subst eL
              refine kv_por ⟨u2, ⟨by omega, by omega, s3, s4, s5, by show j < y.2; omega, s7, s8, (fr.i (by unfold kn_G; omega)).trans h50, fun ρ hρ => ?_⟩, rfl, F2, fr⟩
              have a := hρ.2 u1 (by omega) (by omega)
              have aτ : kn_ak u1 ω' τ := fun k hk => ⟨fr.i (by unfold kn_G; omega), fun _ => ⟨fr.i (by unfold kn_G; omega), fr.i (by unfold kn_G; omega), fr.l (by unfold kn_G; omega), fr.d (by unfold kn_G; omega)⟩⟩
              have A : kn_ak u1 ψ ρ := (ak'.tr aτ).tr (hρ.1.le (by omega))
              obtain ⟨K', hK⟩ : ∃ K', y.2 - j = K' + 1 := ⟨y.2 - j - 1, by omega⟩
              show kn_S vs (y.2 - j) o u1 b (x.1 ++ [(15, lN (b + x.1.length + 1 + y.1.length), 0)] ++ y.1) ρ
              rw [hK]
              unfold kn_S
              exact .inr (.inl ⟨(hρ.1 u1 (by omega)).1.trans ((fr.i (by unfold kn_G; omega)).trans h47), w, w2, x.1, y.1, by omega, by omega, a.1.trans ((fr.i (by unfold kn_G; omega)).trans h48), a.2.1.trans h49, ⟨kn_E.mo _ 500 w _ ρ (by omega) (kn_E.ak _ w u1 _ ψ ρ e1 A e9), kn_exB hT ha e5⟩, kn_S.mo _ _ o w2 _ _ ρ (by omega) (s10 ρ ⟨hρ.1, fun k k1 k2 => ⟨(hρ.2 k (by omega) k2).1, (hρ.2 k (by omega) k2).2.1, fun _ => (hρ.2 k (by omega) k2).2.2 (by omega)⟩⟩), rfl⟩)
        unfold F_X12_readStatement_53
        rcases hi with rfl | ⟨L, h1, rfl, h3, h4, h5⟩
        · refine ma_T rfl (ma_mono (rest ω (nI u1) (kn_nIne (by omega)) Kw d1 ow d2 d3 d50 (F0.tr (kn_Gm hu0 Gw)) (kn_akG g5)) (fun r τ q => ?_))
          cases hs : ks_stm T vs m o (b + x.1.length + 1) x.2 with
          | inl e => rw [hs] at q; exact q
          | inr y =>
            rw [hs] at q
            obtain ⟨u2, q1, rfl, q3, q4⟩ := q
            exact kv_por ⟨u1, u2, q1, q3, .inl ⟨rfl, rfl, Gw.tr (q4.mo (fun g i k q => by unfold kn_G at q ⊢; omega))⟩⟩
        · refine ma_F h1 (ma_gd (ma_ib L rfl (by omega) (by decide)) (ma_lt ?_))
          rw [nI_clamp (by omega)]
          have f2 : ma_fr (fun g _ k => ¬ (g = 49 ∧ k = L)) ω (ae_wI ω 49 0 L (nI u1)) := ma_fwI (by simp)
          have r2 : (ae_wI ω 49 0 L (nI u1)).1 49 0 L = nI u1 := ma_rI
          generalize ae_wI ω 49 0 L (nI u1) = ω2 at f2 r2 ⊢
          have h11 : ω.1 47 0 L = 11 := (Gw.i (by unfold kn_G; omega)).trans h5
          have ak2 : kn_ak u1 ω ω2 := fun k hk => ⟨f2.i (by omega), fun ns => ⟨f2.i (by omega), f2.i (fun e => ns (by rw [e.2, h11]; unfold kn_st; decide)), f2.l (by omega), f2.d (by omega)⟩⟩
          refine ma_mono (rest ω2 v1 h1 (Kw.fr f2 (by omega) (fun _ _ _ => by omega) (fun _ => by omega)) ((f2.i (by omega)).trans d1) ((f2.i (by omega)).trans ow) ((f2.i (by omega)).trans d2) ((f2.i (by omega)).trans d3) ((f2.i (by omega)).trans d50) ((F0.tr (kn_Gm hu0 Gw)).tr (f2.mo (fun g i k q => by unfold kn_G at q; omega))) ((kn_akG g5).tr ak2)) (fun r τ q => ?_)
          cases hs : ks_stm T vs m o (b + x.1.length + 1) x.2 with
          | inl e => rw [hs] at q; exact q
          | inr y =>
            rw [hs] at q
            obtain ⟨u2, q1, rfl, q3, q4⟩ := q
            refine kv_por ⟨u1, u2, q1, q3, .inr ⟨L, h1, ⟨rfl, by omega⟩, rfl, (q4.i (by unfold kn_G; omega)).trans r2, ?_⟩⟩
            exact (Gw.mo (fun g i k q => q.1)).tr ((f2.mo (fun g i k q => q.2)).tr (q4.mo (fun g i k q => by unfold kn_G at q ⊢; omega)))
theorem kn_stR (hT : kt_W T) (hW : mv_W sz vs) (ho5 : o ≤ 5) {g : GT_B} (hg : ∀ m b j, 501 ≤ m + j → kt_sg T j 40 = true → kn_sr T vs o g.2 (ks_gs T vs m o b j) b j) {m : Nat} (hm : 502 ≤ m + j) : kn_sr T vs o (FZ_X12_readStatement g) (ks_stm T vs m o b j) b j := by
  intro u X σ H HM h ho hX hj
  unfold FZ_X12_readStatement
  refine ma_mono (kn_s4 hT hW ho5 HM hg m ae_fu b j u (-1) (-1) σ hm (by rw [ae_fu]; omega) H h ho hX hj (Nat.le_refl _) ma_fr.rf (.inl rfl)) (fun r τ q => ?_)
  cases hs : ks_stm T vs m o b j with
  | inl e => rw [hs] at q; exact q
  | inr y =>
    rw [hs] at q
    obtain ⟨w, u2, q1, q2, q3⟩ := q
    rcases q3 with ⟨_, rfl, f⟩ | ⟨L, q4, _⟩
    · exact kv_por ⟨w, u2, rfl, q1, f⟩
    · exact absurd rfl q4
end KN
