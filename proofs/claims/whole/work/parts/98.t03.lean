/-! the reference reads numbers -/
section KN
variable {T : kt_T} {σ τ : ae_S} {j u o X : Nat} {vs : List mv_V}
def kn_bad (σ : ae_S) (u X : Nat) (f : Int32) (q : Nat) (τ : ae_S) : Prop := f ≠ 0 ∧ km_bad f q τ ∧ (∃ u2, τ.1 30 0 38 = nI u2 ∧ u ≤ u2 ∧ u2 + X ≤ 501) ∧ ma_fr (kn_G u) σ τ
theorem kn_GF (f : ma_fr km_F σ τ) : ma_fr (kn_G u) σ τ := f.mo (fun g i k q => by unfold kn_G at q; unfold km_F; omega)
theorem kn_GN (f : ma_fr (kn_F u) σ τ) : ma_fr (kn_G u) σ τ := f.mo (fun g i k q => by unfold kn_G at q; unfold kn_F; omega)
theorem kn_GB (f : ma_fr (fun g _ k => ¬ (g = 30 ∧ (k = 23 ∨ k = 24))) σ τ) : ma_fr (kn_G u) σ τ := f.mo (fun g i k q => by unfold kn_G at q; omega)
theorem kn_num (hT : kt_W T) (H : kK T j σ) (h : σ.1 30 0 38 = nI u) (hX : u + X ≤ j) (hj : j ≤ 500) : ma_wp (F_X12_readNumber σ) (fun r τ => kv_po (if kt_nu T 9 j = true then ks_num T j else .inl (1, kt_s T j)) (fun f q => r = -1 ∧ kn_bad σ u X f q τ) (fun x => r = nI u ∧ kK T x.2 τ ∧ τ.1 30 0 38 = nI (u + 1) ∧ kn_E vs 1 u x.1 τ ∧ ma_fr (kn_G u) σ τ ∧ τ.1 30 0 39 = σ.1 30 0 39)) := by
  unfold F_X12_readNumber
  refine ma_bd (H.num hT (D := 9) (by decide)) (fun r0 σ1 q => ?_)
  rcases q with ⟨hn, rfl, rfl, hx⟩ | ⟨hn, rfl, hb, f⟩
  · rw [if_pos (c := kt_nu T 9 j = true) hn]
    unfold ks_num
    refine ma_F ma_01 (ma_lt ?_)
    rw [hx]
    refine ma_bd (H.adv hT) (fun _ φ1 q1 => ?_)
    obtain ⟨K1, f1⟩ := q1
    have h1 : φ1.1 30 0 38 = nI u := (f1.i (by unfold km_F; omega)).trans h
    refine ma_bd (kn_node h1 (by omega) 0 (-1) (-1)) (fun r φ2 q2 => ?_)
    obtain ⟨rfl, c2, a2, _, _, _, _, f2⟩ := q2
    have hib : ae_ib (nI u) 600 = true := ma_ib u rfl (by omega) (by decide)
    have hcl : (nI u).toNatClampNeg = u := nI_clamp (by omega)
    refine ma_gd hib (ma_lt ?_)
    rw [hcl]
    have K2 : kK T (j + 1) φ2 := K1.fr f2 (by unfold kn_F; omega) (fun _ _ _ => by unfold kn_F; omega) (fun _ => by unfold kn_F; omega)
    have K3 : kK T (j + 1) (ae_wL φ2 51 0 u (lN (kt_nv T j))) := K2.wL (by decide)
    have c3 : (ae_wL φ2 51 0 u (lN (kt_nv T j))).1 30 0 38 = nI (u + 1) := c2
    have a3 : (ae_wL φ2 51 0 u (lN (kt_nv T j))).1 47 0 u = 0 := a2
    have l3 : (ae_wL φ2 51 0 u (lN (kt_nv T j))).2.1 51 0 u = lN (kt_nv T j) := ma_rL
    have F3 : ma_fr (kn_G u) σ1 (ae_wL φ2 51 0 u (lN (kt_nv T j))) := ((kn_GF f1).tr (kn_GN f2)).tr (ma_fwL (by unfold kn_G; omega))
    have o3 : (ae_wL φ2 51 0 u (lN (kt_nv T j))).1 30 0 39 = σ1.1 30 0 39 := (f2.i (by unfold kn_F; omega)).trans (f1.i (by unfold km_F; omega))
    generalize ae_wL φ2 51 0 u (lN (kt_nv T j)) = φ3 at K3 c3 a3 l3 F3 o3 ⊢
    refine ma_be (km_sg hT K3.1 (c := 46) (by decide)) ?_
    cases hs : kt_sg T (j + 1) 46 with
    | false =>
      rw [if_neg (c := false = true) (by decide)]
      exact ma_T rfl (ma_ret (kv_por ⟨rfl, K3, c3, .inl ⟨a3, by rw [l3]⟩, F3, o3⟩))
    | true =>
      rw [if_pos (c := true = true) rfl]
      refine ma_F (by decide) (ma_bd (K3.adv hT) (fun _ φ4 q4 => ?_))
      obtain ⟨K4, f4⟩ := q4
      have K4 : kK T (j + 2) φ4 := K4
      have c4 : φ4.1 30 0 38 = nI (u + 1) := (f4.i (by unfold km_F; omega)).trans c3
      have F4 : ma_fr (kn_G u) σ1 φ4 := F3.tr (kn_GF f4)
      have o4 : φ4.1 30 0 39 = σ1.1 30 0 39 := (f4.i (by unfold km_F; omega)).trans o3
      refine ma_bd (K4.num hT (D := 9) (by decide)) (fun r5 φ5 q5 => ?_)
      rcases q5 with ⟨hn5, rfl, rfl, hx5⟩ | ⟨hn5, rfl, hb, f5⟩
      · rw [if_pos (c := kt_nu T 9 (j + 2) = true) hn5]
        refine ma_F ma_01 ?_
        have hd := of_decide_eq_true hn5
        have h30 : φ5.1 30 0 30 = nI (kt_n T (j + 2)) := (K4.1.2.2.2.2.2.1 hd.1).1
        have loop : ∀ m n i, m < n → i + m = kt_n T (j + 2) → ma_wp (F_X12_readNumber_67 n (lN (kt_nv T j)) (nI u) (ks_by i) (nI i) φ5) (fun r τ => kv_po (.inr ([(2, ae_db (ks_dec T j), 0)], j + 3) : kv_O (ks_E × Nat)) (fun f q => r = -1 ∧ kn_bad σ1 u X f q τ) (fun x => r = nI u ∧ kK T x.2 τ ∧ τ.1 30 0 38 = nI (u + 1) ∧ kn_E vs 1 u x.1 τ ∧ ma_fr (kn_G u) σ1 τ ∧ τ.1 30 0 39 = σ1.1 30 0 39)) := by
          intro m
          induction m with
          | zero =>
            intro n i hn2 hi
            obtain ⟨n, rfl⟩ : ∃ n2, n = n2 + 1 := ⟨n - 1, by omega⟩
            rw [F_X12_readNumber_67, h30, hcl]
            refine ma_T (nI_le (by omega) (by omega)) (ma_gd hib (ma_lt (ma_gd hib (ma_lt ?_))))
            have e29 : (ae_wI φ5 47 0 u 1).2.1 30 0 29 = lN (kt_nv T (j + 2)) := hx5
            rw [e29, show i = kt_n T (j + 2) by omega]
            have K6 : kK T (j + 2) (ae_wD (ae_wI φ5 47 0 u 1) 52 0 u (ks_dec T j)) := (K4.wI (by decide)).fr (P := fun a _ _ => a ≠ 52) (ma_fwD (by simp)) (by decide) (fun _ _ _ => by decide) (fun _ => by decide)
            have a6 : (ae_wD (ae_wI φ5 47 0 u 1) 52 0 u (ks_dec T j)).1 47 0 u = 1 := ma_rI
            have d6 : (ae_wD (ae_wI φ5 47 0 u 1) 52 0 u (ks_dec T j)).2.2.1 52 0 u = ks_dec T j := ma_rD
            have c6 : (ae_wD (ae_wI φ5 47 0 u 1) 52 0 u (ks_dec T j)).1 30 0 38 = nI (u + 1) := by
              show (ae_wI φ5 47 0 u 1).1 30 0 38 = _
              rw [ma_rIn (by simp)]; exact c4
            have o6 : (ae_wD (ae_wI φ5 47 0 u 1) 52 0 u (ks_dec T j)).1 30 0 39 = σ1.1 30 0 39 := by
              show (ae_wI φ5 47 0 u 1).1 30 0 39 = _
              rw [ma_rIn (by simp)]; exact o4
            have F6 : ma_fr (kn_G u) σ1 (ae_wD (ae_wI φ5 47 0 u 1) 52 0 u (ks_dec T j)) := F4.tr ((ma_fwI (by unfold kn_G; omega)).tr (ma_fwD (by unfold kn_G; omega)))
            show ma_wp (ae_bd (F_X12_next (ae_wD (ae_wI φ5 47 0 u 1) 52 0 u (ks_dec T j))) _) _
            generalize ae_wD (ae_wI φ5 47 0 u 1) 52 0 u (ks_dec T j) = φ6 at K6 a6 d6 c6 o6 F6 ⊢
            refine ma_bd (K6.adv hT) (fun _ φ7 q7 => ma_ret (kv_por ⟨rfl, q7.1, (q7.2.i (by unfold km_F; omega)).trans c6, .inr (.inl ⟨(q7.2.i (by unfold km_F; omega)).trans a6, ?_⟩), F6.tr (kn_GF q7.2), (q7.2.i (by unfold km_F; omega)).trans o6⟩))
            rw [q7.2.d (by unfold km_F; omega), d6]
          | succ m ih =>
            intro n i hn2 hi
            obtain ⟨n, rfl⟩ : ∃ n2, n = n2 + 1 := ⟨n - 1, by omega⟩
            rw [F_X12_readNumber_67, h30]
            refine ma_F (nI_ge (by omega) (by omega)) (ma_lt (ma_lt ?_))
            rw [nI_1]
            exact ih n (i + 1) (by omega) (by omega)
        exact loop (kt_n T (j + 2)) ae_fu 0 (by rw [ae_fu]; omega) (by omega)
      · rw [if_neg (c := kt_nu T 9 (j + 2) = true) (by rw [hn5]; decide)]
        exact ma_T rfl (ma_ret (kv_pol ⟨rfl, by decide, hb, ⟨u + 1, (f5.i (by omega)).trans c4, by omega, by omega⟩, F4.tr (kn_GB f5)⟩))
  · rw [if_neg (c := kt_nu T 9 j = true) (by rw [hn]; decide)]
    exact ma_T rfl (ma_ret (kv_pol ⟨rfl, by decide, hb, ⟨u, (f.i (by omega)).trans h, by omega, by omega⟩, kn_GB f⟩))
end KN
