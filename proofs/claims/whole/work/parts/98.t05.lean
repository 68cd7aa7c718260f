/-! the reference reads a place's end -/
section KN
variable {T : kt_T} {σ τ : ae_S} {j u v X sz : Nat} {vs : List mv_V}
theorem kn_pl (g : GT_A) (hT : kt_W T) (hW : mv_W sz vs) (H : kK T j σ) (HM : mv_M vs σ) (hv : v < vs.length) (h : σ.1 30 0 38 = nI u) (hX : u + 1 + X ≤ j) (hj : j ≤ 500) (e : Int32) : ma_wp (F_X12_readPlace_85 g (nI v) e σ) (fun r τ => kv_po (ks_fld T vs (nI v) j) (fun f q => kn_bad σ u X f q τ) (fun y => r = nI u ∧ kK T y.2 τ ∧ τ.1 30 0 38 = nI (u + 1) ∧ τ.1 47 0 u = 2 ∧ τ.1 48 0 u = nI v ∧ τ.1 49 0 u = e ∧ τ.2.1 51 0 u = y.1.toInt64 ∧ ma_fr (kn_G u) σ τ ∧ τ.1 30 0 39 = σ.1 30 0 39)) := by
  have hl := hW.1
  unfold F_X12_readPlace_85 ks_fld
  refine ma_bd (kn_node h (by omega) 2 (nI v) e) (fun r φ q => ?_)
  obtain ⟨rfl, c1, a1, b1, d1, _, l1, f1⟩ := q
  have K1 : kK T j φ := H.fr f1 (by unfold kn_F; omega) (fun _ _ _ => by unfold kn_F; omega) (fun _ => by unfold kn_F; omega)
  have F1 : ma_fr (kn_G u) σ φ := kn_GN f1
  have o1 : φ.1 30 0 39 = σ.1 30 0 39 := f1.i (by unfold kn_F; omega)
  refine ma_be (km_sg hT K1.1 (c := 46) (by decide)) ?_
  cases hs : kt_sg T j 46 with
  | false =>
    rw [if_neg (c := false = true) (by decide)]
    exact ma_T rfl (ma_ret (kv_por ⟨rfl, K1, c1, a1, b1, d1, l1, F1, o1⟩))
  | true =>
    rw [if_pos (c := true = true) rfl]
    refine ma_F (by decide) (ma_bd (K1.adv hT) (fun _ ψ q2 => ?_))
    obtain ⟨K2, f2⟩ := q2
    have F2 : ma_fr (kn_G u) σ ψ := F1.tr (kn_GF f2)
    have c2 : ψ.1 30 0 38 = nI (u + 1) := (f2.i (by unfold km_F; omega)).trans c1
    have l2 : ψ.2.1 51 0 u = -1 := (f2.l (by unfold km_F; omega)).trans l1
    refine ma_be (km_nm hT K2.1) ?_
    cases hn : kt_nm T (j + 1) with
    | false =>
      rw [if_neg (c := false = true) (by decide)]
      refine ma_T rfl ?_
      rw [K2.1.2.2.1]
      refine ma_bd (km_fail K2.2.1 1 _) (fun r τ q => ?_)
      obtain ⟨_, hb, f3⟩ := q
      exact ma_ret (kv_pol ⟨by decide, hb, ⟨u + 1, (f3.i (by omega)).trans c2, by omega, by omega⟩, F2.tr (kn_GB f3)⟩)
    | true =>
      rw [if_pos (c := true = true) rfl]
      have hn2 := of_decide_eq_true hn
      have hx : ψ.2.1 30 0 28 = kt_wv T (j + 1) := (K2.1.2.2.2.2.1 hn2.1).1 hn2.2.1
      have ev : vs[v]? = some vs[v] := List.getElem?_eq_getElem hv
      have W1 := hW.2 vs[v] (List.mem_of_getElem? ev)
      have cM := HM.2 v vs[v] ev
      have h8 : (mv_fs vs[v]).length ≤ 8 := W1.2.2.2.2.2.2.2.1
      have cL : kL v (mv_fs vs[v]) σ := ⟨cM.2.2.2.2.2.2.2.1, cM.2.2.2.2.2.2.2.2⟩
      have cL2 : kL v (mv_fs vs[v]) ψ := cL.fr F2 (by unfold kn_G; omega) (fun g i _ _ _ => by unfold kn_G; omega)
      have ef : ks_fix vs (nI v) (kt_wv T (j + 1)) = kv_fix (mv_fs vs[v]) (kt_wv T (j + 1)) := by
        unfold ks_fix
        rw [nI_clamp (by omega), ev]
      rw [ef]
      refine ma_F (by decide) (kn_fs (x := kt_wv T (j + 1)) g (by omega) (by omega) h8 W1.2.2.2.2.2.2.2.2.2.2.1 (mv_fs vs[v]).length ae_fu 0 ψ (by omega) (by rw [ae_fu]; omega) cL2 hx l2 (fun χ f3 h51 => ?_))
      have K3 : kK T (j + 1) χ := K2.fr f3 (by omega) (fun _ _ _ => by omega) (fun _ => by omega)
      have F3 : ma_fr (kn_G u) σ χ := F2.tr (f3.mo (fun g i k q => by unfold kn_G at q; omega))
      have c3 : χ.1 30 0 38 = nI (u + 1) := (f3.i (by omega)).trans c2
      have hz : lg_cmp (χ.2.1 51 0 u) (-1 : Int64) = 0 ↔ kv_fix (mv_fs vs[v]) (kt_wv T (j + 1)) = -1 := by
        rw [lg_cmp_eq, h51]
        constructor
        · intro g
          rcases my_fdS (q := fun k => decide ((mv_fs vs[v])[k]?.map (fun q => q.1) = some (kt_wv T (j + 1)))) (mv_fs vs[v]).length 0 with g2 | ⟨k, _, h2, h3⟩
          · exact g2
          · have h3 : kv_fix (mv_fs vs[v]) (kt_wv T (j + 1)) = nI k := h3
            rw [h3] at g
            have : ∀ i, i < 8 → (nI i).toInt64 ≠ -1 := by decide
            exact absurd g (this k (by omega))
        · intro g
          rw [g]
          rfl
      rw [ma_ic hz]
      refine ma_if (fun g2 => ?_) (fun g2 => ?_)
      · rw [if_pos (c := kv_fix (mv_fs vs[v]) (kt_wv T (j + 1)) = -1) g2, K3.1.2.2.1]
        refine ma_bd (km_fail K3.2.1 2 _) (fun r τ q => ?_)
        obtain ⟨_, hb, f4⟩ := q
        exact ma_ret (kv_pol ⟨by decide, hb, ⟨u + 1, (f4.i (by omega)).trans c3, by omega, by omega⟩, F3.tr (kn_GB f4)⟩)
      · rw [if_neg (c := kv_fix (mv_fs vs[v]) (kt_wv T (j + 1)) = -1) g2]
        refine ma_bd (K3.adv hT) (fun _ ω q4 => ma_ret (kv_por ⟨rfl, q4.1, (q4.2.i (by unfold km_F; omega)).trans c3, ?_, ?_, ?_, ?_, F3.tr (kn_GF q4.2), ?_⟩))
        · exact (q4.2.i (by unfold km_F; omega)).trans ((f3.i (by omega)).trans ((f2.i (by unfold km_F; omega)).trans a1))
        · exact (q4.2.i (by unfold km_F; omega)).trans ((f3.i (by omega)).trans ((f2.i (by unfold km_F; omega)).trans b1))
        · exact (q4.2.i (by unfold km_F; omega)).trans ((f3.i (by omega)).trans ((f2.i (by unfold km_F; omega)).trans d1))
        · exact (q4.2.l (by unfold km_F; omega)).trans h51
        · exact (q4.2.i (by unfold km_F; omega)).trans ((f3.i (by omega)).trans ((f2.i (by unfold km_F; omega)).trans o1))
end KN
