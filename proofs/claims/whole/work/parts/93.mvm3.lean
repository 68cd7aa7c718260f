/-! the model reads a view -/
section KM
variable {T : kt_T} {σ τ ψ : ae_S} {j k v st ct sd ac sz : Nat} {nm : Int64} {bg : Bool} {fs : List mv_F}
def kN (v : Nat) (g : Nat) (_ : Fin 32) (k : Nat) : Prop := ¬ (g = 30 ∧ (k = 18 ∨ 23 ≤ k ∧ k ≤ 31)) ∧ ¬ (35 ≤ g ∧ g ≤ 42 ∧ k = v) ∧ ¬ (43 ≤ g ∧ g ≤ 45 ∧ k / 8 = v)
theorem kN_B (f : ma_fr (fun g _ k => ¬ (g = 30 ∧ (k = 23 ∨ k = 24))) σ τ) : ma_fr (kN v) σ τ := f.mo (fun g i k q => by unfold kN at q; omega)
theorem kN_F (f : ma_fr km_F σ τ) : ma_fr (kN v) σ τ := f.mo (fun g i k q => by unfold kN at q; unfold km_F; omega)
theorem kN_Q (f : ma_fr (kQ v) σ τ) : ma_fr (kN v) σ τ := f.mo (fun g i k q => by unfold kN at q; unfold kQ; omega)
theorem kN_R (f : ma_fr (kR v) σ τ) : ma_fr (kN v) σ τ := f.mo (fun g i k q => by unfold kN at q; unfold kR; omega)
theorem kN_w {g : Nat} {x : Int32} (hg : 35 ≤ g ∧ g ≤ 42) : ma_fr (kN v) σ (ae_wI σ g 0 v x) := ma_fwI (by unfold kN; omega)
def kC7 (v : Nat) (nm : Int64) (k : Nat) (bg : Bool) (st ct sd ac : Nat) (φ : ae_S) : Prop := φ.2.1 35 0 v = nm ∧ φ.1 36 0 v = nI k ∧ φ.1 37 0 v = mv_bI bg ∧ φ.1 38 0 v = nI st ∧ φ.1 39 0 v = nI ct ∧ φ.1 40 0 v = nI sd ∧ φ.1 41 0 v = nI ac
theorem kC7.fr {P : Nat → Fin 32 → Nat → Prop} (H : kC7 v nm k bg st ct sd ac σ) (f : ma_fr P σ τ) (p : ∀ g, 35 ≤ g → g ≤ 41 → P g 0 v) : kC7 v nm k bg st ct sd ac τ := ⟨(f.l (p 35 (by decide) (by decide))).trans H.1, (f.i (p 36 (by decide) (by decide))).trans H.2.1, (f.i (p 37 (by decide) (by decide))).trans H.2.2.1, (f.i (p 38 (by decide) (by decide))).trans H.2.2.2.1, (f.i (p 39 (by decide) (by decide))).trans H.2.2.2.2.1, (f.i (p 40 (by decide) (by decide))).trans H.2.2.2.2.2.1, (f.i (p 41 (by decide) (by decide))).trans H.2.2.2.2.2.2⟩
theorem kv_endM (hT : kt_W T) (hv : v < 32) (hk : k < 9) (H : kK T j σ) (c : kC7 v nm k bg st ct sd ac σ) : ma_wp (F_X12_readView_264 (nI v) σ) (fun r τ => ma_fr (kN v) σ τ ∧ kv_po (kv_v3 T nm k bg st ct sd ac j) (fun f p => r = 0 ∧ km_bad f p τ) (fun x => r = 1 ∧ kK T x.2 τ ∧ mv_M1 v x.1 τ ∧ τ.1 30 0 18 = σ.1 30 0 18 + 1)) := by
  have hcl : (nI v).toNatClampNeg = v := nI_clamp (by omega)
  have hib : ae_ib (nI v) 32 = true := ma_ib v rfl hv (by decide)
  have last : ∀ (fs : List mv_F) (jj : Nat) (φ : ae_S), kK T jj φ → kC7 v nm k bg st ct sd ac φ → kL v fs φ → ma_fr (kN v) σ φ → φ.1 30 0 18 = σ.1 30 0 18 → ma_wp (F_X12_readView_290 φ) (fun r τ => ma_fr (kN v) σ τ ∧ kv_po (kv_v4 T (nm, k, bg, st, ct, sd, ac, fs) jj) (fun f p => r = 0 ∧ km_bad f p τ) (fun x => r = 1 ∧ kK T x.2 τ ∧ mv_M1 v x.1 τ ∧ τ.1 30 0 18 = σ.1 30 0 18 + 1)) := by
    intro fs jj φ K c7 cl f h18
    unfold F_X12_readView_290 kv_v4
    refine ma_lt ?_
    have f1 : ma_fr (fun g _ k => ¬ (g = 30 ∧ k = 18)) φ (ae_wI φ 30 0 18 (φ.1 30 0 18 + 1)) := ma_fwI (by simp)
    have K1 : kK T jj (ae_wI φ 30 0 18 (φ.1 30 0 18 + 1)) := K.fr f1 (by omega) (fun _ _ _ => by omega) (fun _ => by omega)
    have c71 := c7.fr f1 (fun _ _ _ => by omega)
    have cl1 := cl.fr f1 (by omega) (fun _ _ _ _ _ => by omega)
    have g1 : (ae_wI φ 30 0 18 (φ.1 30 0 18 + 1)).1 30 0 18 = σ.1 30 0 18 + 1 := by rw [ma_rI, h18]
    have F1 : ma_fr (kN v) σ (ae_wI φ 30 0 18 (φ.1 30 0 18 + 1)) := f.tr (f1.mo (fun g i k q => by unfold kN at q; omega))
    generalize ae_wI φ 30 0 18 (φ.1 30 0 18 + 1) = φ1 at K1 c71 cl1 g1 F1 ⊢
    refine ma_bd (K1.take hT (c := 59) (by decide)) (fun r τ q => ?_)
    rcases q with ⟨hs, rfl, K2, f2⟩ | ⟨hs, rfl, hb, f2⟩
    · rw [if_pos (c := kt_sg T jj 59 = true) hs]
      have a := c71.fr f2 (fun _ _ _ => by unfold km_F; omega)
      have b := cl1.F f2
      exact ma_gd ma_z1 (ma_ret ⟨F1.tr (kN_F f2), kv_por ⟨rfl, K2, ⟨a.1, a.2.1, a.2.2.1, a.2.2.2.1, a.2.2.2.2.1, a.2.2.2.2.2.1, a.2.2.2.2.2.2, b.1, b.2⟩, (f2.i (by unfold km_F; omega)).trans g1⟩⟩)
    · rw [if_neg (c := kt_sg T jj 59 = true) (by rw [hs]; decide)]
      exact ma_gd ma_z0 (ma_ret ⟨F1.tr (kN_B f2), kv_pol ⟨rfl, hb⟩⟩)
  unfold F_X12_readView_264 kv_v3
  refine ma_gd hib (ma_lt ?_)
  rw [hcl]
  have f1 : ma_fr (fun g _ k => ¬ (g = 42 ∧ k = v)) σ (ae_wI σ 42 0 v 0) := ma_fwI (by simp)
  have K1 : kK T j (ae_wI σ 42 0 v 0) := H.wI (by decide)
  have c1 := c.fr f1 (fun _ _ _ => by omega)
  have l1 : kL v [] (ae_wI σ 42 0 v 0) := ⟨ma_rI, fun f q e => by simp at e⟩
  have h1 : (ae_wI σ 42 0 v 0).1 30 0 18 = σ.1 30 0 18 := f1.i (by omega)
  have F1 : ma_fr (kN v) σ (ae_wI σ 42 0 v 0) := kN_w (by decide)
  generalize ae_wI σ 42 0 v 0 = φ at K1 c1 l1 h1 F1 ⊢
  refine ma_be (km_sg hT K1.1 (c := 123) (by decide)) ?_
  cases hs : kt_sg T j 123 with
  | false =>
    rw [if_neg (c := false = true) (by decide)]
    exact ma_T rfl (last [] j φ K1 c1 l1 F1 h1)
  | true =>
    rw [if_pos (c := true = true) rfl]
    refine ma_F (by decide) ?_
    unfold F_X12_readFields
    by_cases h7 : 7 ≤ k
    · rw [if_pos (c := 7 ≤ k) h7]
      refine ma_bd (P := fun r τ => r = 0 ∧ km_bad 4 (kt_s T j) τ ∧ ma_fr (kN v) φ τ) (ma_gd hib ?_) (fun r τ q => ?_)
      · rw [hcl]
        refine ma_ls k 7 c1.2.1 rfl (by omega) (by decide) (fun g => by omega) (fun g => ?_)
        rw [K1.1.2.2.1]
        refine ma_bd (km_fail K1.2.1 4 _) (fun r τ q => ?_)
        obtain ⟨rfl, hb, ff⟩ := q
        exact ma_gd ma_z0 (ma_ret ⟨rfl, hb, kN_B ff⟩)
      · obtain ⟨rfl, hb, ff⟩ := q
        exact ma_T rfl (ma_ret ⟨F1.tr ff, kv_pol ⟨rfl, hb⟩⟩)
    · rw [if_neg (c := 7 ≤ k) h7]
      refine ma_bd (P := fun r τ => ma_fr (kQ v) φ τ ∧ kv_po (kv_flds T k 9 [] (j + 1)) (fun f p => r = 0 ∧ km_bad f p τ) (fun x => r = 1 ∧ kK T x.2 τ ∧ kL v x.1 τ)) (ma_gd hib ?_) (fun r τ q => ?_)
      · rw [hcl]
        exact ma_ls k 7 c1.2.1 rfl (by omega) (by decide) (fun g => kv_fldsM hT hv hk 9 ae_fu [] j φ rfl (by decide) (by rw [ae_fu]; decide) K1 c1.2.1 l1) (fun g => by omega)
      · obtain ⟨ff, q⟩ := q
        cases ho : kv_flds T k 9 [] (j + 1) with
        | inl e =>
          rw [ho] at q
          obtain ⟨rfl, hb⟩ := q
          exact ma_T rfl (ma_ret ⟨F1.tr (kN_Q ff), rfl, hb⟩)
        | inr x =>
          rw [ho] at q
          obtain ⟨rfl, K2, c2⟩ := q
          exact ma_F ma_01 (last x.1 x.2 τ K2 (c1.fr ff (fun _ _ _ => by unfold kQ; omega)) c2 (F1.tr (kN_Q ff)) ((ff.i (by unfold kQ; omega)).trans h1))
theorem kv_v2M (hT : kt_W T) (hv : v < 32) (hs : sz ≤ 256) (hk : k < 9) (H : kK T j σ) (h0 : σ.1 30 0 0 = nI sz) (h35 : σ.2.1 35 0 v = nm) (h36 : σ.1 36 0 v = nI k) (h37 : σ.1 37 0 v = mv_bI bg) : ma_wp (F_X12_readView_149 (nI v) σ) (fun r τ => ma_fr (kN v) σ τ ∧ kv_po (kv_v2 T sz nm k bg j) (fun f p => r = 0 ∧ km_bad f p τ) (fun x => r = 1 ∧ kK T x.2 τ ∧ mv_M1 v x.1 τ ∧ τ.1 30 0 18 = σ.1 30 0 18 + 1)) := by
  have hb8 := mv_byle k hk
  have hcl : (nI v).toNatClampNeg = v := nI_clamp (by omega)
  have hib : ae_ib (nI v) 32 = true := ma_ib v rfl hv (by decide)
  unfold F_X12_readView_149 kv_v2
  rw [hcl]
  refine ma_be (km_wd H.1 (by decide)) ?_
  cases hw : kt_wd T j 1 with
  | false =>
    rw [if_neg (c := false = true) (by decide)]
    refine ma_T rfl ?_
    rw [H.1.2.2.1]
    refine ma_bd (km_fail H.2.1 1 _) (fun r τ q => ?_)
    obtain ⟨rfl, hb, ff⟩ := q
    exact ma_gd ma_z0 (ma_ret ⟨kN_B ff, kv_pol ⟨rfl, hb⟩⟩)
  | true =>
    rw [if_pos (c := true = true) rfl]
    refine ma_F (by decide) (ma_bd (H.adv hT) (fun _ φ1 q1 => ?_))
    obtain ⟨K1, f1⟩ := q1
    refine ma_bd (K1.num hT (D := 3) (by decide)) (fun r2 φ2 q2 => ?_)
    rcases q2 with ⟨hn2, rfl, rfl, hx2⟩ | ⟨hn2, rfl, hb, f2⟩
    · rw [if_pos (c := kt_nu T 3 (j + 1) = true) hn2]
      have hB2 := kt_nvB hn2
      have g36 : φ2.1 36 0 v = nI k := (f1.i (by unfold km_F; omega)).trans h36
      have g0 : φ2.1 30 0 0 = nI sz := (f1.i (by unfold km_F; omega)).trans h0
      rw [g36]
      refine ma_F ma_01 (ma_gd hib (ma_be (mv_bytesOf hk _) ?_))
      rw [hx2, g0, nI_l (by omega), nI_l (by omega), lN_add, ma_ic ((lg_cmp_le _ _).trans (lN_le (by omega) (by omega)))]
      by_cases hz : kt_nv T (j + 1) + mv_by k ≤ sz
      · refine ma_T hz (ma_gd hib (ma_lt ?_))
        rw [if_pos (c := kt_nv T (j + 1) + mv_by k ≤ sz) hz, lN_i]
        have f3 : ma_fr (fun g _ k => ¬ (g = 38 ∧ k = v)) φ2 (ae_wI φ2 38 0 v (nI (kt_nv T (j + 1)))) := ma_fwI (by simp)
        have K3 : kK T (j + 1) (ae_wI φ2 38 0 v (nI (kt_nv T (j + 1)))) := K1.wI (by decide)
        have F3 : ma_fr (kN v) σ (ae_wI φ2 38 0 v (nI (kt_nv T (j + 1)))) := (kN_F f1).tr (kN_w (by decide))
        have s3 : (ae_wI φ2 38 0 v (nI (kt_nv T (j + 1)))).1 38 0 v = nI (kt_nv T (j + 1)) := ma_rI
        have f13 : ma_fr (fun g _ k => ¬ (g = 38 ∧ k = v) ∧ ¬ (g = 30 ∧ 25 ≤ k ∧ k ≤ 31)) σ (ae_wI φ2 38 0 v (nI (kt_nv T (j + 1)))) := (f1.mo (fun g i k q => by unfold km_F; omega)).tr (f3.mo (fun g i k q => by omega))
        generalize ae_wI φ2 38 0 v (nI (kt_nv T (j + 1))) = φ3 at K3 F3 s3 f13 ⊢
        refine ma_bd (K3.adv hT) (fun _ φ4 q4 => ?_)
        obtain ⟨K4, f4⟩ := q4
        have f14 : ma_fr (fun g _ k => ¬ (g = 38 ∧ k = v) ∧ ¬ (g = 30 ∧ 25 ≤ k ∧ k ≤ 31)) σ φ4 := f13.tr (f4.mo (fun g i k q => by unfold km_F; omega))
        have s4 : φ4.1 38 0 v = nI (kt_nv T (j + 1)) := (f4.i (by unfold km_F; omega)).trans s3
        have F4 : ma_fr (kN v) σ φ4 := F3.tr (kN_F f4)
        refine ma_bd (kv_rowM hT hv hs hk (by omega) K4 ((f14.i (by omega)).trans h0) ((f14.i (by omega)).trans h36) s4) (fun r5 φ5 q5 => ?_)
        obtain ⟨f5, q5⟩ := q5
        show ma_wp _ (fun r τ => ma_fr (kN v) σ τ ∧ kv_po (kv_bn (kv_row T sz k (kt_nv T (j + 1)) (j + 1 + 1)) _) _ _)
        cases ho : kv_row T sz k (kt_nv T (j + 1)) (j + 1 + 1) with
        | inl e =>
          rw [ho] at q5
          obtain ⟨rfl, hb⟩ := q5
          exact ma_T rfl (ma_ret ⟨F4.tr (kN_R f5), rfl, hb⟩)
        | inr x =>
          rw [ho] at q5
          obtain ⟨rfl, K5, g39, g40⟩ := q5
          refine ma_F ma_01 (ma_be (km_acc K5.1) (ma_gd hib (ma_lt ?_)))
          have hacB := kt_acB (T := T) (j := x.2.2)
          have f6 : ma_fr (fun g _ k => ¬ (g = 41 ∧ k = v)) φ5 (ae_wI φ5 41 0 v (nI (kt_ac T x.2.2))) := ma_fwI (by simp)
          have K6 : kK T x.2.2 (ae_wI φ5 41 0 v (nI (kt_ac T x.2.2))) := K5.wI (by decide)
          have F6 : ma_fr (kN v) σ (ae_wI φ5 41 0 v (nI (kt_ac T x.2.2))) := (F4.tr (kN_R f5)).tr (kN_w (by decide))
          have h18 : (ae_wI φ5 41 0 v (nI (kt_ac T x.2.2))).1 30 0 18 = σ.1 30 0 18 := (f6.i (by omega)).trans ((f5.i (by unfold kR; omega)).trans (f14.i (by omega)))
          have c6 : kC7 v nm k bg (kt_nv T (j + 1)) x.1 x.2.1 (kt_ac T x.2.2) (ae_wI φ5 41 0 v (nI (kt_ac T x.2.2))) := ⟨(f6.l (by omega)).trans ((f5.l (by unfold kR; omega)).trans ((f14.l (by omega)).trans h35)), (f6.i (by omega)).trans ((f5.i (by unfold kR; omega)).trans ((f14.i (by omega)).trans h36)), (f6.i (by omega)).trans ((f5.i (by unfold kR; omega)).trans ((f14.i (by omega)).trans h37)), (f6.i (by omega)).trans ((f5.i (by unfold kR; omega)).trans s4), (f6.i (by omega)).trans g39, (f6.i (by omega)).trans g40, ma_rI⟩
          generalize ae_wI φ5 41 0 v (nI (kt_ac T x.2.2)) = φ6 at K6 F6 h18 c6 ⊢
          refine ma_gd hib (ma_le (kt_ac T x.2.2) 0 c6.2.2.2.2.2.2 rfl (by omega) (by decide) (fun g => ?_) (fun g => ?_))
          · refine ma_mono (kv_endM hT hv hk K6 c6) (fun r τ q => ⟨F6.tr q.1, ?_⟩)
            show kv_po (kv_v3 T nm k bg (kt_nv T (j + 1)) x.1 x.2.1 (kt_ac T x.2.2) (if kt_ac T x.2.2 = 0 then x.2.2 else x.2.2 + 1)) _ _
            rw [if_pos (c := kt_ac T x.2.2 = 0) (by omega), ← h18]
            exact q.2
          · refine ma_bd (K6.adv hT) (fun _ φ7 q7 => ?_)
            have h187 : φ7.1 30 0 18 = σ.1 30 0 18 := (q7.2.i (by unfold km_F; omega)).trans h18
            refine ma_mono (kv_endM hT hv hk q7.1 (c6.fr q7.2 (fun _ _ _ => by unfold km_F; omega))) (fun r τ q => ⟨(F6.tr (kN_F q7.2)).tr q.1, ?_⟩)
            show kv_po (kv_v3 T nm k bg (kt_nv T (j + 1)) x.1 x.2.1 (kt_ac T x.2.2) (if kt_ac T x.2.2 = 0 then x.2.2 else x.2.2 + 1)) _ _
            rw [if_neg (c := kt_ac T x.2.2 = 0) (by omega), ← h187]
            exact q.2
      · refine ma_F hz ?_
        rw [if_neg (c := kt_nv T (j + 1) + mv_by k ≤ sz) hz, K1.1.2.2.1]
        refine ma_bd (km_fail K1.2.1 3 _) (fun r τ q => ?_)
        obtain ⟨rfl, hb, ff⟩ := q
        exact ma_gd ma_z0 (ma_ret ⟨(kN_F f1).tr (kN_B ff), kv_pol ⟨rfl, hb⟩⟩)
    · rw [if_neg (c := kt_nu T 3 (j + 1) = true) (by rw [hn2]; decide)]
      exact ma_T rfl (ma_ret ⟨(kN_F f1).tr (kN_B f2), kv_pol ⟨rfl, hb⟩⟩)
end KM
