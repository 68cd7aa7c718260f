/-! the model reads a view; what is read is well formed -/
section KM
variable {T : kt_T} {σ τ ψ : ae_S} {j k v st ct sd ac sz : Nat} {nm : Int64} {bg : Bool} {fs : List mv_F} {vs : List mv_V}
def kO (g : Nat) (_ : Fin 32) (k : Nat) : Prop := ¬ (g = 30 ∧ (k = 18 ∨ 23 ≤ k ∧ k ≤ 31)) ∧ ¬ (35 ≤ g ∧ g ≤ 42 ∧ 16 ≤ k) ∧ ¬ (43 ≤ g ∧ g ≤ 45 ∧ 128 ≤ k)
theorem kO_N (hv : 16 ≤ v) (f : ma_fr (kN v) σ τ) : ma_fr kO σ τ := f.mo (fun g i k q => by unfold kO at q; unfold kN; omega)
def kP_M (T : kt_T) (vs : List mv_V) (j : Nat) (σ : ae_S) : Prop := kK T j σ ∧ σ.1 30 0 18 = nI vs.length ∧ ∀ v w, vs[v]? = some w → mv_M1 (16 + v) w σ
theorem kM1_fr {w : mv_V} {u : Nat} (hl : (mv_fs w).length ≤ 8) (c : mv_M1 u w σ) (f : ma_fr (kN v) σ τ) (h : u ≠ v) : mv_M1 u w τ := by
  have a : kC7 u w.1 w.2.1 w.2.2.1 w.2.2.2.1 w.2.2.2.2.1 w.2.2.2.2.2.1 w.2.2.2.2.2.2.1 σ := ⟨c.1, c.2.1, c.2.2.1, c.2.2.2.1, c.2.2.2.2.1, c.2.2.2.2.2.1, c.2.2.2.2.2.2.1⟩
  have b : kL u w.2.2.2.2.2.2.2 σ := ⟨c.2.2.2.2.2.2.2.1, c.2.2.2.2.2.2.2.2⟩
  have a := a.fr f (fun g _ _ => by unfold kN; omega)
  have hl : w.2.2.2.2.2.2.2.length ≤ 8 := hl
  have b := b.fr f (by unfold kN; omega) (fun g i h1 h2 h3 => by unfold kN; omega)
  exact ⟨a.1, a.2.1, a.2.2.1, a.2.2.2.1, a.2.2.2.2.1, a.2.2.2.2.2.1, a.2.2.2.2.2.2, b.1, b.2⟩
theorem kv_viewM (hT : kt_W T) (hs : sz ≤ 256) (hl : vs.length ≤ 16) (hf : ∀ w ∈ vs, (mv_fs w).length ≤ 8) (H : kP_M T vs j σ) (h0 : σ.1 30 0 0 = nI sz) : ma_wp (F_X12_readView σ) (fun r τ => ma_fr kO σ τ ∧ kv_po (kv_view T sz vs j) (fun f p => r = 0 ∧ km_bad f p τ) (fun x => r = 1 ∧ vs.length < 16 ∧ kP_M T (vs ++ [x.1]) x.2 τ)) := by
  obtain ⟨HK, h18, hv⟩ := H
  have fail : ∀ {φ : ae_S} (f : Int32) (p : Nat) (o : kv_O (mv_V × Nat)), φ.1 30 0 23 = 0 → ma_fr kO σ φ → o = .inl (f, p) → ma_wp (ae_bd (F_X12_fails f (nI p) φ) (fun (r : Int32) s => ae_gd (ae_zz r) (some (r, s)))) (fun r τ => ma_fr kO σ τ ∧ kv_po o (fun f p => r = 0 ∧ km_bad f p τ) (fun x => r = 1 ∧ vs.length < 16 ∧ kP_M T (vs ++ [x.1]) x.2 τ)) := fun {φ} f p o h0 fr ho => by
    refine ma_bd (km_fail h0 f p) (fun r τ q => ?_)
    obtain ⟨rfl, hb, ff⟩ := q
    rw [ho]
    exact ma_gd ma_z0 (ma_ret ⟨fr.tr (ff.mo (fun g i k q => by unfold kO at q; omega)), kv_pol ⟨rfl, hb⟩⟩)
  unfold F_X12_readView kv_view
  rw [h18, show (16 : Int32) = nI 16 from rfl, nI_add]
  refine ma_lt (ma_be (km_nm hT HK.1) ?_)
  cases hn : kt_nm T j with
  | false =>
    rw [if_neg (c := false = true) (by decide)]
    refine ma_T rfl ?_
    rw [HK.1.2.2.1]
    exact fail 1 _ _ HK.2.1 ma_fr.rf rfl
  | true =>
    rw [if_pos (c := true = true) rfl]
    have hn2 := of_decide_eq_true hn
    have hx : σ.2.1 30 0 28 = kt_wv T j := (HK.1.2.2.2.2.1 hn2.1).1 hn2.2.1
    rw [hx]
    refine ma_F (by decide) ?_
    rw [h18]
    refine ma_be (kv_place (f0 := 16) (vs := vs) _ (by decide) hl (fun v w e => (hv v w e).1)) (ma_if (fun g1 => ?_) (fun g1 => ?_))
    · rw [if_pos (c := kv_ix vs (kt_wv T j) = -1) g1]
      refine ma_en vs.length 16 h18 rfl (by omega) (by decide) (fun g2 => ?_) (fun g2 => ?_)
      · rw [if_pos (c := vs.length = 16) g2, HK.1.2.2.1]
        exact fail 4 _ _ HK.2.1 ma_fr.rf rfl
      · rw [if_neg (c := vs.length = 16) g2]
        have hcl : (nI (16 + vs.length)).toNatClampNeg = 16 + vs.length := nI_clamp (by omega)
        have hib : ae_ib (nI (16 + vs.length)) 32 = true := ma_ib _ rfl (by omega) (by decide)
        rw [hcl]
        have hvn : ∀ v w, vs[v]? = some w → (mv_fs w).length ≤ 8 ∧ 16 + v ≠ 16 + vs.length ∧ mv_M1 (16 + v) w σ := fun v w e => ⟨hf w (List.mem_of_getElem? e), by have := (List.getElem?_eq_some_iff.mp e).1; omega, hv v w e⟩
        have hu : ∃ u, u = 16 + vs.length := ⟨_, rfl⟩
        obtain ⟨u, hu⟩ := hu
        rw [← hu] at hcl hib hvn ⊢
        refine ma_gd hib (ma_lt ?_)
        have K1 : kK T j (ae_wL σ 35 0 u (σ.2.1 30 0 28)) := HK.wL (by decide)
        have f1 : ma_fr (fun g _ k => ¬ (g = 35 ∧ k = u)) σ (ae_wL σ 35 0 u (σ.2.1 30 0 28)) := ma_fwL (by simp)
        have g35 : (ae_wL σ 35 0 u (σ.2.1 30 0 28)).2.1 35 0 u = kt_wv T j := by rw [ma_rL, hx]
        generalize ae_wL σ 35 0 u (σ.2.1 30 0 28) = φ1 at K1 f1 g35 ⊢
        refine ma_bd (K1.adv hT) (fun _ φ2 q2 => ?_)
        obtain ⟨K2, f2⟩ := q2
        refine ma_be (km_kind K2.1) (ma_gd hib (ma_lt (ma_gd hib ?_)))
        have F2 : ma_fr (kN u) σ φ2 := (f1.mo (fun g i k q => by unfold kN at q; omega)).tr (kN_F f2)
        have g352 : φ2.2.1 35 0 u = kt_wv T j := (f2.l (by unfold km_F; omega)).trans g35
        have h182 : φ2.1 30 0 18 = nI vs.length := (f2.i (by unfold km_F; omega)).trans ((f1.i (by omega)).trans h18)
        by_cases hkd : kt_kd T (j + 1) = 9
        · rw [if_pos (c := kt_kd T (j + 1) = 9) hkd, if_pos (c := kt_kd T (j + 1) = 9) hkd]
          refine ma_T ma_rI ?_
          have K3 : kK T (j + 1) (ae_wI φ2 36 0 u (-1)) := K2.wI (by decide)
          rw [K3.1.2.2.1]
          exact fail 1 _ _ K3.2.1 (kO_N (by omega) (F2.tr (kN_w (by decide)))) rfl
        · rw [if_neg (c := kt_kd T (j + 1) = 9) hkd, if_neg (c := kt_kd T (j + 1) = 9) hkd]
          have hkB := kt_kdB (T := T) (j := j + 1)
          have hk9 : kt_kd T (j + 1) < 9 := by omega
          have g36 : (ae_wI φ2 36 0 u (nI (kt_kd T (j + 1)))).1 36 0 u = nI (kt_kd T (j + 1)) := ma_rI
          have hne : ∀ i, i < 9 → nI i ≠ -1 := by decide
          refine ma_F (fun e => hne _ hk9 (g36.symm.trans e)) ?_
          have K3 : kK T (j + 1) (ae_wI φ2 36 0 u (nI (kt_kd T (j + 1)))) := K2.wI (by decide)
          have F3 : ma_fr (kN u) σ (ae_wI φ2 36 0 u (nI (kt_kd T (j + 1)))) := F2.tr (kN_w (by decide))
          have g353 : (ae_wI φ2 36 0 u (nI (kt_kd T (j + 1)))).2.1 35 0 u = kt_wv T j := g352
          have h183 : (ae_wI φ2 36 0 u (nI (kt_kd T (j + 1)))).1 30 0 18 = nI vs.length := by rw [ma_rIn (by simp)]; exact h182
          generalize ae_wI φ2 36 0 u (nI (kt_kd T (j + 1))) = φ3 at g36 K3 F3 g353 h183 ⊢
          refine ma_bd (K3.adv hT) (fun _ φ4 q4 => ?_)
          obtain ⟨K4, f4⟩ := q4
          have K4 : kK T (j + 2) φ4 := K4
          refine ma_be (km_wd K4.1 (by decide)) (ma_be mz_one (ma_gd hib (ma_lt (ma_gd hib ?_))))
          have K5 : kK T (j + 2) (ae_wI φ4 37 0 u (mv_bI (kt_wd T (j + 2) 0))) := K4.wI (by decide)
          have F5 : ma_fr (kN u) σ (ae_wI φ4 37 0 u (mv_bI (kt_wd T (j + 2) 0))) := (F3.tr (kN_F f4)).tr (kN_w (by decide))
          have b37 : (ae_wI φ4 37 0 u (mv_bI (kt_wd T (j + 2) 0))).1 37 0 u = mv_bI (kt_wd T (j + 2) 0) := ma_rI
          have b36 : (ae_wI φ4 37 0 u (mv_bI (kt_wd T (j + 2) 0))).1 36 0 u = nI (kt_kd T (j + 1)) := by rw [ma_rIn (by simp)]; exact (f4.i (by unfold km_F; omega)).trans g36
          have b35 : (ae_wI φ4 37 0 u (mv_bI (kt_wd T (j + 2) 0))).2.1 35 0 u = kt_wv T j := (f4.l (by unfold km_F; omega)).trans g353
          have b18 : (ae_wI φ4 37 0 u (mv_bI (kt_wd T (j + 2) 0))).1 30 0 18 = nI vs.length := by rw [ma_rIn (by simp)]; exact (f4.i (by unfold km_F; omega)).trans h183
          generalize ae_wI φ4 37 0 u (mv_bI (kt_wd T (j + 2) 0)) = φ5 at K5 F5 b37 b36 b35 b18 ⊢
          have fin : ∀ (jj : Nat) (φ : ae_S), kK T jj φ → ma_fr (kN u) σ φ → φ.1 37 0 u = mv_bI (kt_wd T (j + 2) 0) → φ.1 36 0 u = nI (kt_kd T (j + 1)) → φ.2.1 35 0 u = kt_wv T j → φ.1 30 0 18 = nI vs.length → ma_wp (F_X12_readView_149 (nI u) φ) (fun r τ => ma_fr kO σ τ ∧ kv_po (kv_v2 T sz (kt_wv T j) (kt_kd T (j + 1)) (kt_wd T (j + 2) 0) jj) (fun f p => r = 0 ∧ km_bad f p τ) (fun x => r = 1 ∧ vs.length < 16 ∧ kP_M T (vs ++ [x.1]) x.2 τ)) := by
            intro jj φ K F a37 a36 a35 a18
            refine ma_mono (kv_v2M hT (by omega) hs hk9 K ((F.i (by unfold kN; omega)).trans h0) a35 a36 a37) (fun r τ q => ⟨kO_N (by omega) (F.tr q.1), ?_⟩)
            cases ho : kv_v2 T sz (kt_wv T j) (kt_kd T (j + 1)) (kt_wd T (j + 2) 0) jj with
            | inl e => rw [ho] at q; exact q.2
            | inr x =>
              rw [ho] at q
              obtain ⟨fr, q1, q2, q3, q4⟩ := q
              refine ⟨q1, by omega, q2, ?_, fun v w e => ?_⟩
              · rw [q4, a18, nI_1, List.length_append, List.length_singleton]
              · by_cases hvl : v < vs.length
                · rw [List.getElem?_append_left hvl] at e
                  have h3 := hvn v w e
                  exact kM1_fr h3.1 h3.2.2 (F.tr fr) h3.2.1
                · have hv2 : v = vs.length := by
                    have h3 := (List.getElem?_eq_some_iff.mp e).1
                    rw [List.length_append, List.length_singleton] at h3
                    omega
                  rw [hv2, List.getElem?_append_right (Nat.le_refl _), Nat.sub_self] at e
                  have e := Option.some.inj e
                  rw [← e, hv2, ← hu]
                  exact q3
          cases hw : kt_wd T (j + 2) 0 with
          | true =>
            rw [hw] at fin b37
            rw [if_pos (c := true = true) rfl]
            refine ma_T b37 (ma_bd (K5.adv hT) (fun _ φ6 q6 => ?_))
            obtain ⟨K6, f6⟩ := q6
            exact fin (j + 3) φ6 K6 (F5.tr (kN_F f6)) ((f6.i (by unfold km_F; omega)).trans b37) ((f6.i (by unfold km_F; omega)).trans b36) ((f6.l (by unfold km_F; omega)).trans b35) ((f6.i (by unfold km_F; omega)).trans b18)
          | false =>
            rw [hw] at fin b37
            rw [if_neg (c := false = true) (by decide)]
            refine ma_F (fun e => absurd (b37.symm.trans e) (by decide)) ?_
            exact fin (j + 2) φ5 K5 F5 b37 b36 b35 b18
    · rw [if_neg (c := kv_ix vs (kt_wv T j) = -1) g1, HK.1.2.2.1]
      exact fail 2 _ _ HK.2.1 ma_fr.rf rfl
end KM
