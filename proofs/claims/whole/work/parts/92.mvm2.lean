/-! the model reads fields -/
section KM
variable {T : kt_T} {σ τ ψ : ae_S} {j k v L : Nat} {fs : List mv_F}
def kQ (v : Nat) (g : Nat) (_ : Fin 32) (k : Nat) : Prop := ¬ (g = 30 ∧ 23 ≤ k ∧ k ≤ 31) ∧ ¬ (g = 42 ∧ k = v) ∧ ¬ (43 ≤ g ∧ g ≤ 45 ∧ k / 8 = v)
theorem kQ_B (f : ma_fr (fun g _ k => ¬ (g = 30 ∧ (k = 23 ∨ k = 24))) σ τ) : ma_fr (kQ v) σ τ := f.mo (fun g i k q => by unfold kQ at q; omega)
theorem kQ_F (f : ma_fr km_F σ τ) : ma_fr (kQ v) σ τ := f.mo (fun g i k q => by unfold kQ at q; unfold km_F; omega)
def kL (v : Nat) (fs : List mv_F) (σ : ae_S) : Prop := σ.1 42 0 v = nI fs.length ∧ ∀ f q, fs[f]? = some q → σ.2.1 43 0 (8 * v + f) = q.1 ∧ σ.1 44 0 (8 * v + f) = nI q.2.1 ∧ σ.1 45 0 (8 * v + f) = nI q.2.2
theorem kL.fr {P : Nat → Fin 32 → Nat → Prop} (H : kL v fs σ) (f : ma_fr P σ τ) (p42 : P 42 0 v) (p : ∀ g i, 43 ≤ g → g ≤ 45 → i < fs.length → P g 0 (8 * v + i)) : kL v fs τ := ⟨(f.i p42).trans H.1, fun i q e => by
  have hi : i < fs.length := (List.getElem?_eq_some_iff.mp e).1
  have h := H.2 i q e
  exact ⟨(f.l (p 43 i (by decide) (by decide) hi)).trans h.1, (f.i (p 44 i (by decide) (by decide) hi)).trans h.2.1, (f.i (p 45 i (by decide) (by decide) hi)).trans h.2.2⟩⟩
theorem kL.F (H : kL v fs σ) (f : ma_fr km_F σ τ) : kL v fs τ := H.fr f (by unfold km_F; omega) (fun g i h1 h2 h3 => by unfold km_F; omega)
theorem kv_fldL (hv : v < 32) (hl : fs.length ≤ 8) (x : Int64) (hx : σ.2.1 30 0 28 = x) (c : kL v fs σ) {Q : Int32 → ae_S → Prop} (h1 : kv_fix fs x = -1 → ∀ n, ma_wp (F_X12_readField_34 (n + 1) (nI v) (nI (8 * v + fs.length)) (nI (8 * v + fs.length)) σ) Q) (h2 : kv_fix fs x ≠ -1 → ma_wp (ae_bd (F_X12_fails (2 : Int32) (σ.1 30 0 26) σ) (fun (r105 : Int32) s106 => ae_gd (ae_zz r105) (some (r105, s106)))) Q) : ma_wp (F_X12_readField_34 ae_fu (nI v) (nI (8 * v + fs.length)) (nI (8 * v)) σ) Q := by
  have loop : ∀ n i r : Nat, r < n → fs.length = i + r → (my_fd (fun k => decide (fs[k]?.map (fun q => q.1) = some x)) r i = -1 → ∀ n, ma_wp (F_X12_readField_34 (n + 1) (nI v) (nI (8 * v + fs.length)) (nI (8 * v + fs.length)) σ) Q) → (my_fd (fun k => decide (fs[k]?.map (fun q => q.1) = some x)) r i ≠ -1 → ma_wp (ae_bd (F_X12_fails (2 : Int32) (σ.1 30 0 26) σ) (fun (r105 : Int32) s106 => ae_gd (ae_zz r105) (some (r105, s106)))) Q) → ma_wp (F_X12_readField_34 n (nI v) (nI (8 * v + fs.length)) (nI (8 * v + i)) σ) Q := by
    intro n
    induction n with
    | zero => intro i r h; omega
    | succ n ih =>
      intro i r hr hk a1 a2
      by_cases hz : r = 0
      · rw [hz] at a1 hk
        have a3 := a1 rfl n
        rw [show i = fs.length by omega]
        exact a3
      · obtain ⟨r, rfl⟩ : ∃ r', r = r' + 1 := ⟨r - 1, by omega⟩
        have hi : i < fs.length := by omega
        have e : fs[i]? = some fs[i] := List.getElem?_eq_getElem hi
        have hp2 : decide (fs[i]?.map (fun q => q.1) = some x) = decide (fs[i].1 = x) := by
          rw [e]
          exact decide_eq_decide.mpr ⟨fun g => Option.some.inj g, fun g => congrArg some g⟩
        unfold F_X12_readField_34
        refine ma_F (nI_ge (by omega) (by omega)) (ma_gd (ma_ib (8 * v + i) rfl (by omega) (by decide)) ?_)
        rw [nI_clamp (by omega), (c.2 i fs[i] e).1, hx]
        rw [my_fd] at a1 a2
        refine ma_if (fun g => ?_) (fun g => ma_lt ?_)
        · rw [if_pos (c := decide (fs[i]?.map (fun q => q.1) = some x) = true) (by rw [hp2]; exact decide_eq_true ((lg_cmp_eq _ _).mp g))] at a2
          refine a2 ?_
          have : ∀ i, i < 8 → nI i ≠ -1 := by decide
          exact this i (by omega)
        · rw [if_neg (c := decide (fs[i]?.map (fun q => q.1) = some x) = true) (by rw [hp2, decide_eq_true_eq]; exact fun w => g ((lg_cmp_eq _ _).mpr w))] at a1 a2
          rw [nI_1]
          exact ih (i + 1) r (by omega) (by omega) a1 a2
  exact loop ae_fu 0 fs.length (by rw [ae_fu]; omega) (by omega) h1 h2
theorem kv_fldM (hT : kt_W T) (hv : v < 32) (hk : k < 9) (hl : fs.length ≤ 8) (H : kK T j σ) (h36 : σ.1 36 0 v = nI k) (c : kL v fs σ) : ma_wp (F_X12_readField (nI v) σ) (fun r τ => ma_fr (kQ v) σ τ ∧ kv_po (kv_fld T k fs j) (fun f p => r = 0 ∧ km_bad f p τ) (fun x => r = 1 ∧ fs.length < 8 ∧ kK T x.2 τ ∧ kL v (fs ++ [x.1]) τ)) := by
  have hb8 := mv_byle k hk
  have hcl : (nI v).toNatClampNeg = v := nI_clamp (by omega)
  have hib : ae_ib (nI v) 32 = true := ma_ib v rfl hv (by decide)
  have fail : ∀ {φ : ae_S} (f : Int32) (p : Nat) (o : kv_O (mv_F × Nat)), φ.1 30 0 23 = 0 → ma_fr (kQ v) σ φ → o = .inl (f, p) → ma_wp (ae_bd (F_X12_fails f (nI p) φ) (fun (r : Int32) s => ae_gd (ae_zz r) (some (r, s)))) (fun r τ => ma_fr (kQ v) σ τ ∧ kv_po o (fun f p => r = 0 ∧ km_bad f p τ) (fun x => r = 1 ∧ fs.length < 8 ∧ kK T x.2 τ ∧ kL v (fs ++ [x.1]) τ)) := fun {φ} f p o h0 fr ho => by
    refine ma_bd (km_fail h0 f p) (fun r τ q => ?_)
    obtain ⟨rfl, hb, ff⟩ := q
    rw [ho]
    exact ma_gd ma_z0 (ma_ret ⟨fr.tr (kQ_B ff), kv_pol ⟨rfl, hb⟩⟩)
  unfold F_X12_readField kv_fld
  rw [hcl, c.1, show (8 : Int32) = nI 8 from rfl, pk_mul, nI_add]
  refine ma_gd hib (ma_lt (ma_be (km_nm hT H.1) ?_))
  cases hn : kt_nm T j with
  | false =>
    rw [if_neg (c := false = true) (by decide)]
    refine ma_T rfl ?_
    rw [H.1.2.2.1]
    exact fail 1 _ _ H.2.1 ma_fr.rf rfl
  | true =>
    rw [if_pos (c := true = true) rfl]
    have hn2 := of_decide_eq_true hn
    have hx : σ.2.1 30 0 28 = kt_wv T j := (H.1.2.2.2.2.1 hn2.1).1 hn2.2.1
    refine ma_F (by decide) (ma_lt (kv_fldL hv hl (kt_wv T j) hx c (fun g1 n => ?_) (fun g1 => ?_)))
    · rw [if_pos (c := kv_fix fs (kt_wv T j) = -1) g1]
      unfold F_X12_readField_34
      refine ma_T (nI_le (Nat.le_refl _) (by omega)) (ma_gd hib ?_)
      rw [hcl]
      refine ma_en fs.length 8 c.1 rfl (by omega) (by decide) (fun g2 => ?_) (fun g2 => ?_)
      · rw [if_pos (c := fs.length = 8) g2, H.1.2.2.1]
        exact fail 4 _ _ H.2.1 ma_fr.rf rfl
      · rw [if_neg (c := fs.length = 8) g2]
        have hxl : (nI (8 * v + fs.length)).toNatClampNeg = 8 * v + fs.length := nI_clamp (by omega)
        have hxb : ae_ib (nI (8 * v + fs.length)) 256 = true := ma_ib _ rfl (by omega) (by decide)
        rw [hxl, hx]
        refine ma_gd hxb (ma_lt ?_)
        have w1 : (ae_wL σ 43 0 (8 * v + fs.length) (kt_wv T j)).2.1 43 0 (8 * v + fs.length) = kt_wv T j := ma_rL
        have K1 : kK T j (ae_wL σ 43 0 (8 * v + fs.length) (kt_wv T j)) := H.wL (by decide)
        have f1 : ma_fr (fun g _ k => ¬ (g = 43 ∧ k = 8 * v + fs.length)) σ (ae_wL σ 43 0 (8 * v + fs.length) (kt_wv T j)) := ma_fwL (by simp)
        have c1 : kL v fs (ae_wL σ 43 0 (8 * v + fs.length) (kt_wv T j)) := c.fr f1 (by omega) (fun g i h1 h2 h3 => by omega)
        have q1 : ma_fr (kQ v) σ (ae_wL σ 43 0 (8 * v + fs.length) (kt_wv T j)) := f1.mo (fun g i k q => by unfold kQ at q; omega)
        generalize ae_wL σ 43 0 (8 * v + fs.length) (kt_wv T j) = ψ1 at w1 K1 c1 q1 ⊢
        refine ma_bd (K1.adv hT) (fun _ ψ2 r2 => ?_)
        obtain ⟨K2, f2⟩ := r2
        have c2 := c1.F f2
        have w2 : ψ2.2.1 43 0 (8 * v + fs.length) = kt_wv T j := (f2.l (by unfold km_F; omega)).trans w1
        have q2 : ma_fr (kQ v) σ ψ2 := q1.tr (kQ_F f2)
        refine ma_bd (K2.take hT (c := 58) (by decide)) (fun r3 ψ3 r3' => ?_)
        rcases r3' with ⟨hs3, rfl, K3, f3⟩ | ⟨hs3, rfl, hb, f3⟩
        · rw [if_pos (c := kt_sg T (j + 1) 58 = true) hs3]
          have c3 := c2.F f3
          have w3 : ψ3.2.1 43 0 (8 * v + fs.length) = kt_wv T j := (f3.l (by unfold km_F; omega)).trans w2
          have q3 : ma_fr (kQ v) σ ψ3 := q2.tr (kQ_F f3)
          have K3 : kK T (j + 2) ψ3 := K3
          refine ma_F ma_01 (ma_bd (K3.num hT (D := 3) (by decide)) (fun r4 ψ4 r4' => ?_))
          rcases r4' with ⟨hn4, rfl, rfl, hx4⟩ | ⟨hn4, rfl, hb, f4⟩
          · rw [if_pos (c := kt_nu T 3 (j + 2) = true) hn4]
            have hB4 := kt_nvB hn4
            have g36 : ψ4.1 36 0 v = nI k := (q3.i (by unfold kQ; omega)).trans h36
            rw [g36]
            refine ma_F ma_01 (ma_gd hib (ma_be (mv_bytesOf hk _) (ma_lt ?_)))
            rw [hx4, show (8 : Int32) = nI 8 from rfl, pk_mul, nI_l (by omega), ma_ic ((lg_cmp_lt _ _).trans (lN_lt (by omega) (by omega)))]
            by_cases hv4 : kt_nv T (j + 2) < 8 * mv_by k
            · refine ma_T hv4 (ma_gd hxb (ma_lt ?_))
              rw [if_pos (c := kt_nv T (j + 2) < 8 * mv_by k) hv4, lN_i]
              have f5 : ma_fr (fun g _ k => ¬ (g = 44 ∧ k = 8 * v + fs.length)) ψ4 (ae_wI ψ4 44 0 (8 * v + fs.length) (nI (kt_nv T (j + 2)))) := ma_fwI (by simp)
              have K5 : kK T (j + 2) (ae_wI ψ4 44 0 (8 * v + fs.length) (nI (kt_nv T (j + 2)))) := K3.wI (by decide)
              have c5 : kL v fs (ae_wI ψ4 44 0 (8 * v + fs.length) (nI (kt_nv T (j + 2)))) := c3.fr f5 (by omega) (fun g i h1 h2 h3 => by omega)
              have q5 : ma_fr (kQ v) σ (ae_wI ψ4 44 0 (8 * v + fs.length) (nI (kt_nv T (j + 2)))) := q3.tr (f5.mo (fun g i k q => by unfold kQ at q; omega))
              have w5 : (ae_wI ψ4 44 0 (8 * v + fs.length) (nI (kt_nv T (j + 2)))).2.1 43 0 (8 * v + fs.length) = kt_wv T j := w3
              have u5 : (ae_wI ψ4 44 0 (8 * v + fs.length) (nI (kt_nv T (j + 2)))).1 44 0 (8 * v + fs.length) = nI (kt_nv T (j + 2)) := ma_rI
              generalize ae_wI ψ4 44 0 (8 * v + fs.length) (nI (kt_nv T (j + 2))) = ψ5 at K5 c5 q5 w5 u5 ⊢
              refine ma_bd (K5.adv hT) (fun _ ψ6 r6 => ?_)
              obtain ⟨K6, f6⟩ := r6
              have c6 := c5.F f6
              have w6 : ψ6.2.1 43 0 (8 * v + fs.length) = kt_wv T j := (f6.l (by unfold km_F; omega)).trans w5
              have u6 : ψ6.1 44 0 (8 * v + fs.length) = nI (kt_nv T (j + 2)) := (f6.i (by unfold km_F; omega)).trans u5
              have q6 : ma_fr (kQ v) σ ψ6 := q5.tr (kQ_F f6)
              have K6 : kK T (j + 3) ψ6 := K6
              refine ma_bd (K6.take hT (c := 45) (by decide)) (fun r7 ψ7 r7' => ?_)
              rcases r7' with ⟨hs7, rfl, K7, f7⟩ | ⟨hs7, rfl, hb, f7⟩
              · rw [if_pos (c := kt_sg T (j + 3) 45 = true) hs7]
                have c7 := c6.F f7
                have w7 : ψ7.2.1 43 0 (8 * v + fs.length) = kt_wv T j := (f7.l (by unfold km_F; omega)).trans w6
                have u7 : ψ7.1 44 0 (8 * v + fs.length) = nI (kt_nv T (j + 2)) := (f7.i (by unfold km_F; omega)).trans u6
                have q7 : ma_fr (kQ v) σ ψ7 := q6.tr (kQ_F f7)
                have K7 : kK T (j + 4) ψ7 := K7
                refine ma_F ma_01 (ma_bd (K7.num hT (D := 3) (by decide)) (fun r8 ψ8 r8' => ?_))
                rcases r8' with ⟨hn8, rfl, rfl, hx8⟩ | ⟨hn8, rfl, hb, f8⟩
                · rw [if_pos (c := kt_nu T 3 (j + 4) = true) hn8]
                  have hB8 := kt_nvB hn8
                  have no : ¬ (kt_nv T (j + 4) < 8 * mv_by k ∧ kt_nv T (j + 2) ≤ kt_nv T (j + 4) ∧ kt_nv T (j + 4) - kt_nv T (j + 2) < 63) → ma_wp (F_X12_readField_234 ψ8) (fun r τ => ma_fr (kQ v) σ τ ∧ kv_po (if kt_nv T (j + 4) < 8 * mv_by k ∧ kt_nv T (j + 2) ≤ kt_nv T (j + 4) ∧ kt_nv T (j + 4) - kt_nv T (j + 2) < 63 then (.inr ((kt_wv T j, kt_nv T (j + 2), kt_nv T (j + 4)), j + 5) : kv_O (mv_F × Nat)) else .inl (3, kt_s T (j + 4))) (fun f p => r = 0 ∧ km_bad f p τ) (fun x => r = 1 ∧ fs.length < 8 ∧ kK T x.2 τ ∧ kL v (fs ++ [x.1]) τ)) := fun h => by
                    rw [if_neg h]
                    unfold F_X12_readField_234
                    rw [K7.1.2.2.1]
                    exact fail 3 _ _ K7.2.1 q7 rfl
                  refine ma_F ma_01 ?_
                  rw [hx8, u7, ma_ic ((lg_cmp_ge _ _).trans (lN_le (by omega) (by omega)))]
                  refine ma_if (fun g8 => no (fun h => by omega)) (fun g8 => ma_gd hxb ?_)
                  rw [nI_l (by omega), ma_ic ((lg_cmp_lt _ _).trans (lN_lt (by omega) (by omega)))]
                  refine ma_if (fun g9 => no (fun h => by omega)) (fun g9 => ma_gd hxb ?_)
                  rw [lN_sub (by omega), show (63 : Int64) = lN 63 from rfl, ma_ic ((lg_cmp_lt _ _).trans (lN_lt (by omega) (by decide)))]
                  refine ma_if (fun g10 => ?_) (fun g10 => no (fun h => by omega))
                  rw [if_pos (c := kt_nv T (j + 4) < 8 * mv_by k ∧ kt_nv T (j + 2) ≤ kt_nv T (j + 4) ∧ kt_nv T (j + 4) - kt_nv T (j + 2) < 63) ⟨by omega, by omega, g10⟩]
                  refine ma_gd hxb (ma_lt ?_)
                  rw [lN_i]
                  have f9 : ma_fr (fun g _ k => ¬ (g = 45 ∧ k = 8 * v + fs.length)) ψ8 (ae_wI ψ8 45 0 (8 * v + fs.length) (nI (kt_nv T (j + 4)))) := ma_fwI (by simp)
                  have K9 : kK T (j + 4) (ae_wI ψ8 45 0 (8 * v + fs.length) (nI (kt_nv T (j + 4)))) := K7.wI (by decide)
                  have c9 : kL v fs (ae_wI ψ8 45 0 (8 * v + fs.length) (nI (kt_nv T (j + 4)))) := c7.fr f9 (by omega) (fun g i h1 h2 h3 => by omega)
                  have q9 : ma_fr (kQ v) σ (ae_wI ψ8 45 0 (8 * v + fs.length) (nI (kt_nv T (j + 4)))) := q7.tr (f9.mo (fun g i k q => by unfold kQ at q; omega))
                  have w9 : (ae_wI ψ8 45 0 (8 * v + fs.length) (nI (kt_nv T (j + 4)))).2.1 43 0 (8 * v + fs.length) = kt_wv T j := w7
                  have u9 : (ae_wI ψ8 45 0 (8 * v + fs.length) (nI (kt_nv T (j + 4)))).1 44 0 (8 * v + fs.length) = nI (kt_nv T (j + 2)) := by rw [ma_rIn (by simp)]; exact u7
                  have t9 : (ae_wI ψ8 45 0 (8 * v + fs.length) (nI (kt_nv T (j + 4)))).1 45 0 (8 * v + fs.length) = nI (kt_nv T (j + 4)) := ma_rI
                  generalize ae_wI ψ8 45 0 (8 * v + fs.length) (nI (kt_nv T (j + 4))) = ψ9 at K9 c9 q9 w9 u9 t9 ⊢
                  refine ma_bd (K9.adv hT) (fun _ ψa ra => ma_gd hib (ma_gd hib (ma_lt ?_)))
                  obtain ⟨Ka, fa⟩ := ra
                  have ca := c9.F fa
                  have wa : ψa.2.1 43 0 (8 * v + fs.length) = kt_wv T j := (fa.l (by unfold km_F; omega)).trans w9
                  have ua : ψa.1 44 0 (8 * v + fs.length) = nI (kt_nv T (j + 2)) := (fa.i (by unfold km_F; omega)).trans u9
                  have ta : ψa.1 45 0 (8 * v + fs.length) = nI (kt_nv T (j + 4)) := (fa.i (by unfold km_F; omega)).trans t9
                  have qa : ma_fr (kQ v) σ ψa := q9.tr (kQ_F fa)
                  have Ka : kK T (j + 5) ψa := Ka
                  rw [ca.1, nI_1]
                  refine ma_ret ⟨qa.tr (ma_fwI (by unfold kQ; omega)), kv_por ⟨rfl, by omega, Ka.wI (by decide), ?_, fun f q e => ?_⟩⟩
                  · rw [ma_rI, List.length_append, List.length_singleton]
                  · show ψa.2.1 43 0 (8 * v + f) = q.1 ∧ _
                    rw [ma_rIn (by simp), ma_rIn (by simp)]
                    by_cases hf : f < fs.length
                    · rw [List.getElem?_append_left hf] at e
                      exact ca.2 f q e
                    · have hf2 : f = fs.length := by
                        have h3 := (List.getElem?_eq_some_iff.mp e).1
                        rw [List.length_append, List.length_singleton] at h3
                        omega
                      rw [hf2, List.getElem?_append_right (Nat.le_refl _), Nat.sub_self] at e
                      have e := Option.some.inj e
                      rw [← e, hf2]
                      exact ⟨wa, ua, ta⟩
                · rw [if_neg (c := kt_nu T 3 (j + 4) = true) (by rw [hn8]; decide)]
                  exact ma_T rfl (ma_ret ⟨q7.tr (kQ_B f8), kv_pol ⟨rfl, hb⟩⟩)
              · rw [if_neg (c := kt_sg T (j + 3) 45 = true) (by rw [hs7]; decide)]
                exact ma_T rfl (ma_ret ⟨q6.tr (kQ_B f7), kv_pol ⟨rfl, hb⟩⟩)
            · refine ma_F hv4 ?_
              rw [if_neg (c := kt_nv T (j + 2) < 8 * mv_by k) hv4, K3.1.2.2.1]
              exact fail 3 _ _ K3.2.1 q3 rfl
          · rw [if_neg (c := kt_nu T 3 (j + 2) = true) (by rw [hn4]; decide)]
            exact ma_T rfl (ma_ret ⟨q3.tr (kQ_B f4), kv_pol ⟨rfl, hb⟩⟩)
        · rw [if_neg (c := kt_sg T (j + 1) 58 = true) (by rw [hs3]; decide)]
          exact ma_T rfl (ma_ret ⟨q2.tr (kQ_B f3), kv_pol ⟨rfl, hb⟩⟩)
    · rw [if_neg (c := kv_fix fs (kt_wv T j) = -1) g1, H.1.2.2.1]
      exact fail 2 _ _ H.2.1 ma_fr.rf rfl
theorem kv_fldsM (hT : kt_W T) (hv : v < 32) (hk : k < 9) : ∀ (m n : Nat) (fs : List mv_F) (j : Nat) (σ : ae_S), fs.length + m = 9 → fs.length ≤ 8 → m ≤ n → kK T j σ → σ.1 36 0 v = nI k → kL v fs σ → ma_wp (F_X12_readFields_21 n (nI v) σ) (fun r τ => ma_fr (kQ v) σ τ ∧ kv_po (kv_flds T k m fs (j + 1)) (fun f p => r = 0 ∧ km_bad f p τ) (fun x => r = 1 ∧ kK T x.2 τ ∧ kL v x.1 τ)) := by
  intro m
  induction m with
  | zero => intro n fs j σ h1 h2; omega
  | succ m ih =>
    intro n fs j σ h1 h2 hn H h36 c
    obtain ⟨n, rfl⟩ : ∃ n2, n = n2 + 1 := ⟨n - 1, by omega⟩
    unfold F_X12_readFields_21 kv_flds
    refine ma_bd (H.adv hT) (fun _ ψ1 r1 => ?_)
    obtain ⟨K1, f1⟩ := r1
    have g36 : ψ1.1 36 0 v = nI k := (f1.i (by unfold km_F; omega)).trans h36
    refine ma_bd (kv_fldM hT hv hk h2 K1 g36 (c.F f1)) (fun r ψ2 q => ?_)
    obtain ⟨f2, q⟩ := q
    have f3 : ma_fr (kQ v) σ ψ2 := (kQ_F f1).tr f2
    cases ho : kv_fld T k fs (j + 1) with
    | inl e =>
      obtain ⟨f, p⟩ := e
      rw [ho] at q
      obtain ⟨rfl, hb⟩ := q
      exact ma_T rfl (ma_ret ⟨f3, kv_pol ⟨rfl, hb⟩⟩)
    | inr x =>
      rw [ho] at q
      obtain ⟨rfl, hl, K2, c2⟩ := q
      refine ma_F ma_01 (ma_be (km_sg hT K2.1 (c := 44) (by decide)) ?_)
      have l2 : (fs ++ [x.1]).length = fs.length + 1 := by rw [List.length_append, List.length_singleton]
      show ma_wp _ (fun r τ => ma_fr (kQ v) σ τ ∧ kv_po (if kt_sg T x.2 44 = true then kv_flds T k m (fs ++ [x.1]) (x.2 + 1) else if kt_sg T x.2 125 = true then .inr (fs ++ [x.1], x.2 + 1) else .inl (1, kt_s T x.2)) _ _)
      cases hs : kt_sg T x.2 44 with
      | true =>
        rw [if_pos (c := true = true) rfl]
        refine ma_F (by decide) (ma_mono (ih n (fs ++ [x.1]) x.2 ψ2 (by omega) (by omega) (by omega) K2 ((f3.i (by unfold kQ; omega)).trans h36) c2) (fun r τ q2 => ⟨f3.tr q2.1, q2.2⟩))
      | false =>
        rw [if_neg (c := false = true) (by decide)]
        refine ma_T rfl (ma_bd (K2.take hT (c := 125) (by decide)) (fun r4 ψ4 r4' => ?_))
        rcases r4' with ⟨hs4, rfl, K4, f4⟩ | ⟨hs4, rfl, hb, f4⟩
        · rw [if_pos (c := kt_sg T x.2 125 = true) hs4]
          exact ma_gd ma_z1 (ma_ret ⟨f3.tr (kQ_F f4), kv_por ⟨rfl, K4, c2.F f4⟩⟩)
        · rw [if_neg (c := kt_sg T x.2 125 = true) (by rw [hs4]; decide)]
          exact ma_gd ma_z0 (ma_ret ⟨f3.tr (kQ_B f4), kv_pol ⟨rfl, hb⟩⟩)
end KM
