/-! the class reads fields, a view, all views -/
section KW
variable {T : kt_T} {σ τ : ae_S} {j k st ct sd ac sz : Nat} {j0 : Fin 32} {nm : Int64} {bg : Bool} {fs : List mv_F}
theorem kv_fnC (hl : fs.length ≤ 8) (x : Int64) (c : mv_C1 j0 (nm, k, bg, st, ct, sd, ac, fs) σ) : F_X9_fieldNumberOf j0 x σ = some (kv_fix fs x, σ) := by
  have h10 : σ.1 8 j0 10 = nI fs.length := c.2.2.2.2.2.2.2.1
  have h9 : ∀ f q, fs[f]? = some q → σ.2.1 9 j0 f = q.1 := fun f q e => (c.2.2.2.2.2.2.2.2 f q e).1
  have loop : ∀ n k r : Nat, r < n → fs.length = k + r → ma_wp (F_X9_fieldNumberOf_2 n j0 x (nI k) σ) (fun z τ => z = my_fd (fun k => decide (fs[k]?.map (fun q => q.1) = some x)) r k ∧ τ = σ) := by
    intro n
    induction n with
    | zero => intro k r h; omega
    | succ n ih =>
      intro k r hr hk
      unfold F_X9_fieldNumberOf_2 F_X9_fieldNumberOf_35
      refine ma_le _ k h10 rfl (by omega) (by omega) (fun q => ?_) (fun q => ma_F (nI_ge (b := 8) (by omega) (by decide)) (ma_gd (ma_ib k rfl (by omega) (by decide)) ?_))
      · rw [show r = 0 by omega]; exact ma_ret ⟨rfl, rfl⟩
      · obtain ⟨r, rfl⟩ : ∃ r', r = r' + 1 := ⟨r - 1, by omega⟩
        have e : fs[k]? = some fs[k] := List.getElem?_eq_getElem q
        rw [nI_clamp (by omega), h9 k fs[k] e, my_fd]
        have hp2 : decide (fs[k]?.map (fun q => q.1) = some x) = decide (fs[k].1 = x) := by
          rw [e]
          exact decide_eq_decide.mpr ⟨fun g => Option.some.inj g, fun g => congrArg some g⟩
        refine ma_if (fun g => ?_) (fun g => ma_lt ?_)
        · rw [if_pos (c := decide (fs[k]?.map (fun q => q.1) = some x) = true) (by rw [hp2]; exact decide_eq_true ((lg_cmp_eq _ _).mp g))]
          exact ma_ret ⟨rfl, rfl⟩
        · rw [if_neg (c := decide (fs[k]?.map (fun q => q.1) = some x) = true) (by rw [hp2, decide_eq_true_eq]; exact fun w => g ((lg_cmp_eq _ _).mpr w)), nI_1]
          exact ih (k + 1) r (by omega) (by omega)
  refine ma_eq ?_
  unfold F_X9_fieldNumberOf
  exact loop ae_fu 0 fs.length (by rw [ae_fu]; omega) (by omega)
theorem kv_addF (hl : fs.length < 8) (x : Int64) (a b : Nat) (c : mv_C1 j0 (nm, k, bg, st, ct, sd, ac, fs) σ) : ma_wp (F_X9_addField j0 x (nI a) (nI b) σ) (fun _ τ => mv_C1 j0 (nm, k, bg, st, ct, sd, ac, fs ++ [(x, a, b)]) τ ∧ ma_fr (fun g i _ => ¬ (8 ≤ g ∧ g ≤ 11 ∧ i = j0)) σ τ) := by
  obtain ⟨c1, c2, c3, c4, c5, c6, c7, c8, c9⟩ := c
  have h10 : σ.1 8 j0 10 = nI fs.length := c8
  have e1 : (ae_wL σ 9 j0 fs.length x).1 8 j0 10 = nI fs.length := h10
  have e2 : (ae_wI (ae_wL σ 9 j0 fs.length x) 10 j0 fs.length (nI a)).1 8 j0 10 = nI fs.length := by rw [ma_rIn (by simp)]; exact e1
  have e3 : (ae_wI (ae_wI (ae_wL σ 9 j0 fs.length x) 10 j0 fs.length (nI a)) 11 j0 fs.length (nI b)).1 8 j0 10 = nI fs.length := by rw [ma_rIn (by simp)]; exact e2
  unfold F_X9_addField F_X9_addField_50
  rw [h10, nI_clamp (by omega)]
  refine ma_F (nI_ge (b := 8) hl (by decide)) (ma_gd (ma_ib _ rfl hl (by decide)) (ma_lt ?_))
  rw [e1, nI_clamp (by omega)]
  refine ma_gd (ma_ib _ rfl hl (by decide)) (ma_lt ?_)
  rw [e2, nI_clamp (by omega)]
  refine ma_gd (ma_ib _ rfl hl (by decide)) (ma_lt (ma_lt (ma_ret ?_)))
  rw [e3, nI_1]
  have r8 : ∀ k2, k2 ≠ 10 → (ae_wI (ae_wI (ae_wI (ae_wL σ 9 j0 fs.length x) 10 j0 fs.length (nI a)) 11 j0 fs.length (nI b)) 8 j0 10 (nI (fs.length + 1))).1 8 j0 k2 = σ.1 8 j0 k2 := fun k2 h => by
    rw [ma_rIn (by simp [h]), ma_rIn (by simp), ma_rIn (by simp)]; rfl
  refine ⟨⟨?_, c2, ?_, ?_, ?_, ?_, ?_, ?_, fun f q e => ?_⟩, ?_⟩
  · show (ae_wL σ 9 j0 fs.length x).2.1 8 j0 3 = _
    rw [ma_rLn (by simp)]; exact c1
  · rw [r8 5 (by decide)]; exact c3
  · rw [r8 6 (by decide)]; exact c4
  · rw [r8 7 (by decide)]; exact c5
  · rw [r8 8 (by decide)]; exact c6
  · rw [r8 9 (by decide)]; exact c7
  · rw [ma_rI]
    show _ = nI (fs ++ [(x, a, b)]).length
    rw [List.length_append]; rfl
  · have e : (fs ++ [(x, a, b)])[f]? = some q := e
    by_cases hf : f < fs.length
    · rw [List.getElem?_append_left hf] at e
      obtain ⟨d1, d2, d3⟩ := c9 f q e
      refine ⟨?_, ?_, ?_⟩
      · show (ae_wL σ 9 j0 fs.length x).2.1 9 j0 f = _
        rw [ma_rLn (fun g => by have := g.2.2; omega)]; exact d1
      · rw [ma_rIn (by simp), ma_rIn (by simp), ma_rIn (fun g => by have := g.2.2; omega)]; exact d2
      · rw [ma_rIn (by simp), ma_rIn (fun g => by have := g.2.2; omega), ma_rIn (by simp)]; exact d3
    · rw [List.getElem?_append_right (by omega)] at e
      have hj8 : f = fs.length := by
        rcases Nat.lt_or_ge (f - fs.length) 1 with q | q
        · omega
        · rw [List.getElem?_eq_none (by simpa using q)] at e; cases e
      subst hj8
      have e2 : (x, a, b) = q := by simpa using e
      subst e2
      refine ⟨?_, ?_, ?_⟩
      · show (ae_wL σ 9 j0 fs.length x).2.1 9 j0 fs.length = x
        rw [ma_rL]
      · rw [ma_rIn (by simp), ma_rIn (by simp), ma_rI]
      · rw [ma_rIn (by simp), ma_rI]
  · exact (ma_fwL (by simp)).tr ((ma_fwI (by simp)).tr ((ma_fwI (by simp)).tr (ma_fwI (by simp))))
theorem kv_hb (hk : k < 9) (H : kt_St T 3 j σ) (c : mv_C1 j0 (nm, k, bg, st, ct, sd, ac, fs) σ) : ma_wp (F_X10_holdsBit j0 σ) (fun r τ => ma_fr (fun g _ k => ¬ (g = 12 ∧ (k = 7 ∨ k = 8))) σ τ ∧ ((kt_nu T 3 j = true ∧ kt_nv T j < 8 * mv_by k ∧ r = 1 ∧ τ = σ) ∨ (kt_nu T 3 j = true ∧ ¬ kt_nv T j < 8 * mv_by k ∧ r = 0 ∧ kc_bad 3 (kt_s T j) τ) ∨ (kt_nu T 3 j = false ∧ r = 0 ∧ kc_bad 1 (kt_s T j) τ))) := by
  have hb8 := mv_byle k hk
  unfold F_X10_holdsBit
  refine ma_be (kc_num H) ?_
  cases hn : kt_nu T 3 j with
  | false =>
    refine ma_T rfl (ma_bd (kc_ref H 1) (fun r τ q => ?_))
    obtain ⟨rfl, q⟩ := q
    exact ma_gd ma_z0 (ma_ret ⟨q.2.2, .inr (.inr ⟨rfl, rfl, q.1, q.2.1⟩)⟩)
  | true =>
    have hB := kt_nvB hn
    refine ma_F (by decide) (ma_be (kc_value H) (mv_kk c.2.1 hk ?_))
    rw [kt_nuV hn, mv_kB k hk, show (8 : Int32) = nI 8 from rfl, pk_mul, nI_l (by omega)]
    refine ma_if (fun g => ma_ret ⟨ma_fr.rf, .inl ⟨rfl, ?_, rfl, rfl⟩⟩) (fun g => ?_)
    · rw [lg_cmp_lt, lN_lt (by omega) (by omega)] at g; exact g
    · rw [lg_cmp_lt, lN_lt (by omega) (by omega)] at g
      refine ma_bd (kc_ref H 3) (fun r τ q => ?_)
      obtain ⟨rfl, q⟩ := q
      exact ma_gd ma_z0 (ma_ret ⟨q.2.2, .inr (.inl ⟨rfl, g, rfl, q.1, q.2.1⟩)⟩)
theorem kv_fldC (hT : kt_W T) (hk : k < 9) (hl : fs.length ≤ 8) (H : kt_St T 3 j σ) (c : mv_C1 j0 (nm, k, bg, st, ct, sd, ac, fs) σ) : ma_wp (F_X10_takeField j0 σ) (fun r τ => kv_po (kv_fld T k fs j) (fun f p => r = 0 ∧ kc_bad f p τ ∧ ma_fr (kW j0) σ τ) (fun x => r = 1 ∧ ma_fr (kF j0) σ τ ∧ fs.length < 8 ∧ kt_St T 3 x.2 τ ∧ mv_C1 j0 (nm, k, bg, st, ct, sd, ac, fs ++ [x.1]) τ)) := by
  have hb8 := mv_byle k hk
  unfold F_X10_takeField F_X10_takeField_90 F_X10_takeField_129 F_X10_takeField_158 kv_fld
  refine ma_be (kc_name H) ?_
  cases hn : kt_nm T j with
  | false =>
    rw [if_neg (c := false = true) (by decide)]
    refine ma_T rfl (ma_bd (kc_ref H 1) (fun r τ q => ?_))
    obtain ⟨rfl, q⟩ := q
    exact ma_gd ma_z0 (ma_ret (kv_pol ⟨rfl, ⟨q.1, q.2.1⟩, kW_ref q.2.2⟩))
  | true =>
    rw [if_pos (c := true = true) rfl]
    refine ma_F (by decide) (ma_be (kc_value H) ?_)
    rw [kt_nmV hn]
    refine ma_be (kv_fnC hl _ c) (ma_if (fun g1 => ?_) (fun g1 => ?_))
    · rw [if_pos (c := kv_fix fs (kt_wv T j) = -1) g1]
      have h10 : σ.1 8 j0 10 = nI fs.length := c.2.2.2.2.2.2.2.1
      refine ma_ls fs.length 8 h10 rfl (by omega) (by decide) (fun g2 => ?_) (fun g2 => ?_)
      · rw [if_neg (c := fs.length = 8) (by omega)]
        refine ma_bd (kc_adv H) (fun _ τ1 q1 => ?_)
        have c1 := kc_C1a c q1.2
        have f1 : ma_fr (kF j0) σ τ1 := kF_adv q1.2
        refine ma_bd (kc_take q1.1 hT (c := 58) (by decide)) (fun r2 τ2 q2 => ?_)
        rcases q2 with ⟨hs2, rfl, H2, f2⟩ | ⟨hs2, rfl, b1, b2, f2⟩
        · rw [if_pos (c := kt_sg T (j + 1) 58 = true) hs2]
          have c2 := kc_C1a c1 f2
          have f3 : ma_fr (kF j0) σ τ2 := f1.tr (kF_adv f2)
          refine ma_F ma_01 (ma_bd (kv_hb hk H2 c2) (fun r3 τ3 q3 => ?_))
          obtain ⟨f4, q3⟩ := q3
          rcases q3 with ⟨hn3, hv3, rfl, rfl⟩ | ⟨hn3, hv3, rfl, hb⟩ | ⟨hn3, rfl, hb⟩
          · rw [if_pos (c := kt_nu T 3 (j + 2) = true) hn3, if_pos (c := kt_nv T (j + 2) < 8 * mv_by k) hv3]
            refine ma_F ma_01 (ma_be (kc_value H2) (ma_bd (kc_adv H2) (fun _ τ5 q5 => ?_)))
            have c5 := kc_C1a c2 q5.2
            have f5 : ma_fr (kF j0) σ τ5 := f3.tr (kF_adv q5.2)
            refine ma_bd (kc_take q5.1 hT (c := 45) (by decide)) (fun r6 τ6 q6 => ?_)
            rcases q6 with ⟨hs6, rfl, H6, f6⟩ | ⟨hs6, rfl, b1, b2, f6⟩
            · rw [if_pos (c := kt_sg T (j + 3) 45 = true) hs6]
              have c6 := kc_C1a c5 f6
              have f7 : ma_fr (kF j0) σ τ6 := f5.tr (kF_adv f6)
              have hB2 : kt_nv T (j + 2) < 10 ^ 3 := kt_nvB hn3
              rw [kt_nuV hn3, lN_i]
              refine ma_F ma_01 (ma_mono (P := fun r τ => kv_po (if kt_nu T 3 (j + 4) = true then (if kt_nv T (j + 4) < 8 * mv_by k ∧ kt_nv T (j + 2) ≤ kt_nv T (j + 4) ∧ kt_nv T (j + 4) - kt_nv T (j + 2) < 63 then .inr ((kt_wv T j, kt_nv T (j + 2), kt_nv T (j + 4)), j + 5) else .inl (3, kt_s T (j + 4))) else .inl (1, kt_s T (j + 4)) : kv_O (mv_F × Nat)) (fun f p => r = 0 ∧ kc_bad f p τ ∧ ma_fr (kW j0) τ6 τ) (fun x => r = 1 ∧ ma_fr (kF j0) τ6 τ ∧ fs.length < 8 ∧ kt_St T 3 x.2 τ ∧ mv_C1 j0 (nm, k, bg, st, ct, sd, ac, fs ++ [x.1]) τ)) ?_ (fun r τ q => ?_))
              · refine ma_bd (kv_hb hk H6 c6) (fun r8 τ8 q8 => ?_)
                obtain ⟨f8, q8⟩ := q8
                rcases q8 with ⟨hn8, hv8, rfl, rfl⟩ | ⟨hn8, hv8, rfl, hb⟩ | ⟨hn8, rfl, hb⟩
                · rw [if_pos (c := kt_nu T 3 (j + 4) = true) hn8]
                  have hB4 : kt_nv T (j + 4) < 10 ^ 3 := kt_nvB hn8
                  have hv8 : kt_nv T (j + 4) < 8 * mv_by k := hv8
                  refine ma_F ma_01 (ma_be (kc_value H6) ?_)
                  rw [kt_nuV hn8, lN_i]
                  have no : ¬ (kt_nv T (j + 4) < 8 * mv_by k ∧ kt_nv T (j + 2) ≤ kt_nv T (j + 4) ∧ kt_nv T (j + 4) - kt_nv T (j + 2) < 63) → ma_wp (ae_bd (F_X8_refuse (3 : Int32) τ8) (fun (r1 : Int32) s2 => ae_gd (ae_zz r1) (some (r1, s2)))) (fun r τ => kv_po (if kt_nv T (j + 4) < 8 * mv_by k ∧ kt_nv T (j + 2) ≤ kt_nv T (j + 4) ∧ kt_nv T (j + 4) - kt_nv T (j + 2) < 63 then .inr ((kt_wv T j, kt_nv T (j + 2), kt_nv T (j + 4)), j + 5) else .inl (3, kt_s T (j + 4)) : kv_O (mv_F × Nat)) (fun f p => r = 0 ∧ kc_bad f p τ ∧ ma_fr (kW j0) τ8 τ) (fun x => r = 1 ∧ ma_fr (kF j0) τ8 τ ∧ fs.length < 8 ∧ kt_St T 3 x.2 τ ∧ mv_C1 j0 (nm, k, bg, st, ct, sd, ac, fs ++ [x.1]) τ)) := fun g => by
                    rw [if_neg g]
                    refine ma_bd (kc_ref H6 3) (fun r τ q => ?_)
                    obtain ⟨rfl, q⟩ := q
                    exact ma_gd ma_z0 (ma_ret (kv_pol ⟨rfl, ⟨q.1, q.2.1⟩, kW_ref q.2.2⟩))
                  have e4 : j + 1 + 1 + 1 + 1 = j + 4 := by omega
                  have e2 : j + 1 + 1 = j + 2 := by omega
                  rw [e4, e2]
                  refine ma_ls (kt_nv T (j + 4)) (kt_nv T (j + 2)) rfl rfl (by omega) (by omega) (fun g3 => no (fun w => by omega)) (fun g3 => ?_)
                  rw [pk_sub g3]
                  refine ma_ls (kt_nv T (j + 4) - kt_nv T (j + 2)) 63 rfl rfl (by omega) (by decide) (fun g4 => ?_) (fun g4 => no (fun w => by omega))
                  rw [if_pos (c := kt_nv T (j + 4) < 8 * mv_by k ∧ kt_nv T (j + 2) ≤ kt_nv T (j + 4) ∧ kt_nv T (j + 4) - kt_nv T (j + 2) < 63) ⟨hv8, g3, g4⟩]
                  refine ma_bd (kv_addF g2 _ _ _ c6) (fun _ τ9 q9 => ?_)
                  have H9 : kt_St T 3 (j + 4) τ9 := H6.fr q9.2 (by omega) (by omega) (fun _ _ => by omega) (fun _ => by omega)
                  refine ma_bd (kc_adv H9) (fun _ τa qa => ma_ret (kv_por ⟨rfl, (q9.2.mo (fun g i k q => q.2)).tr (kF_adv qa.2), g2, qa.1, kc_C1a q9.1 qa.2⟩))
                · rw [if_pos (c := kt_nu T 3 (j + 4) = true) hn8, if_neg (c := kt_nv T (j + 4) < 8 * mv_by k ∧ kt_nv T (j + 2) ≤ kt_nv T (j + 4) ∧ kt_nv T (j + 4) - kt_nv T (j + 2) < 63) (fun w => hv8 w.1)]
                  exact ma_T rfl (ma_ret (kv_pol ⟨rfl, hb, kW_ref f8⟩))
                · rw [if_neg (c := kt_nu T 3 (j + 4) = true) (by rw [show j + 4 = j + 1 + 1 + 1 + 1 by omega, hn8]; decide)]
                  exact ma_T rfl (ma_ret (kv_pol ⟨rfl, hb, kW_ref f8⟩))
              · generalize (if kt_nu T 3 (j + 4) = true then (if kt_nv T (j + 4) < 8 * mv_by k ∧ kt_nv T (j + 2) ≤ kt_nv T (j + 4) ∧ kt_nv T (j + 4) - kt_nv T (j + 2) < 63 then .inr ((kt_wv T j, kt_nv T (j + 2), kt_nv T (j + 4)), j + 5) else .inl (3, kt_s T (j + 4))) else .inl (1, kt_s T (j + 4)) : kv_O (mv_F × Nat)) = o at q ⊢
                rcases o with e | x
                · obtain ⟨rfl, q, qf⟩ := q
                  exact ⟨rfl, q, (kWF f7).tr qf⟩
                · obtain ⟨rfl, qf, q⟩ := q
                  exact ⟨rfl, f7.tr qf, q⟩
            · rw [if_neg (c := kt_sg T (j + 3) 45 = true) (by rw [show j + 3 = j + 1 + 1 + 1 by omega, hs6]; decide)]
              exact ma_T rfl (ma_ret (kv_pol ⟨rfl, ⟨b1, b2⟩, (kWF f5).tr (kW_ref f6)⟩))
          · rw [if_pos (c := kt_nu T 3 (j + 2) = true) hn3, if_neg (c := kt_nv T (j + 2) < 8 * mv_by k) hv3]
            exact ma_T rfl (ma_ret (kv_pol ⟨rfl, hb, (kWF f3).tr (kW_ref f4)⟩))
          · rw [if_neg (c := kt_nu T 3 (j + 2) = true) (by rw [show j + 2 = j + 1 + 1 by omega, hn3]; decide)]
            exact ma_T rfl (ma_ret (kv_pol ⟨rfl, hb, (kWF f3).tr (kW_ref f4)⟩))
        · rw [if_neg (c := kt_sg T (j + 1) 58 = true) (by rw [hs2]; decide)]
          exact ma_T rfl (ma_ret (kv_pol ⟨rfl, ⟨b1, b2⟩, (kWF f1).tr (kW_ref f2)⟩))
      · rw [if_pos (c := fs.length = 8) (by omega)]
        refine ma_bd (kc_ref H 4) (fun r τ q => ?_)
        obtain ⟨rfl, q⟩ := q
        exact ma_gd ma_z0 (ma_ret (kv_pol ⟨rfl, ⟨q.1, q.2.1⟩, kW_ref q.2.2⟩))
    · rw [if_neg (c := kv_fix fs (kt_wv T j) = -1) g1]
      refine ma_bd (kc_ref H 2) (fun r τ q => ?_)
      obtain ⟨rfl, q⟩ := q
      exact ma_gd ma_z0 (ma_ret (kv_pol ⟨rfl, ⟨q.1, q.2.1⟩, kW_ref q.2.2⟩))
end KW
