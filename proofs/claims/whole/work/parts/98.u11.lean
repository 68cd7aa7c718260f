/-! the reference does statements -/
section KX
variable {σ τ σ0 : ae_S} {sz dn : Nat} {vs : List mv_V} {C : ks_E} {m : Nat → Int32} {tr : mt_T} {lv : List ka_L} {x : ka_L} {b : Nat} {st : List ka_V} {c d es : ks_E} {s s' : ka_S}
theorem kn_Sl {n o u b : Nat} (h : kn_S vs n o u b c σ) : 1 ≤ c.length := by
  cases n with
  | zero => exact h.elim
  | succ n =>
    unfold kn_S at h
    rcases h with ⟨_, p, q, v, es, e, f, _, _, _, _, _, _, rfl⟩ | ⟨_, q, w, e, d, _, _, _, _, _, _, rfl⟩ | ⟨_, rfl⟩ | ⟨_, _, l, _, rfl⟩
    all_goals (simp only [List.length_append, List.length_cons, List.length_nil]; omega)
theorem kn_LSl {S : Nat → Nat → ks_E → Prop} (hS : ∀ u b c, S u b c → 1 ≤ c.length) : ∀ (l : List (Nat × ks_E)) (y z : Int32) (b : Nat), kn_LS S σ l y z b → l.length ≤ (kn_cat l).length := by
  intro l
  induction l with
  | nil => intro y z b _; exact Nat.zero_le _
  | cons p l ih =>
    intro y z b h
    have h1 := hS _ _ _ h.2.2.1
    have h2 := ih _ _ _ h.2.2.2
    unfold kn_cat at h2 ⊢
    rw [List.map_cons, List.flatten_cons, List.length_append, List.length_cons]
    omega
theorem kn_catC {p : Nat × ks_E} {l : List (Nat × ks_E)} : kn_cat (p :: l) = p.2 ++ kn_cat l := rfl
theorem kx_K.pre {l : ka_L} (H : kx_K sz (lv ++ [l]) σ) : kx_K sz lv σ := fun i y e => H i y (by rw [List.getElem?_append_left (List.getElem?_eq_some_iff.mp e).1]; exact e)
theorem kx_S (hW : mv_W sz vs) (hs : sz ≤ 256) (hM : mv_M vs σ0) (h00 : σ0.1 30 0 0 = nI sz) (hC : C.length ≤ 1000) : ∀ (n o u b : Nat) (c : ks_E) (M nn : Nat) (lv : List ka_L) (x : ka_L) (m : Nat → Int32) (dn : Nat) (tr : mt_T) (σ : ae_S), n ≤ 500 → n ≤ nn → kn_S vs n o u b c σ0 → u < 600 → 5 ≤ M + o → lv.length = o + 1 → o ≤ 5 → lv.getLast? = some x → b + c.length ≤ x.2.2 → x.2.2 ≤ C.length → kx_at C b c → tr.1 ≤ b → kx_R sz σ0 m dn tr σ → kx_K sz lv σ → σ.1 30 0 40 = 0 → ma_wp (F_X12_does_2 (FG_D M) nn (nI (o + 1)) (nI u) σ) (fun _ τ => kx_P sz vs C σ0 lv x b m dn tr (b + c.length) τ) := by
  intro n
  induction n with
  | zero => intro o u b c M nn lv x m dn tr σ _ _ h; exact h.elim
  | succ n ih =>
    intro o u b c M nn lv x m dn tr σ hn5 hnn hS hu hM5 hlv ho hx hb hxC ha htr H hK h40
    obtain ⟨nn, rfl⟩ : ∃ k, nn = k + 1 := ⟨nn - 1, by omega⟩
    have hcl := kn_Sl hS
    have ib : ae_ib (nI u) 600 = true := ma_ib u rfl hu (by decide)
    have htr2 : tr.1 < 2 ^ 30 := by omega
    have e47 : σ.1 47 0 u = σ0.1 47 0 u := H.2.2.2.2.i (by unfold kxF; omega)
    have e48 : σ.1 48 0 u = σ0.1 48 0 u := H.2.2.2.2.i (by unfold kxF; omega)
    unfold kn_S at hS
    rw [F_X12_does_2, nI_clamp (show u < 2 ^ 31 by omega), e47]
    refine ma_gd ib ?_
    rcases hS with ⟨h0, p, q, v, es, e, f, h1, h2, h3, h4, h5, h6, rfl⟩ | ⟨h0, q, w, e, d, h1, h2, h3, h4, h5, h6, rfl⟩ | ⟨h0, rfl⟩ | ⟨h0, h1, l, h2, rfl⟩
    · unfold F_X12_does_163
      exact ma_F (by rw [h0]; decide) (ma_gd ib (ma_T h0 (ma_bd (kx_set hW hs hM hx hxC htr2 hu h1 h2 h3 h4 h5.1 h5.2 h6.1 h6.2 ha hb htr H hK h40) (fun _ τ q => ma_ret q))))
    · rw [e48, h3]
      have lenE : b + (e ++ [((15 : Int32), lN (b + e.length + 1 + d.length), (0 : Int32))] ++ d).length = b + e.length + 1 + d.length := by
        rw [List.length_append, List.length_append, List.length_singleton]
        omega
      rw [lenE] at hb ⊢
      have hpk := (h5.2.2 0).2
      unfold F_X12_does_37
      refine ma_T h0 (ma_gd ib (ma_bd (kx_E hW hs hM hx hxC htr2 500 q e 1300 h5.1 h1 (by have := h5.2.1; omega) b [] m σ ha.l.l (by omega) (by show ks_pk e 0 ≤ 252; omega) H h40) (fun _ τ w1 => ?_)))
      obtain ⟨fq, w1⟩ := w1
      rcases w1 with ⟨v, m1, hto, hv, H1, k1⟩ | ⟨t, ht⟩
      · refine ma_T k1 ?_
        obtain ⟨r, er, hr⟩ := kx_nought hv
        refine ma_be er ?_
        have az : C[b + e.length]? = some (15, lN (b + e.length + 1 + d.length), 0) := ha.l.z
        have eun : ka_un (lN (b + e.length + 1 + d.length)) (b + e.length + 1, [v], m1, lv, dn, tr) = @ite _ (ka_z v) (Classical.propDecidable _) (some (b + e.length + 1 + d.length, [], m1, lv, dn, tr)) (some (b + e.length + 1, [], m1, lv, dn, tr)) := by
          unfold ka_un
          show @ite _ (ka_z v) (Classical.propDecidable _) ((ka_in (lN (b + e.length + 1 + d.length)).toInt32 2000).bind fun k => some (k, [], m1, lv, dn, tr)) (some (b + e.length + 1, [], m1, lv, dn, tr)) = _
          rw [lN_i, ka_inI (by omega) (by decide)]
          rfl
        refine ma_if (fun hr0 => ?_) (fun hr0 => ?_)
        · have hz := hr.mp hr0
          rw [if_neg hz] at eun
          have e49 : τ.1 49 0 u = nI w := (H1.2.2.2.2.i (by unfold kxF; omega)).trans h4
          rw [e49]
          have had : kx_at C (b + e.length + 1) d := by
            have := ha.r
            rw [List.length_append, List.length_singleton, ← Nat.add_assoc] at this
            exact this
          have hto2 : ka_to vs C (b, [], m, lv, dn, tr) (b + e.length + 1, [], m1, lv, dn, tr) := hto.tr (kx_st az (by
            rw [ka_do15]
            exact eun) (by show b + e.length < b + e.length + 1; omega) (by show b + e.length + 1 ≤ C.length; omega))
          refine ma_gd ib (ma_lt (ma_mono (ih o w (b + e.length + 1) d M nn lv x m1 dn tr τ (by omega) (by omega) h6 h2 hM5 hlv ho hx (by omega) hxC had (by omega) H1 (hK.fr fq) k1) (fun _ φ w2 => ⟨w2.1, ?_⟩)))
          rcases w2.2 with ⟨m2, dn2, tr2, t1, t2, t3, t4⟩ | ⟨t, ht⟩
          · exact .inl ⟨m2, dn2, tr2, hto2.tr t1, t2, t3, t4⟩
          · exact .inr ⟨t, kx_tt hto2 ht⟩
        · have hz : ka_z v := Classical.not_not.mp (fun h => hr0 (hr.mpr h))
          rw [if_pos hz] at eun
          refine ma_ret ⟨hK.fr fq, .inl ⟨m1, dn, tr, hto.tr (kx_st az (by
            rw [ka_do15]
            exact eun) (by show b + e.length < b + e.length + 1 + d.length; omega) (by show b + e.length + 1 + d.length ≤ C.length; omega)), H1, k1, by omega⟩⟩
      · exact ma_F (by rw [ht.2.2.1]; exact ht.1) (ma_ret ⟨hK.fr fq, .inr ⟨t, ht⟩⟩)
    · unfold F_X12_does_163
      have hb : b + 1 ≤ x.2.2 := hb
      refine ma_F (by rw [h0]; decide) (ma_gd ib (ma_F (by rw [h0]; decide) (ma_gd ib (ma_T h0 (ma_bd (kx_comes H h40 htr2 4) (fun _ τ w => ma_ret ⟨hK.fr w.2.2, .inr ⟨4, by decide, ?_, w.1, m, w.2.1⟩⟩))))))
      refine kx_st ha.h ?_ (by show b < x.2.2; omega) hxC
      rw [ka_do16]
      exact kx_meet hx 4
    · have lenE : b + ([((17 : Int32), lN (b + 1 + (kn_cat l).length + 1), (0 : Int32))] ++ kn_cat l ++ [((18 : Int32), (0 : Int64), (0 : Int32))]).length = b + 1 + (kn_cat l).length + 1 := by
        rw [List.length_append, List.length_append, List.length_singleton, List.length_singleton]
        omega
      rw [lenE] at hb ⊢
      obtain ⟨M, rfl⟩ : ∃ k, M = k + 1 := ⟨M - 1, by omega⟩
      refine ma_F (by rw [h0]; decide) (ma_gd ib (ma_F (by rw [h0]; decide) (ma_gd ib (ma_F (by rw [h0]; decide) (ma_lt ?_)))))
      have h30 : σ.1 30 0 0 = nI sz := (H.2.2.2.2.i (by unfold kxF; omega)).trans h00
      refine ma_bd (kx_keeps (d := o + 1) (by omega) hs h30) (fun _ φ w => ?_)
      obtain ⟨wk, fk⟩ := w
      have H1 : kx_R sz σ0 m dn tr φ := ⟨H.1, fun k hk => (fk.i (by omega)).trans (H.2.1 k hk), (fk.i (by omega)).trans H.2.2.1, H.2.2.2.1.fr fk (by omega) (fun _ => by omega), H.2.2.2.2.tr (fk.mo (fun g i k q => by unfold kxF at q; omega))⟩
      have k1 : φ.1 30 0 40 = 0 := (fk.i (by omega)).trans h40
      have K1 : kx_K sz (lv ++ [(m, dn, b + 1 + (kn_cat l).length + 1)]) φ := by
        intro i y ey
        rcases kz_app ey with ⟨hi, ey⟩ | ⟨hi, rfl⟩
        · have g := hK i y ey
          exact ⟨fun k hk => (fk.i (by omega)).trans (g.1 k hk), g.2⟩
        · rw [hi, hlv]
          exact ⟨fun k hk => (wk k hk).trans (H.2.1 k (by omega)), H.1⟩
      have hto0 : ka_to vs C (b, [], m, lv, dn, tr) (b + 1, [], m, lv ++ [(m, dn, b + 1 + (kn_cat l).length + 1)], dn, tr) := by
        refine kx_st (ha.l.l.h) ?_ (by show b < b + 1; omega) (by show b + 1 ≤ C.length; omega)
        rw [ka_do17]
        unfold ka_open
        rw [if_pos (show 1 ≤ lv.length ∧ lv.length < 6 by omega), lN_i, ka_inI (by omega) (by decide)]
        rfl
      have e48' : φ.1 48 0 u = σ0.1 48 0 u := (fk.i (by omega)).trans e48
      rw [H.2.2.1, e48']
      refine ma_gd ib (ma_lt ?_)
      -- the statements within
      have hgl : (lv ++ [((m, dn, b + 1 + (kn_cat l).length + 1) : ka_L)]).getLast? = some (m, dn, b + 1 + (kn_cat l).length + 1) := List.getLast?_concat
      have hl2 : (lv ++ [((m, dn, b + 1 + (kn_cat l).length + 1) : ka_L)]).length = o + 1 + 1 := by rw [List.length_append, List.length_singleton, hlv]
      have haB : kx_at C (b + 1) (kn_cat l ++ [(18, 0, 0)]) := by
        have h' : kx_at C b ([((17 : Int32), lN (b + 1 + (kn_cat l).length + 1), (0 : Int32))] ++ (kn_cat l ++ [((18 : Int32), (0 : Int64), (0 : Int32))])) := by rw [← List.append_assoc]; exact ha
        exact h'.r
      have lst : ∀ (l2 : List (Nat × ks_E)) (ptr : Int32) (b1 n1 : Nat) (m1 : Nat → Int32) (dn1 : Nat) (tr1 : mt_T) (σ1 : ae_S), kn_LS (fun u b c => kn_S vs n (o + 1) u b c σ0) σ0 l2 ptr (-1) b1 → kx_at C b1 (kn_cat l2 ++ [(18, 0, 0)]) → b1 + (kn_cat l2).length + 1 = b + 1 + (kn_cat l).length + 1 → l2.length + 1 < n1 → tr1.1 ≤ b1 → kx_R sz σ0 m1 dn1 tr1 σ1 → kx_K sz (lv ++ [(m, dn, b + 1 + (kn_cat l).length + 1)]) σ1 → σ1.1 30 0 40 = 0 → ka_to vs C (b, [], m, lv, dn, tr) (b1, [], m1, lv ++ [(m, dn, b + 1 + (kn_cat l).length + 1)], dn1, tr1) → ma_wp (F_X12_does_105 (FG_D (M + 1)) n1 (nI (o + 1)) (nI dn) ptr σ1) (fun _ τ => kx_P sz vs C σ0 lv x b m dn tr (b + 1 + (kn_cat l).length + 1) τ) := by
        intro l2
        induction l2 with
        | nil =>
          intro ptr b1 n1 m1 dn1 tr1 σ1 hL haL hbE hn1 ht1 R1 Q1 z1 hto
          obtain ⟨n1, rfl⟩ : ∃ k, n1 = k + 1 := ⟨n1 - 1, by omega⟩
          have hL : ptr = -1 := hL
          have hbE : b1 + 1 = b + 1 + (kn_cat l).length + 1 := hbE
          rw [F_X12_does_105]
          unfold F_X12_does_139
          refine ma_T hL (ma_T z1 (ma_ret ⟨Q1.pre, .inl ⟨m1, dn1, tr1, hto.tr ?_, R1, z1, by omega⟩⟩))
          rw [← hbE]
          refine kx_st haL.h ?_ (by show b1 < b1 + 1; omega) (by show b1 + 1 ≤ C.length; omega)
          rw [ka_do18]
          unfold ka_close
          rw [if_pos (show 2 ≤ (lv ++ [((m, dn, b1 + 1) : ka_L)]).length by rw [List.length_append, List.length_singleton]; omega)]
          show some (b1 + 1, [], m1, (lv ++ [((m, dn, b1 + 1) : ka_L)]).dropLast, dn1, tr1) = _
          rw [List.dropLast_concat]
        | cons pp l2 ihl =>
          intro ptr b1 n1 m1 dn1 tr1 σ1 hL haL hbE hn1 ht1 R1 Q1 z1 hto
          obtain ⟨n1, rfl⟩ : ∃ k, n1 = k + 1 := ⟨n1 - 1, by omega⟩
          obtain ⟨rfl, hp6, hS1, hL1⟩ := hL
          rw [kn_catC, List.length_append] at hbE
          rw [kn_catC, List.append_assoc] at haL
          have hc1 := kn_Sl hS1
          rw [F_X12_does_105, show nI (o + 1) + 1 = nI (o + 1 + 1) from nI_1 _]
          have ibp : ae_ib (nI pp.1) 600 = true := ma_ib pp.1 rfl hp6 (by decide)
          refine ma_F (kn_nIne hp6) (ma_T z1 (ma_bd (P := fun _ τ => kx_P sz vs C σ0 (lv ++ [(m, dn, b + 1 + (kn_cat l).length + 1)]) (m, dn, b + 1 + (kn_cat l).length + 1) b1 m1 dn1 tr1 (b1 + pp.2.length) τ) (ih (o + 1) pp.1 b1 pp.2 M ae_fu (lv ++ [(m, dn, b + 1 + (kn_cat l).length + 1)]) (m, dn, b + 1 + (kn_cat l).length + 1) m1 dn1 tr1 σ1 (by omega) (by rw [ae_fu]; omega) hS1 hp6 (by omega) hl2 (by omega) hgl (by show b1 + pp.2.length ≤ b + 1 + (kn_cat l).length + 1; omega) (by show b + 1 + (kn_cat l).length + 1 ≤ C.length; omega) haL.l ht1 R1 Q1 z1) (fun _ τ w => ?_)))
          obtain ⟨Q2, w⟩ := w
          refine ma_gd ibp (ma_lt ?_)
          rw [nI_clamp (show pp.1 < 2 ^ 31 by omega)]
          rcases w with ⟨m2, dn2, tr2, t1, t2, t3, t4⟩ | ⟨t, y1, y2, y3, m2, y4⟩
          · rw [show τ.1 50 0 pp.1 = σ0.1 50 0 pp.1 from t2.2.2.2.2.i (by unfold kxF; omega)]
            rw [List.length_cons] at hn1
            exact ihl _ (b1 + pp.2.length) n1 m2 dn2 tr2 τ hL1 haL.r (by omega) (by omega) t4 t2 Q2 t3 (hto.tr t1)
          · obtain ⟨n1, rfl⟩ : ∃ k, n1 = k + 1 := ⟨n1 - 1, by omega⟩
            rw [F_X12_does_105]
            have back : ma_wp (F_X12_does_139 (FG_D (M + 1)) (nI (o + 1)) (nI dn) τ) (fun _ τ => kx_P sz vs C σ0 lv x b m dn tr (b + 1 + (kn_cat l).length + 1) τ) := by
              unfold F_X12_does_139 F_X12_does_163
              refine ma_F (by rw [y3]; exact y1) (ma_lt (ma_lt ?_))
              have f1 : ma_fr (fun g _ k => ¬ (g = 30 ∧ (k = 40 ∨ k = 43))) τ (ae_wI (ae_wI τ 30 0 40 0) 30 0 43 (nI dn)) := (ma_fwI (by simp)).tr (ma_fwI (by simp))
              have r40 : (ae_wI (ae_wI τ 30 0 40 0) 30 0 43 (nI dn)).1 30 0 40 = 0 := (ma_rIn (by simp)).trans ma_rI
              have r43 : (ae_wI (ae_wI τ 30 0 40 0) 30 0 43 (nI dn)).1 30 0 43 = nI dn := ma_rI
              generalize ae_wI (ae_wI τ 30 0 40 0) 30 0 43 (nI dn) = ψ at f1 r40 r43 ⊢
              have h30' : ψ.1 30 0 0 = nI sz := (f1.i (by omega)).trans ((y4.2.2.2.2.i (by unfold kxF; omega)).trans h00)
              refine ma_bd (kx_back (d := o + 1) (by omega) hs h30') (fun _ ω w => ma_ret ?_)
              obtain ⟨w1, w2, w3⟩ := w
              have fQ : ma_fr kxQ τ ω := (f1.mo (fun g i k q => by unfold kxQ at q; omega)).tr (w3.mo (fun g i k q => by unfold kxQ at q; omega))
              have hrow := Q2 (o + 1) (m, dn, b + 1 + (kn_cat l).length + 1) (by
                have := kz_last (l := lv) (x := ((m, dn, b + 1 + (kn_cat l).length + 1) : ka_L))
                rw [hlv] at this
                exact this)
              refine ⟨(Q2.pre).fr fQ, .inl ⟨m, dn, ka_tn t tr1, hto.tr ?_, ⟨H.1, fun k hk => ?_, (w3.i (by omega)).trans r43, ?_, ?_⟩, (w3.i (by omega)).trans r40, ?_⟩⟩
              · have e1 : kx_mt (m, dn, b + 1 + (kn_cat l).length + 1) (lv ++ [(m, dn, b + 1 + (kn_cat l).length + 1)]) tr1 t = (b + 1 + (kn_cat l).length + 1, [], m, lv, dn, ka_tn t tr1) := by
                  unfold kx_mt
                  rw [if_neg (by omega), List.dropLast_concat]
                rw [e1] at y2
                exact y2
              · by_cases hk2 : k < sz
                · rw [w1 k hk2, f1.i (by omega)]
                  exact hrow.1 k hk2
                · rw [w2 k (by omega), f1.i (by omega), y4.2.1 k hk, y4.1 k (by omega), H.1 k (by omega)]
              · exact (y4.2.2.2.1.fr f1 (by omega) (fun _ => by omega)).fr w3 (by omega) (fun _ => by omega)
              · exact y4.2.2.2.2.tr ((f1.mo (fun g i k q => by unfold kxF at q; omega)).tr (w3.mo (fun g i k q => by unfold kxF at q; omega)))
              · show tr1.1 + 1 ≤ _
                omega
            exact ma_if (fun _ => back) (fun _ => ma_F (by rw [y3]; exact y1) back)
      have hlen := kn_LSl (fun u b c h => kn_Sl h) l _ _ _ h2
      exact lst l (σ0.1 48 0 u) (b + 1) ae_fu m dn tr φ h2 haB rfl (by rw [ae_fu]; omega) (by omega) H1 K1 k1 hto0
end KX
