/-! the reference keeps, comes back, sets -/
section KX
variable {σ τ σ0 : ae_S} {sz dn : Nat} {vs : List mv_V} {C : ks_E} {m : Nat → Int32} {tr : mt_T} {lv : List ka_L} {x : ka_L} {b : Nat} {st : List ka_V} {c d es : ks_E} {s s' : ka_S}
theorem kx_keeps {d : Nat} (hd : d ≤ 6) (hs : sz ≤ 256) (h0 : σ.1 30 0 0 = nI sz) : ma_wp (F_X12_keeps (nI d) σ) (fun _ τ => (∀ k, k < sz → τ.1 54 0 (256 * d + k) = σ.1 31 0 k) ∧ ma_fr (fun g _ k => ¬ (g = 54 ∧ 256 * d ≤ k ∧ k < 256 * d + 256)) σ τ) := by
  have loop : ∀ r n k (φ : ae_S), r < n → k + r = sz → (∀ i, i < k → φ.1 54 0 (256 * d + i) = σ.1 31 0 i) → ma_fr (fun g _ k => ¬ (g = 54 ∧ 256 * d ≤ k ∧ k < 256 * d + 256)) σ φ → ma_wp (F_X12_keeps_2 n (nI d) (nI k) φ) (fun _ τ => (∀ k, k < sz → τ.1 54 0 (256 * d + k) = σ.1 31 0 k) ∧ ma_fr (fun g _ k => ¬ (g = 54 ∧ 256 * d ≤ k ∧ k < 256 * d + 256)) σ τ) := by
    intro r
    induction r with
    | zero =>
      intro n k φ hn hk hr f
      obtain ⟨n, rfl⟩ : ∃ n2, n = n2 + 1 := ⟨n - 1, by omega⟩
      rw [F_X12_keeps_2, show φ.1 30 0 0 = nI sz from (f.i (by omega)).trans h0]
      refine ma_T (nI_le (by omega) (by omega)) (ma_ret ⟨fun i hi => hr i (by omega), f⟩)
    | succ r ih =>
      intro n k φ hn hk hr f
      obtain ⟨n, rfl⟩ : ∃ n2, n = n2 + 1 := ⟨n - 1, by omega⟩
      have e : (256 : Int32) * nI d + nI k = nI (256 * d + k) := by rw [show (256 : Int32) = nI 256 from rfl, pk_mul, nI_add]
      rw [F_X12_keeps_2, show φ.1 30 0 0 = nI sz from (f.i (by omega)).trans h0, e, nI_clamp (n := k) (by omega), nI_clamp (n := 256 * d + k) (by omega), nI_1]
      refine ma_F (nI_ge (by omega) (by omega)) (ma_gd (ma_ib k rfl (by omega) (by decide)) (ma_gd (ma_ib (256 * d + k) rfl (by omega) (by decide)) (ma_lt (ma_lt ?_))))
      refine ih n (k + 1) _ (by omega) (by omega) (fun i hi => ?_) (f.tr (ma_fwI (by omega)))
      by_cases hik : i = k
      · rw [hik, ma_rI]
        exact f.i (by omega)
      · rw [ma_rIn (by omega)]
        exact hr i (by omega)
  unfold F_X12_keeps
  exact loop sz ae_fu 0 σ (by rw [ae_fu]; omega) (by omega) (fun i hi => by omega) ma_fr.rf
theorem kx_back {d : Nat} (hd : d ≤ 6) (hs : sz ≤ 256) (h0 : σ.1 30 0 0 = nI sz) : ma_wp (F_X12_comesBack (nI d) σ) (fun _ τ => (∀ k, k < sz → τ.1 31 0 k = σ.1 54 0 (256 * d + k)) ∧ (∀ k, sz ≤ k → τ.1 31 0 k = σ.1 31 0 k) ∧ ma_fr (fun g _ _ => g ≠ 31) σ τ) := by
  have loop : ∀ r n k (φ : ae_S), r < n → k + r = sz → (∀ i, i < k → φ.1 31 0 i = σ.1 54 0 (256 * d + i)) → (∀ i, sz ≤ i → φ.1 31 0 i = σ.1 31 0 i) → ma_fr (fun g _ _ => g ≠ 31) σ φ → ma_wp (F_X12_comesBack_2 n (nI d) (nI k) φ) (fun _ τ => (∀ k, k < sz → τ.1 31 0 k = σ.1 54 0 (256 * d + k)) ∧ (∀ k, sz ≤ k → τ.1 31 0 k = σ.1 31 0 k) ∧ ma_fr (fun g _ _ => g ≠ 31) σ τ) := by
    intro r
    induction r with
    | zero =>
      intro n k φ hn hk hr hr2 f
      obtain ⟨n, rfl⟩ : ∃ n2, n = n2 + 1 := ⟨n - 1, by omega⟩
      rw [F_X12_comesBack_2, show φ.1 30 0 0 = nI sz from (f.i (by omega)).trans h0]
      refine ma_T (nI_le (by omega) (by omega)) (ma_ret ⟨fun i hi => hr i (by omega), hr2, f⟩)
    | succ r ih =>
      intro n k φ hn hk hr hr2 f
      obtain ⟨n, rfl⟩ : ∃ n2, n = n2 + 1 := ⟨n - 1, by omega⟩
      have e : (256 : Int32) * nI d + nI k = nI (256 * d + k) := by rw [show (256 : Int32) = nI 256 from rfl, pk_mul, nI_add]
      rw [F_X12_comesBack_2, show φ.1 30 0 0 = nI sz from (f.i (by omega)).trans h0, e, nI_clamp (n := k) (by omega), nI_clamp (n := 256 * d + k) (by omega), nI_1]
      refine ma_F (nI_ge (by omega) (by omega)) (ma_gd (ma_ib (256 * d + k) rfl (by omega) (by decide)) (ma_gd (ma_ib k rfl (by omega) (by decide)) (ma_lt (ma_lt ?_))))
      refine ih n (k + 1) _ (by omega) (by omega) (fun i hi => ?_) (fun i hi => ?_) (f.tr (ma_fwI (by omega)))
      · by_cases hik : i = k
        · rw [hik, ma_rI]
          exact f.i (by omega)
        · rw [ma_rIn (by omega)]
          exact hr i (by omega)
      · rw [ma_rIn (by omega)]
        exact hr2 i hi
  unfold F_X12_comesBack
  exact loop sz ae_fu 0 σ (by rw [ae_fu]; omega) (by omega) (fun i hi => by omega) (fun i hi => rfl) ma_fr.rf
/-- what is kept, by levels -/
def kx_K (sz : Nat) (lv : List ka_L) (σ : ae_S) : Prop := ∀ (i : Nat) (l : ka_L), lv[i]? = some l → (∀ k, k < sz → σ.1 54 0 (256 * i + k) = l.1 k) ∧ ∀ k, sz ≤ k → l.1 k = 0
theorem kx_K.fr (H : kx_K sz lv σ) (f : ma_fr kxQ σ τ) : kx_K sz lv τ := fun i l e => ⟨fun k hk => (f.i (by unfold kxQ; rfl)).trans ((H i l e).1 k hk), (H i l e).2⟩
/-- a statement was done, or there was a trouble -/
def kx_P (sz : Nat) (vs : List mv_V) (C : ks_E) (σ0 : ae_S) (lv : List ka_L) (x : ka_L) (b : Nat) (m : Nat → Int32) (dn : Nat) (tr : mt_T) (E : Nat) (τ : ae_S) : Prop := kx_K sz lv τ ∧ ((∃ m' dn' tr', ka_to vs C (b, [], m, lv, dn, tr) (E, [], m', lv, dn', tr') ∧ kx_R sz σ0 m' dn' tr' τ ∧ τ.1 30 0 40 = 0 ∧ tr'.1 ≤ E) ∨ ∃ t, kx_t sz vs C σ0 lv x dn tr (b, [], m, lv, dn, tr) t τ)
theorem kx_dn (H : kx_R sz σ0 m dn tr σ) (h40 : σ.1 30 0 40 = 0) : ma_wp (F_X12_sets_200 σ) (fun _ τ => kx_R sz σ0 m (dn + 1) tr τ ∧ ma_fr kxQ σ τ ∧ τ.1 30 0 40 = 0) := by
  unfold F_X12_sets_200
  obtain ⟨h1, h2, h3, h4, h5⟩ := H
  rw [h3, nI_1]
  have f : ma_fr (fun g _ k => ¬ (g = 30 ∧ k = 43)) σ (ae_wI σ 30 0 43 (nI (dn + 1))) := ma_fwI (by simp)
  have r : (ae_wI σ 30 0 43 (nI (dn + 1))).1 30 0 43 = nI (dn + 1) := ma_rI
  refine ma_lt ?_
  generalize ae_wI σ 30 0 43 (nI (dn + 1)) = τ at f r ⊢
  exact ma_ret ⟨⟨h1, fun k hk => (f.i (by omega)).trans (h2 k hk), r, h4.fr f (by omega) (fun _ => by omega), h5.tr (f.mo (fun g i k q => by unfold kxF at q; omega))⟩, f.mo (fun g i k q => by unfold kxQ at q; omega), (f.i (by omega)).trans h40⟩
theorem kx_set (hW : mv_W sz vs) (hs : sz ≤ 256) (hM : mv_M vs σ0) (hx : lv.getLast? = some x) (hxC : x.2.2 ≤ C.length) (htr : tr.1 < 2 ^ 30) {u p q n : Nat} {f : Int32} {es e : ks_E} (hu : u < 600) (hp6 : p < 600) (hq6 : q < 600) (n48 : σ0.1 48 0 u = nI p) (n49 : σ0.1 49 0 u = nI q) (hp : kn_P vs 500 p n es f σ0) (hpB : kn_B es) (hE : kn_E vs 500 q e σ0) (hEB : kn_B e) (ha : kx_at C b (es ++ e ++ [(5, (nI n).toInt64, f)])) (hb : b + (es ++ e ++ [(5, (nI n).toInt64, f)]).length ≤ x.2.2) (hb0 : tr.1 ≤ b) (H : kx_R sz σ0 m dn tr σ) (hK : kx_K sz lv σ) (h40 : σ.1 30 0 40 = 0) : ma_wp (F_X12_sets (nI u) σ) (fun _ τ => kx_P sz vs C σ0 lv x b m dn tr (b + (es ++ e ++ [(5, (nI n).toInt64, f)]).length) τ) := by
  have hn : n < vs.length := hp.2.1.1
  have ew : vs[n]? = some vs[n] := List.getElem?_eq_getElem hn
  have hl := hW.1
  have hw := hW.at ew
  have ibu : ae_ib (nI u) 600 = true := ma_ib u rfl hu (by decide)
  have ibp : ae_ib (nI p) 600 = true := ma_ib p rfl hp6 (by decide)
  have lenE : b + (es ++ e ++ [((5 : Int32), (nI n).toInt64, f)]).length = b + es.length + e.length + 1 := by
    rw [List.length_append, List.length_append, List.length_singleton]
    omega
  rw [lenE] at hb ⊢
  unfold F_X12_sets
  have e48 : σ.1 48 0 u = nI p := (H.2.2.2.2.i (by unfold kxF; omega)).trans n48
  have e48p : σ.1 48 0 p = nI n := (H.2.2.2.2.i (by unfold kxF; omega)).trans hp.2.2.1
  rw [nI_clamp (show u < 2 ^ 31 by omega), e48]
  refine ma_gd ibu (ma_lt (ma_gd ibp ?_))
  rw [nI_clamp (show p < 2 ^ 31 by omega), e48p]
  refine ma_lt ?_
  have hpk := (hpB.2 0).2
  have helm : kx_e sz vs C σ0 lv x dn tr (F_X12_elementOf (nI p)) vs[n] es := kx_el (g := FG_C 1299) hW hM hx hxC htr hp hp6 ew (fun q e k1 k3 k4 => kx_E hW hs hM hx hxC htr 500 q e 1299 k3 (by omega) (by
    have := hpB.1
    rw [k4, ks_n3A] at this
    omega))
  refine ma_bd (helm b [] m σ ha.l.l (by omega) (by show ks_pk es 0 ≤ 252; omega) H h40) (fun r τ w1 => ?_)
  obtain ⟨fq, w1⟩ := w1
  rcases w1 with ⟨k, m1, hk, rfl, hto1, H1, k1⟩ | ⟨t, ht⟩
  · have e49 : τ.1 49 0 u = nI q := (H1.2.2.2.2.i (by unfold kxF; omega)).trans n49
    rw [e49]
    have hpk2 := (hEB.2 1).2
    refine ma_T k1 (ma_gd ibu (ma_bd (kx_E hW hs hM hx hxC htr 500 q e 1300 hE hq6 (by have := hEB.1; omega) (b + es.length) [((nI k).toInt64, false)] m1 τ ha.l.r (by omega) (by show ks_pk e 1 ≤ 252; omega) H1 k1) (fun _ φ w2 => ?_)))
    obtain ⟨fq2, w2⟩ := w2
    rcases w2 with ⟨v2, m2, hto2, hv2, H2, k2⟩ | ⟨t, ht⟩
    · have hto := hto1.tr hto2
      have az : C[b + es.length + e.length]? = some (5, (nI n).toInt64, f) := by
        have := ha.z
        rw [List.length_append, ← Nat.add_assoc] at this
        exact this
      have esto : ka_sto vs (nI n).toInt64 f (b + es.length + e.length + 1, [v2, ((nI k).toInt64, false)], m2, lv, dn, tr) = if mv_ac vs[n] = 1 then ka_meet 3 lv tr else (ka_wf vs[n] f v2 (ml_bits m2 vs[n] k)).bind fun y => some (b + es.length + e.length + 1, [], ml_put m2 vs[n] k y, lv, dn + 1, tr) := by
        unfold ka_sto
        show ((ka_in (nI n).toInt64.toInt32 vs.length).bind fun v => (vs[v]?).bind fun w => if mv_ac w = 1 then ka_meet 3 lv tr else (ka_in (nI k).toInt64.toInt32 (mv_ct w)).bind fun k => (ka_wf w f v2 (ml_bits m2 w k)).bind fun y => some (b + es.length + e.length + 1, [], ml_put m2 w k y, lv, dn + 1, tr)) = _
        rw [kx_i32, ka_inI hn (by omega), kx_i32]
        show ((vs[n]?).bind fun w => if mv_ac w = 1 then ka_meet 3 lv tr else (ka_in (nI k) (mv_ct w)).bind fun k => (ka_wf w f v2 (ml_bits m2 w k)).bind fun y => some (b + es.length + e.length + 1, [], ml_put m2 w k y, lv, dn + 1, tr)) = _
        have hct := hw.2.2.1
        rw [ew]
        show (if mv_ac vs[n] = 1 then ka_meet 3 lv tr else (ka_in (nI k) (mv_ct vs[n])).bind fun k => (ka_wf vs[n] f v2 (ml_bits m2 vs[n] k)).bind fun y => some (b + es.length + e.length + 1, [], ml_put m2 vs[n] k y, lv, dn + 1, tr)) = _
        rw [ka_inI hk (by omega)]
        rfl
      have step : ∀ s', ka_sto vs (nI n).toInt64 f (b + es.length + e.length + 1, [v2, ((nI k).toInt64, false)], m2, lv, dn, tr) = some s' → b + es.length + e.length < s'.1 → s'.1 ≤ C.length → ka_to vs C (b, [], m, lv, dn, tr) s' := fun s' e1 l1 l2 => hto.tr (kx_st az (by
        rw [ka_do5]
        exact e1) l1 l2)
      have hac : mv_ac vs[n] < 4 := hw.2.2.2.2.2.2.1
      have cM : mv_M1 n vs[n] φ := (kx_mv hM H2.2.2.2.2).2 n vs[n] ew
      refine ma_T k2 (ma_gd (ma_ib n rfl (by omega) (by decide)) ?_)
      rw [nI_clamp (show n < 2 ^ 31 by omega)]
      refine ma_en (mv_ac vs[n]) 1 cM.2.2.2.2.2.2.1 rfl (by omega) (by decide) (fun ro => ?_) (fun ro => ?_)
      · refine ma_bd (kx_comes H2 k2 htr 3) (fun _ ψ w => ma_ret ⟨hK.fr ((fq.tr fq2).tr w.2.2), .inr ⟨3, by decide, ?_, w.1, m2, w.2.1⟩⟩)
        rw [if_pos ro] at esto
        exact step _ (esto.trans (kx_meet hx 3)) (by show b + es.length + e.length < x.2.2; omega) hxC
      · rw [if_neg ro] at esto
        have e51 : φ.2.1 51 0 p = f.toInt64 := (H2.2.2.2.2.l (by unfold kxF; omega)).trans hp.2.2.2.1
        rw [e51]
        refine ma_gd ibp ?_
        have fin : ∀ (y : Int64), ka_wf vs[n] f v2 (ml_bits m2 vs[n] k) = some y → ma_wp (ae_bd (F_X12_writes (nI n) (nI k) y φ) (fun (_ : Unit) s66 => F_X12_sets_200 s66)) (fun _ τ => kx_P sz vs C σ0 lv x b m dn tr (b + es.length + e.length + 1) τ) := by
          intro y ey
          refine ma_bd (ml_writesM hs (by omega) hw hk cM H2.2.1) (fun _ ψ d => ?_)
          have H3 := H2.me d.2 (ml_put_z hw hk H2.1) d.1
          refine ma_mono (kx_dn H3 ((d.2.i (by omega)).trans k2)) (fun _ ω w => ⟨hK.fr ((fq.tr fq2).tr ((d.2.mo (fun g i k q => by unfold kxQ at q; omega)).tr w.2.1)), .inl ⟨_, _, _, ?_, w.1, w.2.2, by omega⟩⟩)
          refine step _ ?_ (by show b + es.length + e.length < b + es.length + e.length + 1; omega) (by show b + es.length + e.length + 1 ≤ C.length; omega)
          rw [esto, ey]
          rfl
        rcases kx_fvn hw ew hp.2.1.2 with ⟨f1, f2⟩ | ⟨i, fq3, rfl, f2, f3, f4, f5, f6, f7⟩
        · rw [f2]
          refine ma_T ((lg_cmp_eq _ _).mpr rfl) ?_
          rcases hv2 with ⟨g1, g2, g3⟩ | ⟨g1, g2, g3⟩
          · rw [g2]
            refine ma_be (mg_bfM _ _ (by omega) hw cM) (fin _ ?_)
            unfold ka_wf
            rw [if_pos f1, if_pos g1, ka_eqbf (ka_dv g3)]
          · rw [g2]
            refine ma_be (mg_bwM _ _ (by omega) hw cM) (fin _ ?_)
            unfold ka_wf
            rw [if_pos f1, g1, if_neg (c := false = true) (by decide), g3]
        · refine ma_F (fun h => f3 ((lg_cmp_eq _ _).mp h)) (ma_gd ibp (ma_lt ?_))
          obtain ⟨b1, b2, b3, b4, b5⟩ := mv_fB hw f6
          obtain ⟨c1, c2, c3⟩ := cM.2.2.2.2.2.2.2.2 i fq3 f6
          have e8 : (8 : Int32) * nI n + (nI i).toInt64.toInt32 = nI (8 * n + i) := by rw [f7, show (8 : Int32) = nI 8 from rfl, pk_mul, nI_add]
          rw [e8]
          have ib8 : ae_ib (nI (8 * n + i)) 256 = true := ma_ib _ rfl (by omega) (by decide)
          rw [nI_clamp (show 8 * n + i < 2 ^ 31 by omega), c2, c3]
          refine ma_gd ib8 (ma_gd ib8 (ma_be (r := lN (2 ^ (fq3.2.2 - fq3.2.1 + 1) - 1)) (s := φ) ?_ (ma_gd ib8 ?_)))
          · unfold F_X12_mask
            rw [ml_mask b1 b2 b3]
          · rw [c2]
            refine ma_lt ?_
            have fld : ma_wp (F_X12_sets_163 (nI n) (nI k) (nI (8 * n + i)) (ka_all fq3) (ka_wh v2) φ) (fun _ τ => kx_P sz vs C σ0 lv x b m dn tr (b + es.length + e.length + 1) τ) := by
              unfold F_X12_sets_163
              refine ma_be (ml_bitsOf hs (by omega) hw hk cM H2.2.1) (ma_gd ib8 ?_)
              rw [nI_clamp (show 8 * n + i < 2 ^ 31 by omega), c2]
              refine fin _ ?_
              unfold ka_wf
              rw [if_neg f2, ka_inI f5 (by have := hw.2.2.2.2.2.2.2.1; omega)]
              show ((mv_fs vs[n])[i]?).bind _ = _
              rw [f6]
              rfl
            rcases hv2 with ⟨g1, g2, g3⟩ | ⟨g1, g2, g3⟩
            · have ew1 : FP.d2l (φ.2.2.1 30 0 47) = ka_wh v2 := by
                unfold ka_wh
                rw [if_pos g1]
                exact ka_eqL (ka_dv g3).symm
              rw [ew1]
              exact ma_F (by rw [g2]; decide) fld
            · have ew1 : φ.2.1 30 0 46 = ka_wh v2 := by
                unfold ka_wh
                rw [g1, if_neg (c := false = true) (by decide)]
                exact g3
              rw [ew1]
              exact ma_T g2 fld
    · exact ma_F (by rw [ht.2.2.1]; exact ht.1) (ma_ret ⟨hK.fr (fq.tr fq2), .inr ⟨t, kx_tt hto1 ht⟩⟩)
  · exact ma_F (by rw [ht.2.2.1]; exact ht.1) (ma_ret ⟨hK.fr fq, .inr ⟨t, ht⟩⟩)
end KX
