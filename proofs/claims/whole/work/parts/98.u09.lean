/-! the reference reads elements; whole expressions -/
section KX
variable {σ τ σ0 : ae_S} {sz dn : Nat} {vs : List mv_V} {C : ks_E} {m : Nat → Int32} {tr : mt_T} {lv : List ka_L} {x : ka_L} {b : Nat} {st : List ka_V} {c d es : ks_E} {s s' : ka_S}
theorem kx_fvn {n : Nat} {f : Int32} {w : mv_V} (hw : mv_W1 sz w) (ew : vs[n]? = some w) (h : kn_fv vs n f) : (f = -1 ∧ f.toInt64 = -1) ∨ ∃ k q, f = nI k ∧ f ≠ -1 ∧ f.toInt64 ≠ -1 ∧ k < 8 ∧ k < (mv_fs w).length ∧ (mv_fs w)[k]? = some q ∧ f.toInt64.toInt32 = nI k := by
  rcases h with rfl | ⟨k, w', rfl, e2, hk⟩
  · exact .inl ⟨rfl, rfl⟩
  · rw [ew] at e2
    have e2 := Option.some.inj e2
    subst e2
    have h8 := hw.2.2.2.2.2.2.2.1
    have : ∀ i, i < 8 → nI i ≠ -1 ∧ (nI i).toInt64 ≠ -1 := by decide
    have h3 := this k (by omega)
    exact .inr ⟨k, (mv_fs w)[k], rfl, h3.1, h3.2, by omega, hk, List.getElem?_eq_getElem hk, kx_i32 k⟩
theorem kx_clr {g : GT_C} {n k : Nat} {w : mv_V} {v : ka_V} (hs : sz ≤ 256) (hn : n < 16) (hw : mv_W1 sz w) (hk : k < mv_ct w) (cM : mv_M1 n w σ) (H : kx_R sz σ0 m dn tr σ) (hv : kx_v v σ) (h40 : σ.1 30 0 40 = 0) : ma_wp (F_X12_reads_90 g (nI k) (nI n) σ) (fun _ τ => ma_fr kxQ σ τ ∧ kx_v v τ ∧ kx_R sz σ0 (ka_cl w k m) dn tr τ ∧ τ.1 30 0 40 = 0) := by
  have ha : mv_ac w < 4 := hw.2.2.2.2.2.2.1
  unfold F_X12_reads_90 F_X12_reads_107 ka_cl
  rw [nI_clamp (show n < 2 ^ 31 by omega)]
  refine ma_gd (ma_ib n rfl (by omega) (by decide)) (ma_en (mv_ac w) 3 cM.2.2.2.2.2.2.1 rfl (by omega) (by decide) (fun q => ?_) (fun q => ?_))
  · rw [if_pos q]
    refine ma_bd (ml_laysM hs hn hw hk cM H.2.1) (fun _ τ d => ma_ret ⟨d.2.mo (fun g i k q => by unfold kxQ at q; omega), ?_, H.me d.2 (ml_lay_z hw hk H.1) d.1, (d.2.i (by omega)).trans h40⟩)
    rcases hv with ⟨h1, h2, h3⟩ | ⟨h1, h2, h3⟩
    · exact .inl ⟨h1, (d.2.i (by omega)).trans h2, by rw [d.2.d (by omega)]; exact h3⟩
    · exact .inr ⟨h1, (d.2.i (by omega)).trans h2, (d.2.l (by omega)).trans h3⟩
  · rw [if_neg q]
    exact ma_ret ⟨ma_fr.rf, hv, H, h40⟩
theorem kx_rdv {g : GT_C} {n k u : Nat} {f : Int32} {w : mv_V} (hW : mv_W sz vs) (hs : sz ≤ 256) (hM : mv_M vs σ0) (ew : vs[n]? = some w) (hu : u < 600) (hf : kn_fv vs n f) (n48 : σ0.1 48 0 u = nI n) (n51 : σ0.2.1 51 0 u = f.toInt64) (hk : k < mv_ct w) (H : kx_R sz σ0 m dn tr σ) (h40 : σ.1 30 0 40 = 0) : ma_wp (ae_gd (ae_ib (nI u) 600) (ae_lt (σ.1 48 0 (nI u).toNatClampNeg) (fun x17 => ae_gd (ae_ib (nI u) 600) (if (lg_cmp (σ.2.1 51 0 (nI u).toNatClampNeg) (-1 : Int64)) = 0 then (ae_bd (F_X12_isFloating x17 σ) (fun (r23 : Int32) s24 => if r23 = 0 then (ae_bd (F_X12_wholeOf x17 (nI k) s24) (fun (r29 : Int64) s30 => ae_bd (F_X12_tells r29 s30) (fun (r33 : Unit) s34 => F_X12_reads_90 g (nI k) x17 s34))) else (ae_lt (ae_wI s24 30 0 45 (1 : Int32)) (fun s37 => ae_bd (F_X12_floatOf x17 (nI k) s37) (fun (r39 : UInt64) s40 => ae_lt (ae_wD s40 30 0 47 r39) (fun s43 => F_X12_reads_90 g (nI k) x17 s43)))))) else (ae_gd (ae_ib (nI u) 600) (ae_bd (F_X12_fieldOf x17 (nI k) ((σ.2.1 51 0 (nI u).toNatClampNeg).toInt32) σ) (fun (r47 : Int64) s48 => ae_bd (F_X12_tells r47 s48) (fun (r51 : Unit) s52 => F_X12_reads_90 g (nI k) x17 s52)))))))) (fun _ τ => ∃ y, ka_fd w f (ml_bits m w k) = some y ∧ ma_fr kxQ σ τ ∧ kx_v y τ ∧ kx_R sz σ0 (ka_cl w k m) dn tr τ ∧ τ.1 30 0 40 = 0) := by
  have hw := hW.at ew
  have hn : n < 16 := Nat.lt_of_lt_of_le (List.getElem?_eq_some_iff.mp ew).1 hW.1
  have ib : ae_ib (nI u) 600 = true := ma_ib u rfl hu (by decide)
  have e48 : σ.1 48 0 u = nI n := (H.2.2.2.2.i (by unfold kxF; omega)).trans n48
  have e51 : σ.2.1 51 0 u = f.toInt64 := (H.2.2.2.2.l (by unfold kxF; omega)).trans n51
  rw [nI_clamp (show u < 2 ^ 31 by omega), e48, e51]
  refine ma_gd ib (ma_lt (ma_gd ib ?_))
  have cM : mv_M1 n w σ := (kx_mv hM H.2.2.2.2).2 n w ew
  have fin : ∀ (y : ka_V) (φ : ae_S), ka_fd w f (ml_bits m w k) = some y → kx_v y φ → ma_fr kxV σ φ → ma_wp (F_X12_reads_90 g (nI k) (nI n) φ) (fun _ τ => ∃ y, ka_fd w f (ml_bits m w k) = some y ∧ ma_fr kxQ σ τ ∧ kx_v y τ ∧ kx_R sz σ0 (ka_cl w k m) dn tr τ ∧ τ.1 30 0 40 = 0) := by
    intro y φ ey hy fφ
    have H1 := H.fr fφ
    exact ma_mono (kx_clr hs hn hw hk ((kx_mv hM H1.2.2.2.2).2 n w ew) H1 hy ((fφ.i (by unfold kxV; omega)).trans h40)) (fun _ τ q => ⟨y, ey, (kx_VQ fφ).tr q.1, q.2⟩)
  rcases kx_fvn hw ew hf with ⟨f1, f2⟩ | ⟨i, q, rfl, f2, f3, f4, f5, f6, f7⟩
  · rw [f2]
    refine ma_T ((lg_cmp_eq _ _).mpr rfl) (ma_be (mg_isFl hn hw cM) ?_)
    by_cases h7 : 7 ≤ mv_kd w
    · rw [decide_eq_true h7]
      have eD : ka_fd w f (ml_bits m w k) = some (ae_db (mg_fl (mv_kd w) (ml_bits m w k)), true) := by
        unfold ka_fd mg_vl
        rw [if_pos f1, if_pos h7, decide_eq_true h7]
      refine ma_F (by decide) (ma_lt ?_)
      have g1 : ma_fr kxV σ (ae_wI σ 30 0 45 1) := ma_fwI (by unfold kxV; simp)
      have r1 : (ae_wI σ 30 0 45 1).1 30 0 45 = 1 := ma_rI
      generalize ae_wI σ 30 0 45 1 = φ at g1 r1 ⊢
      have H1 := H.fr g1
      refine ma_be (mg_flM hs hn hw hk ((kx_mv hM H1.2.2.2.2).2 n w ew) H1.2.1) (ma_lt (fin _ _ eD (.inl ⟨rfl, r1, ?_⟩) (g1.tr (ma_fwD (by unfold kxV; simp)))))
      rw [ma_rD]
    · rw [decide_eq_false h7]
      have eD : ka_fd w f (ml_bits m w k) = some (mg_wh (mv_kd w) (ml_bits m w k), false) := by
        unfold ka_fd mg_vl
        rw [if_pos f1, if_neg h7, decide_eq_false h7]
      exact ma_T rfl (ma_be (mg_whM hs hn hw hk cM H.2.1) (ma_bd (kx_tells _ σ) (fun _ φ q => fin _ φ eD q.1 q.2)))
  · refine ma_F (fun h => f3 ((lg_cmp_eq _ _).mp h)) (ma_gd ib ?_)
    rw [f7]
    have eD : ka_fd w (nI i) (ml_bits m w k) = some (ml_fl (ml_bits m w k) q, false) := by
      unfold ka_fd
      rw [if_neg f2, ka_inI f5 (by have := hw.2.2.2.2.2.2.2.1; omega)]
      show ((mv_fs w)[i]?).bind _ = _
      rw [f6]
      rfl
    exact ma_be (ml_fieldM hs hn hw hk f6 cM H.2.1) (ma_bd (kx_tells _ σ) (fun _ φ q => fin _ φ eD q.1 q.2))
theorem kx_rd (hW : mv_W sz vs) (hs : sz ≤ 256) (hM : mv_M vs σ0) (hxC : x.2.2 ≤ C.length) {g : GT_C} {K u n : Nat} {f : Int32} {w : mv_V} (hp : kn_P vs K u n es f σ0) (hu : u < 600) (ew : vs[n]? = some w) (hen : ∀ k, ks_en es k = k + 1) (he : kx_e sz vs C σ0 lv x dn tr (g.2.2 (nI u)) w es) : kx_w sz vs C σ0 lv x dn tr (FZ_X12_reads g (nI u)) (es ++ [(4, (nI n).toInt64, f)]) := by
  intro b st m σ ha hb hpk H h40
  have hn : n < vs.length := (List.getElem?_eq_some_iff.mp ew).1
  have hl := hW.1
  obtain ⟨p0, p1, p2, p3, p4⟩ := hp
  rw [List.length_append, List.length_singleton] at hb
  rw [ks_pkA, hen] at hpk
  have hle := (ks_pkL [((4 : Int32), (nI n).toInt64, f)] (st.length + 1)).1
  unfold FZ_X12_reads
  refine ma_bd (he b st m σ ha.l (by omega) (by omega) H h40) (fun r τ w1 => ?_)
  obtain ⟨fq, w1⟩ := w1
  rcases w1 with ⟨k, m', hk, rfl, hto, H1, h1⟩ | ⟨t, ht⟩
  · refine ma_T h1 (ma_mono (kx_rdv hW hs hM ew hu p1.2 p2 p3 hk H1 h1) (fun _ φ q => ?_))
    obtain ⟨y, ey, q1, q2, q3, q4⟩ := q
    refine ⟨fq.tr q1, .inl ⟨y, ka_cl w k m', hto.tr ?_, q2, q3, q4⟩⟩
    rw [List.length_append, List.length_singleton]
    refine kx_st ha.z ?_ (by show b + es.length < b + (es.length + 1); omega) (by show b + (es.length + 1) ≤ C.length; omega)
    rw [ka_do4]
    unfold ka_ld
    show ((ka_in (nI n).toInt64.toInt32 vs.length).bind fun v => (vs[v]?).bind fun w => (ka_in (nI k).toInt64.toInt32 (mv_ct w)).bind fun k => (ka_fd w f (ml_bits m' w k)).bind fun y => ka_push y (b + es.length + 1, st, ka_cl w k m', lv, dn, tr)) = _
    rw [kx_i32, ka_inI hn (by omega), kx_i32]
    show ((vs[n]?).bind fun w => (ka_in (nI k) (mv_ct w)).bind fun k => (ka_fd w f (ml_bits m' w k)).bind fun y => ka_push y (b + es.length + 1, st, ka_cl w k m', lv, dn, tr)) = _
    have hct := (hW.at ew).2.2.1
    rw [ew]
    show ((ka_in (nI k) (mv_ct w)).bind fun k => (ka_fd w f (ml_bits m' w k)).bind fun y => ka_push y (b + es.length + 1, st, ka_cl w k m', lv, dn, tr)) = _
    rw [ka_inI hk (by omega)]
    show ((ka_fd w f (ml_bits m' w k)).bind fun y => ka_push y (b + es.length + 1, st, ka_cl w k m', lv, dn, tr)) = _
    rw [ey]
    exact kx_push (by omega)
  · exact ma_F (by rw [ht.2.2.1]; exact ht.1) (ma_ret ⟨fq, .inr ⟨t, ht⟩⟩)
theorem kx_E (hW : mv_W sz vs) (hs : sz ≤ 256) (hM : mv_M vs σ0) (hx : lv.getLast? = some x) (hxC : x.2.2 ≤ C.length) (htr : tr.1 < 2 ^ 30) : ∀ (n u : Nat) (c : ks_E) (N : Nat), kn_E vs n u c σ0 → u < 600 → n + 2 * ks_n3 c + 2 < N → kx_w sz vs C σ0 lv x dn tr ((FG_C N).1 (nI u)) c := by
  intro n
  induction n with
  | zero => intro u c N h; exact h.elim
  | succ n ih =>
    intro u c N hE hu hN
    have hE0 := hE
    unfold kn_E at hE
    -- two signs less
    rcases hE with h | h | h | h | ⟨e, h1, rfl⟩ | h
    case inr.inr.inr.inr.inl =>
      intro b st m σ ha hb hpk H h40
      rw [ks_n3A, ks_n3A] at hN
      rw [List.length_append, List.length_append, List.length_singleton] at hb
      have hen := kn_Een h1
      rw [ks_pkA, ks_pkA] at hpk
      have hl1 := (ks_pkL e st.length).2
      rw [hen] at hl1
      refine ma_mono (ih u e N h1 hu (by omega) b st m σ ha.l.l (by omega) (by omega) H h40) (fun _ τ q => ?_)
      obtain ⟨fq, q⟩ := q
      rcases q with ⟨v, m', hto, hv, H1, h2⟩ | ⟨t, ht⟩
      · refine ⟨fq, .inl ⟨v, m', ?_, hv, H1, h2⟩⟩
        have a1 : C[b + e.length]? = some (6, 0, 0) := ha.l.z
        have a2 : C[b + e.length + 1]? = some (6, 0, 0) := by
          have := ha.z
          rw [List.length_append, List.length_singleton] at this
          exact this
        have t1 := kx_neg (vs := vs) (v := v) (st := st) (r := (m', lv, dn, tr)) a1 (by omega) (by omega)
        have t2 := kx_neg (vs := vs) (v := ka_ng v) (st := st) (r := (m', lv, dn, tr)) a2 (by omega) (by omega)
        rw [ka_ng2 (kx_cn hv)] at t2
        have t3 := (hto.tr t1).tr t2
        rw [List.length_append, List.length_append, List.length_singleton]
        exact t3
      · exact ⟨fq, .inr ⟨t, ht⟩⟩
    all_goals (obtain ⟨N, rfl⟩ : ∃ N2, N = N2 + 1 := ⟨N - 1, by omega⟩; intro b st m σ ha hb hpk H h40; have ib : ae_ib (nI u) 600 = true := ma_ib u rfl hu (by decide); show ma_wp (FZ_X12_works (FG_C N) (nI u) σ) _; unfold FZ_X12_works; rw [nI_clamp (show u < 2 ^ 31 by omega)]; have e47 : σ.1 47 0 u = σ0.1 47 0 u := H.2.2.2.2.i (by unfold kxF; omega); have e48 : σ.1 48 0 u = σ0.1 48 0 u := H.2.2.2.2.i (by unfold kxF; omega); have e51 : σ.2.1 51 0 u = σ0.2.1 51 0 u := H.2.2.2.2.l (by unfold kxF; omega); refine ma_gd ib (ma_lt ?_); rw [e47])
    · obtain ⟨h0, rfl⟩ := h
      have hb : b + 1 ≤ x.2.2 := hb
      have hpk : max st.length (st.length + 1) ≤ 252 := hpk
      rw [e51]
      refine ma_T h0 (ma_gd ib (ma_bd (kx_tells _ σ) (fun _ τ q => ma_ret ⟨kx_VQ q.2, .inl ⟨_, m, ?_, q.1, H.fr q.2, (q.2.i (by unfold kxV; omega)).trans h40⟩⟩)))
      refine kx_st ha.h ?_ (by show b < b + 1; omega) (by show b + 1 ≤ C.length; omega)
      rw [ka_do1]
      exact kx_push (by omega)
    · obtain ⟨h0, rfl⟩ := h
      have hb : b + 1 ≤ x.2.2 := hb
      have hpk : max st.length (st.length + 1) ≤ 252 := hpk
      refine ma_F (by rw [h0]; decide) (ma_T h0 (ma_lt ?_))
      have g1 : ma_fr kxV σ (ae_wI σ 30 0 45 1) := ma_fwI (by unfold kxV; simp)
      have r1 : (ae_wI σ 30 0 45 1).1 30 0 45 = 1 := ma_rI
      generalize ae_wI σ 30 0 45 1 = φ at g1 r1 ⊢
      have e52 : φ.2.2.1 52 0 u = σ0.2.2.1 52 0 u := (g1.d (by unfold kxV; omega)).trans (H.2.2.2.2.d (by unfold kxF; omega))
      rw [e52]
      refine ma_gd ib (ma_lt ?_)
      have g2 : ma_fr kxV σ (ae_wD φ 30 0 47 (σ0.2.2.1 52 0 u)) := g1.tr (ma_fwD (by unfold kxV; simp))
      refine ma_ret ⟨kx_VQ g2, .inl ⟨(ae_db (σ0.2.2.1 52 0 u), true), m, ?_, .inl ⟨rfl, r1, by rw [ma_rD]⟩, H.fr g2, (g2.i (by unfold kxV; omega)).trans h40⟩⟩
      refine kx_st ha.h ?_ (by show b < b + 1; omega) (by show b + 1 ≤ C.length; omega)
      rw [ka_do2 _ _ _ _ _ (ka_canon _ rfl)]
      exact kx_push (by omega)
    · obtain ⟨h0, v, f, h1, h2, h3, h4⟩ := h
      refine ma_F (by rw [h0]; decide) (ma_F (by rw [h0]; decide) (ma_T h0 ?_))
      have ew : vs[v]? = some vs[v] := List.getElem?_eq_getElem h1.1
      have key : ∃ es, c = es ++ [(4, (nI v).toInt64, f)] ∧ kn_P vs n u v es f σ0 := by
        rcases h4 with ⟨k1, k2⟩ | ⟨q, e, k1, k2, k3, k4⟩
        · exact ⟨_, k2, h0, h1, h2, h3, .inl ⟨k1, rfl⟩⟩
        · exact ⟨_, k4, h0, h1, h2, h3, .inr ⟨q, e, k1, k2, k3, rfl⟩⟩
      obtain ⟨es, rfl, hp⟩ := key
      rw [ks_n3A] at hN
      obtain ⟨N, rfl⟩ : ∃ N2, N = N2 + 1 := ⟨N - 1, by omega⟩
      have hen : ∀ k, ks_en es k = k + 1 := fun k => by
        have := kn_Een hE0 k
        rw [ks_enA] at this
        exact this
      have he : kx_e sz vs C σ0 lv x dn tr ((FG_C N).2.2 (nI u)) vs[v] es := by
        rcases Nat.eq_zero_or_pos N with rfl | hN0
        · exfalso
          omega
        · obtain ⟨N, rfl⟩ : ∃ N2, N = N2 + 1 := ⟨N - 1, by omega⟩
          refine kx_el (g := FG_C N) hW hM hx hxC htr hp hu ew (fun q e k1 k3 k4 => ?_)
          rw [k4, ks_n3A] at hN
          have n3 : ks_n3 [((3 : Int32), (nI v).toInt64, (0 : Int32))] = 1 := rfl
          exact ih q e N k3 (by omega) (by omega)
      refine ma_bd (kx_rd (g := FG_C N) hW hs hM hxC hp hu ew hen he b st m σ ha hb hpk H h40) (fun _ τ q => ma_ret q)
    · obtain ⟨h0, q, e, h1, h2, h3, rfl⟩ := h
      rw [ks_n3A] at hN
      rw [List.length_append, List.length_singleton] at hb
      have hen := kn_Een h3
      rw [ks_pkA, hen] at hpk
      have hle := (ks_pkL [((6 : Int32), (0 : Int64), (0 : Int32))] (st.length + 1)).1
      rw [e48, h2]
      refine ma_F (by rw [h0]; decide) (ma_F (by rw [h0]; decide) (ma_F (by rw [h0]; decide) (ma_T h0 (ma_gd ib (ma_bd (ih q e N h3 (by omega) (by omega) b st m σ ha.l (by omega) (by omega) H h40) (fun _ τ w1 => ma_lt (ma_lt (ma_ret ?_))))))))
      obtain ⟨fq, w1⟩ := w1
      have g : ma_fr kxV τ (ae_wD (ae_wL τ 30 0 46 (-(τ.2.1 30 0 46))) 30 0 47 (FP.dneg ((ae_wL τ 30 0 46 (-(τ.2.1 30 0 46))).2.2.1 30 0 47))) := (ma_fwL (by unfold kxV; simp)).tr (ma_fwD (by unfold kxV; simp))
      have r46 : (ae_wD (ae_wL τ 30 0 46 (-(τ.2.1 30 0 46))) 30 0 47 (FP.dneg ((ae_wL τ 30 0 46 (-(τ.2.1 30 0 46))).2.2.1 30 0 47))).2.1 30 0 46 = -(τ.2.1 30 0 46) := by
        show (ae_wL τ 30 0 46 (-(τ.2.1 30 0 46))).2.1 30 0 46 = _
        exact ma_rL
      have r47 : (ae_wD (ae_wL τ 30 0 46 (-(τ.2.1 30 0 46))) 30 0 47 (FP.dneg ((ae_wL τ 30 0 46 (-(τ.2.1 30 0 46))).2.2.1 30 0 47))).2.2.1 30 0 47 = FP.dneg (τ.2.2.1 30 0 47) := ma_rD
      have r45 : (ae_wD (ae_wL τ 30 0 46 (-(τ.2.1 30 0 46))) 30 0 47 (FP.dneg ((ae_wL τ 30 0 46 (-(τ.2.1 30 0 46))).2.2.1 30 0 47))).1 30 0 45 = τ.1 30 0 45 := rfl
      generalize ae_wD (ae_wL τ 30 0 46 (-(τ.2.1 30 0 46))) 30 0 47 (FP.dneg ((ae_wL τ 30 0 46 (-(τ.2.1 30 0 46))).2.2.1 30 0 47)) = φ at g r45 r46 r47 ⊢
      refine ⟨fq.tr (kx_VQ g), ?_⟩
      rcases w1 with ⟨v, m', hto, hv, H1, h5⟩ | ⟨t, ht⟩
      · refine .inl ⟨ka_ng v, m', ?_, ?_, H1.fr g, (g.i (by unfold kxV; omega)).trans h5⟩
        · rw [List.length_append, List.length_singleton]
          exact hto.tr (kx_neg ha.z (by omega) (by omega))
        · unfold ka_ng
          rcases hv with ⟨g1, g2, g3⟩ | ⟨g1, g2, g3⟩
          · rw [if_pos g1]
            exact .inl ⟨rfl, r45.trans g2, by rw [r47]; exact ka_eqN (ka_dv g3).symm⟩
          · rw [g1, if_neg (c := false = true) (by decide)]
            exact .inr ⟨rfl, r45.trans g2, by rw [r46, g3]⟩
      · obtain ⟨t1, t2, t3, m', t4⟩ := ht
        exact .inr ⟨t, t1, t2, (g.i (by unfold kxV; omega)).trans t3, m', t4.fr g⟩
    · obtain ⟨p, q, r, e, f, h1, h2, h3, h4, h5, h6, h7, h8, h9, rfl⟩ := h
      rw [ks_n3A, ks_n3A] at hN
      rw [List.length_append, List.length_append, List.length_singleton] at hb
      have hen := kn_Een h8
      have hfn := kn_Een h9
      rw [ks_pkA, ks_pkA, ks_enA, hen, hfn] at hpk
      have hle := (ks_pkL f (st.length + 1)).2
      rw [hfn] at hle
      have hsc : kn_sc p ≠ 0 ∧ kn_sc p ≠ 1 ∧ kn_sc p ≠ 2 ∧ kn_sc p ≠ 3 := by
        rcases ks_rkC h1 h2 with rfl | rfl | rfl | rfl | rfl | rfl | rfl | rfl <;> decide
      rw [h3, e48, h6]
      refine ma_F hsc.1 (ma_F hsc.2.1 (ma_F hsc.2.2.1 (ma_F hsc.2.2.2 (ma_gd ib (ma_bd (ih q e N h8 (by omega) (by omega) b st m σ ha.l.l (by omega) (by omega) H h40) (fun _ τ w1 => ?_))))))
      obtain ⟨fq, w1⟩ := w1
      rcases w1 with ⟨v1, m1, hto1, hv1, H1, k1⟩ | ⟨t, ht⟩
      · refine ma_T k1 (ma_lt (ma_lt ?_))
        obtain ⟨X, eX, hX⟩ := kx_as hv1
        refine ma_be eX ?_
        have e49 : τ.1 49 0 u = nI r := (H1.2.2.2.2.i (by unfold kxF; omega)).trans h7
        rw [e49]
        have haf : kx_at C (b + e.length) f := ha.l.r
        refine ma_gd ib (ma_bd (ih r f N h9 (by omega) (by omega) (b + e.length) (v1 :: st) m1 τ haf (by omega) (by rw [List.length_cons]; omega) H1 k1) (fun _ φ w2 => ?_))
        obtain ⟨fq2, w2⟩ := w2
        rcases w2 with ⟨v2, m2, hto2, hv2, H2, k2⟩ | ⟨t, ht⟩
        · refine ma_T k2 ?_
          have hto := hto1.tr hto2
          have az : C[b + e.length + f.length]? = some (p, 0, 0) := by
            have := ha.z
            rw [List.length_append, ← Nat.add_assoc] at this
            exact this
          have step : ∀ s', ka_wr (ka_bin p v1 v2) (b + e.length + f.length + 1, st, m2, lv, dn, tr) = some s' → b + e.length + f.length < s'.1 → s'.1 ≤ C.length → ka_to vs C (b, st, m, lv, dn, tr) s' := fun s' e1 l1 l2 => hto.tr (kx_st az (by
            rw [ka_doB _ _ h1 h2]
            exact e1) l1 l2)
          have n47 : φ.1 47 0 u = kn_sc p := (H2.2.2.2.2.i (by unfold kxF; omega)).trans h3
          have lenE : b + (e ++ f ++ [(p, (0 : Int64), (0 : Int32))]).length = b + e.length + f.length + 1 := by
            rw [List.length_append, List.length_append, List.length_singleton]
            omega
          have okR : ∀ (v : ka_V) (ψ : ae_S), ka_bin p v1 v2 = some v → kx_v v ψ → ma_fr kxV φ ψ → ma_fr kxQ σ ψ ∧ ((∃ v m', ka_to vs C (b, st, m, lv, dn, tr) (b + (e ++ f ++ [(p, (0 : Int64), (0 : Int32))]).length, v :: st, m', lv, dn, tr) ∧ kx_v v ψ ∧ kx_R sz σ0 m' dn tr ψ ∧ ψ.1 30 0 40 = 0) ∨ ∃ t, kx_t sz vs C σ0 lv x dn tr (b, st, m, lv, dn, tr) t ψ) := by
            intro v ψ ev hv fv
            refine ⟨(fq.tr fq2).tr (kx_VQ fv), .inl ⟨v, m2, ?_, hv, H2.fr fv, (fv.i (by unfold kxV; omega)).trans k2⟩⟩
            rw [lenE]
            refine step _ ?_ (by show b + e.length + f.length < b + e.length + f.length + 1; omega) (by show b + e.length + f.length + 1 ≤ C.length; omega)
            rw [ev]
            exact kx_push (by omega)
          have flo : v1.2 = true ∨ v2.2 = true → ma_wp (F_X12_works_161 (FG_C N) (nI u) X φ) (fun _ τ => ma_fr kxQ σ τ ∧ ((∃ v m', ka_to vs C (b, st, m, lv, dn, tr) (b + (e ++ f ++ [(p, (0 : Int64), (0 : Int32))]).length, v :: st, m', lv, dn, tr) ∧ kx_v v τ ∧ kx_R sz σ0 m' dn tr τ ∧ τ.1 30 0 40 = 0) ∨ ∃ t, kx_t sz vs C σ0 lv x dn tr (b, st, m, lv, dn, tr) t τ)) := by
            intro hf
            unfold F_X12_works_161 F_X12_works_195
            obtain ⟨Y, eY, hY⟩ := kx_as hv2
            rw [nI_clamp (show u < 2 ^ 31 by omega), n47]
            refine ma_gd ib (ma_be eY (ma_bd (kx_flo h1 h2 hX hY φ) (fun _ ψ q => ma_ret (okR _ ψ ?_ q.1 q.2))))
            unfold ka_bin
            rw [if_pos hf]
          rcases hv1 with ⟨g1, g2, g3⟩ | ⟨g1, g2, g3⟩
          · rw [g2]
            exact ma_F ma_01 (flo (.inl g1))
          · rw [g2]
            refine ma_T rfl ?_
            rcases hv2 with ⟨l1, l2, l3⟩ | ⟨l1, l2, l3⟩
            · rw [l2]
              exact ma_F ma_01 (flo (.inr l1))
            · rw [l2, n47, g3, l3]
              unfold F_X12_works_195
              have eb : ka_bin p v1 v2 = ka_wb p v1.1 v2.1 := by
                unfold ka_bin
                rw [g1, l1, if_neg (by simp)]
              refine ma_T rfl (ma_gd ib (ma_bd (kx_who h1 h2 H2 k2 htr) (fun _ ψ q => ma_ret ?_)))
              rcases q with ⟨v, ev, hv, fv⟩ | ⟨ev, w40, wR, wQ⟩
              · exact okR v ψ (eb.trans ev) hv fv
              · refine ⟨(fq.tr fq2).tr wQ, .inr ⟨2, by decide, ?_, w40, m2, wR⟩⟩
                refine step _ ?_ (by show b + e.length + f.length < x.2.2; omega) hxC
                rw [eb, ev]
                exact kx_meet hx 2
        · exact ma_F (by rw [ht.2.2.1]; exact ht.1) (ma_ret ⟨fq.tr fq2, .inr ⟨t, kx_tt hto1 ht⟩⟩)
      · exact ma_F (by rw [ht.2.2.1]; exact ht.1) (ma_ret ⟨fq, .inr ⟨t, ht⟩⟩)
end KX
