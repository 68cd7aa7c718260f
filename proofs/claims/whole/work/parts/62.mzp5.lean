/-! roll, turn, field -/
theorem mz_roll : zp_roll mi_I := fun v1 v2 => mi_zp (fun a hW => by
  have hs : (mi_m a).1 ≤ 256 := hW.1.2.1
  have hl := hW.2.1.1
  have no : ∀ (hh : ∀ σ, mi_C a σ → ma_wp (F_X11_roll v1 v2 σ) (fun x τ => x = 0 ∧ τ = σ)) (hh2 : ∀ σ, mi_M a σ → ma_wp (F_X12_roll v1 v2 σ) (fun x τ => x = 0 ∧ τ = σ)), ∃ r b, mi_W b ∧ mi_c (F_X11_roll v1 v2) a r b ∧ mi_d (F_X12_roll v1 v2) a r b := fun hh hh2 => ⟨0, a, hW, mi_c1 hh, mi_d1 hh2⟩
  rcases mv_ix (mi_v a) v1 hl with hx | ⟨v, w, rfl, hv, e⟩
  · refine no (fun σ H => ?_) (fun σ H => ?_)
    · obtain ⟨p, Hp⟩ := H.2.1
      unfold F_X11_roll F_X11_roll_30
      exact ma_be (mv_getN Hp hl hx) (ma_mn (ma_ret ⟨rfl, rfl⟩))
    · unfold F_X12_roll F_X12_roll_20
      exact ma_be (ml_canLayN H.2.1 hl hx) (ma_T rfl (ma_ret ⟨rfl, rfl⟩))
  · have hw := hW.2.1.at e
    have hc1 := hw.2.1
    have hc2 := hw.2.2.1
    by_cases ro : mv_ac w = 1
    · refine no (fun σ H => ?_) (fun σ H => ?_)
      · obtain ⟨p, Hp⟩ := H.2.1
        unfold F_X11_roll F_X11_roll_30
        refine ma_be (mv_getS Hp hl hv) (ma_ms (ma_be (ml_isRO hw (Hp.2.2.2.2 v w e)) ?_))
        rw [if_pos ro]
        exact ma_F ma_01 (ma_ret ⟨rfl, rfl⟩)
      · unfold F_X12_roll F_X12_roll_20
        refine ma_be (ml_canLay H.2.1 hl hv e hw) ?_
        rw [if_pos ro]
        exact ma_T rfl (ma_ret ⟨rfl, rfl⟩)
    · by_cases hn : 0 ≤ v2.toInt ∧ v2.toInt ≤ 64
      · obtain ⟨n, hn1, rfl⟩ := nI_of (x := v2) (by rw [fa_lt]; show ¬ v2.toInt < 0; omega)
        rw [nI_toInt hn1] at hn
        have hn2 : n ≤ 64 := by omega
        refine ⟨1, mz_comV a (ml_rows (mi_m a).2.1 w (fun i => ml_bits (mi_m a).2.1 w ((i + n) % mv_ct w)) (mv_ct w)) (mi_v a), mz_comVW hW (fun k => ml_rows_by hW.1.2.2.2.1 _ k) (fun k hk => ml_rows_z hw hW.1.2.2.2.2.1 _ (Nat.le_refl _) k hk) hW.2.1, fun σ H => ?_, fun σ H => ?_⟩
        · obtain ⟨p, Hp⟩ := H.2.1
          unfold F_X11_roll
          refine ma_be (mv_getS Hp hl hv) (ma_ms (ma_be (ml_isRO hw (Hp.2.2.2.2 v w e)) ?_))
          rw [if_neg ro]
          refine ma_T rfl (ma_F (nI_pos hn1) (ma_T (nI_le (b := 64) hn2 (by decide)) (ma_bd (mb_begin H.1) (fun _ τ b => ?_))))
          have ct : mv_C1 (mv_at p v) w τ := (Hp.2.2.2.2 v w e).fr b.2 (fun _ => by decide) (fun _ => by decide) (fun _ => by decide) (fun _ => by decide)
          refine ma_bd (ml_bitsInto hs hw ct b.1.2.1) (fun _ υ q => ?_)
          have cu : mv_C1 (mv_at p v) w υ := ct.fr q.2 (fun _ => by decide) (fun _ => by decide) (fun _ => by decide) (fun _ => by decide)
          have hu : mb_C (mi_m a).1 (mi_m a).2.1 (mi_m a).2.1 (mi_m a).2.2.2 υ := b.1.fr q.2 (fun _ _ => by decide) (fun _ _ => by decide)
          refine ma_bd (ml_layRow hs hn2 hw cu hu.2.1) (fun _ ω r => ?_)
          refine ma_bd (mz_keepV (vs := mi_v a) (now' := ml_rows (mi_m a).2.1 w (fun i => ml_bits (mi_m a).2.1 w ((i + n) % mv_ct w)) (mv_ct w)) hW H ((b.2.mo (fun g i k q => by omega)).tr ((q.2.mo (fun g i k q => by omega)).tr (r.2.mo (fun g i k q => by omega)))) (hu.now r.2 (fun k hk => ?_)) (((H.2.1.fr b.2 (fun _ _ _ _ _ => by omega)).fr q.2 (fun _ _ _ _ _ => by omega)).fr r.2 (fun _ _ _ _ _ q => by omega))) (fun _ ψ c => ma_ret ⟨rfl, c⟩)
          rw [r.1 k hk, ml_rows_cong _ (fun i hi => q.1 _ (Nat.mod_lt _ hc1))]
        · unfold F_X12_roll
          refine ma_be (ml_canLay H.2.1 hl hv e hw) ?_
          rw [if_neg ro]
          refine ma_F ma_01 (ma_be (ma_isInL (y := 64) 64 rfl (by decide) σ) ?_)
          rw [nI_toInt hn1, if_pos (c := (0 : Int) ≤ (n : Int) ∧ (n : Int) ≤ ((64 : Nat) : Int)) (by omega)]
          refine ma_F ma_01 (ma_bd (mb_begins hs H.1) (fun _ τ b => ?_))
          have ct : mv_M1 v w τ := (H.2.1.2 v w e).fr b.2 (fun _ _ _ _ => by omega)
          refine ma_bd (ml_takesAll hs (by omega) hw ct b.1.2.1) (fun _ υ q => ?_)
          have fu : ma_fr (fun g _ k => ¬ (31 ≤ g ∧ g ≤ 45) ∧ ¬ (54 ≤ g ∧ g ≤ 56) ∧ ¬ (g = 30 ∧ k = 5)) σ υ := (b.2.mo (fun g i k q => by omega)).tr (q.2.mo (fun g i k q => by omega))
          have hu : mb_N (mi_m a).1 (mi_m a).2.1 (mi_m a).2.1 (mi_m a).2.2.2 υ := b.1.fr q.2 (by decide) (by decide) (fun _ _ => by decide) (fun _ _ => by decide) (fun _ _ => by decide)
          have vu : mv_M (mi_v a) υ := (H.2.1.fr b.2 (by decide) (fun _ _ _ _ => by omega)).fr q.2 (by decide) (fun _ _ _ _ => by omega)
          have loop : ∀ m k : Nat, mv_ct w < k + m → k ≤ mv_ct w → ∀ ω : ae_S, ma_fr (fun g _ _ => g ≠ 31) υ ω → (∀ i, i < 256 → ω.1 31 0 i = ml_rows (mi_m a).2.1 w (fun i => ml_bits (mi_m a).2.1 w ((i + n) % mv_ct w)) k i) → ma_wp (F_X12_roll_33 m (nI v) (nI n) (nI k) ω) (fun x τ => x = 1 ∧ mi_M (mz_comV a (ml_rows (mi_m a).2.1 w (fun i => ml_bits (mi_m a).2.1 w ((i + n) % mv_ct w)) (mv_ct w)) (mi_v a)) τ ∧ ma_fr (fun g _ _ => g < 30) σ τ) := by
            intro m
            induction m with
            | zero => intro k a b; omega
            | succ m ih =>
              intro k hk1 hk2 ω hf hm
              have vo : mv_M (mi_v a) ω := vu.fr hf (by decide) (fun _ _ _ _ => by omega)
              have co := vo.2 v w e
              have hmod : (k + n) % mv_ct w < mv_ct w := Nat.mod_lt _ hc1
              unfold F_X12_roll_33
              rw [nI_clamp (show v < 2 ^ 31 by omega), co.2.2.2.2.1]
              have ib : ae_ib (nI v) 32 = true := ma_ib v rfl (by omega) (by decide)
              refine ma_gd ib (ma_le _ k rfl rfl (by omega) (by omega) (fun q2 => ?_) (fun q2 => ma_gd ib (ma_gd (by rw [decide_eq_false (nI_ne0 hc1 (by omega))]; rfl) ?_)))
              · refine ma_bd (mz_endsV (vs := mi_v a) hW H (fu.tr (hf.mo (fun g i k q => by omega))) (hu.now hf (fun i hi => ?_)) vo) (fun _ ψ c => ma_ret ⟨rfl, c⟩)
                have h := hm i hi
                rw [show k = mv_ct w by omega] at h
                exact h
              · rw [nI_add, pk_rem (by omega) hc1 (by omega)]
                refine ma_gd (ma_ib _ rfl (by omega) (by decide)) ?_
                rw [nI_clamp (by omega), hf.l (by simp), q.1 _ hmod]
                refine ma_bd (ml_laysM hs (by omega) hw q2 co hm) (fun _ ψ r => ma_lt ?_)
                rw [nI_1]
                exact ih (k + 1) (by omega) (by omega) ψ (hf.tr r.2) r.1
          exact loop ae_fu 0 (by rw [ae_fu]; omega) (by omega) υ ma_fr.rf hu.2.1
      · refine no (fun σ H => ?_) (fun σ H => ?_)
        · obtain ⟨p, Hp⟩ := H.2.1
          unfold F_X11_roll F_X11_roll_30
          refine ma_be (mv_getS Hp hl hv) (ma_ms (ma_be (ml_isRO hw (Hp.2.2.2.2 v w e)) ?_))
          rw [if_neg ro]
          refine ma_T rfl (ma_if (fun _ => ma_ret ⟨rfl, rfl⟩) (fun q1 => ma_F (fun q2 => hn ?_) (ma_ret ⟨rfl, rfl⟩)))
          rw [show (64 : Int32) = nI 64 from rfl, (mz_lit v2 64 (by decide)).2.1] at q2
          rw [fa_lt] at q1
          have q1 : ¬ v2.toInt < 0 := q1
          omega
        · unfold F_X12_roll F_X12_roll_20
          refine ma_be (ml_canLay H.2.1 hl hv e hw) ?_
          rw [if_neg ro]
          refine ma_F ma_01 (ma_be (ma_isInL (y := 64) 64 rfl (by decide) σ) ?_)
          rw [if_neg (c := 0 ≤ v2.toInt ∧ v2.toInt ≤ ((64 : Nat) : Int)) (by omega)]
          exact ma_T rfl (ma_ret ⟨rfl, rfl⟩))
def mv_tn (w : mv_V) : mv_V := (mv_nm w, mv_kd w, !mv_bg w, w.2.2.2)
theorem mv_tnW {sz : Nat} {w : mv_V} (h : mv_W1 sz w) : mv_W1 sz (mv_tn w) := h
theorem mv_setW {sz v : Nat} {vs : List mv_V} {x : mv_V} (h : mv_W sz vs) (hx : mv_W1 sz x) : mv_W sz (vs.set v x) :=
  ⟨by rw [List.length_set]; exact h.1, fun w hw => by
    rcases List.mem_or_eq_of_mem_set hw with q | q
    · exact h.2 w q
    · rw [q]; exact hx⟩
theorem mv_set? {v u : Nat} {vs : List mv_V} {x y : mv_V} (h : (vs.set v x)[u]? = some y) : u = v ∧ y = x ∨ u ≠ v ∧ vs[u]? = some y := by
  rw [List.getElem?_set] at h
  by_cases q : v = u
  · rw [if_pos q] at h
    by_cases q2 : v < vs.length
    · rw [if_pos q2] at h; cases h; exact .inl ⟨q.symm, rfl⟩
    · rw [if_neg q2] at h; cases h
  · rw [if_neg q] at h; exact .inr ⟨fun e => q e.symm, h⟩
theorem mz_turn : zp_turn mi_I := fun v1 => mi_zp (fun a hW => by
  have hs : (mi_m a).1 ≤ 256 := hW.1.2.1
  have hl := hW.2.1.1
  have no : ∀ (hh : ∀ σ, mi_C a σ → ma_wp (F_X11_turn v1 σ) (fun x τ => x = 0 ∧ τ = σ)) (hh2 : ∀ σ, mi_M a σ → ma_wp (F_X12_turn v1 σ) (fun x τ => x = 0 ∧ τ = σ)), ∃ r b, mi_W b ∧ mi_c (F_X11_turn v1) a r b ∧ mi_d (F_X12_turn v1) a r b := fun hh hh2 => ⟨0, a, hW, mi_c1 hh, mi_d1 hh2⟩
  rcases mv_ix (mi_v a) v1 hl with hx | ⟨v, w, rfl, hv, e⟩
  · refine no (fun σ H => ?_) (fun σ H => ?_)
    · obtain ⟨p, Hp⟩ := H.2.1
      unfold F_X11_turn F_X11_turn_20
      exact ma_be (mv_getN Hp hl hx) (ma_mn (ma_ret ⟨rfl, rfl⟩))
    · unfold F_X12_turn
      exact ma_be (ml_canLayN H.2.1 hl hx) (ma_T rfl (ma_ret ⟨rfl, rfl⟩))
  · have hw := hW.2.1.at e
    have hc1 := hw.2.1
    have hc2 := hw.2.2.1
    by_cases ro : mv_ac w = 1
    · refine no (fun σ H => ?_) (fun σ H => ?_)
      · obtain ⟨p, Hp⟩ := H.2.1
        unfold F_X11_turn F_X11_turn_20
        refine ma_be (mv_getS Hp hl hv) (ma_ms (ma_be (ml_isRO hw (Hp.2.2.2.2 v w e)) ?_))
        rw [if_pos ro]
        exact ma_F ma_01 (ma_ret ⟨rfl, rfl⟩)
      · unfold F_X12_turn
        refine ma_be (ml_canLay H.2.1 hl hv e hw) ?_
        rw [if_pos ro]
        exact ma_T rfl (ma_ret ⟨rfl, rfl⟩)
    · refine ⟨1, mz_comV a (ml_rows (mi_m a).2.1 (mv_tn w) (fun i => ml_bits (mi_m a).2.1 w i) (mv_ct w)) ((mi_v a).set v (mv_tn w)), mz_comVW hW (fun k => ml_rows_by hW.1.2.2.2.1 _ k) (fun k hk => ml_rows_z (mv_tnW hw) hW.1.2.2.2.2.1 _ (Nat.le_refl _) k hk) (mv_setW hW.2.1 (mv_tnW hw)), fun σ H => ?_, fun σ H => ?_⟩
      · obtain ⟨p, Hp⟩ := H.2.1
        have hp := Hp.1
        unfold F_X11_turn
        refine ma_be (mv_getS Hp hl hv) (ma_ms (ma_be (ml_isRO hw (Hp.2.2.2.2 v w e)) ?_))
        rw [if_neg ro]
        refine ma_T rfl (ma_bd (mb_begin H.1) (fun _ τ b => ?_))
        have ct : mv_C1 (mv_at p v) w τ := (Hp.2.2.2.2 v w e).fr b.2 (fun _ => by decide) (fun _ => by decide) (fun _ => by decide) (fun _ => by decide)
        refine ma_bd (ml_bitsInto hs hw ct b.1.2.1) (fun _ υ q => ?_)
        have Hu : mv_Cp p (mi_v a) υ := (Hp.fr b.2 (fun _ => by decide) (fun _ _ => by decide) (fun _ _ => by decide) (fun _ _ => by decide) (fun _ _ => by decide)).fr q.2 (fun _ => by decide) (fun _ _ => by decide) (fun _ _ => by decide) (fun _ _ => by decide) (fun _ _ => by decide)
        have cu := Hu.2.2.2.2 v w e
        have hu : mb_C (mi_m a).1 (mi_m a).2.1 (mi_m a).2.1 (mi_m a).2.2.2 υ := b.1.fr q.2 (fun _ _ => by decide) (fun _ _ => by decide)
        have go : ma_wp (F_X11_turn_54 (mv_at p v) (mv_bI (!mv_bg w)) (mv_at p v) υ) (fun x τ => x = 1 ∧ mi_C (mz_comV a (ml_rows (mi_m a).2.1 (mv_tn w) (fun i => ml_bits (mi_m a).2.1 w i) (mv_ct w)) ((mi_v a).set v (mv_tn w))) τ ∧ ma_fr (fun g _ _ => 30 ≤ g) σ τ) := by
          unfold F_X11_turn_54
          refine ma_gd (mv_bz _) (ma_lt ?_)
          have fw : ma_fr (fun g i k => ¬ (g = 8 ∧ i = mv_at p v ∧ k = 5)) υ (ae_wI υ 8 (mv_at p v) 5 (mv_bI (!mv_bg w))) := ma_fwI (fun q => q ⟨rfl, rfl, rfl⟩)
          have H2 : mv_Cp p ((mi_v a).set v (mv_tn w)) (ae_wI υ 8 (mv_at p v) 5 (mv_bI (!mv_bg w))) := by
            refine ⟨hp, Hu.2.1, Hu.2.2.1, ?_, fun u y h => ?_⟩
            · rw [List.length_set, ma_rIn (by simp)]; exact Hu.2.2.2.1
            · rcases mv_set? h with ⟨rfl, rfl⟩ | ⟨hne, h2⟩
              · obtain ⟨c1, c2, c3, c4, c5, c6, c7, c8, c9⟩ := cu
                refine ⟨c1, c2, ma_rI, ?_, ?_, ?_, ?_, ?_, fun f q2 h3 => ?_⟩
                · rw [ma_rIn (by simp)]; exact c4
                · rw [ma_rIn (by simp)]; exact c5
                · rw [ma_rIn (by simp)]; exact c6
                · rw [ma_rIn (by simp)]; exact c7
                · rw [ma_rIn (by simp)]; exact c8
                · rw [ma_rIn (by simp), ma_rIn (by simp)]; exact c9 f q2 h3
              · have hu2 : u < (mi_v a).length := (List.getElem?_eq_some_iff.mp h2).1
                refine (Hu.2.2.2.2 u y h2).fr fw (fun k q2 => ?_) (fun k q2 => by omega) (fun k q2 => by omega) (fun k q2 => by omega)
                have := mb_fin (by omega) (by omega) q2.2.1
                omega
          have c2 : mv_C1 (mv_at p v) (mv_tn w) (ae_wI υ 8 (mv_at p v) 5 (mv_bI (!mv_bg w))) := H2.2.2.2.2 v _ (by rw [List.getElem?_set, if_pos rfl, if_pos hv])
          have h3 : mb_C (mi_m a).1 (mi_m a).2.1 (mi_m a).2.1 (mi_m a).2.2.2 (ae_wI υ 8 (mv_at p v) 5 (mv_bI (!mv_bg w))) := hu.fr fw (fun _ _ q => by omega) (fun _ _ q => by omega)
          refine ma_bd (ml_layRow (n0 := 0) hs (by decide) (mv_tnW hw) c2 h3.2.1) (fun _ ω r => ?_)
          refine ma_bd (mz_keepV (vs := (mi_v a).set v (mv_tn w)) (now' := ml_rows (mi_m a).2.1 (mv_tn w) (fun i => ml_bits (mi_m a).2.1 w i) (mv_ct w)) hW H ((b.2.mo (fun g i k q => by omega)).tr ((q.2.mo (fun g i k q => by omega)).tr ((fw.mo (fun g i k q => by omega)).tr (r.2.mo (fun g i k q => by omega))))) (h3.now r.2 (fun k hk => ?_)) ⟨p, H2.fr r.2 (fun _ q => by omega) (fun _ _ q => by omega) (fun _ _ q => by omega) (fun _ _ q => by omega) (fun _ _ q => by omega)⟩) (fun _ ψ c => ma_ret ⟨rfl, c⟩)
          rw [r.1 k hk]
          refine congrFun (ml_rows_cong (m := (mi_m a).2.1) (w := mv_tn w) (mv_ct w) (fun i hi => ?_)) k
          show (ae_wI υ 8 (mv_at p v) 5 (mv_bI (!mv_bg w))).2.1 27 0 ((i + 0) % mv_ct w) = _
          rw [Nat.add_zero, Nat.mod_eq_of_lt hi]
          exact q.1 i hi
        rw [cu.2.2.1]
        cases hb : mv_bg w with
        | true => rw [hb] at go; exact ma_F ma_01 go
        | false => rw [hb] at go; exact ma_T rfl go
      · unfold F_X12_turn
        refine ma_be (ml_canLay H.2.1 hl hv e hw) ?_
        rw [if_neg ro]
        refine ma_F ma_01 (ma_bd (mb_begins hs H.1) (fun _ τ b => ?_))
        have ct : mv_M1 v w τ := (H.2.1.2 v w e).fr b.2 (fun _ _ _ _ => by omega)
        refine ma_bd (ml_takesAll hs (by omega) hw ct b.1.2.1) (fun _ υ q => ?_)
        have ib : ae_ib (nI v) 32 = true := ma_ib v rfl (by omega) (by decide)
        refine ma_gd ib (ma_gd ib (ma_lt ?_))
        have fu : ma_fr (fun g _ k => ¬ (31 ≤ g ∧ g ≤ 45) ∧ ¬ (54 ≤ g ∧ g ≤ 56) ∧ ¬ (g = 30 ∧ k = 5)) σ υ := (b.2.mo (fun g i k q => by omega)).tr (q.2.mo (fun g i k q => by omega))
        have hu : mb_N (mi_m a).1 (mi_m a).2.1 (mi_m a).2.1 (mi_m a).2.2.2 υ := b.1.fr q.2 (by decide) (by decide) (fun _ _ => by decide) (fun _ _ => by decide) (fun _ _ => by decide)
        have vu : mv_M (mi_v a) υ := (H.2.1.fr b.2 (by decide) (fun _ _ _ _ => by omega)).fr q.2 (by decide) (fun _ _ _ _ => by omega)
        have eb : (1 : Int32) - υ.1 37 0 v = mv_bI (!mv_bg w) := by
          rw [(vu.2 v w e).2.2.1]
          cases mv_bg w <;> decide
        rw [nI_clamp (show v < 2 ^ 31 by omega), eb]
        have fw : ma_fr (fun g _ k => ¬ (g = 37 ∧ k = v)) υ (ae_wI υ 37 0 v (mv_bI (!mv_bg w))) := ma_fwI (fun q => q ⟨rfl, rfl⟩)
        have V2 : mv_M ((mi_v a).set v (mv_tn w)) (ae_wI υ 37 0 v (mv_bI (!mv_bg w))) := by
          refine ⟨?_, fun u y h => ?_⟩
          · rw [List.length_set, ma_rIn (by simp)]; exact vu.1
          · rcases mv_set? h with ⟨rfl, rfl⟩ | ⟨hne, h2⟩
            · obtain ⟨c1, c2, c3, c4, c5, c6, c7, c8, c9⟩ := vu.2 u w e
              refine ⟨c1, ?_, ma_rI, ?_, ?_, ?_, ?_, ?_, fun f q2 h3 => ?_⟩
              · rw [ma_rIn (by simp)]; exact c2
              · rw [ma_rIn (by simp)]; exact c4
              · rw [ma_rIn (by simp)]; exact c5
              · rw [ma_rIn (by simp)]; exact c6
              · rw [ma_rIn (by simp)]; exact c7
              · rw [ma_rIn (by simp)]; exact c8
              · rw [ma_rIn (by simp), ma_rIn (by simp)]; exact c9 f q2 h3
            · obtain ⟨c1, c2, c3, c4, c5, c6, c7, c8, c9⟩ := vu.2 u y h2
              refine ⟨c1, ?_, ?_, ?_, ?_, ?_, ?_, ?_, fun f q2 h3 => ?_⟩
              · rw [ma_rIn (by simp)]; exact c2
              · rw [ma_rIn (by simp [hne])]; exact c3
              · rw [ma_rIn (by simp)]; exact c4
              · rw [ma_rIn (by simp)]; exact c5
              · rw [ma_rIn (by simp)]; exact c6
              · rw [ma_rIn (by simp)]; exact c7
              · rw [ma_rIn (by simp)]; exact c8
              · rw [ma_rIn (by simp), ma_rIn (by simp)]; exact c9 f q2 h3
        have e2 : ((mi_v a).set v (mv_tn w))[v]? = some (mv_tn w) := by rw [List.getElem?_set, if_pos rfl, if_pos hv]
        have h3 : mb_N (mi_m a).1 (mi_m a).2.1 (mi_m a).2.1 (mi_m a).2.2.2 (ae_wI υ 37 0 v (mv_bI (!mv_bg w))) := hu.fr fw (fun q => by omega) (fun q => by omega) (fun _ _ q => by omega) (fun _ _ q => by omega) (fun _ _ q => by omega)
        have f3 := fu.tr (fw.mo (R := fun g _ k => ¬ (31 ≤ g ∧ g ≤ 45) ∧ ¬ (54 ≤ g ∧ g ≤ 56) ∧ ¬ (g = 30 ∧ k = 5)) (fun g i k q => by omega))
        have q3 : ∀ i, i < mv_ct w → (ae_wI υ 37 0 v (mv_bI (!mv_bg w))).2.1 55 0 i = ml_bits (mi_m a).2.1 w i := q.1
        generalize ae_wI υ 37 0 v (mv_bI (!mv_bg w)) = κ at V2 h3 f3 q3 ⊢
        have loop : ∀ m k : Nat, mv_ct w < k + m → k ≤ mv_ct w → ∀ ω : ae_S, ma_fr (fun g _ _ => g ≠ 31) κ ω → (∀ i, i < 256 → ω.1 31 0 i = ml_rows (mi_m a).2.1 (mv_tn w) (fun i => ml_bits (mi_m a).2.1 w i) k i) → ma_wp (F_X12_turn_35 m (nI v) (nI k) ω) (fun x τ => x = 1 ∧ mi_M (mz_comV a (ml_rows (mi_m a).2.1 (mv_tn w) (fun i => ml_bits (mi_m a).2.1 w i) (mv_ct w)) ((mi_v a).set v (mv_tn w))) τ ∧ ma_fr (fun g _ _ => g < 30) σ τ) := by
          intro m
          induction m with
          | zero => intro k a b; omega
          | succ m ih =>
            intro k hk1 hk2 ω hf hm
            have vo : mv_M ((mi_v a).set v (mv_tn w)) ω := V2.fr hf (by decide) (fun _ _ _ _ => by omega)
            have co := vo.2 v _ e2
            unfold F_X12_turn_35
            rw [nI_clamp (show v < 2 ^ 31 by omega)]
            refine ma_gd ib (ma_le (mv_ct w) k co.2.2.2.2.1 rfl (by omega) (by omega) (fun q2 => ?_) (fun q2 => ma_gd (ma_ib k rfl (by omega) (by decide)) ?_))
            · refine ma_bd (mz_endsV (vs := (mi_v a).set v (mv_tn w)) hW H (f3.tr (hf.mo (fun g i k q => by omega))) (h3.now hf (fun i hi => ?_)) vo) (fun _ ψ c => ma_ret ⟨rfl, c⟩)
              have h := hm i hi
              rw [show k = mv_ct w by omega] at h
              exact h
            · rw [nI_clamp (by omega), hf.l (by simp), q3 k q2]
              refine ma_bd (ml_laysM hs (by omega) (mv_tnW hw) q2 co hm) (fun _ ψ r => ma_lt ?_)
              rw [nI_1]
              exact ih (k + 1) (by omega) (by omega) ψ (hf.tr r.2) r.1
        exact loop ae_fu 0 (by rw [ae_fu]; omega) (by omega) κ ma_fr.rf h3.2.1)
