/-! the class's machine does steps -/
section KA
variable {σ τ σ0 : ae_S} {sz p : Nat} {vs : List mv_V} {C : ks_E} {s s' : ka_S} {x : Int64} {f : Int32}
def ka_W (sz : Nat) (s : ka_S) : Prop := (∀ k, mb_by (s.2.2.1 k)) ∧ (∀ k, sz ≤ k → s.2.2.1 k = 0) ∧ ∀ l ∈ s.2.2.2.1, (∀ k, mb_by (l.1 k)) ∧ ∀ k, sz ≤ k → l.1 k = 0
def ka_C (sz p : Nat) (vs : List mv_V) (C : ks_E) (σ0 : ae_S) (s : ka_S) (σ : ae_S) : Prop := ka_W sz s ∧ kz_cd C σ ∧ mv_Cp p vs σ ∧ kaV s.2.1 σ ∧ kaL s.2.2.2.1 σ ∧ mi_Cr s.2.2.2.2.2 σ ∧ σ.1 21 0 11 = nI s.2.2.2.2.1 ∧ σ.1 21 0 12 = nI s.1 ∧ (∀ k, k < 256 → σ.1 4 0 k = s.2.2.1 k) ∧ ma_fr kaF σ0 σ
theorem ka_C.st (H : ka_C sz p vs C σ0 s σ) {st : List ka_V} (f : ma_fr kaP σ τ) (V : kaV st τ) : ka_C sz p vs C σ0 (s.1, st, s.2.2) τ := by
  obtain ⟨h1, h2, h3, h4, h5, h6, h7, h8, h9, h10⟩ := H
  exact ⟨h1, h2.fr f (fun g i k q1 q2 => by unfold kaP; omega), h3.fr f (fun _ => by unfold kaP; omega) (fun _ _ => by unfold kaP; omega) (fun _ _ => by unfold kaP; omega) (fun _ _ => by unfold kaP; omega) (fun _ _ => by unfold kaP; omega), V, h5.fr f (by unfold kaP; omega) (fun _ _ _ => by unfold kaP; omega) (fun _ _ => by unfold kaP; omega), h6.fr f (by unfold kaP; omega) (fun _ => by unfold kaP; omega), (f.i (by unfold kaP; omega)).trans h7, (f.i (by unfold kaP; omega)).trans h8, fun k hk => (f.i (by unfold kaP; omega)).trans (h9 k hk), h10.tr (f.mo (fun g i k q => by unfold kaF at q; unfold kaP; omega))⟩
theorem ka_C.me (H : ka_C sz p vs C σ0 s σ) {m : Nat → Int32} (f : ma_fr (fun g i _ => ¬ (g = 4 ∧ i = 0)) σ τ) (hm : ∀ k, k < 256 → τ.1 4 0 k = m k) (b1 : ∀ k, mb_by (m k)) (b2 : ∀ k, sz ≤ k → m k = 0) : ka_C sz p vs C σ0 (s.1, s.2.1, m, s.2.2.2) τ := by
  obtain ⟨h1, h2, h3, h4, h5, h6, h7, h8, h9, h10⟩ := H
  exact ⟨⟨b1, b2, h1.2.2⟩, h2.fr f (fun g i k q1 q2 => by omega), h3.fr f (fun _ => by omega) (fun _ _ => by omega) (fun _ _ => by omega) (fun _ _ => by omega) (fun _ _ => by omega), h4.fr f (by omega) (fun _ => by omega) (fun _ => by omega), h5.fr f (by omega) (fun i k h q => by rw [q.2] at h; exact absurd h (by decide)) (fun _ _ => by omega), h6.fr f (by omega) (fun _ => by omega), (f.i (by omega)).trans h7, (f.i (by omega)).trans h8, hm, h10.tr (f.mo (fun g i k q w => q.2.2.2.2.2 ⟨w.1, .inl w.2⟩))⟩
theorem ka_C.pc (H : ka_C sz p vs C σ0 s σ) (n : Nat) : ka_C sz p vs C σ0 (n, s.2) (ae_wI σ 21 0 12 (nI n)) := by
  obtain ⟨h1, h2, h3, h4, h5, h6, h7, h8, h9, h10⟩ := H
  have f : ma_fr (fun g _ k => ¬ (g = 21 ∧ k = 12)) σ (ae_wI σ 21 0 12 (nI n)) := ma_fwI (by simp)
  have r : (ae_wI σ 21 0 12 (nI n)).1 21 0 12 = nI n := ma_rI
  generalize ae_wI σ 21 0 12 (nI n) = τ at f r ⊢
  exact ⟨h1, h2.fr f (fun g i k q1 q2 => by omega), h3.fr f (fun _ => by omega) (fun _ _ => by omega) (fun _ _ => by omega) (fun _ _ => by omega) (fun _ _ => by omega), h4.fr f (by omega) (fun _ => by omega) (fun _ => by omega), h5.fr f (by omega) (fun i k h => by omega) (fun _ _ => by omega), h6.fr f (by omega) (fun _ => by omega), (f.i (by omega)).trans h7, r, fun k hk => (f.i (by omega)).trans (h9 k hk), h10.tr (f.mo (fun g i k q => by unfold kaF at q; omega))⟩
theorem ka_C.push {v : ka_V} (H : ka_C sz p vs C σ0 s σ) (hc : ka_cn v) (e : ka_push v s = some s') : ma_wp (F_X4_push v.1 (mv_bI v.2) σ) (fun _ τ => ka_C sz p vs C σ0 s' τ) := by
  unfold ka_push at e
  split at e
  · rename_i h
    have e := Option.some.inj e
    rw [← e]
    exact ma_mono (kaV_push H.2.2.2.1 h hc) (fun _ τ q => H.st q.2 q.1)
  · cases e
theorem ka_C.pop {v : ka_V} {st : List ka_V} (H : ka_C sz p vs C σ0 s σ) (e : s.2.1 = v :: st) : F_X4_topIsFloat σ = some (mv_bI v.2, σ) ∧ ka_cn v ∧ ma_wp (F_X4_pop σ) (fun r τ => r = v.1 ∧ ka_C sz p vs C σ0 (s.1, st, s.2.2) τ) := by
  have V := H.2.2.2.1
  rw [e] at V
  exact ⟨kaV_float V, V.2.2.1 v List.mem_cons_self, ma_mono (kaV_pop V) (fun r τ q => ⟨q.1, H.st (q.2.2.mo (fun g i k w => w.1)) q.2.1⟩)⟩
theorem ka_C.meet {t : Int32} (H : ka_C sz p vs C σ0 s σ) (ht : s.2.2.2.2.2.1 < 2 ^ 30) (e : ka_meet t s.2.2.2.1 s.2.2.2.2.2 = some s') : ma_wp (F_X4_meet t σ) (fun _ τ => ka_C sz p vs C σ0 s' τ) := by
  obtain ⟨y, e1, e⟩ := Option.bind_eq_some_iff.mp e
  obtain ⟨L, eL⟩ := List.getLast?_eq_some_iff.mp e1
  have e := Option.some.inj e
  obtain ⟨h1, h2, h3, h4, h5, h6, h7, h8, h9, h10⟩ := H
  rw [eL] at h5 e
  refine ma_mono (kaMeet h5 ht h6) (fun _ τ q => ?_)
  obtain ⟨q1, q2, q3, q4, q5, q6, f⟩ := q
  have hy := h1.2.2 y (by rw [eL]; simp)
  rw [← e]
  refine ⟨⟨hy.1, hy.2, fun l hl => h1.2.2 l ?_⟩, h2.fr f (fun g i k w1 w2 => by unfold kaF; omega), h3.fr f (fun _ => by unfold kaF; omega) (fun _ _ => by unfold kaF; omega) (fun _ _ => by unfold kaF; omega) (fun _ _ => by unfold kaF; omega) (fun _ _ => by unfold kaF; omega), q1, q2, q3, q4, q5, q6, h10.tr f⟩
  rw [eL]
  have hl : l ∈ (if (L ++ [y]).length = 1 then L ++ [y] else (L ++ [y]).dropLast) := hl
  split at hl
  · exact hl
  · rw [List.dropLast_concat] at hl
    exact List.mem_append_left _ hl
/-- a view that a step names -/
theorem ka_vw (H : ka_C sz p vs C σ0 s σ) (hW : mv_W sz vs) {v : Nat} {w : mv_V} (e1 : ka_in x.toInt32 vs.length = some v) (e2 : vs[v]? = some w) : F_X6_get x.toInt32 σ = some (some (mv_at p v), σ) ∧ mv_C1 (mv_at p v) w σ ∧ mv_W1 sz w := by
  obtain ⟨ex, hv⟩ := ka_inS e1
  rw [ex]
  exact ⟨mv_getS H.2.2.1 hW.1 hv, H.2.2.1.2.2.2.2 v w e2, hW.at e2⟩
theorem ka_toW {i : ka_V} (hc : ka_cn i) (h : i.2 = true) (σ : ae_S) : F_X2_toWhole i.1 σ = some (ka_wh i, σ) := by
  have g := mg_toWhole i.1.toUInt64 σ
  rw [hc h] at g
  rw [ka_wh, if_pos h]
  exact g
theorem ka_opIx (H : ka_C sz p vs C σ0 s σ) (hW : mv_W sz vs) (ht : s.2.2.2.2.2.1 < 2 ^ 30) (e : ka_ix vs x s = some s') : ∃ j, F_X6_get x.toInt32 σ = some (some j, σ) ∧ ma_wp (F_X4_checkIndex j σ) (fun _ τ => ka_C sz p vs C σ0 s' τ) := by
  obtain ⟨pc, st, m, lv, dn, tr⟩ := s
  unfold ka_ix at e
  cases st with
  | nil => cases e
  | cons i st =>
    have e : ((ka_in x.toInt32 vs.length).bind fun v => (vs[v]?).bind fun w => if 0 ≤ (ka_wh i).toInt ∧ (ka_wh i).toInt < mv_ct w then ka_push (ka_wh i, false) (pc, st, m, lv, dn, tr) else ka_meet 1 lv tr) = some s' := e
    obtain ⟨v, e1, e⟩ := Option.bind_eq_some_iff.mp e
    obtain ⟨w, e2, e⟩ := Option.bind_eq_some_iff.mp e
    refine ⟨mv_at p v, (ka_vw H hW e1 e2).1, ?_⟩
    obtain ⟨p1, p2, p3⟩ := H.pop (v := i) (st := st) rfl
    unfold F_X4_checkIndex
    refine ma_be p1 (ma_bd p3 (fun r φ q => ?_))
    obtain ⟨rfl, H1⟩ := q
    obtain ⟨_, c1, hw⟩ := ka_vw H1 hW e1 e2
    have fin : ma_wp (F_X4_checkIndex_19 (mv_at p v) (ka_wh i) φ) (fun _ τ => ka_C sz p vs C σ0 s' τ) := by
      unfold F_X4_checkIndex_19 F_X4_checkIndex_40 F_X4_checkIndex_45
      refine ma_be (ml_hasEl _ hw c1) ?_
      by_cases hc : 0 ≤ (ka_wh i).toInt ∧ (ka_wh i).toInt < mv_ct w
      · rw [if_pos hc] at e ⊢
        exact ma_F ma_01 (ma_bd (H1.push (v := (ka_wh i, false)) (fun h => by cases h) e) (fun _ τ q => ma_ret q))
      · rw [if_neg hc] at e ⊢
        exact ma_T rfl (ma_bd (H1.meet ht e) (fun _ τ q => ma_ret q))
    cases hi : i.2 with
    | false =>
      have : ka_wh i = i.1 := by unfold ka_wh; rw [hi]; rfl
      rw [this] at fin
      exact ma_T rfl fin
    | true => exact ma_F (by decide) (ma_be (ka_toW p2 hi φ) fin)
theorem ka_clr (H : ka_C sz p vs C σ0 s σ) (hs : sz ≤ 256) {j : Fin 32} {w : mv_V} {k : Nat} (hw : mv_W1 sz w) (hk : k < mv_ct w) (c : mv_C1 j w σ) : ma_wp (F_X9_clearIfRead j (nI k) σ) (fun _ τ => ka_C sz p vs C σ0 (s.1, s.2.1, ka_cl w k s.2.2.1, s.2.2.2) τ) := by
  have ha : mv_ac w < 4 := hw.2.2.2.2.2.2.1
  unfold F_X9_clearIfRead F_X9_clearIfRead_15 ka_cl
  refine ma_en (mv_ac w) 3 c.2.2.2.2.2.2.1 rfl (by omega) (by decide) (fun q => ?_) (fun q => ?_)
  · rw [if_pos q]
    exact ma_bd (ml_layC hs hw hk c H.2.2.2.2.2.2.2.2.1) (fun _ τ d => ma_ret (H.me d.2 d.1 (ml_lay_by H.1.1) (ml_lay_z hw hk H.1.2.1)))
  · rw [if_neg q]
    exact ma_ret H
theorem ka_opLd (H : ka_C sz p vs C σ0 s σ) (hW : mv_W sz vs) (hs : sz ≤ 256) (e : ka_ld vs x f s = some s') : ∃ j, F_X6_get x.toInt32 σ = some (some j, σ) ∧ ma_wp (F_X4_load j f σ) (fun _ τ => ka_C sz p vs C σ0 s' τ) := by
  obtain ⟨pc, st, m, lv, dn, tr⟩ := s
  unfold ka_ld at e
  cases st with
  | nil => cases e
  | cons i st =>
    have e : ((ka_in x.toInt32 vs.length).bind fun v => (vs[v]?).bind fun w => (ka_in i.1.toInt32 (mv_ct w)).bind fun k => (ka_fd w f (ml_bits m w k)).bind fun y => ka_push y (pc, st, ka_cl w k m, lv, dn, tr)) = some s' := e
    obtain ⟨v, e1, e⟩ := Option.bind_eq_some_iff.mp e
    obtain ⟨w, e2, e⟩ := Option.bind_eq_some_iff.mp e
    obtain ⟨k, e3, e⟩ := Option.bind_eq_some_iff.mp e
    obtain ⟨y, e4, e⟩ := Option.bind_eq_some_iff.mp e
    refine ⟨mv_at p v, (ka_vw H hW e1 e2).1, ?_⟩
    obtain ⟨_, _, p3⟩ := H.pop (v := i) (st := st) rfl
    obtain ⟨ek, hk⟩ := ka_inS e3
    unfold ka_push at e
    have hl : st.length < 252 := by
      split at e
      · assumption
      · cases e
    rw [if_pos (show (pc, st, ka_cl w k m, lv, dn, tr).2.1.length < 252 from hl)] at e
    have e := Option.some.inj e
    have ep : ka_push y (pc, st, m, lv, dn, tr) = some (pc, y :: st, m, lv, dn, tr) := by
      unfold ka_push
      rw [if_pos (show (pc, st, m, lv, dn, tr).2.1.length < 252 from hl)]
    unfold F_X4_load
    refine ma_bd p3 (fun r φ q => ?_)
    obtain ⟨rfl, H1⟩ := q
    obtain ⟨_, c1, hw⟩ := ka_vw H1 hW e1 e2
    rw [ek]
    refine ma_be (ml_bitsAt hs hw hk c1 H1.2.2.2.2.2.2.2.2.1) ?_
    have fin : ∀ φ, ka_C sz p vs C σ0 (pc, y :: st, m, lv, dn, tr) φ → ma_wp (F_X4_load_59 (mv_at p v) (nI k) φ) (fun _ τ => ka_C sz p vs C σ0 s' τ) := by
      intro φ H2
      obtain ⟨_, c2, _⟩ := ka_vw H2 hW e1 e2
      unfold F_X4_load_59
      refine ma_bd (ka_clr H2 hs hw hk c2) (fun _ τ q => ma_ret ?_)
      rw [← e]
      exact q
    have hx : ∃ n, n < 2 ^ (8 * mv_by (mv_kd w)) ∧ ml_bits m w k = lN n := mg_bits H.1.1 w k (mv_byle _ hw.1).2
    unfold ka_fd at e4
    by_cases hf : f = -1
    · rw [if_pos hf] at e4
      have e4 := Option.some.inj e4
      refine ma_T hf (ma_be (mg_valC hw c1 hx) (mv_kk c1.2.1 hw.1 ?_))
      rw [mv_kF _ hw.1]
      refine ma_bd (H1.push (v := y) ?_ ep) (fun _ φ q => fin φ q) |> fun h => by rw [← e4] at h; exact h
      rw [← e4]
      intro h
      have h7 := of_decide_eq_true h
      show ae_db (mg_vl (mv_kd w) (ml_bits m w k)).toUInt64 = mg_vl (mv_kd w) (ml_bits m w k)
      unfold mg_vl
      rw [if_pos h7]
      have g1 := mg_plain (ae_db (mg_fl (mv_kd w) (ml_bits m w k))) σ
      rw [mg_plainD] at g1
      exact (congrArg Prod.fst (Option.some.inj g1)).symm
    · rw [if_neg hf] at e4
      obtain ⟨n, e5, e4⟩ := Option.bind_eq_some_iff.mp e4
      obtain ⟨q, e6, e4⟩ := Option.bind_eq_some_iff.mp e4
      obtain ⟨en, _⟩ := ka_inS e5
      have e4 := Option.some.inj e4
      refine ma_F hf ?_
      rw [en]
      refine ma_be (ml_fieldC _ hw e6 c1) ?_
      have h := ma_bd (H1.push (v := y) (by rw [← e4]; intro h; cases h) ep) (fun _ φ q => fin φ q)
      rw [← e4] at h
      exact h
theorem ka_canon (d : UInt64) : ka_cn (ae_db d, true) := fun _ => by
  have g1 := mg_plain (ae_db d) (fun _ _ _ => 0, fun _ _ _ => 0, fun _ _ _ => 0, fun _ _ _ => none)
  rw [mg_plainD] at g1
  exact (congrArg Prod.fst (Option.some.inj g1)).symm
theorem ka_wfC {sz n : Nat} {w : mv_V} {q : mv_F} {j : Fin 32} {σ : ae_S} (x y : Int64) (hw : mv_W1 sz w) (h : (mv_fs w)[n]? = some q) (c : mv_C1 j w σ) : F_X9_withField j (nI n) x y σ = some (ka_mix x y q, σ) := by
  obtain ⟨b1, b2, b3, b4, b5⟩ := mv_fB hw h
  have h3 := hw.2.2.2.2.2.2.2.1
  obtain ⟨f1, f2, f3⟩ := c.2.2.2.2.2.2.2.2 n q h
  have ib : ae_ib (nI n) 8 = true := ma_ib n rfl b4 (by decide)
  refine ma_eq ?_
  unfold F_X9_withField
  refine ma_be (r := 1) (s := σ) (ma_eq ?_) (ma_F ma_01 (ma_be (r := lN (2 ^ (q.2.2 - q.2.1 + 1) - 1)) (s := σ) (ma_eq ?_) (ma_gd ib (ma_gd ib (ma_ret ⟨?_, rfl⟩)))))
  · unfold F_X9_hasField F_X9_hasField_23
    exact ma_F (nI_pos (by omega)) (ma_F (by rw [c.2.2.2.2.2.2.2.1]; exact nI_ge b5 (by omega)) (ma_F (nI_ge (b := 8) b4 (by decide)) (ma_gd ma_z1 (ma_ret ⟨rfl, rfl⟩))))
  · unfold F_X9_maskOf
    refine ma_gd ib (ma_gd ib (ma_ret ⟨?_, rfl⟩))
    rw [nI_clamp (by omega), f2, f3]
    exact ml_mask b1 b2 b3
  · rw [nI_clamp (by omega), f2, ka_shand _ _ (by omega)]
    rfl
theorem ka_opSt (H : ka_C sz p vs C σ0 s σ) (hW : mv_W sz vs) (hs : sz ≤ 256) (ht : s.2.2.2.2.2.1 < 2 ^ 30) (e : ka_sto vs x f s = some s') : ∃ j, F_X6_get x.toInt32 σ = some (some j, σ) ∧ ma_wp (F_X4_store j f σ) (fun _ τ => ka_C sz p vs C σ0 s' τ) := by
  obtain ⟨pc, st, m, lv, dn, tr⟩ := s
  unfold ka_sto at e
  match st, e with
  | [], e => cases e
  | [_], e => cases e
  | a :: i :: st, e =>
    have e : ((ka_in x.toInt32 vs.length).bind fun v => (vs[v]?).bind fun w => if mv_ac w = 1 then ka_meet 3 lv tr else (ka_in i.1.toInt32 (mv_ct w)).bind fun k => (ka_wf w f a (ml_bits m w k)).bind fun y => some (pc, st, ml_put m w k y, lv, dn + 1, tr)) = some s' := e
    obtain ⟨v, e1, e⟩ := Option.bind_eq_some_iff.mp e
    obtain ⟨w, e2, e⟩ := Option.bind_eq_some_iff.mp e
    refine ⟨mv_at p v, (ka_vw H hW e1 e2).1, ?_⟩
    obtain ⟨p1, p2, p3⟩ := H.pop (v := a) (st := i :: st) rfl
    unfold F_X4_store
    refine ma_be p1 (ma_bd p3 (fun r φ q => ?_))
    obtain ⟨rfl, H1⟩ := q
    obtain ⟨_, _, p6⟩ := H1.pop (v := i) (st := st) rfl
    refine ma_bd p6 (fun r ψ q => ?_)
    obtain ⟨rfl, H2⟩ := q
    obtain ⟨_, c, hw⟩ := ka_vw H2 hW e1 e2
    refine ma_be (ml_isRO hw c) ?_
    by_cases ro : mv_ac w = 1
    · rw [if_pos ro] at e ⊢
      exact ma_F ma_01 (ma_bd (H2.meet ht e) (fun _ τ q => ma_ret q))
    · rw [if_neg ro] at e ⊢
      obtain ⟨k, e3, e⟩ := Option.bind_eq_some_iff.mp e
      obtain ⟨y, e4, e⟩ := Option.bind_eq_some_iff.mp e
      have e := Option.some.inj e
      obtain ⟨ek, hk⟩ := ka_inS e3
      rw [ek]
      have fin : ∀ y', mg_ag (mv_kd w) y' y → ma_wp (ae_bd (F_X9_put (mv_at p v) (nI k) y' ψ) (fun (_ : Unit) s46 => F_X4_store_104 s46)) (fun _ τ => ka_C sz p vs C σ0 s' τ) := by
        intro y' ag
        refine ma_bd (ml_putC hs hw hk c H2.2.2.2.2.2.2.2.2.1) (fun _ τ d => ?_)
        have H3 := H2.me d.2 d.1 (ml_put_by H2.1.1) (ml_put_z hw hk H2.1.2.1)
        unfold F_X4_store_104
        have e11 : τ.1 21 0 11 = nI dn := H3.2.2.2.2.2.2.1
        rw [e11, nI_1]
        refine ma_lt (ma_ret ?_)
        obtain ⟨h1, h2, h3, h4, h5, h6, h7, h8, h9, h10⟩ := H3
        have g : ma_fr (fun g _ k => ¬ (g = 21 ∧ k = 11)) τ (ae_wI τ 21 0 11 (nI (dn + 1))) := ma_fwI (by simp)
        have r : (ae_wI τ 21 0 11 (nI (dn + 1))).1 21 0 11 = nI (dn + 1) := ma_rI
        generalize ae_wI τ 21 0 11 (nI (dn + 1)) = υ at g r ⊢
        rw [← e, ← mg_put ag]
        exact ⟨h1, h2.fr g (fun g i k q1 q2 => by omega), h3.fr g (fun _ => by omega) (fun _ _ => by omega) (fun _ _ => by omega) (fun _ _ => by omega) (fun _ _ => by omega), h4.fr g (by omega) (fun _ => by omega) (fun _ => by omega), h5.fr g (by omega) (fun i k h => by omega) (fun _ _ => by omega), h6.fr g (by omega) (fun _ => by omega), r, (g.i (by omega)).trans h8, fun k hk => (g.i (by omega)).trans (h9 k hk), h10.tr (g.mo (fun g i k q => by unfold kaF at q; omega))⟩
      refine ma_T rfl ?_
      unfold ka_wf at e4
      by_cases hf : f = -1
      · rw [if_pos hf] at e4
        have e4 := Option.some.inj e4
        refine ma_T hf ?_
        unfold F_X9_bitsOfValue F_X9_bitsOfValue_17
        cases ha : a.2 with
        | true =>
          rw [ha, if_pos (c := true = true) rfl] at e4
          obtain ⟨y', hy, ag⟩ := mg_bfC (mg_Rraw a.1) hw c
          rw [e4] at ag
          exact ma_bd (P := fun r τ => r = y' ∧ τ = ψ) (ma_F (by decide) (ma_be hy (ma_ret ⟨rfl, rfl⟩))) (fun r τ q => by rw [q.1, q.2]; exact fin y' ag)
        | false =>
          rw [ha, if_neg (c := false = true) (by decide)] at e4
          obtain ⟨y', hy, ag⟩ := mg_bwC a.1 hw c
          rw [e4] at ag
          exact ma_bd (P := fun r τ => r = y' ∧ τ = ψ) (ma_T rfl (ma_be hy (ma_ret ⟨rfl, rfl⟩))) (fun r τ q => by rw [q.1, q.2]; exact fin y' ag)
      · rw [if_neg hf] at e4
        obtain ⟨n, e5, e4⟩ := Option.bind_eq_some_iff.mp e4
        obtain ⟨q, e6, e4⟩ := Option.bind_eq_some_iff.mp e4
        obtain ⟨en, _⟩ := ka_inS e5
        have e4 := Option.some.inj e4
        refine ma_F hf ?_
        have st75 : ma_wp (F_X4_store_75 (mv_at p v) f (nI k) (ka_wh a) ψ) (fun _ τ => ka_C sz p vs C σ0 s' τ) := by
          unfold F_X4_store_75
          rw [en]
          refine ma_be (ml_bitsAt hs hw hk c H2.2.2.2.2.2.2.2.2.1) (ma_be (ka_wfC _ _ hw e6 c) ?_)
          exact fin _ (by rw [← e4]; exact mg_agr _ _)
        cases ha : a.2 with
        | true => exact ma_F (by decide) (ma_be (ka_toW p2 ha ψ) st75)
        | false =>
          have : ka_wh a = a.1 := by unfold ka_wh; rw [ha]; rfl
          rw [this] at st75
          exact ma_T rfl st75
end KA
