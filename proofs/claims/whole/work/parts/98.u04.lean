/-! the class's machine: what is left of its steps -/
section KA
variable {σ τ σ0 : ae_S} {sz p : Nat} {vs : List mv_V} {C : ks_E} {s s' : ka_S} {x : Int64} {f : Int32}
theorem ka_opNg (H : ka_C sz p vs C σ0 s σ) (e : ka_neg s = some s') : ma_wp (F_X4_negate σ) (fun _ τ => ka_C sz p vs C σ0 s' τ) := by
  obtain ⟨pc, st, m, lv, dn, tr⟩ := s
  unfold ka_neg at e
  cases st with
  | nil => cases e
  | cons a st =>
    have e : ka_push (ka_ng a) (pc, st, m, lv, dn, tr) = some s' := e
    obtain ⟨p1, p2, p3⟩ := H.pop (v := a) (st := st) rfl
    unfold F_X4_negate F_X4_negate_24
    refine ma_be p1 (ma_bd p3 (fun r φ q => ?_))
    obtain ⟨rfl, H1⟩ := q
    unfold ka_ng at e
    cases ha : a.2 with
    | false =>
      rw [ha, if_neg (c := false = true) (by decide)] at e
      exact ma_T rfl (ma_bd (H1.push (v := (-a.1, false)) (fun h => by cases h) e) (fun _ τ q => ma_ret q))
    | true =>
      rw [ha, if_pos (c := true = true) rfl] at e
      have g := mg_neg a.1.toUInt64 φ
      rw [p2 ha] at g
      exact ma_F (by decide) (ma_be g (ma_bd (H1.push (v := (ae_db (FP.dneg a.1.toUInt64), true)) (ka_canon _) e) (fun _ τ q => ma_ret q)))
theorem ka_opUn (H : ka_C sz p vs C σ0 s σ) (e : ka_un x s = some s') : ma_wp (F_X4_leapUnless x.toInt32 σ) (fun _ τ => ka_C sz p vs C σ0 s' τ) := by
  obtain ⟨pc, st, m, lv, dn, tr⟩ := s
  unfold ka_un at e
  cases st with
  | nil => cases e
  | cons a st =>
    have e : @ite _ (ka_z a) (Classical.propDecidable _) ((ka_in x.toInt32 2000).bind fun k => some (k, st, m, lv, dn, tr)) (some (pc, st, m, lv, dn, tr)) = some s' := e
    obtain ⟨p1, p2, p3⟩ := H.pop (v := a) (st := st) rfl
    unfold F_X4_leapUnless F_X4_leapUnless_30 F_X4_leapUnless_35
    refine ma_be p1 (ma_bd p3 (fun r φ q => ?_))
    obtain ⟨rfl, H1⟩ := q
    have zy : ka_z a → ma_wp (ae_lt (ae_wI φ 21 0 12 x.toInt32) (fun s1 => some ((), s1))) (fun _ τ => ka_C sz p vs C σ0 s' τ) := fun hz => by
      rw [if_pos hz] at e
      obtain ⟨k, e1, e⟩ := Option.bind_eq_some_iff.mp e
      have e := Option.some.inj e
      rw [(ka_inS e1).1, ← e]
      exact ma_lt (ma_ret (H1.pc k))
    have zn : ¬ ka_z a → ma_wp (some ((), φ)) (fun (_ : Unit) τ => ka_C sz p vs C σ0 s' τ) := fun hz => by
      rw [if_neg hz] at e
      have e := Option.some.inj e
      rw [← e]
      exact ma_ret H1
    cases ha : a.2 with
    | false =>
      have ez : ka_z a ↔ a.1 = 0 := by unfold ka_z; rw [ha]; exact Iff.rfl
      exact ma_T rfl (ma_if (fun q => zy (ez.mpr ((lg_cmp_eq _ _).mp q))) (fun q => zn (fun h => q ((lg_cmp_eq _ _).mpr (ez.mp h)))))
    | true =>
      have ez : ka_z a ↔ FP.dcmp a.1.toUInt64 FP.dconst0 = some .eq := by unfold ka_z; rw [ha]; exact Iff.rfl
      have g := ka_isZ a.1.toUInt64 φ
      rw [p2 ha] at g
      refine ma_F (by decide) (ma_be g ?_)
      by_cases hz : FP.dcmp a.1.toUInt64 FP.dconst0 = some .eq
      · rw [if_pos hz]
        exact ma_F ma_01 (zy (ez.mpr hz))
      · rw [if_neg hz]
        exact ma_T rfl (zn (fun h => hz (ez.mp h)))
theorem ka_C.lv (H : ka_C sz p vs C σ0 s σ) {lv : List ka_L} (f : ma_fr (fun g i k => ¬ (g = 21 ∧ k = 10) ∧ g ≠ 25 ∧ ¬ (g = 4 ∧ 10 ≤ i.val)) σ τ) (L : kaL lv τ) (hl : ∀ l ∈ lv, (∀ k, mb_by (l.1 k)) ∧ ∀ k, sz ≤ k → l.1 k = 0) : ka_C sz p vs C σ0 (s.1, s.2.1, s.2.2.1, lv, s.2.2.2.2) τ := by
  obtain ⟨h1, h2, h3, h4, h5, h6, h7, h8, h9, h10⟩ := H
  exact ⟨⟨h1.1, h1.2.1, hl⟩, h2.fr f (fun g i k q1 q2 => by omega), h3.fr f (fun _ => by omega) (fun _ _ => by omega) (fun _ _ => by omega) (fun _ _ => by omega) (fun _ _ => by omega), h4.fr f (by omega) (fun _ => by omega) (fun _ => by omega), L, h6.fr f (by omega) (fun _ => by omega), (f.i (by omega)).trans h7, (f.i (by omega)).trans h8, fun k hk => (f.i (by simp)).trans (h9 k hk), h10.tr (f.mo (fun g i k q => by unfold kaF at q; omega))⟩
theorem ka_opOp (H : ka_C sz p vs C σ0 s σ) (e : ka_open x s = some s') : ma_wp (F_X4_openLevel (σ.1 21 0 10 + 1) x.toInt32 σ) (fun _ τ => ka_C sz p vs C σ0 s' τ) := by
  unfold ka_open at e
  split at e
  · rename_i hl
    obtain ⟨k, e1, e⟩ := Option.bind_eq_some_iff.mp e
    have e := Option.some.inj e
    have h10 : σ.1 21 0 10 + 1 = nI s.2.2.2.1.length := by
      rw [H.2.2.2.2.1.1, nI_1, show s.2.2.2.1.length - 1 + 1 = s.2.2.2.1.length by omega]
    rw [h10, (ka_inS e1).1, ← e]
    refine ma_mono (kaL_open (L := s.2.2.2.1) (m := s.2.2.1) H.2.2.2.2.1 hl.2 rfl (fun _ _ h => h) H.2.2.2.2.2.2.2.2.1 H.2.2.2.2.2.2.1) (fun _ τ q => H.lv q.2 q.1 (fun l h => ?_))
    rcases List.mem_append.mp h with h | h
    · exact H.1.2.2 l h
    · rw [List.mem_singleton.mp h]
      exact ⟨H.1.1, H.1.2.1⟩
  · cases e
theorem ka_opSm (H : ka_C sz p vs C σ0 s σ) {N : Nat} (e : ka_stat N s = some s') : ma_wp (F_X4_openLevel 0 (nI N) σ) (fun _ τ => ka_C sz p vs C σ0 s' τ) := by
  have e := Option.some.inj e
  rw [← e]
  refine ma_mono (kaL_open (n := 0) (L := []) (m := s.2.2.1) H.2.2.2.2.1 (by decide) rfl (fun _ _ h => by simp at h) H.2.2.2.2.2.2.2.2.1 H.2.2.2.2.2.2.1) (fun _ τ q => H.lv q.2 q.1 (fun l h => ?_))
  rw [List.mem_singleton.mp h]
  exact ⟨H.1.1, H.1.2.1⟩
theorem ka_opCl (H : ka_C sz p vs C σ0 s σ) (e : ka_close s = some s') : ka_C sz p vs C σ0 s' (ae_wI σ 21 0 10 (if (σ.1 21 0 10 - 1) < (0 : Int32) then (0 : Int32) else (σ.1 21 0 10 - 1))) := by
  unfold ka_close at e
  split at e
  · rename_i hl
    have e := Option.some.inj e
    have h5 := H.2.2.2.2.1
    have h6 := h5.2.1
    have e5 : (if σ.1 21 0 10 - 1 < (0 : Int32) then (0 : Int32) else σ.1 21 0 10 - 1) = nI (s.2.2.2.1.dropLast.length - 1) := by
      rw [h5.1, List.length_dropLast, show nI (s.2.2.2.1.length - 1) - 1 = nI (s.2.2.2.1.length - 1 - 1) by rw [← nI_pred (s.2.2.2.1.length - 1 - 1), show s.2.2.2.1.length - 1 - 1 + 1 = s.2.2.2.1.length - 1 by omega], if_neg (nI_pos (by omega))]
    rw [e5, ← e]
    have f : ma_fr (fun g i k => ¬ (g = 21 ∧ k = 10)) σ (ae_wI σ 21 0 10 (nI (s.2.2.2.1.dropLast.length - 1))) := ma_fwI (by simp)
    have r : (ae_wI σ 21 0 10 (nI (s.2.2.2.1.dropLast.length - 1))).1 21 0 10 = nI (s.2.2.2.1.dropLast.length - 1) := ma_rI
    generalize ae_wI σ 21 0 10 (nI (s.2.2.2.1.dropLast.length - 1)) = τ at f r ⊢
    have hsub : ∀ (i : Nat) (l : ka_L), s.2.2.2.1.dropLast[i]? = some l → s.2.2.2.1[i]? = some l := fun i l h => by
      rw [List.getElem?_dropLast] at h
      split at h
      · exact h
      · cases h
    refine H.lv (f.mo (fun g i k q => q.1)) ⟨r, by rw [List.length_dropLast]; omega, fun i l h => ?_⟩ (fun l h => ?_)
    · have hi := (List.getElem?_eq_some_iff.mp (hsub i l h)).1
      have g := h5.2.2 i l (hsub i l h)
      exact ⟨fun k hk => (f.i (by omega)).trans (g.1 k hk), (f.i (by omega)).trans g.2.1, (f.i (by omega)).trans g.2.2⟩
    · obtain ⟨i, hi⟩ := List.getElem?_of_mem h
      exact H.1.2.2 l (List.mem_of_getElem? (hsub i l hi))
  · cases e
theorem ka_truth (H : ka_C sz p vs C σ0 s σ) {r : Int32} {v : Int64} (h : (r = 0 ∧ v = 0) ∨ (r ≠ 0 ∧ v = 1)) (e : ka_push (v, false) s = some s') : ma_wp (F_X4_pushTruth r σ) (fun _ τ => ka_C sz p vs C σ0 s' τ) := by
  unfold F_X4_pushTruth F_X4_pushTruth_10
  rcases h with ⟨h1, rfl⟩ | ⟨h1, rfl⟩
  · exact ma_T h1 (ma_bd (H.push (v := (0, false)) (fun h => by cases h) e) (fun _ τ q => ma_ret q))
  · exact ma_F h1 (ma_bd (H.push (v := (1, false)) (fun h => by cases h) e) (fun _ τ q => ma_ret q))
theorem ka_gt (X Y : UInt64) : FP.dcmp Y X = some .lt ↔ FP.dcmp X Y = some .gt := by
  have h : FP.dcmp Y X = (FP.dcmp X Y).map Ordering.swap := FP.Core.dcmp_swap X Y
  rw [h]
  cases FP.dcmp X Y with
  | none => simp
  | some o => cases o <;> simp [Ordering.swap]
theorem ka_opF (H : ka_C sz p vs C σ0 s σ) {q : Int32} {X Y : UInt64} (e : ka_push (ka_fb q X Y) s = some s') : ma_wp (F_X4_combineFloats q (ae_db X) (ae_db Y) σ) (fun _ τ => ka_C sz p vs C σ0 s' τ) := by
  unfold F_X4_combineFloats F_X4_combineFloats_157
  unfold ka_fb at e
  by_cases h7 : q = 7
  · rw [if_pos h7] at e
    exact ma_T h7 (ma_be (mg_less X Y σ) (ma_bd (ka_truth H (by by_cases hc : FP.dcmp X Y = some .lt <;> simp [hc]) e) (fun _ τ q => ma_ret q)))
  rw [if_neg h7] at e
  refine ma_F h7 ?_
  by_cases h8 : q = 8
  · rw [if_pos h8] at e
    refine ma_T h8 (ma_be (mg_less Y X σ) (ma_bd (ka_truth H ?_ e) (fun _ τ q => ma_ret q)))
    by_cases hc : FP.dcmp X Y = some .gt
    · rw [if_pos hc, if_pos ((ka_gt X Y).mpr hc)]
      exact .inr ⟨by decide, rfl⟩
    · rw [if_neg hc, if_neg (fun h => hc ((ka_gt X Y).mp h))]
      exact .inl ⟨rfl, rfl⟩
  rw [if_neg h8] at e
  refine ma_F h8 ?_
  by_cases h10 : q = 10
  · rw [if_pos h10] at e
    exact ma_T h10 (ma_be (mg_add X Y σ) (ma_bd (H.push (v := (ae_db (FP.dadd X Y), true)) (ka_canon _) e) (fun _ τ q => ma_ret q)))
  rw [if_neg h10] at e
  refine ma_F h10 ?_
  by_cases h11 : q = 11
  · rw [if_pos h11, ← mg_sub] at e
    exact ma_T h11 (ma_be (mg_neg Y σ) (ma_be (mg_add X (FP.dneg Y) σ) (ma_bd (H.push (v := (ae_db (FP.dadd X (FP.dneg Y)), true)) (ka_canon _) e) (fun _ τ q => ma_ret q))))
  rw [if_neg h11] at e
  refine ma_F h11 ?_
  by_cases h12 : q = 12
  · rw [if_pos h12] at e
    exact ma_T h12 (ma_be (mg_mul X Y σ) (ma_bd (H.push (v := (ae_db (FP.dmul X Y), true)) (ka_canon _) e) (fun _ τ q => ma_ret q)))
  rw [if_neg h12] at e
  refine ma_F h12 ?_
  by_cases h13 : q = 13
  · rw [if_pos h13] at e
    exact ma_T h13 (ma_be (mg_div X Y σ) (ma_bd (H.push (v := (ae_db (FP.ddiv X Y), true)) (ka_canon _) e) (fun _ τ q => ma_ret q)))
  rw [if_neg h13] at e
  refine ma_F h13 ?_
  by_cases h14 : q = 14
  · rw [if_pos h14] at e
    exact ma_T h14 (ma_be (mg_rem X Y σ) (ma_bd (H.push (v := (ae_db (FP.drem X Y), true)) (ka_canon _) e) (fun _ τ q => ma_ret q)))
  rw [if_neg h14] at e
  exact ma_F h14 (ma_be (mg_alike X Y σ) (ma_bd (ka_truth H (by by_cases hc : FP.dcmp X Y = some .eq <;> simp [hc]) e) (fun _ τ q => ma_ret q)))
def ka_wr (o : Option ka_V) (s : ka_S) : Option ka_S := match o with
  | some v => ka_push v s
  | none => ka_meet 2 s.2.2.2.1 s.2.2.2.2.2
theorem ka_opW (H : ka_C sz p vs C σ0 s σ) (ht : s.2.2.2.2.2.1 < 2 ^ 30) {q : Int32} {a b : Int64} (e : ka_wr (ka_wb q a b) s = some s') : ma_wp (F_X4_combineWholes q a b σ) (fun _ τ => ka_C sz p vs C σ0 s' τ) := by
  unfold F_X4_combineWholes F_X4_combineWholes_118 F_X4_combineWholes_137 F_X4_combineWholes_156 F_X4_combineWholes_159
  unfold ka_wb at e
  by_cases h7 : q = 7
  · rw [if_pos h7] at e
    have e : ka_push (if 0 ≤ lg_cmp a b then 0 else 1, false) s = some s' := e
    refine ma_T h7 ?_
    by_cases hc : 0 ≤ lg_cmp a b
    · rw [if_pos hc] at e
      exact ma_T hc (ma_bd (ka_truth H (.inl ⟨rfl, rfl⟩) e) (fun _ τ q => ma_ret q))
    · rw [if_neg hc] at e
      exact ma_F hc (ma_bd (ka_truth H (.inr ⟨by decide, rfl⟩) e) (fun _ τ q => ma_ret q))
  rw [if_neg h7] at e
  refine ma_F h7 ?_
  by_cases h8 : q = 8
  · rw [if_pos h8] at e
    have e : ka_push (if lg_cmp a b ≤ 0 then 0 else 1, false) s = some s' := e
    refine ma_T h8 ?_
    by_cases hc : lg_cmp a b ≤ 0
    · rw [if_pos hc] at e
      exact ma_T hc (ma_bd (ka_truth H (.inl ⟨rfl, rfl⟩) e) (fun _ τ q => ma_ret q))
    · rw [if_neg hc] at e
      exact ma_F hc (ma_bd (ka_truth H (.inr ⟨by decide, rfl⟩) e) (fun _ τ q => ma_ret q))
  rw [if_neg h8] at e
  refine ma_F h8 ?_
  by_cases h10 : q = 10
  · rw [if_pos h10] at e
    exact ma_T h10 (ma_bd (H.push (v := (a + b, false)) (fun h => by cases h) e) (fun _ τ q => ma_ret q))
  rw [if_neg h10] at e
  refine ma_F h10 ?_
  by_cases h11 : q = 11
  · rw [if_pos h11] at e
    exact ma_T h11 (ma_bd (H.push (v := (a - b, false)) (fun h => by cases h) e) (fun _ τ q => ma_ret q))
  rw [if_neg h11] at e
  refine ma_F h11 ?_
  by_cases h12 : q = 12
  · rw [if_pos h12] at e
    exact ma_T h12 (ma_bd (H.push (v := (a * b, false)) (fun h => by cases h) e) (fun _ τ q => ma_ret q))
  rw [if_neg h12] at e
  refine ma_F h12 ?_
  unfold F_X4_combineWholes_96 F_X4_divideWholes F_X4_divideWholes_31 F_X4_divideWholes_35 F_X4_combineWholes_159
  by_cases h13 : q = 13
  · rw [if_pos h13] at e
    refine ma_T h13 (ma_T h13 ?_)
    by_cases hc : lg_cmp b 0 = 0
    · rw [if_pos hc] at e
      exact ma_bd (ma_T hc (ma_bd (H.meet ht e) (fun _ τ q => ma_ret q))) (fun _ τ q => ma_ret q)
    · rw [if_neg hc] at e
      have hb : (!(decide (b = 0))) = true := by rw [decide_eq_false (fun h => hc ((lg_cmp_eq _ _).mpr h))]; rfl
      exact ma_bd (ma_F hc (ma_F ma_01 (ma_gd hb (ma_bd (H.push (v := (a / b, false)) (fun h => by cases h) e) (fun _ τ q => ma_ret q))))) (fun _ τ q => ma_ret q)
  rw [if_neg h13] at e
  refine ma_F h13 ?_
  by_cases h14 : q = 14
  · rw [if_pos h14] at e
    refine ma_T h14 (ma_F h13 ?_)
    by_cases hc : lg_cmp b 0 = 0
    · rw [if_pos hc] at e
      exact ma_bd (ma_T hc (ma_bd (H.meet ht e) (fun _ τ q => ma_ret q))) (fun _ τ q => ma_ret q)
    · rw [if_neg hc] at e
      have hb : (!(decide (b = 0))) = true := by rw [decide_eq_false (fun h => hc ((lg_cmp_eq _ _).mpr h))]; rfl
      exact ma_bd (ma_F hc (ma_T rfl (ma_gd hb (ma_bd (H.push (v := (a - a / b * b, false)) (fun h => by cases h) e) (fun _ τ q => ma_ret q))))) (fun _ τ q => ma_ret q)
  rw [if_neg h14] at e
  refine ma_F h14 ?_
  have e : ka_push (if lg_cmp a b = 0 then 1 else 0, false) s = some s' := e
  by_cases hc : lg_cmp a b = 0
  · rw [if_pos hc] at e
    exact ma_T hc (ma_bd (ka_truth H (.inr ⟨by decide, rfl⟩) e) (fun _ τ q => ma_ret q))
  · rw [if_neg hc] at e
    exact ma_F hc (ma_bd (ka_truth H (.inl ⟨rfl, rfl⟩) e) (fun _ τ q => ma_ret q))
theorem ka_opCm (H : ka_C sz p vs C σ0 s σ) (ht : s.2.2.2.2.2.1 < 2 ^ 30) {q : Int32} (e : ka_cmb q s = some s') : ma_wp (F_X4_combine q σ) (fun _ τ => ka_C sz p vs C σ0 s' τ) := by
  obtain ⟨pc, st, m, lv, dn, tr⟩ := s
  unfold ka_cmb at e
  match st, e with
  | [], e => cases e
  | [_], e => cases e
  | b :: a :: st, e =>
    have e : ka_wr (ka_bin q a b) (pc, st, m, lv, dn, tr) = some s' := by
      rw [← e]
      unfold ka_wr
      rfl
    obtain ⟨p1, p2, p3⟩ := H.pop (v := b) (st := a :: st) rfl
    unfold F_X4_combine F_X4_combine_82
    refine ma_be p1 (ma_bd p3 (fun r φ w => ?_))
    obtain ⟨rfl, H1⟩ := w
    obtain ⟨p4, p5, p6⟩ := H1.pop (v := a) (st := st) rfl
    refine ma_be p4 (ma_bd p6 (fun r ψ w => ?_))
    obtain ⟨rfl, H2⟩ := w
    unfold ka_bin at e
    have flt : ka_push (ka_fb q (ka_fl a) (ka_fl b)) (pc, st, m, lv, dn, tr) = some s' → ma_wp (F_X4_combine_31 q (mv_bI b.2) b.1 (mv_bI a.2) a.1 ψ) (fun _ τ => ka_C sz p vs C σ0 s' τ) := by
      intro e
      have f60 : ma_wp (F_X4_combine_60 q (ae_db (ka_fl a)) (ae_db (ka_fl b)) ψ) (fun _ τ => ka_C sz p vs C σ0 s' τ) := by
        unfold F_X4_combine_60 F_X4_combine_82
        exact ma_bd (ka_opF H2 e) (fun _ τ q => ma_ret q)
      have f46 : ma_wp (F_X4_combine_46 q (mv_bI b.2) b.1 (ae_db (ka_fl a)) ψ) (fun _ τ => ka_C sz p vs C σ0 s' τ) := by
        unfold F_X4_combine_46
        cases hb : b.2 with
        | false =>
          have : ka_fl b = FP.l2d b.1 := by unfold ka_fl; rw [hb]; rfl
          rw [this] at f60
          exact ma_T rfl (ma_be (mg_ofWhole b.1 ψ) f60)
        | true =>
          have : ka_fl b = b.1.toUInt64 := by unfold ka_fl; rw [hb]; rfl
          rw [this, p2 hb] at f60
          exact ma_F (by decide) f60
      unfold F_X4_combine_31
      cases ha : a.2 with
      | false =>
        have : ka_fl a = FP.l2d a.1 := by unfold ka_fl; rw [ha]; rfl
        rw [this] at f46
        exact ma_T rfl (ma_be (mg_ofWhole a.1 ψ) f46)
      | true =>
        have : ka_fl a = a.1.toUInt64 := by unfold ka_fl; rw [ha]; rfl
        rw [this, p5 ha] at f46
        exact ma_F (by decide) f46
    cases ha : a.2 with
    | false =>
      refine ma_T rfl ?_
      cases hb : b.2 with
      | false =>
        rw [ha, hb, if_neg (by simp)] at e
        exact ma_T rfl (ma_bd (ka_opW H2 ht e) (fun _ τ q => ma_ret q))
      | true =>
        rw [if_pos (.inr hb)] at e
        rw [ha, hb] at flt
        exact ma_F (by decide) (flt e)
    | true =>
      rw [if_pos (.inl ha)] at e
      rw [ha] at flt
      exact ma_F (by decide) (flt e)
end KA
