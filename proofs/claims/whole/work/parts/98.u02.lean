/-! the class's machine: values and levels -/
section KA
variable {σ τ σ0 : ae_S} {st : List ka_V} {v : ka_V} {P : Nat → Fin 32 → Nat → Prop} {lv : List ka_L} {m : Nat → Int32} {tr : mt_T}
def ka_cn (v : ka_V) : Prop := v.2 = true → ae_db v.1.toUInt64 = v.1
def kaV (st : List ka_V) (σ : ae_S) : Prop := σ.1 21 0 9 = nI st.length ∧ st.length ≤ 252 ∧ (∀ v ∈ st, ka_cn v) ∧ ∀ i v, st.reverse[i]? = some v → σ.2.1 22 0 i = v.1 ∧ σ.1 23 0 i = mv_bI v.2
def kaP (g : Nat) (_ : Fin 32) (k : Nat) : Prop := ¬ (g = 21 ∧ k = 9) ∧ g ≠ 22 ∧ g ≠ 23
theorem kaV.fr (H : kaV st σ) (f : ma_fr P σ τ) (p9 : P 21 0 9) (p22 : ∀ k, P 22 0 k) (p23 : ∀ k, P 23 0 k) : kaV st τ := ⟨(f.i p9).trans H.1, H.2.1, H.2.2.1, fun i v e => ⟨(f.l (p22 i)).trans (H.2.2.2 i v e).1, (f.i (p23 i)).trans (H.2.2.2 i v e).2⟩⟩
theorem kaV_push (H : kaV st σ) (h : st.length < 252) (hc : ka_cn v) : ma_wp (F_X4_push v.1 (mv_bI v.2) σ) (fun _ τ => kaV (v :: st) τ ∧ ma_fr kaP σ τ) := by
  unfold F_X4_push F_X4_push_49
  refine ma_F (by rw [H.1]; exact nI_pos (by omega)) (ma_F (by rw [H.1]; exact nI_ge (b := 252) h (by decide)) (ma_gd (ma_ib _ H.1 h (by decide)) ?_))
  rw [ma_cl (x := σ.1 21 0 9) _ H.1 (by omega)]
  refine ma_lt ?_
  have a1 : (ae_wL σ 22 0 st.length v.1).1 21 0 9 = nI st.length := H.1
  have b1 : (ae_wL σ 22 0 st.length v.1).2.1 22 0 st.length = v.1 := ma_rL
  have f1 : ma_fr (fun g _ k => ¬ (g = 22 ∧ k = st.length)) σ (ae_wL σ 22 0 st.length v.1) := ma_fwL (by simp)
  generalize ae_wL σ 22 0 st.length v.1 = σ1 at a1 b1 f1 ⊢
  refine ma_gd (ma_ib _ a1 h (by decide)) (ma_gd (mv_bz _) ?_)
  rw [ma_cl (x := σ1.1 21 0 9) _ a1 (by omega)]
  refine ma_lt ?_
  have a2 : (ae_wI σ1 23 0 st.length (mv_bI v.2)).1 21 0 9 = nI st.length := (ma_rIn (by simp)).trans a1
  have b2 : (ae_wI σ1 23 0 st.length (mv_bI v.2)).2.1 22 0 st.length = v.1 := b1
  have c2 : (ae_wI σ1 23 0 st.length (mv_bI v.2)).1 23 0 st.length = mv_bI v.2 := ma_rI
  have f2 : ma_fr (fun g _ k => ¬ ((g = 22 ∨ g = 23) ∧ k = st.length)) σ (ae_wI σ1 23 0 st.length (mv_bI v.2)) := (f1.mo (fun g i k q => by omega)).tr (ma_fwI (by simp))
  generalize ae_wI σ1 23 0 st.length (mv_bI v.2) = σ2 at a2 b2 c2 f2 ⊢
  refine ma_lt (ma_ret ⟨⟨?_, by rw [List.length_cons]; omega, fun x hx => ?_, fun i x e => ?_⟩, (f2.mo (fun g i k q => by unfold kaP at q; omega)).tr (ma_fwI (by unfold kaP; simp))⟩)
  · rw [ma_rI, a2, nI_1, List.length_cons]
  · rcases List.mem_cons.mp hx with rfl | hx
    · exact hc
    · exact H.2.2.1 x hx
  · rw [List.reverse_cons] at e
    rw [ma_rIn (by simp)]
    show σ2.2.1 22 0 i = x.1 ∧ σ2.1 23 0 i = mv_bI x.2
    rcases kz_app e with ⟨hi, e⟩ | ⟨hi, rfl⟩
    · rw [List.length_reverse] at hi
      have h4 := H.2.2.2 i x e
      exact ⟨(f2.l (by omega)).trans h4.1, (f2.i (by omega)).trans h4.2⟩
    · rw [hi, List.length_reverse]
      exact ⟨b2, c2⟩
theorem kaV_top (H : kaV (v :: st) σ) : σ.2.1 22 0 st.length = v.1 ∧ σ.1 23 0 st.length = mv_bI v.2 := by
  refine H.2.2.2 st.length v ?_
  rw [List.reverse_cons]
  have := kz_last (l := st.reverse) (x := v)
  rw [List.length_reverse] at this
  exact this
theorem kaV_pop (H : kaV (v :: st) σ) : ma_wp (F_X4_pop σ) (fun r τ => r = v.1 ∧ kaV st τ ∧ ma_fr (fun g _ k => ¬ (g = 21 ∧ k = 9)) σ τ) := by
  have hl := H.2.1
  rw [List.length_cons] at hl
  have h9 : σ.1 21 0 9 = nI (st.length + 1) := H.1
  unfold F_X4_pop
  refine ma_T (by rw [h9]; exact (nI_ltI (a := 0) (b := st.length + 1) (by omega) (by omega)).mpr (by omega)) (ma_lt ?_)
  rw [h9, show nI (st.length + 1) - 1 = nI st.length from nI_pred _]
  have a1 : (ae_wI σ 21 0 9 (nI st.length)).1 21 0 9 = nI st.length := ma_rI
  have f1 : ma_fr (fun g _ k => ¬ (g = 21 ∧ k = 9)) σ (ae_wI σ 21 0 9 (nI st.length)) := ma_fwI (by simp)
  generalize ae_wI σ 21 0 9 (nI st.length) = σ1 at a1 f1 ⊢
  refine ma_gd (ma_ib _ a1 (by omega) (by decide)) ?_
  rw [ma_cl (x := σ1.1 21 0 9) _ a1 (by omega)]
  refine ma_ret ⟨(f1.l (by omega)).trans (kaV_top H).1, ⟨a1, by omega, fun x hx => H.2.2.1 x (List.mem_cons_of_mem _ hx), fun i x e => ?_⟩, f1⟩
  have hi := (List.getElem?_eq_some_iff.mp e).1
  have h4 := H.2.2.2 i x (by rw [List.reverse_cons, List.getElem?_append_left hi]; exact e)
  exact ⟨(f1.l (by omega)).trans h4.1, (f1.i (by omega)).trans h4.2⟩
theorem kaV_float (H : kaV (v :: st) σ) : F_X4_topIsFloat σ = some (mv_bI v.2, σ) := by
  have hl := H.2.1
  rw [List.length_cons] at hl
  have h9 : σ.1 21 0 9 = nI (st.length + 1) := H.1
  have h9' : σ.1 21 0 9 - 1 = nI st.length := by rw [h9]; exact nI_pred _
  refine ma_eq ?_
  unfold F_X4_topIsFloat F_X4_topIsFloat_25 F_X4_topIsFloat_26
  refine ma_F (by rw [h9]; exact nI_ge (a := 0) (b := st.length + 1) (by omega) (by omega)) (ma_gd (ma_ib _ h9' (by omega) (by decide)) ?_)
  rw [ma_cl (x := σ.1 21 0 9 - 1) _ h9' (by omega), (kaV_top H).2]
  cases v.2 with
  | true => exact ma_F (by decide) (ma_gd ma_z1 (ma_ret ⟨rfl, rfl⟩))
  | false => exact ma_T rfl (ma_gd ma_z0 (ma_ret ⟨rfl, rfl⟩))
def kaL (lv : List ka_L) (σ : ae_S) : Prop := σ.1 21 0 10 = nI (lv.length - 1) ∧ lv.length ≤ 6 ∧ ∀ i l, lv[i]? = some l → (∀ k, k < 256 → σ.1 4 (Fin.ofNat 32 (i + 10)) k = l.1 k) ∧ σ.1 25 0 i = nI l.2.1 ∧ σ.1 25 1 i = nI l.2.2
theorem ka_f10 {i : Nat} (h : i < 6) : 10 ≤ (Fin.ofNat 32 (i + 10)).val := by
  rw [mv_val (by omega)]
  omega
theorem kaL.fr (H : kaL lv σ) (f : ma_fr P σ τ) (p10 : P 21 0 10) (p4 : ∀ (i : Fin 32) k, 10 ≤ i.val → P 4 i k) (p25 : ∀ i k, P 25 i k) : kaL lv τ := ⟨(f.i p10).trans H.1, H.2.1, fun i l e => by
  have hi := (List.getElem?_eq_some_iff.mp e).1
  have h := H.2.2 i l e
  have h6 := H.2.1
  exact ⟨fun k hk => (f.i (p4 _ _ (ka_f10 (by omega)))).trans (h.1 k hk), (f.i (p25 _ _)).trans h.2.1, (f.i (p25 _ _)).trans h.2.2⟩⟩
/-- a level is opened: the n-th, behind those of L -/
theorem kaL_open {L : List ka_L} {n e dn : Nat} (H : kaL lv σ) (hn : n < 6) (hL : L.length = n) (hs : ∀ (i : Nat) (l : ka_L), L[i]? = some l → lv[i]? = some l) (hm : ∀ k, k < 256 → σ.1 4 0 k = m k) (hd : σ.1 21 0 11 = nI dn) : ma_wp (F_X4_openLevel (nI n) (nI e) σ) (fun _ τ => kaL (L ++ [(m, dn, e)]) τ ∧ ma_fr (fun g i k => ¬ (g = 21 ∧ k = 10) ∧ g ≠ 25 ∧ ¬ (g = 4 ∧ 10 ≤ i.val)) σ τ) := by
  unfold F_X4_openLevel F_X4_openLevel_57
  refine ma_F (nI_pos (by omega)) (ma_F (nI_ge (b := 6) hn (by decide)) (ma_lt ?_))
  have a1 : (ae_wI σ 21 0 10 (nI n)).1 21 0 10 = nI n := ma_rI
  have f1 : ma_fr (fun g _ k => ¬ (g = 21 ∧ k = 10)) σ (ae_wI σ 21 0 10 (nI n)) := ma_fwI (by simp)
  generalize ae_wI σ 21 0 10 (nI n) = σ1 at a1 f1 ⊢
  refine ma_gd (ma_ib _ a1 hn (by decide)) ?_
  rw [ma_cl (x := σ1.1 21 0 10) _ a1 (by omega)]
  have hv : (Fin.ofNat 32 (n + 10)).val = n + 10 := mv_val (by omega)
  unfold F_X0_saveInto
  refine ma_bd (P := fun _ τ => (∀ k, k < 256 → τ.1 4 (Fin.ofNat 32 (n + 10)) k = m k) ∧ ma_fr (fun g i k => ¬ (g = 4 ∧ i = Fin.ofNat 32 (n + 10))) σ1 τ) (ma_gd (mb_ok4 (n + 10) (by omega)) (ma_lt (ma_ret ⟨fun k hk => (ma_rC (q0 := (4, 0)) (q1 := (4, Fin.ofNat 32 (n + 10))) hk).trans ((f1.i (by omega)).trans (hm k hk)), ma_fwC (fun k q => q ⟨rfl, rfl⟩)⟩))) (fun _ σ2 q => ?_)
  obtain ⟨m2, f2⟩ := q
  have a2 : σ2.1 21 0 10 = nI n := (f2.i (by simp)).trans a1
  have d2 : σ2.1 21 0 11 = nI dn := (f2.i (by simp)).trans ((f1.i (by omega)).trans hd)
  refine ma_gd (ma_ib _ a2 hn (by decide)) ?_
  rw [ma_cl (x := σ2.1 21 0 10) _ a2 (by omega), d2]
  refine ma_lt ?_
  have a3 : (ae_wI σ2 25 0 n (nI dn)).1 21 0 10 = nI n := (ma_rIn (by simp)).trans a2
  have b3 : (ae_wI σ2 25 0 n (nI dn)).1 25 0 n = nI dn := ma_rI
  have f3 : ma_fr (fun g _ k => ¬ (g = 25 ∧ k = n)) σ2 (ae_wI σ2 25 0 n (nI dn)) := ma_fwI (by simp)
  generalize ae_wI σ2 25 0 n (nI dn) = σ3 at a3 b3 f3 ⊢
  refine ma_gd (ma_ib _ a3 hn (by decide)) ?_
  rw [ma_cl (x := σ3.1 21 0 10) _ a3 (by omega)]
  refine ma_lt ?_
  have a4 : (ae_wI σ3 25 1 n (nI e)).1 21 0 10 = nI n := (ma_rIn (by simp)).trans a3
  have b4 : (ae_wI σ3 25 1 n (nI e)).1 25 0 n = nI dn := (ma_rIn (by simp)).trans b3
  have c4 : (ae_wI σ3 25 1 n (nI e)).1 25 1 n = nI e := ma_rI
  have f4 : ma_fr (fun g _ k => ¬ (g = 25 ∧ k = n)) σ2 (ae_wI σ3 25 1 n (nI e)) := f3.tr (ma_fwI (by simp))
  generalize ae_wI σ3 25 1 n (nI e) = σ4 at a4 b4 c4 f4 ⊢
  refine ma_ret ⟨⟨?_, ?_, fun i l h => ?_⟩, ?_⟩
  · rw [a4, List.length_append, hL]
    rfl
  · rw [List.length_append, hL, List.length_singleton]; omega
  · rcases kz_app h with ⟨hi, h⟩ | ⟨hi, rfl⟩
    · have h6 := H.2.2 i l (hs i l h)
      have hni : ¬ (Fin.ofNat 32 (i + 10) = Fin.ofNat 32 (n + 10)) := fun q => by
        have := mb_fin (by omega) (by omega) q
        omega
      exact ⟨fun k hk => (f4.i (by omega)).trans ((f2.i (fun q => hni q.2)).trans ((f1.i (by omega)).trans (h6.1 k hk))), (f4.i (by omega)).trans ((f2.i (by simp)).trans ((f1.i (by omega)).trans h6.2.1)), (f4.i (by omega)).trans ((f2.i (by simp)).trans ((f1.i (by omega)).trans h6.2.2))⟩
    · rw [hi, hL]
      exact ⟨fun k hk => (f4.i (by omega)).trans (m2 k hk), b4, c4⟩
  · refine (f1.mo (fun g i k q => by omega)).tr ((f2.mo (fun g i k q w => ?_)).tr (f4.mo (fun g i k q => by omega)))
    rw [w.2, hv] at q
    omega
def kaF (g : Nat) (i : Fin 32) (k : Nat) : Prop := ¬ (g = 21 ∧ 9 ≤ k) ∧ g ≠ 22 ∧ g ≠ 23 ∧ g ≠ 25 ∧ g ≠ 26 ∧ ¬ (g = 4 ∧ (i = 0 ∨ 10 ≤ i.val))
/-- a trouble -/
theorem kaMeet {t : Int32} {L : List ka_L} {x : ka_L} (H : kaL (L ++ [x]) σ) (ht : tr.1 < 2 ^ 30) (R : mi_Cr tr σ) : ma_wp (F_X4_meet t σ) (fun _ τ => kaV [] τ ∧ kaL (if (L ++ [x]).length = 1 then L ++ [x] else (L ++ [x]).dropLast) τ ∧ mi_Cr (ka_tn t tr) τ ∧ τ.1 21 0 11 = nI x.2.1 ∧ τ.1 21 0 12 = nI x.2.2 ∧ (∀ k, k < 256 → τ.1 4 0 k = x.1 k) ∧ ma_fr kaF σ τ) := by
  have hl := H.2.1
  have hlen : (L ++ [x]).length = L.length + 1 := by rw [List.length_append, List.length_singleton]
  rw [hlen] at hl
  have h10 : σ.1 21 0 10 = nI L.length := by rw [H.1, hlen]; rfl
  have hx := H.2.2 L.length x kz_last
  have main : ∀ φ : ae_S, (∀ k, k < tr.1 + 1 → k < 20 → φ.1 26 0 k = (ka_tn t tr).2 k) → ma_fr (fun g _ _ => g ≠ 26) σ φ → ma_wp (F_X4_meet_19 φ) (fun _ τ => kaV [] τ ∧ kaL (if (L ++ [x]).length = 1 then L ++ [x] else (L ++ [x]).dropLast) τ ∧ mi_Cr (ka_tn t tr) τ ∧ τ.1 21 0 11 = nI x.2.1 ∧ τ.1 21 0 12 = nI x.2.2 ∧ (∀ k, k < 256 → τ.1 4 0 k = x.1 k) ∧ ma_fr kaF σ τ) := by
    intro φ hr f0
    unfold F_X4_meet_19
    have e13 : φ.1 21 0 13 = nI tr.1 := (f0.i (by decide)).trans R.1
    rw [e13, nI_1]
    refine ma_lt ?_
    have a1 : (ae_wI φ 21 0 13 (nI (tr.1 + 1))).1 21 0 13 = nI (tr.1 + 1) := ma_rI
    have f1 : ma_fr (fun g _ k => g ≠ 26 ∧ ¬ (g = 21 ∧ k = 13)) σ (ae_wI φ 21 0 13 (nI (tr.1 + 1))) := (f0.mo (fun g i k q => q.1)).tr (ma_fwI (by simp))
    have r1 : ∀ k, k < tr.1 + 1 → k < 20 → (ae_wI φ 21 0 13 (nI (tr.1 + 1))).1 26 0 k = (ka_tn t tr).2 k := fun k h1 h2 => (ma_rIn (by simp)).trans (hr k h1 h2)
    generalize ae_wI φ 21 0 13 (nI (tr.1 + 1)) = σ1 at a1 f1 r1 ⊢
    have b1 : σ1.1 21 0 10 = nI L.length := (f1.i (by decide)).trans h10
    refine ma_F (by rw [b1]; exact nI_pos (by omega)) (ma_F (by rw [b1]; exact nI_ge (b := 6) (by omega) (by decide)) (ma_gd (ma_ib _ b1 (by omega) (by decide)) ?_))
    rw [ma_cl (x := σ1.1 21 0 10) _ b1 (by omega)]
    unfold F_X0_loadFrom
    have hv : (Fin.ofNat 32 (L.length + 10)).val = L.length + 10 := mv_val (by omega)
    refine ma_bd (P := fun _ τ => (∀ k, k < 256 → τ.1 4 0 k = x.1 k) ∧ ma_fr (fun g i k => ¬ (g = 4 ∧ i = 0)) σ1 τ) (ma_gd (mb_ok4 (L.length + 10) (by omega)) (ma_lt (ma_ret ⟨fun k hk => (ma_rC (q0 := (4, Fin.ofNat 32 (L.length + 10))) (q1 := (4, 0)) hk).trans ((f1.i (by simp)).trans (hx.1 k hk)), ma_fwC (fun k q => q ⟨rfl, rfl⟩)⟩))) (fun _ σ2 q => ?_)
    obtain ⟨m2, f2⟩ := q
    have b2 : σ2.1 21 0 10 = nI L.length := (f2.i (by simp)).trans b1
    have x0 : σ2.1 25 0 L.length = nI x.2.1 := (f2.i (by simp)).trans ((f1.i (by simp)).trans hx.2.1)
    have x1 : σ2.1 25 1 L.length = nI x.2.2 := (f2.i (by simp)).trans ((f1.i (by simp)).trans hx.2.2)
    refine ma_gd (ma_ib _ b2 (by omega) (by decide)) ?_
    rw [ma_cl (x := σ2.1 21 0 10) _ b2 (by omega), x0]
    refine ma_lt ?_
    have b3 : (ae_wI σ2 21 0 11 (nI x.2.1)).1 21 0 10 = nI L.length := (ma_rIn (by simp)).trans b2
    have c3 : (ae_wI σ2 21 0 11 (nI x.2.1)).1 21 0 11 = nI x.2.1 := ma_rI
    have f3 : ma_fr (fun g _ k => ¬ (g = 21 ∧ 9 ≤ k ∧ k ≤ 12)) σ2 (ae_wI σ2 21 0 11 (nI x.2.1)) := ma_fwI (by simp)
    generalize ae_wI σ2 21 0 11 (nI x.2.1) = σ3 at b3 c3 f3 ⊢
    refine ma_gd (ma_ib _ b3 (by omega) (by decide)) ?_
    rw [ma_cl (x := σ3.1 21 0 10) _ b3 (by omega), (f3.i (by omega) : σ3.1 25 1 L.length = σ2.1 25 1 L.length), x1]
    refine ma_lt ?_
    have b4 : (ae_wI σ3 21 0 12 (nI x.2.2)).1 21 0 10 = nI L.length := (ma_rIn (by simp)).trans b3
    have c4 : (ae_wI σ3 21 0 12 (nI x.2.2)).1 21 0 11 = nI x.2.1 := (ma_rIn (by simp)).trans c3
    have d4 : (ae_wI σ3 21 0 12 (nI x.2.2)).1 21 0 12 = nI x.2.2 := ma_rI
    have f4 : ma_fr (fun g _ k => ¬ (g = 21 ∧ 9 ≤ k ∧ k ≤ 12)) σ2 (ae_wI σ3 21 0 12 (nI x.2.2)) := f3.tr (ma_fwI (by simp))
    generalize ae_wI σ3 21 0 12 (nI x.2.2) = σ4 at b4 c4 d4 f4 ⊢
    unfold F_X4_meet_90
    have e5 : (if σ4.1 21 0 10 - 1 < (0 : Int32) then (0 : Int32) else σ4.1 21 0 10 - 1) = nI (L.length - 1) := by
      rw [b4]
      rcases Nat.eq_zero_or_pos L.length with h0 | h0
      · rw [h0]; decide
      · rw [show nI L.length - 1 = nI (L.length - 1) by rw [← nI_pred (L.length - 1), show L.length - 1 + 1 = L.length by omega], if_neg (nI_pos (by omega))]
    rw [e5]
    refine ma_lt (ma_lt ?_)
    have f6 : ma_fr (fun g _ k => ¬ (g = 21 ∧ 9 ≤ k ∧ k ≤ 12)) σ2 (ae_wI (ae_wI σ4 21 0 10 (nI (L.length - 1))) 21 0 9 0) := f4.tr ((ma_fwI (by simp)).tr (ma_fwI (by simp)))
    have a6 : (ae_wI (ae_wI σ4 21 0 10 (nI (L.length - 1))) 21 0 9 0).1 21 0 9 = nI 0 := ma_rI
    have b6 : (ae_wI (ae_wI σ4 21 0 10 (nI (L.length - 1))) 21 0 9 0).1 21 0 10 = nI (L.length - 1) := (ma_rIn (by simp)).trans ma_rI
    have c6 : (ae_wI (ae_wI σ4 21 0 10 (nI (L.length - 1))) 21 0 9 0).1 21 0 11 = nI x.2.1 := (ma_rIn (by simp)).trans ((ma_rIn (by simp)).trans c4)
    have d6 : (ae_wI (ae_wI σ4 21 0 10 (nI (L.length - 1))) 21 0 9 0).1 21 0 12 = nI x.2.2 := (ma_rIn (by simp)).trans ((ma_rIn (by simp)).trans d4)
    generalize ae_wI (ae_wI σ4 21 0 10 (nI (L.length - 1))) 21 0 9 0 = σ6 at f6 a6 b6 c6 d6 ⊢
    have F : ma_fr (fun g i k => ¬ (g = 21 ∧ 9 ≤ k) ∧ g ≠ 26 ∧ ¬ (g = 4 ∧ i = 0)) σ σ6 := (f1.mo (fun g i k q => by omega)).tr ((f2.mo (fun g i k q => q.2.2)).tr (f6.mo (fun g i k q => by omega)))
    refine ma_ret ⟨⟨a6, by simp, fun v hv => by simp at hv, fun i v h => by simp at h⟩, ⟨?_, ?_, fun i l h => ?_⟩, ⟨?_, fun k h1 h2 => ?_⟩, c6, d6, fun k hk => (f6.i (by omega)).trans (m2 k hk), F.mo (fun g i k q => by unfold kaF at q; omega)⟩
    · rw [b6]
      by_cases h1 : (L ++ [x]).length = 1
      · rw [if_pos h1, h1, show L.length = 0 by omega]
      · rw [if_neg h1, List.length_dropLast, hlen]
        rfl
    · by_cases h1 : (L ++ [x]).length = 1
      · rw [if_pos h1]; omega
      · rw [if_neg h1, List.length_dropLast]; omega
    · have hq : (L ++ [x])[i]? = some l := by
        by_cases h1 : (L ++ [x]).length = 1
        · rw [if_pos h1] at h; exact h
        · rw [if_neg h1, List.dropLast_concat] at h
          rw [List.getElem?_append_left (List.getElem?_eq_some_iff.mp h).1]
          exact h
      have hi := (List.getElem?_eq_some_iff.mp hq).1
      have h4 := H.2.2 i l hq
      have hni : ¬ (Fin.ofNat 32 (i + 10) = (0 : Fin 32)) := fun q => by
        have := mb_fin (b := 0) (by omega) (by omega) q
        omega
      exact ⟨fun k hk => (F.i ⟨by omega, by omega, fun q => hni q.2⟩).trans (h4.1 k hk), (F.i ⟨by omega, by omega, by omega⟩).trans h4.2.1, (F.i ⟨by omega, by omega, by omega⟩).trans h4.2.2⟩
    · exact (f6.i (by omega)).trans ((f2.i (by simp)).trans a1)
    · exact (f6.i (by omega)).trans ((f2.i (by simp)).trans (r1 k h1 h2))
  unfold F_X4_meet
  refine ma_le 20 tr.1 rfl R.1 (by decide) (by omega) (fun h => ?_) (fun h => ma_gd (ma_ib _ R.1 h (by decide)) ?_)
  · refine main σ (fun k h1 h2 => ?_) ma_fr.rf
    show σ.1 26 0 k = if k = tr.1 then t else tr.2 k
    rw [if_neg (by omega)]
    exact R.2 k (by omega) h2
  · rw [ma_cl (x := σ.1 21 0 13) _ R.1 (by omega)]
    refine ma_lt (main _ (fun k h1 h2 => ?_) (ma_fwI (by simp)))
    show (ae_wI σ 26 0 tr.1 t).1 26 0 k = if k = tr.1 then t else tr.2 k
    by_cases hk : k = tr.1
    · rw [if_pos hk, hk, ma_rI]
    · rw [if_neg hk, ma_rIn (by omega)]
      exact R.2 k (by omega) h2
end KA
