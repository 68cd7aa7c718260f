/-! the class's tokens: how they are cut, what it asks of them -/
section KS
variable {T : kt_T} {σ τ : ae_S} {D j : Nat}
def kt_r1 (T : kt_T) (D i : Nat) (σ : ae_S) : Prop := σ.1 13 0 i = nI (kt_cty T D i) ∧ σ.1 13 1 i = nI (kt_s T i) ∧ σ.1 13 2 i = nI (kt_n T i) ∧ σ.2.1 14 0 i = kt_cvl T i
theorem kt_tp.fr {P : Nat → Fin 32 → Nat → Prop} (H : kt_tp T σ) (f : ma_fr P σ τ) (p1 : P 1 0 1) (p2 : ∀ k, P 2 0 k) : kt_tp T τ := ⟨(f.i p1).trans H.1, fun k hk => (f.i (p2 k)).trans (H.2 k hk)⟩
theorem kt_addW (hT : kt_W T) (h : kt_tp T σ) {i p : Nat} (hi : i < 501) (h5 : σ.1 12 0 5 = nI i) (hp : p < T.1) (hs : kt_s T i = p) (hL : kt_L (kt_b T p) = true) : ma_wp (F_X8_addWordFrom (nI p) σ) (fun r τ => r = nI (kt_e T i) ∧ τ.1 12 0 5 = nI (i + 1) ∧ kt_r1 T D i τ ∧ ma_fr (fun g _ k => ¬ (g = 12 ∧ k = 5) ∧ ¬ ((g = 13 ∨ g = 14) ∧ k = i)) σ τ) := by
  have hTL := hT.1
  have hb := kt_bl hT p
  have hc : kt_c T i = kt_b T p := by unfold kt_c; rw [hs]
  have hne : ¬ kt_b T p = 256 := fun q => by have := hb.2.mp q; omega
  have hty : kt_ty T i = 1 := by unfold kt_ty; rw [hc, if_neg hne, if_pos hL]
  have he : kt_e T i = kt_we T p := by unfold kt_e kt_en; rw [hs, if_neg hne, if_pos hL]
  have hle : kt_we T p ≤ T.1 := kt_nx_le _ (by omega)
  have fin : ∀ (k : Nat) (x : Int64), kt_we T p = p + k → (k ≤ 6 → x = lN (kt_fw T p k)) → ma_wp (F_X8_addWordFrom_50 (nI p) (nI (p + k)) x σ) (fun r τ => r = nI (kt_e T i) ∧ τ.1 12 0 5 = nI (i + 1) ∧ kt_r1 T D i τ ∧ ma_fr (fun g _ k => ¬ (g = 12 ∧ k = 5) ∧ ¬ ((g = 13 ∨ g = 14) ∧ k = i)) σ τ) := by
    intro k x hk hx
    have hn : kt_n T i = k := by unfold kt_n; rw [he, hs, hk]; omega
    have hwv : k ≤ 6 → kt_wv T i = x := fun q => by unfold kt_wv; rw [hs, hn, hx q]
    unfold F_X8_addWordFrom_50 F_X8_addWordFrom_84 F_X8_addWordFrom_92
    rw [pk_sub (show p ≤ p + k by omega), show p + k - p = k by omega]
    refine ma_le k 6 rfl rfl (by omega) (by decide) (fun q => ?_) (fun q => ?_)
    · refine ma_be (kt_resC x σ) ?_
      have ht : kt_cty T D i = if kt_res x = true then 2 else 1 := by
        unfold kt_cty
        rw [hty, if_neg (by decide), if_pos rfl, hn, if_pos q, hwv q]
      have hv : kt_cvl T i = x := by
        unfold kt_cvl
        rw [hty, if_neg (by decide), if_pos rfl, hn, if_pos q, hwv q]
      cases hr : kt_res x with
      | true =>
        refine ma_F (by decide) (ma_bd (kt_addT hi h5 _ _ _ _) (fun _ τ r => ma_ret ⟨by rw [he, hk], r.1, ⟨?_, ?_, ?_, ?_⟩, r.2.2.2.2.2⟩))
        · rw [r.2.1, ht, hr]; rfl
        · rw [r.2.2.1, hs]
        · rw [r.2.2.2.1, hn]
        · rw [r.2.2.2.2.1, hv]
      | false =>
        refine ma_T rfl (ma_bd (kt_addT hi h5 _ _ _ _) (fun _ τ r => ma_ret ⟨by rw [he, hk], r.1, ⟨?_, ?_, ?_, ?_⟩, r.2.2.2.2.2⟩))
        · rw [r.2.1, ht, hr]; rfl
        · rw [r.2.2.1, hs]
        · rw [r.2.2.2.1, hn]
        · rw [r.2.2.2.2.1, hv]
    · refine ma_bd (kt_addT hi h5 _ _ _ _) (fun _ τ r => ma_ret ⟨by rw [he, hk], r.1, ⟨?_, ?_, ?_, ?_⟩, r.2.2.2.2.2⟩)
      · rw [r.2.1]
        unfold kt_cty
        rw [hty, if_neg (by decide), if_pos rfl, hn, if_neg (by omega)]; rfl
      · rw [r.2.2.1, hs]
      · rw [r.2.2.2.1, hn]
      · rw [r.2.2.2.2.1]
        unfold kt_cvl
        rw [hty, if_neg (by decide), if_pos rfl, hn, if_neg (by omega)]
  have loop : ∀ n k : Nat, T.1 < p + k + n → p + k ≤ T.1 → kt_we T (p + k) = kt_we T p → ∀ x : Int64, (k ≤ 6 → x = lN (kt_fw T p k)) → ma_wp (F_X8_addWordFrom_4 n (nI p) (nI (p + k)) x σ) (fun r τ => r = nI (kt_e T i) ∧ τ.1 12 0 5 = nI (i + 1) ∧ kt_r1 T D i τ ∧ ma_fr (fun g _ k => ¬ (g = 12 ∧ k = 5) ∧ ¬ ((g = 13 ∨ g = 14) ∧ k = i)) σ τ) := by
    intro n
    induction n with
    | zero => intro k a b; omega
    | succ n ih =>
      intro k a b hw x hx
      have hbk := kt_bl hT (p + k)
      unfold F_X8_addWordFrom_4
      refine ma_be (kt_len h) (ma_le T.1 (p + k) rfl rfl (by omega) (by omega) (fun q => ?_) (fun q => ?_))
      · refine fin k x ?_ hx
        rw [← hw]
        refine kt_nxF ?_
        show (kt_L (kt_b T (p + k)) || kt_D (kt_b T (p + k))) = false
        rw [hbk.2.mpr q]; decide
      · refine ma_be (kt_get hT h q) (ma_be (kt_isLD hbk.1 σ) ?_)
        cases hq : (kt_L (kt_b T (p + k)) || kt_D (kt_b T (p + k))) with
        | false =>
          refine ma_T rfl (fin k x ?_ hx)
          rw [← hw]
          exact kt_nxF hq
        | true =>
          refine ma_F (by decide) (ma_be (kt_get hT h q) (ma_lt (ma_lt ?_)))
          rw [nI_1]
          refine ih (k + 1) (by omega) (by omega) ?_ _ (fun hk => ?_)
          · rw [← hw]; exact (kt_nxT (P := fun k => kt_L (kt_b T k) || kt_D (kt_b T k)) hq q).symm
          · have hB := kt_fwB hT p k (by omega)
            have hp6 : 256 ^ k ≤ 256 ^ 5 := Nat.pow_le_pow_right (by decide) (by omega)
            have hb256 : kt_b T (p + k) < 256 := by
              have : ¬ kt_b T (p + k) = 256 := fun g => by have := hbk.2.mp g; omega
              omega
            rw [hx (by omega), nI_l (by omega), show (8 : Int32) = nI 8 from rfl, wb_shl _ (by decide), kt_fw]
            exact g_or (k := 8) rfl hb256 (by omega)
  unfold F_X8_addWordFrom
  exact loop ae_fu 0 (by rw [ae_fu]; omega) (by omega) rfl 0 (fun _ => rfl)
theorem kt_addN (hT : kt_W T) (h : kt_tp T σ) {i p : Nat} (hD : D < 1000) (hi : i < 501) (h5 : σ.1 12 0 5 = nI i) (hp : p < T.1) (hs : kt_s T i = p) (hL : kt_L (kt_b T p) = false) (hG : kt_D (kt_b T p) = true) : ma_wp (F_X8_addNumberFrom (nI p) (nI D) σ) (fun r τ => r = nI (kt_e T i) ∧ τ.1 12 0 5 = nI (i + 1) ∧ kt_r1 T D i τ ∧ ma_fr (fun g _ k => ¬ (g = 12 ∧ k = 5) ∧ ¬ ((g = 13 ∨ g = 14) ∧ k = i)) σ τ) := by
  have hTL := hT.1
  have hb := kt_bl hT p
  have hc : kt_c T i = kt_b T p := by unfold kt_c; rw [hs]
  have hne : ¬ kt_b T p = 256 := fun q => by have := hb.2.mp q; omega
  have hty : kt_ty T i = 2 := by unfold kt_ty; rw [hc, if_neg hne, hL, if_neg (by decide), if_pos hG]
  have he : kt_e T i = kt_de T p := by unfold kt_e kt_en; rw [hs, if_neg hne, hL, if_neg (by decide), if_pos hG]
  have hle : kt_de T p ≤ T.1 := kt_nx_le _ (by omega)
  have fin : ∀ (k : Nat), kt_de T p = p + k → ma_wp (F_X8_addNumberFrom_57 (nI p) (nI D) (nI (p + k)) (lN (kt_fn T p k)) σ) (fun r τ => r = nI (kt_e T i) ∧ τ.1 12 0 5 = nI (i + 1) ∧ kt_r1 T D i τ ∧ ma_fr (fun g _ k => ¬ (g = 12 ∧ k = 5) ∧ ¬ ((g = 13 ∨ g = 14) ∧ k = i)) σ τ) := by
    intro k hk
    have hn : kt_n T i = k := by unfold kt_n; rw [he, hs, hk]; omega
    have hv : kt_cvl T i = lN (kt_fn T p k) := by
      unfold kt_cvl kt_nv
      rw [hty, if_neg (by decide), if_neg (by decide), if_pos rfl, hs, hn]
    unfold F_X8_addNumberFrom_57 F_X8_addNumberFrom_74
    refine ma_lt ?_
    rw [pk_sub (show p ≤ p + k by omega), show p + k - p = k by omega]
    refine ma_le k D rfl rfl (by omega) (by omega) (fun q => ?_) (fun q => ?_)
    · refine ma_bd (kt_addT hi h5 _ _ _ _) (fun _ τ r => ma_ret ⟨by rw [he, hk], r.1, ⟨?_, ?_, ?_, ?_⟩, r.2.2.2.2.2⟩)
      · rw [r.2.1]
        unfold kt_cty
        rw [hty, if_neg (by decide), if_neg (by decide), if_pos rfl, hn, if_pos q]; rfl
      · rw [r.2.2.1, hs]
      · rw [r.2.2.2.1, hn]
      · rw [r.2.2.2.2.1, hv]
    · refine ma_bd (kt_addT hi h5 _ _ _ _) (fun _ τ r => ma_ret ⟨by rw [he, hk], r.1, ⟨?_, ?_, ?_, ?_⟩, r.2.2.2.2.2⟩)
      · rw [r.2.1]
        unfold kt_cty
        rw [hty, if_neg (by decide), if_neg (by decide), if_pos rfl, hn, if_neg (by omega)]; rfl
      · rw [r.2.2.1, hs]
      · rw [r.2.2.2.1, hn]
      · rw [r.2.2.2.2.1, hv]
  have loop : ∀ n k : Nat, T.1 < p + k + n → p + k ≤ T.1 → kt_de T (p + k) = kt_de T p → ma_wp (F_X8_addNumberFrom_5 n (nI p) (nI D) (nI (p + k)) (lN (kt_fn T p k)) σ) (fun r τ => r = nI (kt_e T i) ∧ τ.1 12 0 5 = nI (i + 1) ∧ kt_r1 T D i τ ∧ ma_fr (fun g _ k => ¬ (g = 12 ∧ k = 5) ∧ ¬ ((g = 13 ∨ g = 14) ∧ k = i)) σ τ) := by
    intro n
    induction n with
    | zero => intro k a b; omega
    | succ n ih =>
      intro k a b hw
      have hbk := kt_bl hT (p + k)
      unfold F_X8_addNumberFrom_5
      refine ma_be (kt_len h) (ma_le T.1 (p + k) rfl rfl (by omega) (by omega) (fun q => ?_) (fun q => ?_))
      · refine fin k ?_
        rw [← hw]
        refine kt_nxF ?_
        show kt_D (kt_b T (p + k)) = false
        rw [hbk.2.mpr q]; decide
      · refine ma_be (kt_get hT h q) (ma_be (kt_isD hbk.1 σ) ?_)
        cases hq : kt_D (kt_b T (p + k)) with
        | false =>
          refine ma_T rfl (fin k ?_)
          rw [← hw]
          exact kt_nxF hq
        | true =>
          refine ma_F (by decide) (ma_be (kt_get hT h q) (ma_lt (ma_lt ?_)))
          have hd : 48 ≤ kt_b T (p + k) := (of_decide_eq_true hq).1
          rw [nI_1, show (48 : Int32) = nI 48 from rfl, pk_sub hd, nI_l (by omega), show (10 : Int64) = lN 10 from rfl, lN_mul, lN_add]
          refine ih (k + 1) (by omega) (by omega) ?_
          rw [← hw]; exact (kt_nxT (P := fun k => kt_D (kt_b T k)) hq q).symm
  unfold F_X8_addNumberFrom
  exact loop ae_fu 0 (by rw [ae_fu]; omega) (by omega) rfl
/-- the class stands at the j-th token -/
def kt_St (T : kt_T) (D j : Nat) (σ : ae_S) : Prop := ∃ N, 1 ≤ N ∧ N ≤ 501 ∧ kt_ty T (N - 1) = 0 ∧ (∀ i, i + 1 < N → kt_ty T i ≠ 0) ∧ σ.1 12 0 5 = nI N ∧ σ.1 12 0 6 = nI (min j (N - 1)) ∧ ∀ i, i < N → kt_r1 T D i σ
theorem kt_scan (hT : kt_W T) (hD : D < 1000) (h : kt_tp T σ) : ma_wp (F_X8_scan (nI D) σ) (fun _ τ => kt_St T D 0 τ ∧ ma_fr (fun g _ k => ¬ (g = 12 ∧ (k = 5 ∨ k = 6)) ∧ g ≠ 13 ∧ g ≠ 14) σ τ) := by
  have hTL := hT.1
  have fin : ∀ (i : Nat) (τ : ae_S), i ≤ 500 → ma_fr (fun g _ k => ¬ (g = 12 ∧ (k = 5 ∨ k = 6)) ∧ g ≠ 13 ∧ g ≠ 14) σ τ → τ.1 12 0 5 = nI i → τ.1 12 0 6 = 0 → (∀ m, m < i → kt_r1 T D m τ) → (∀ m, m < i → kt_ty T m ≠ 0) → kt_s T i = T.1 → ma_wp (F_X8_scan_114 (nI T.1) τ) (fun _ τ => kt_St T D 0 τ ∧ ma_fr (fun g _ k => ¬ (g = 12 ∧ (k = 5 ∨ k = 6)) ∧ g ≠ 13 ∧ g ≠ 14) σ τ) := by
    intro i τ hi hf h5 h6 hr hne hs
    have hc : kt_c T i = 256 := by unfold kt_c; rw [hs]; exact (kt_bl hT T.1).2.mpr (Nat.le_refl _)
    have hty : kt_ty T i = 0 := by unfold kt_ty; rw [hc, if_pos rfl]
    have hn : kt_n T i = 0 := by
      unfold kt_n kt_e kt_en
      rw [show kt_b T (kt_s T i) = 256 from hc, if_pos rfl]; omega
    unfold F_X8_scan_114
    refine ma_bd (kt_addT (by omega) h5 _ _ _ _) (fun _ υ r => ma_ret ⟨⟨i + 1, by omega, by omega, hty, fun m hm => hne m (by omega), r.1, ?_, fun m hm => ?_⟩, hf.tr (r.2.2.2.2.2.mo (fun g _ k q => by omega))⟩)
    · rw [r.2.2.2.2.2.i (by omega), h6, Nat.zero_min]; rfl
    · by_cases q : m = i
      · subst q
        refine ⟨?_, ?_, ?_, ?_⟩
        · rw [r.2.1]; unfold kt_cty; rw [hty, if_pos rfl]; rfl
        · rw [r.2.2.1, hs]
        · rw [r.2.2.2.1, hn]; rfl
        · rw [r.2.2.2.2.1]; unfold kt_cvl; rw [hty, if_pos rfl]
      · have := hr m (by omega)
        have f := r.2.2.2.2.2
        exact ⟨(f.i (by omega)).trans this.1, (f.i (by omega)).trans this.2.1, (f.i (by omega)).trans this.2.2.1, (f.l (by omega)).trans this.2.2.2⟩
  have loop : ∀ n p t i : Nat, T.1 < p + n → p ≤ T.1 → t ≤ p → i ≤ p → kt_sk T p = kt_s T i → ∀ τ : ae_S, ma_fr (fun g _ k => ¬ (g = 12 ∧ (k = 5 ∨ k = 6)) ∧ g ≠ 13 ∧ g ≠ 14) σ τ → τ.1 12 0 5 = nI i → τ.1 12 0 6 = 0 → (∀ m, m < i → kt_r1 T D m τ) → (∀ m, m < i → kt_ty T m ≠ 0) → ma_wp (F_X8_scan_23 n (nI D) (nI p) (nI T.1) (nI t) τ) (fun _ τ => kt_St T D 0 τ ∧ ma_fr (fun g _ k => ¬ (g = 12 ∧ (k = 5 ∨ k = 6)) ∧ g ≠ 13 ∧ g ≠ 14) σ τ) := by
    intro n
    induction n with
    | zero => intro p t i a b; omega
    | succ n ih =>
      intro p t i a b ht hi hsk τ hf h5 h6 hr hne
      have htp : kt_tp T τ := h.fr hf (by decide) (fun _ => by omega)
      have hb := kt_bl hT p
      unfold F_X8_scan_23 F_X8_scan_105 F_X8_scan_108
      have endc : T.1 ≤ p → kt_s T i = T.1 := fun q => by
        rw [← hsk]
        have : kt_sk T p = p := kt_nxF (by show kt_B (kt_b T p) = false; rw [hb.2.mpr q]; decide)
        rw [this]; omega
      refine ma_le 500 t rfl rfl (by decide) (by omega) (fun q => fin i τ (by omega) hf h5 h6 hr hne (endc (by omega))) (fun q => ma_le T.1 p rfl rfl (by omega) (by omega) (fun q2 => fin i τ (by omega) hf h5 h6 hr hne (endc q2)) (fun q2 => ?_))
      refine ma_be (kt_get hT htp q2) (ma_be (kt_isL hb.1 τ) ?_)
      have hne256 : ¬ kt_b T p = 256 := fun g => by have := hb.2.mp g; omega
      have nxt : kt_b T p ≠ 32 ∧ kt_b T p ≠ 10 → kt_s T i = p := fun g => by
        rw [← hsk]
        exact kt_nxF (by show kt_B (kt_b T p) = false; exact decide_eq_false (by omega))
      have go : ∀ (τ2 : ae_S), kt_s T i = p → p < kt_e T i → kt_e T i ≤ T.1 → kt_ty T i ≠ 0 → τ2.1 12 0 5 = nI (i + 1) → kt_r1 T D i τ2 → ma_fr (fun g _ k => ¬ (g = 12 ∧ k = 5) ∧ ¬ ((g = 13 ∨ g = 14) ∧ k = i)) τ τ2 → ma_wp (F_X8_scan_23 n (nI D) (nI (kt_e T i)) (nI T.1) (nI (t + 1)) τ2) (fun _ τ => kt_St T D 0 τ ∧ ma_fr (fun g _ k => ¬ (g = 12 ∧ (k = 5 ∨ k = 6)) ∧ g ≠ 13 ∧ g ≠ 14) σ τ) := by
        intro τ2 e1 e2 e3 e4 e5 e6 e7
        refine ih (kt_e T i) (t + 1) (i + 1) (by omega) e3 (by omega) (by omega) rfl τ2 (hf.tr (e7.mo (fun g _ k q => by omega))) e5 ?_ (fun m hm => ?_) (fun m hm => ?_)
        · rw [e7.i (by omega)]; exact h6
        · by_cases q : m = i
          · subst q; exact e6
          · have := hr m (by omega)
            exact ⟨(e7.i (by omega)).trans this.1, (e7.i (by omega)).trans this.2.1, (e7.i (by omega)).trans this.2.2.1, (e7.l (by omega)).trans this.2.2.2⟩
        · by_cases q : m = i
          · subst q; exact e4
          · exact hne m (by omega)
      cases hl : kt_L (kt_b T p) with
      | true =>
        have hl2 := of_decide_eq_true hl
        have hs := nxt (by omega)
        have he : kt_e T i = kt_we T p := by unfold kt_e kt_en; rw [hs, if_neg hne256, if_pos hl]
        have hg : p < kt_we T p := by
          unfold kt_we
          rw [kt_nxT (by show (kt_L (kt_b T p) || kt_D (kt_b T p)) = true; rw [hl]; rfl) q2]
          have := kt_nx_ge (fun k => kt_L (kt_b T k) || kt_D (kt_b T k)) T.1 (p + 1)
          omega
        refine ma_F (by decide) (ma_bd (kt_addW (D := D) hT htp (by omega) h5 q2 hs hl) (fun r τ2 w => ma_lt ?_))
        rw [w.1, nI_1]
        refine go τ2 hs (by rw [he]; exact hg) (by rw [he]; exact kt_nx_le _ (by omega)) ?_ w.2.1 w.2.2.1 w.2.2.2
        unfold kt_ty kt_c
        rw [hs, if_neg hne256, if_pos hl]; decide
      | false =>
        refine ma_T rfl (ma_be (kt_isD hb.1 τ) ?_)
        cases hd : kt_D (kt_b T p) with
        | true =>
          have hd2 := of_decide_eq_true hd
          have hs := nxt (by omega)
          have he : kt_e T i = kt_de T p := by unfold kt_e kt_en; rw [hs, if_neg hne256, hl, if_neg (by decide), if_pos hd]
          have hg : p < kt_de T p := by
            unfold kt_de
            rw [kt_nxT (by exact hd) q2]
            have := kt_nx_ge (fun k => kt_D (kt_b T k)) T.1 (p + 1)
            omega
          refine ma_F (by decide) (ma_bd (kt_addN hT htp hD (by omega) h5 q2 hs hl hd) (fun r τ2 w => ma_lt ?_))
          rw [w.1, nI_1]
          refine go τ2 hs (by rw [he]; exact hg) (by rw [he]; exact kt_nx_le _ (by omega)) ?_ w.2.1 w.2.2.1 w.2.2.2
          unfold kt_ty kt_c
          rw [hs, if_neg hne256, hl, if_neg (by decide), if_pos hd]; decide
        | false =>
          have blank : kt_B (kt_b T p) = true → ma_wp (ae_lt (nI p + (1 : Int32)) (fun x7 => ae_lt (nI t + (1 : Int32)) (fun x5 => F_X8_scan_23 n (nI D) x7 (nI T.1) x5 τ))) (fun _ τ => kt_St T D 0 τ ∧ ma_fr (fun g _ k => ¬ (g = 12 ∧ (k = 5 ∨ k = 6)) ∧ g ≠ 13 ∧ g ≠ 14) σ τ) := fun g => by
            refine ma_lt (ma_lt ?_)
            rw [nI_1, nI_1]
            refine ih (p + 1) (t + 1) i (by omega) (by omega) (by omega) (by omega) ?_ τ hf h5 h6 hr hne
            rw [← hsk]
            exact (kt_nxT (P := fun k => kt_B (kt_b T k)) g q2).symm
          refine ma_T rfl (ma_en (kt_b T p) 32 rfl rfl (by omega) (by decide) (fun g => blank (decide_eq_true (.inl g))) (fun g => ma_en (kt_b T p) 10 rfl rfl (by omega) (by decide) (fun g2 => blank (decide_eq_true (.inr g2))) (fun g2 => ?_)))
          have hs := nxt ⟨g, g2⟩
          have he : kt_e T i = p + 1 := by unfold kt_e kt_en; rw [hs, if_neg hne256, hl, if_neg (by decide), hd, if_neg (by decide)]
          have hc : kt_c T i = kt_b T p := by unfold kt_c; rw [hs]
          have hty : kt_ty T i = 3 := by unfold kt_ty; rw [hc, if_neg hne256, hl, if_neg (by decide), hd, if_neg (by decide)]
          refine ma_bd (kt_addT (by omega) h5 _ _ _ _) (fun _ τ2 r => ma_lt (ma_lt ?_))
          rw [nI_1, nI_1, ← he]
          refine go τ2 hs (by omega) (by omega) (by rw [hty]; decide) r.1 ⟨?_, ?_, ?_, ?_⟩ r.2.2.2.2.2
          · rw [r.2.1]; unfold kt_cty; rw [hty]; rfl
          · rw [r.2.2.1, hs]
          · rw [r.2.2.2.1]; unfold kt_n; rw [he, hs, show p + 1 - p = 1 by omega]; rfl
          · rw [r.2.2.2.2.1]; unfold kt_cvl; rw [hty, hc, nI_l (by omega)]; rfl
  unfold F_X8_scan
  refine ma_lt (ma_lt (ma_be (kt_len (T := T) ?_) ?_))
  · exact h.fr (P := fun g _ k => ¬ (g = 12 ∧ (k = 5 ∨ k = 6)) ∧ g ≠ 13 ∧ g ≠ 14) ((ma_fwI (by simp)).tr (ma_fwI (by simp))) (by decide) (fun _ => by omega)
  · refine loop ae_fu 0 0 0 (by rw [ae_fu]; omega) (by omega) (by omega) (by omega) rfl _ ((ma_fwI (by simp)).tr (ma_fwI (by simp))) ?_ ma_rI (fun m hm => by omega) (fun m hm => by omega)
    rw [ma_rIn (by simp), ma_rI]; rfl
end KS
