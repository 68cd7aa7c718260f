/-! what class and model ask of the j-th token -/
def kt_nm (T : kt_T) (j : Nat) : Bool := decide (kt_ty T j = 1 ∧ kt_n T j ≤ 6 ∧ kt_res (kt_wv T j) = false)
def kt_wd (T : kt_T) (j : Nat) (i : Fin 32) : Bool := decide (kt_ty T j = 1 ∧ kt_n T j ≤ 6 ∧ kt_wv T j = kt_pk i)
def kt_nu (T : kt_T) (D j : Nat) : Bool := decide (kt_ty T j = 2 ∧ kt_n T j ≤ D)
def kt_sg (T : kt_T) (j c : Nat) : Bool := decide (kt_ty T j = 3 ∧ kt_c T j = c)
def kt_kd (T : kt_T) (j : Nat) : Nat := if kt_ty T j = 1 ∧ kt_n T j ≤ 6 then kt_ko (kt_wv T j) else 9
theorem kt_koR {x : Int64} (h : kt_ko x ≠ 9) : kt_res x = true := decide_eq_true (by simp [h])
theorem kt_rs : ∀ i : Fin 32, i.val < 9 ∨ 16 ≤ i.val ∧ i.val < 25 → kt_res (kt_pk i) = true := by decide +kernel
section KA
variable {T : kt_T} {σ τ : ae_S} {D j : Nat}
theorem kt_endS {m : Nat} (h : kt_ty T m = 0) : ∀ d, kt_s T (m + d) = kt_s T m
  | 0 => rfl
  | d + 1 => by
    have hc : kt_c T m = 256 := by
      unfold kt_ty at h
      by_cases q : kt_c T m = 256
      · exact q
      · rw [if_neg q] at h
        by_cases q2 : kt_L (kt_c T m) = true
        · rw [if_pos q2] at h; cases h
        · rw [if_neg q2] at h
          by_cases q3 : kt_D (kt_c T m) = true
          · rw [if_pos q3] at h; cases h
          · rw [if_neg q3] at h; cases h
    have h1 := kt_endS h d
    have hc2 : kt_b T (kt_s T (m + d)) = 256 := by rw [h1]; exact hc
    show kt_sk T (kt_en T (kt_s T (m + d))) = _
    have e1 : kt_en T (kt_s T (m + d)) = kt_s T (m + d) := by unfold kt_en; rw [if_pos hc2]
    rw [e1]
    have e2 : kt_sk T (kt_s T (m + d)) = kt_s T (m + d) := kt_nxF (by show kt_B (kt_b T (kt_s T (m + d))) = false; rw [hc2]; decide)
    rw [e2, h1]
theorem kt_same {a b : Nat} (h : kt_s T a = kt_s T b) : kt_ty T a = kt_ty T b ∧ kt_n T a = kt_n T b ∧ kt_cty T D a = kt_cty T D b ∧ kt_cvl T a = kt_cvl T b := by
  have hc : kt_c T a = kt_c T b := by unfold kt_c; rw [h]
  have he : kt_e T a = kt_e T b := by unfold kt_e; rw [h]
  have hn : kt_n T a = kt_n T b := by unfold kt_n; rw [h, he]
  have ht : kt_ty T a = kt_ty T b := by unfold kt_ty; rw [hc]
  have hw : kt_wv T a = kt_wv T b := by unfold kt_wv; rw [h, hn]
  have hv : kt_nv T a = kt_nv T b := by unfold kt_nv; rw [h, hn]
  refine ⟨ht, hn, ?_, ?_⟩
  · unfold kt_cty; rw [ht, hn, hw]
  · unfold kt_cvl; rw [ht, hn, hw, hv, hc]
theorem kt_at (H : kt_St T D j σ) : ∃ cur, cur < 501 ∧ σ.1 12 0 6 = nI cur ∧ σ.1 13 0 cur = nI (kt_cty T D j) ∧ σ.1 13 1 cur = nI (kt_s T j) ∧ σ.1 13 2 cur = nI (kt_n T j) ∧ σ.2.1 14 0 cur = kt_cvl T j := by
  obtain ⟨N, h1, h2, h3, h4, h5, h6, h7⟩ := H
  have hs : kt_s T (min j (N - 1)) = kt_s T j := by
    rcases Nat.le_total j (N - 1) with q | q
    · rw [Nat.min_eq_left q]
    · rw [Nat.min_eq_right q]
      have := kt_endS h3 (j - (N - 1))
      rw [show N - 1 + (j - (N - 1)) = j by omega] at this
      exact this.symm
  obtain ⟨g1, g2, g3, g4⟩ := kt_same (D := D) hs
  obtain ⟨r1, r2, r3, r4⟩ := h7 (min j (N - 1)) (by omega)
  exact ⟨min j (N - 1), by omega, h6, by rw [r1, g3], by rw [r2, hs], by rw [r3, g2], by rw [r4, g4]⟩
theorem kt_ctyB : kt_cty T D j ≤ 5 := by
  unfold kt_cty
  split
  · decide
  · split
    · split
      · split <;> decide
      · decide
    · split
      · split <;> decide
      · decide
theorem kt_tyB : kt_ty T j ≤ 3 := by
  unfold kt_ty
  split
  · decide
  · split
    · decide
    · split <;> decide
theorem kc_ty (H : kt_St T D j σ) {t : Nat} (ht : t < 100) : F_X8_isType (nI t) σ = some (mv_bI (decide (kt_cty T D j = t)), σ) := by
  obtain ⟨cur, c1, c2, c3, -⟩ := kt_at H
  have hB := kt_ctyB (T := T) (D := D) (j := j)
  refine ma_eq ?_
  unfold F_X8_isType F_X8_isType_29 F_X8_isType_30
  rw [c2, nI_clamp (by omega)]
  refine ma_F (nI_ge (b := 501) c1 (by decide)) (ma_gd (ma_ib cur rfl c1 (by decide)) (ma_en _ t c3 rfl (by omega) (by omega) (fun q => ?_) (fun q => ?_)))
  · rw [decide_eq_true q]; exact ma_gd ma_z1 (ma_ret ⟨rfl, rfl⟩)
  · rw [decide_eq_false q]; exact ma_gd ma_z0 (ma_ret ⟨rfl, rfl⟩)
theorem kt_cty0 : kt_cty T D j = 0 ↔ kt_ty T j = 0 := by
  have hB := kt_tyB (T := T) (j := j)
  unfold kt_cty
  by_cases h0 : kt_ty T j = 0
  · rw [if_pos h0]; omega
  · rw [if_neg h0]
    refine iff_of_false ?_ h0
    split
    · split
      · split <;> decide
      · decide
    · split
      · split <;> decide
      · decide
theorem kt_cty1 : kt_cty T D j = 1 ↔ (kt_ty T j = 1 ∧ kt_n T j ≤ 6 ∧ kt_res (kt_wv T j) = false) := by
  unfold kt_cty
  by_cases h0 : kt_ty T j = 0
  · rw [if_pos h0]; omega
  rw [if_neg h0]
  by_cases h1 : kt_ty T j = 1
  · rw [if_pos h1]
    by_cases h2 : kt_n T j ≤ 6
    · rw [if_pos h2]
      cases kt_res (kt_wv T j) with
      | true => simp
      | false => simp [h1, h2]
    · rw [if_neg h2]; omega
  · rw [if_neg h1]
    split
    · split <;> omega
    · omega
theorem kt_cty2 : kt_cty T D j = 2 ↔ (kt_ty T j = 1 ∧ kt_n T j ≤ 6 ∧ kt_res (kt_wv T j) = true) := by
  unfold kt_cty
  by_cases h0 : kt_ty T j = 0
  · rw [if_pos h0]; omega
  rw [if_neg h0]
  by_cases h1 : kt_ty T j = 1
  · rw [if_pos h1]
    by_cases h2 : kt_n T j ≤ 6
    · rw [if_pos h2]
      cases kt_res (kt_wv T j) with
      | true => simp [h1, h2]
      | false => simp
    · rw [if_neg h2]; omega
  · rw [if_neg h1]
    split
    · split <;> omega
    · omega
theorem kt_cty3 : kt_cty T D j = 3 ↔ (kt_ty T j = 2 ∧ kt_n T j ≤ D) := by
  unfold kt_cty
  by_cases h0 : kt_ty T j = 0
  · rw [if_pos h0]; omega
  rw [if_neg h0]
  by_cases h1 : kt_ty T j = 1
  · rw [if_pos h1]
    split
    · split <;> omega
    · omega
  · rw [if_neg h1]
    by_cases h2 : kt_ty T j = 2
    · rw [if_pos h2]
      split <;> omega
    · rw [if_neg h2]; omega
theorem kt_cty4 : kt_cty T D j = 4 ↔ kt_ty T j = 3 := by
  have hB := kt_tyB (T := T) (j := j)
  unfold kt_cty
  by_cases h0 : kt_ty T j = 0
  · rw [if_pos h0]; omega
  rw [if_neg h0]
  by_cases h1 : kt_ty T j = 1
  · rw [if_pos h1]
    split
    · split <;> omega
    · omega
  · rw [if_neg h1]
    by_cases h2 : kt_ty T j = 2
    · rw [if_pos h2]
      split <;> omega
    · rw [if_neg h2]; omega
theorem kc_end (H : kt_St T D j σ) : F_X8_isEnd σ = some (mv_bI (decide (kt_ty T j = 0)), σ) := by
  refine ma_eq ?_
  unfold F_X8_isEnd
  refine ma_be (kc_ty H (t := 0) (by decide)) (ma_gd (mv_bz _) (ma_ret ⟨?_, rfl⟩))
  congr 1
  exact decide_eq_decide.mpr kt_cty0
theorem kc_name (H : kt_St T D j σ) : F_X8_isName σ = some (mv_bI (kt_nm T j), σ) := by
  refine ma_eq ?_
  unfold F_X8_isName
  refine ma_be (kc_ty H (t := 1) (by decide)) (ma_gd (mv_bz _) (ma_ret ⟨?_, rfl⟩))
  congr 1
  exact decide_eq_decide.mpr kt_cty1
theorem kc_num (H : kt_St T D j σ) : F_X8_isNumber σ = some (mv_bI (kt_nu T D j), σ) := by
  refine ma_eq ?_
  unfold F_X8_isNumber
  refine ma_be (kc_ty H (t := 3) (by decide)) (ma_gd (mv_bz _) (ma_ret ⟨?_, rfl⟩))
  congr 1
  exact decide_eq_decide.mpr kt_cty3
theorem kc_value (H : kt_St T D j σ) : F_X8_value σ = some (kt_cvl T j, σ) := by
  obtain ⟨cur, c1, c2, c3, c4, c5, c6⟩ := kt_at H
  refine ma_eq ?_
  unfold F_X8_value F_X8_value_25
  rw [c2, nI_clamp (by omega)]
  exact ma_F (nI_ge (b := 501) c1 (by decide)) (ma_gd (ma_ib cur rfl c1 (by decide)) (ma_ret ⟨c6, rfl⟩))
theorem kc_place (H : kt_St T D j σ) : F_X8_place σ = some (nI (kt_s T j), σ) := by
  obtain ⟨cur, c1, c2, c3, c4, c5, c6⟩ := kt_at H
  refine ma_eq ?_
  unfold F_X8_place F_X8_place_25
  rw [c2, nI_clamp (by omega)]
  exact ma_F (nI_ge (b := 501) c1 (by decide)) (ma_gd (ma_ib cur rfl c1 (by decide)) (ma_ret ⟨c4, rfl⟩))
theorem kc_len (H : kt_St T D j σ) : F_X8_length σ = some (nI (kt_n T j), σ) := by
  obtain ⟨cur, c1, c2, c3, c4, c5, c6⟩ := kt_at H
  refine ma_eq ?_
  unfold F_X8_length F_X8_length_25
  rw [c2, nI_clamp (by omega)]
  exact ma_F (nI_ge (b := 501) c1 (by decide)) (ma_gd (ma_ib cur rfl c1 (by decide)) (ma_ret ⟨c5, rfl⟩))
theorem kc_sign (H : kt_St T D j σ) (hT : kt_W T) {c : Nat} (hc : c < 256) : F_X8_isSign (nI c) σ = some (mv_bI (kt_sg T j c), σ) := by
  obtain ⟨cur, c1, c2, c3, c4, c5, c6⟩ := kt_at H
  have hB := kt_ctyB (T := T) (D := D) (j := j)
  have hb := (kt_bl hT (kt_s T j)).1
  refine ma_eq ?_
  unfold F_X8_isSign F_X8_isSign_44 F_X8_isSign_45 kt_sg
  rw [c2, nI_clamp (by omega), c6]
  refine ma_F (nI_ge (b := 501) c1 (by decide)) (ma_gd (ma_ib cur rfl c1 (by decide)) (ma_en _ 4 c3 rfl (by omega) (by decide) (fun q => ma_gd (ma_ib cur rfl c1 (by decide)) ?_) (fun q => ?_)))
  · have ht := kt_cty4.mp q
    have hv : kt_cvl T j = lN (kt_c T j) := by unfold kt_cvl; rw [ht]; rfl
    rw [hv, nI_l (by omega)]
    have hcb : kt_c T j ≤ 256 := hb
    refine ma_if (fun g => ?_) (fun g => ?_)
    · rw [lg_cmp_eq, lN_eq (by omega) (by omega)] at g
      rw [decide_eq_true ⟨ht, g⟩]; exact ma_gd ma_z1 (ma_ret ⟨rfl, rfl⟩)
    · rw [lg_cmp_eq, lN_eq (by omega) (by omega)] at g
      rw [decide_eq_false (fun w => g w.2)]; exact ma_gd ma_z0 (ma_ret ⟨rfl, rfl⟩)
  · rw [decide_eq_false (fun w => q (kt_cty4.mpr w.1))]; exact ma_gd ma_z0 (ma_ret ⟨rfl, rfl⟩)
theorem kc_word (H : kt_St T D j σ) {i : Fin 32} (hi : i.val < 9 ∨ 16 ≤ i.val ∧ i.val < 25) : F_X8_isWord i σ = some (mv_bI (kt_wd T j i), σ) := by
  have hr := kt_rs i hi
  refine ma_eq ?_
  unfold F_X8_isWord F_X8_isWord_24 F_X8_isWord_25
  refine ma_be (kc_ty H (t := 2) (by decide)) ?_
  by_cases q : kt_cty T D j = 2
  · rw [decide_eq_true q]
    obtain ⟨q1, q2, q3⟩ := kt_cty2.mp q
    have hv : kt_cvl T j = kt_wv T j := by unfold kt_cvl; rw [q1, if_neg (by decide), if_pos rfl, if_pos q2]
    refine ma_F (by decide) (ma_be (kc_value H) (ma_be (kt_pkC (by omega) σ) ?_))
    rw [hv]
    unfold kt_wd
    refine ma_if (fun g => ?_) (fun g => ?_)
    · rw [decide_eq_true ⟨q1, q2, (lg_cmp_eq _ _).mp g⟩]; exact ma_gd ma_z1 (ma_ret ⟨rfl, rfl⟩)
    · rw [decide_eq_false (fun w => g ((lg_cmp_eq _ _).mpr w.2.2))]; exact ma_gd ma_z0 (ma_ret ⟨rfl, rfl⟩)
  · rw [decide_eq_false q]
    have : kt_wd T j i = false := decide_eq_false (fun w => q (kt_cty2.mpr ⟨w.1, w.2.1, by rw [w.2.2]; exact hr⟩))
    rw [this]
    exact ma_T rfl (ma_gd ma_z0 (ma_ret ⟨rfl, rfl⟩))
theorem kc_kind (H : kt_St T D j σ) : F_X8_kindHere σ = some (if kt_kd T j = 9 then none else some (Fin.ofNat 32 (kt_kd T j)), σ) := by
  refine ma_eq ?_
  unfold F_X8_kindHere F_X8_kindHere_19
  refine ma_be (kc_ty H (t := 2) (by decide)) ?_
  by_cases q : kt_cty T D j = 2
  · rw [decide_eq_true q]
    obtain ⟨q1, q2, q3⟩ := kt_cty2.mp q
    have hv : kt_cvl T j = kt_wv T j := by unfold kt_cvl; rw [q1, if_neg (by decide), if_pos rfl, if_pos q2]
    have hk : kt_kd T j = kt_ko (kt_wv T j) := if_pos ⟨q1, q2⟩
    refine ma_F (by decide) (ma_be (kc_value H) (ma_be (kt_koC _ σ) (ma_ret ⟨?_, rfl⟩)))
    rw [hv, hk]
  · rw [decide_eq_false q]
    have hk : kt_kd T j = 9 := by
      unfold kt_kd
      by_cases g : kt_ty T j = 1 ∧ kt_n T j ≤ 6
      · rw [if_pos g]
        by_cases g2 : kt_ko (kt_wv T j) = 9
        · exact g2
        · exact absurd (kt_cty2.mpr ⟨g.1, g.2, kt_koR g2⟩) q
      · rw [if_neg g]
    rw [hk]
    exact ma_T rfl (ma_ret ⟨rfl, rfl⟩)
theorem kt_St.fr {P : Nat → Fin 32 → Nat → Prop} (H : kt_St T D j σ) (f : ma_fr P σ τ) (p5 : P 12 0 5) (p6 : P 12 0 6) (p13 : ∀ i k, P 13 i k) (p14 : ∀ k, P 14 0 k) : kt_St T D j τ := by
  obtain ⟨N, h1, h2, h3, h4, h5, h6, h7⟩ := H
  refine ⟨N, h1, h2, h3, h4, (f.i p5).trans h5, (f.i p6).trans h6, fun i hi => ?_⟩
  obtain ⟨r1, r2, r3, r4⟩ := h7 i hi
  exact ⟨(f.i (p13 _ _)).trans r1, (f.i (p13 _ _)).trans r2, (f.i (p13 _ _)).trans r3, (f.l (p14 _)).trans r4⟩
theorem kc_adv (H : kt_St T D j σ) : ma_wp (F_X8_advance σ) (fun _ τ => kt_St T D (j + 1) τ ∧ ma_fr (fun g _ k => ¬ (g = 12 ∧ k = 6)) σ τ) := by
  obtain ⟨N, h1, h2, h3, h4, h5, h6, h7⟩ := H
  unfold F_X8_advance F_X8_advance_23
  rw [h5, h6, nI_1]
  refine ma_le N (min j (N - 1) + 1) rfl rfl (by omega) (by omega) (fun q => ma_ret ⟨⟨N, h1, h2, h3, h4, h5, ?_, h7⟩, ma_fr.rf⟩) (fun q => ma_lt (ma_ret ⟨⟨N, h1, h2, h3, h4, ?_, ?_, fun i hi => ?_⟩, ma_fwI (by simp)⟩))
  · rw [h6]; congr 1; omega
  · rw [ma_rIn (by simp)]; exact h5
  · rw [ma_rI]; congr 1; omega
  · obtain ⟨r1, r2, r3, r4⟩ := h7 i hi
    exact ⟨by rw [ma_rIn (by simp)]; exact r1, by rw [ma_rIn (by simp)]; exact r2, by rw [ma_rIn (by simp)]; exact r3, r4⟩
theorem kc_ref (H : kt_St T D j σ) (f : Int32) : ma_wp (F_X8_refuse f σ) (fun r τ => r = 0 ∧ τ.1 12 0 7 = f ∧ τ.1 12 0 8 = nI (kt_s T j) ∧ ma_fr (fun g _ k => ¬ (g = 12 ∧ (k = 7 ∨ k = 8))) σ τ) := by
  obtain ⟨cur, c1, c2, c3, c4, c5, c6⟩ := kt_at H
  unfold F_X8_refuse F_X8_refuse_31
  refine ma_lt ?_
  rw [ma_rIn (by simp), c2, nI_clamp (by omega)]
  refine ma_F (nI_ge (b := 501) c1 (by decide)) (ma_gd (ma_ib cur rfl c1 (by decide)) (ma_lt (ma_ret ⟨rfl, ?_, ?_, (ma_fwI (by simp)).tr (ma_fwI (by simp))⟩)))
  · rw [ma_rIn (by simp), ma_rI]
  · rw [ma_rI, ma_rIn (by simp)]; exact c4
theorem kc_take (H : kt_St T D j σ) (hT : kt_W T) {c : Nat} (hc : c < 256) : ma_wp (F_X8_takeSign (nI c) σ) (fun r τ => (kt_sg T j c = true ∧ r = 1 ∧ kt_St T D (j + 1) τ ∧ ma_fr (fun g _ k => ¬ (g = 12 ∧ k = 6)) σ τ) ∨ (kt_sg T j c = false ∧ r = 0 ∧ τ.1 12 0 7 = 1 ∧ τ.1 12 0 8 = nI (kt_s T j) ∧ ma_fr (fun g _ k => ¬ (g = 12 ∧ (k = 7 ∨ k = 8))) σ τ)) := by
  unfold F_X8_takeSign
  refine ma_be (kc_sign H hT hc) ?_
  cases kt_sg T j c with
  | true => exact ma_F (by decide) (ma_bd (kc_adv H) (fun _ τ q => ma_ret (.inl ⟨rfl, rfl, q⟩)))
  | false => exact ma_T rfl (ma_bd (kc_ref H 1) (fun r τ q => by obtain ⟨rfl, q⟩ := q; exact ma_gd ma_z0 (ma_ret (.inr ⟨rfl, rfl, q⟩))))
end KA
