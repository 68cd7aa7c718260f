/-! feed, end, out, fault, trouble -/
theorem mt_sh (n : Nat) (hn : n ≤ 24) (x : Int32) : (x.toUInt32 >>> ((nI n).toUInt32 &&& Int32.toUInt32 31)).toInt32 &&& 255 = (x >>> (nI n &&& 31)) &&& 255 := b_ext (fun i hi => by
  rw [b_and, b_and, b_ushr n (by omega), b_sshr n (by omega) x hi, b_255]
  by_cases h : n + i < 32
  · rw [if_pos h]
  · rw [decide_eq_false (by omega), Bool.and_false, Bool.and_false])
def mt_app (t : mt_T) (x : Int32) : mt_T := (t.1 + 1, fun k => if k = t.1 then x else t.2 k)
theorem mt_app_by {t : mt_T} {x : Int32} (h : ∀ k, mb_by (t.2 k)) (hx : mb_by x) : ∀ k, mb_by ((mt_app t x).2 k) := fun k => by
  show mb_by (if k = t.1 then x else t.2 k)
  by_cases e : k = t.1
  · rw [if_pos e]; exact hx
  · rw [if_neg e]; exact h k
theorem mt_R.app {g : Nat} {i : Fin 32} {t : mt_T} {x : Int32} {σ τ : ae_S} (H : mt_R g i t σ) (h1 : ∀ k, k < t.1 → τ.1 g i k = σ.1 g i k) (h2 : τ.1 g i t.1 = x) : mt_R g i (mt_app t x) τ := fun k hk => by
  show _ = if k = t.1 then x else t.2 k
  have hk2 : k < t.1 + 1 := hk
  by_cases e : k = t.1
  · rw [if_pos e, e]; exact h2
  · rw [if_neg e, h1 k (by omega)]; exact H k (by omega)
/-- a sign behind a row of the class: i = 0 the tape, i = 1 what is shown -/
theorem mt_add {i : Fin 32} {cap : Nat} {t : mt_T} {σ : ae_S} {v : Int32} (hi : i = 0 ∧ cap = 500 ∨ i = 1 ∧ cap = 256) (h : σ.1 1 i 1 = nI t.1) (hR : mt_R 2 i t σ) (hc : t.1 < cap) : ma_wp (F_X7_add i v σ) (fun _ τ => τ.1 1 i 1 = nI (t.1 + 1) ∧ mt_R 2 i (mt_app t (v &&& 255)) τ ∧ ma_fr (fun g j _ => ¬ ((g = 1 ∨ g = 2) ∧ j = i)) σ τ) := by
  have hcap : (if i = 0 then 500 else 256) = cap := by rcases hi with ⟨rfl, rfl⟩ | ⟨rfl, rfl⟩ <;> decide
  have hc2 : cap ≤ 500 := by rcases hi with ⟨_, rfl⟩ | ⟨_, rfl⟩ <;> decide
  have ok : ae_ok (1, i) = true ∧ ae_ok (2, i) = true := by rcases hi with ⟨rfl, _⟩ | ⟨rfl, _⟩ <;> decide
  unfold F_X7_add F_X7_add_36
  rw [hcap]
  refine ma_gd ok.1 (ma_gd ok.2 (ma_F ?_ (ma_gd (ma_ib t.1 h hc (by omega)) (ma_lt (ma_lt (ma_ret ⟨?_, ?_, ?_⟩))))))
  · rw [h]; exact nI_ge hc (by omega)
  · rw [ma_rI, ma_rIn (by simp), h, nI_1]
  · refine hR.app (fun k hk => ?_) ?_
    · rw [ma_rIn (by simp), ma_rIn (fun q => by rw [ma_cl t.1 h (by omega)] at q; omega)]
    · rw [ma_rIn (by simp), ma_cl t.1 h (by omega), ma_rI]
  · exact (ma_fwI (fun q => q ⟨.inr rfl, rfl⟩)).tr (ma_fwI (fun q => q ⟨.inl rfl, rfl⟩))
def mt_four (t : mt_T) (v : Int32) : mt_T := mt_app (mt_app (mt_app (mt_app t ((v >>> (nI 24 &&& 31)) &&& 255)) ((v >>> (nI 16 &&& 31)) &&& 255)) ((v >>> (nI 8 &&& 31)) &&& 255)) (v &&& 255)
theorem mt_four_by {t : mt_T} {v : Int32} (h : ∀ k, mb_by (t.2 k)) : ∀ k, mb_by ((mt_four t v).2 k) := mt_app_by (mt_app_by (mt_app_by (mt_app_by h (mb_byA _)) (mb_byA _)) (mb_byA _)) (mb_byA _)
theorem mt_addFour {t : mt_T} {σ : ae_S} {v : Int32} (H : mi_Ct t σ) (hc : t.1 + 4 ≤ 500) : ma_wp (F_X7_addFour 0 v σ) (fun _ τ => mi_Ct (mt_four t v) τ ∧ ma_fr (fun g j _ => ¬ ((g = 1 ∨ g = 2) ∧ j = 0)) σ τ) := by
  unfold F_X7_addFour
  refine ma_gd (by decide) (ma_bd (mt_add (.inl ⟨rfl, rfl⟩) H.1 H.2 (by omega)) (fun _ τ1 q1 => ?_))
  refine ma_bd (mt_add (t := mt_app t _) (.inl ⟨rfl, rfl⟩) q1.1 q1.2.1 (by show t.1 + 1 < 500; omega)) (fun _ τ2 q2 => ?_)
  refine ma_bd (mt_add (t := mt_app (mt_app t _) _) (.inl ⟨rfl, rfl⟩) q2.1 q2.2.1 (by show t.1 + 1 + 1 < 500; omega)) (fun _ τ3 q3 => ?_)
  refine ma_bd (mt_add (t := mt_app (mt_app (mt_app t _) _) _) (.inl ⟨rfl, rfl⟩) q3.1 q3.2.1 (by show t.1 + 1 + 1 + 1 < 500; omega)) (fun _ τ4 q4 => ?_)
  refine ma_ret ⟨⟨q4.1, ?_⟩, q1.2.2.tr (q2.2.2.tr (q3.2.2.tr q4.2.2))⟩
  have h := q4.2.1
  rw [show (24 : Int32) = nI 24 from rfl, show (16 : Int32) = nI 16 from rfl, show (8 : Int32) = nI 8 from rfl, mt_sh 24 (by decide), mt_sh 16 (by decide), mt_sh 8 (by decide)] at h
  exact h
theorem mt_fourS {t : mt_T} {σ : ae_S} {v : Int32} {n s : Nat} {Q : Unit → ae_S → Prop} (H : mi_Mt t σ) (hc : t.1 < 500) (hs : s < 32) (k : ∀ τ, mi_Mt (mt_app t ((v >>> (nI s &&& 31)) &&& 255)) τ → ma_fr (fun g _ k => ¬ (g = 46 ∨ g = 30 ∧ k = 20)) σ τ → ma_wp (F_X12_four_3 n v (nI s + (-8 : Int32)) τ) Q) : ma_wp (F_X12_four_3 (n + 1) v (nI s) σ) Q := by
  unfold F_X12_four_3
  refine ma_F (nI_pos (by omega)) (ma_gd (ma_ib t.1 H.1 hc (by decide)) (ma_lt (ma_lt (ma_lt ?_))))
  refine k _ ⟨?_, H.2.app (fun j hj => ?_) ?_⟩ ?_
  · rw [ma_rI, ma_rIn (by simp), H.1, nI_1]; rfl
  · rw [ma_rIn (by simp), ma_rIn (fun q => by rw [ma_cl t.1 H.1 (by omega)] at q; omega)]
  · rw [ma_rIn (by simp), ma_cl t.1 H.1 (by omega), ma_rI]
  · exact (ma_fwI (fun q => q (.inl rfl))).tr (ma_fwI (fun q => q (.inr ⟨rfl, rfl⟩)))
theorem mt_fourM {t : mt_T} {σ : ae_S} {v : Int32} (H : mi_Mt t σ) (hc : t.1 + 4 ≤ 500) : ma_wp (F_X12_four v σ) (fun _ τ => mi_Mt (mt_four t v) τ ∧ ma_fr (fun g _ k => ¬ (g = 46 ∨ g = 30 ∧ k = 20)) σ τ) := by
  unfold F_X12_four
  rw [show ae_fu = 4091 + 1 + 1 + 1 + 1 + 1 from rfl]
  refine mt_fourS (s := 24) H (by omega) (by decide) (fun τ1 h1 f1 => ?_)
  rw [show nI 24 + (-8 : Int32) = nI 16 by decide]
  refine mt_fourS (s := 16) h1 (by show t.1 + 1 < 500; omega) (by decide) (fun τ2 h2 f2 => ?_)
  rw [show nI 16 + (-8 : Int32) = nI 8 by decide]
  refine mt_fourS (s := 8) h2 (by show t.1 + 1 + 1 < 500; omega) (by decide) (fun τ3 h3 f3 => ?_)
  rw [show nI 8 + (-8 : Int32) = nI 0 by decide]
  refine mt_fourS (s := 0) h3 (by show t.1 + 1 + 1 + 1 < 500; omega) (by decide) (fun τ4 h4 f4 => ?_)
  unfold F_X12_four_3
  refine ma_T (by decide) (ma_ret ⟨?_, f1.tr (f2.tr (f3.tr f4))⟩)
  rw [show v >>> (nI 0 &&& 31) = v from sb_shr0 v] at h4
  exact h4
theorem mi_Ctape {a : mi_A} {t : mt_T} {σ τ : ae_S} (H : mi_C a σ) (f : ma_fr (fun g j _ => ¬ ((g = 1 ∨ g = 2) ∧ j = 0)) σ τ) (h : mi_Ct t τ) : mi_C (a.1, a.2.1, t, a.2.2.2) τ := by
  obtain ⟨h1, h2, h3, h4, h5, h6⟩ := H
  exact ⟨h1.fr f (fun _ _ q => by omega) (fun _ _ q => by omega), h2.fr f (fun _ _ _ _ _ q => by omega), h, h4.fr f (by decide) (fun _ q => by revert q; decide), h5.fr f (by decide) (fun _ q => by omega), h6.fr f (by decide) (by decide)⟩
theorem mi_Mtape {a : mi_A} {t : mt_T} {σ τ : ae_S} (H : mi_M a σ) (f : ma_fr (fun g _ k => ¬ (g = 46 ∨ g = 30 ∧ k = 20)) σ τ) (h : mi_Mt t τ) : mi_M (a.1, a.2.1, t, a.2.2.2) τ := by
  obtain ⟨h1, h2, h3, h4, h5, h6⟩ := H
  exact ⟨h1.fr f (by decide) (by decide) (fun _ _ => by omega) (fun _ _ => by omega) (fun _ _ => by omega), h2.fr f (by decide) (fun _ _ _ _ => by omega), h, h4.fr f (by decide) (fun _ => by omega), h5.fr f (by decide) (fun _ => by omega), h6.fr f (by decide) (by decide)⟩
theorem mz_feed : zp_feed mi_I := fun v1 v2 v3 v4 v5 => mi_zp (fun a hW => by
  obtain ⟨w1, w2, w3, w4⟩ := hW
  by_cases h : (mi_t a).1 + 20 ≤ 500
  · refine ⟨nI ((mi_t a).1 + 20), (a.1, a.2.1, mt_four (mt_four (mt_four (mt_four (mt_four (mi_t a) v1) v2) v3) v4) v5, a.2.2.2), ⟨w1, w2, ⟨h, mt_four_by (mt_four_by (mt_four_by (mt_four_by (mt_four_by w3.2))))⟩, w4⟩, fun σ H => ?_, fun σ H => ?_⟩
    · have hl : ∀ (t : mt_T) (τ : ae_S), mi_Ct t τ → F_X7_length 0 τ = some (nI t.1, τ) := fun t τ h => by
        refine ma_eq ?_
        unfold F_X7_length
        exact ma_gd (by decide) (ma_ret ⟨h.1, rfl⟩)
      unfold F_X11_feed
      refine ma_be (hl _ _ H.2.2.1) (ma_T ?_ ?_)
      · rw [show (20 : Int32) = nI 20 from rfl, nI_add]; exact nI_le (b := 500) h (by decide)
      refine ma_bd (mt_addFour H.2.2.1 (by omega)) (fun _ τ1 q1 => ?_)
      refine ma_bd (mt_addFour q1.1 (by show (mi_t a).1 + 4 + 4 ≤ 500; omega)) (fun _ τ2 q2 => ?_)
      refine ma_bd (mt_addFour q2.1 (by show (mi_t a).1 + 4 + 4 + 4 ≤ 500; omega)) (fun _ τ3 q3 => ?_)
      refine ma_bd (mt_addFour q3.1 (by show (mi_t a).1 + 4 + 4 + 4 + 4 ≤ 500; omega)) (fun _ τ4 q4 => ?_)
      refine ma_bd (mt_addFour q4.1 (by show (mi_t a).1 + 4 + 4 + 4 + 4 + 4 ≤ 500; omega)) (fun _ τ5 q5 => ?_)
      have f := q1.2.tr (q2.2.tr (q3.2.tr (q4.2.tr q5.2)))
      exact ma_be (hl _ _ q5.1) (ma_ret ⟨rfl, mi_Ctape H f q5.1, f.mo (fun g i k q => by omega)⟩)
    · unfold F_X12_feed
      refine ma_T ?_ ?_
      · rw [H.2.2.1.1, show (20 : Int32) = nI 20 from rfl, nI_add]; exact nI_le (b := 500) h (by decide)
      refine ma_bd (mt_fourM H.2.2.1 (by omega)) (fun _ τ1 q1 => ?_)
      refine ma_bd (mt_fourM q1.1 (by show (mi_t a).1 + 4 + 4 ≤ 500; omega)) (fun _ τ2 q2 => ?_)
      refine ma_bd (mt_fourM q2.1 (by show (mi_t a).1 + 4 + 4 + 4 ≤ 500; omega)) (fun _ τ3 q3 => ?_)
      refine ma_bd (mt_fourM q3.1 (by show (mi_t a).1 + 4 + 4 + 4 + 4 ≤ 500; omega)) (fun _ τ4 q4 => ?_)
      refine ma_bd (mt_fourM q4.1 (by show (mi_t a).1 + 4 + 4 + 4 + 4 + 4 ≤ 500; omega)) (fun _ τ5 q5 => ?_)
      have f := q1.2.tr (q2.2.tr (q3.2.tr (q4.2.tr q5.2)))
      exact ma_ret ⟨q5.1.1, mi_Mtape H f q5.1, f.mo (fun g i k q => by omega)⟩
  · refine ⟨-1, a, ⟨w1, w2, w3, w4⟩, mi_c1 (fun σ H => ?_), mi_d1 (fun σ H => ?_)⟩
    · unfold F_X11_feed F_X7_length
      refine ma_be (r := σ.1 1 0 1) (s := σ) (by rfl) (ma_F ?_ (ma_ret ⟨rfl, rfl⟩))
      rw [H.2.2.1.1, show (20 : Int32) = nI 20 from rfl, nI_add]; exact nI_ge (a := 500) (by omega) (by omega)
    · unfold F_X12_feed
      refine ma_F ?_ (ma_ret ⟨rfl, rfl⟩)
      rw [H.2.2.1.1, show (20 : Int32) = nI 20 from rfl, nI_add]; exact nI_ge (a := 500) (by omega) (by omega))
theorem mz_end : zp_end mi_I := fun v1 => mi_zp (fun a hW => by
  obtain ⟨w1, w2, w3, w4⟩ := hW
  by_cases q : 0 ≤ v1.toInt ∧ v1.toInt ≤ (mi_t a).1
  · obtain ⟨j, hj, rfl⟩ := nI_of (x := v1) (by rw [fa_lt]; show ¬ v1.toInt < 0; omega)
    rw [nI_toInt hj] at q
    refine ⟨1, (a.1, a.2.1, (j, (mi_t a).2), a.2.2.2), ⟨w1, w2, ⟨by show j ≤ 500; omega, w3.2⟩, w4⟩, fun σ H => ?_, fun σ H => ?_⟩
    · unfold F_X11_end F_X7_length F_X7_cut
      refine ma_F (nI_pos hj) (ma_be (r := σ.1 1 0 1) (s := σ) (by rfl) (ma_T (by rw [H.2.2.1.1]; exact nI_le (by omega) (by omega)) (ma_be (r := ()) (s := ae_wI σ 1 0 1 (nI j)) (by rfl) (ma_ret ⟨rfl, mi_Ctape H (ma_fwI (fun q => q ⟨.inl rfl, rfl⟩)) ⟨ma_rI, fun k hk => ?_⟩, ma_fwI (by decide)⟩))))
      have hk : k < j := hk
      rw [ma_rIn (by simp)]
      exact H.2.2.1.2 k (by omega)
    · unfold F_X12_end
      refine ma_be (ma_isInL (mi_t a).1 H.2.2.1.1 (by omega) σ) ?_
      rw [nI_toInt hj, if_pos q]
      refine ma_F ma_01 (ma_lt (ma_ret ⟨rfl, mi_Mtape H (ma_fwI (fun q => q (.inr ⟨rfl, rfl⟩))) ⟨ma_rI, fun k hk => ?_⟩, ma_fwI (by decide)⟩))
      have hk : k < j := hk
      rw [ma_rIn (by simp)]
      exact H.2.2.1.2 k (by omega)
  · refine ⟨0, a, ⟨w1, w2, w3, w4⟩, mi_c1 (fun σ H => ?_), mi_d1 (fun σ H => ?_)⟩
    · unfold F_X11_end F_X11_end_15 F_X7_length
      refine ma_if (fun _ => ma_ret ⟨rfl, rfl⟩) (fun q1 => ma_be (r := σ.1 1 0 1) (s := σ) (by rfl) (ma_F (fun q2 => q ?_) (ma_ret ⟨rfl, rfl⟩)))
      rw [H.2.2.1.1, (mz_lit v1 (mi_t a).1 (by omega)).2.1] at q2
      rw [fa_lt] at q1
      have q1 : ¬ v1.toInt < 0 := q1
      omega
    · unfold F_X12_end
      refine ma_be (ma_isInL (mi_t a).1 H.2.2.1.1 (by omega) σ) ?_
      rw [if_neg q]
      exact ma_T rfl (ma_ret ⟨rfl, rfl⟩))
theorem mz_out : zp_out mi_I := fun v1 => mi_zp (fun a hW => by
  have hs : (mi_s a).1 ≤ 256 := hW.2.2.2.1
  refine ⟨if 0 ≤ v1.toInt ∧ v1.toInt < (mi_s a).1 then (mi_s a).2 v1.toNatClampNeg else -1, a, hW, mi_c1 (fun σ H => ?_), mi_d1 (fun σ H => ?_)⟩
  · obtain ⟨h1, h2⟩ := H.2.2.2.1
    have hh : F_X7_has 1 v1 σ = some (if 0 ≤ v1.toInt ∧ v1.toInt < (mi_s a).1 then 1 else 0, σ) := by
      refine ma_eq ?_
      unfold F_X7_has F_X7_has_16 F_X7_has_17
      rcases ma_ix v1 (n := (mi_s a).1) (by omega) with ⟨q1, q2⟩ | ⟨q1, q2, q3⟩ | ⟨j, q1, q2, q3⟩
      · rw [if_neg (c := 0 ≤ v1.toInt ∧ v1.toInt < ((mi_s a).1 : Int)) (fun q => by omega)]
        exact ma_T q1 (ma_gd ma_z0 (ma_ret ⟨rfl, rfl⟩))
      · rw [if_neg (c := 0 ≤ v1.toInt ∧ v1.toInt < ((mi_s a).1 : Int)) (fun q => by omega)]
        exact ma_F q1 (ma_gd (by decide) (ma_T (by rw [h1]; exact q2) (ma_gd ma_z0 (ma_ret ⟨rfl, rfl⟩))))
      · rw [if_pos (c := 0 ≤ v1.toInt ∧ v1.toInt < ((mi_s a).1 : Int)) (by omega)]
        exact ma_F (ma_neg q2 (by omega)) (ma_gd (by decide) (ma_F (by rw [h1, q2]; exact nI_ge q1 (by omega)) (ma_gd ma_z1 (ma_ret ⟨rfl, rfl⟩))))
    unfold F_X11_out F_X11_out_23
    refine ma_be hh ?_
    by_cases q : 0 ≤ v1.toInt ∧ v1.toInt < (mi_s a).1
    · rw [if_pos q, if_pos q]
      obtain ⟨j, hj, rfl⟩ := nI_of (x := v1) (by rw [fa_lt]; show ¬ v1.toInt < 0; omega)
      rw [nI_toInt hj] at q
      refine ma_F ma_01 (ma_be (r := (mi_s a).2 j) (s := σ) (ma_eq ?_) (ma_ret ⟨by rw [nI_clamp hj], rfl⟩))
      unfold F_X7_get F_X7_get_23
      refine ma_F (nI_pos hj) (ma_gd (by decide) (ma_gd (by decide) (ma_F (nI_ge (b := 256) (by omega) (by decide)) (ma_gd (ma_ib (N := 256) j rfl (by omega) (by decide)) (ma_ret ⟨?_, rfl⟩)))))
      rw [nI_clamp hj]
      exact h2 j (by omega)
    · rw [if_neg q, if_neg q]
      exact ma_T rfl (ma_ret ⟨rfl, rfl⟩)
  · obtain ⟨h1, h2⟩ := H.2.2.2.1
    unfold F_X12_out F_X12_out_26
    refine ma_be (ma_isInN (mi_s a).1 h1 (by omega) σ) ?_
    by_cases q : 0 ≤ v1.toInt ∧ v1.toInt < (mi_s a).1
    · rw [if_pos q, if_pos q]
      obtain ⟨j, hj, rfl⟩ := nI_of (x := v1) (by rw [fa_lt]; show ¬ v1.toInt < 0; omega)
      rw [nI_toInt hj] at q
      refine ma_F ma_01 (ma_gd (ma_ib j rfl (by omega) (by decide)) (ma_ret ⟨?_, rfl⟩))
      rw [nI_clamp hj]; exact h2 j (by omega)
    · rw [if_neg q, if_neg q]
      exact ma_T rfl (ma_ret ⟨rfl, rfl⟩))
theorem mz_fault : zp_fault mi_I := fun v1 => mi_zp (fun a hW => by
  refine ⟨if v1 = 0 then (mi_f a).1 else if v1 = 1 then (mi_f a).2 else -1, a, hW, mi_c1 (fun σ H => ?_), mi_d1 (fun σ H => ?_)⟩
  · obtain ⟨h1, h2⟩ := H.2.2.2.2.2
    unfold F_X11_fault F_X11_fault_28 F_X8_faultNumber F_X8_faultPlace
    refine ma_if (fun e => ?_) (fun e => ?_)
    · rw [if_pos e]; exact ma_be rfl (ma_ret ⟨h1, rfl⟩)
    · rw [if_neg e]
      refine ma_if (fun e => ?_) (fun e => ?_)
      · rw [if_pos e]; exact ma_be rfl (ma_ret ⟨h2, rfl⟩)
      · rw [if_neg e]; exact ma_ret ⟨rfl, rfl⟩
  · obtain ⟨h1, h2⟩ := H.2.2.2.2.2
    unfold F_X12_fault F_X12_fault_24
    refine ma_if (fun e => ?_) (fun e => ?_)
    · rw [if_pos e]; exact ma_ret ⟨h1, rfl⟩
    · rw [if_neg e]
      refine ma_if (fun e => ?_) (fun e => ?_)
      · rw [if_pos e]; exact ma_ret ⟨h2, rfl⟩
      · rw [if_neg e]; exact ma_ret ⟨rfl, rfl⟩)
theorem mz_trouble : zp_trouble mi_I := fun v1 => mi_zp (fun a hW => by
  have hn : (mi_r a).1 < 2 ^ 30 := hW.2.2.2.2
  refine ⟨if v1 = -1 then nI (mi_r a).1 else if 0 ≤ v1.toInt ∧ v1.toInt < (mi_r a).1 ∧ v1.toInt < 20 then (mi_r a).2 v1.toNatClampNeg else -1, a, hW, mi_c1 (fun σ H => ?_), mi_d1 (fun σ H => ?_)⟩
  · obtain ⟨h1, h2⟩ := H.2.2.2.2.1
    unfold F_X11_trouble F_X11_trouble_23 F_X4_troubleCount F_X4_troubleAt F_X4_troubleAt_27 F_X4_troubleAt_28
    refine ma_if (fun e => ?_) (fun e => ?_)
    · rw [if_pos e]; exact ma_be rfl (ma_ret ⟨h1, rfl⟩)
    · rw [if_neg e]
      refine ma_bd (P := fun x τ => x = (if 0 ≤ v1.toInt ∧ v1.toInt < (mi_r a).1 ∧ v1.toInt < 20 then (mi_r a).2 v1.toNatClampNeg else -1) ∧ τ = σ) ?_ (fun x τ q => ma_ret q)
      rcases ma_ix v1 (n := (mi_r a).1) (by omega) with ⟨q1, q2⟩ | ⟨q1, q2, q3⟩ | ⟨j, q1, q2, q3⟩
      · rw [if_neg (c := 0 ≤ v1.toInt ∧ v1.toInt < ((mi_r a).1 : Int) ∧ v1.toInt < 20) (fun q => by omega)]
        exact ma_T q1 (ma_ret ⟨rfl, rfl⟩)
      · rw [if_neg (c := 0 ≤ v1.toInt ∧ v1.toInt < ((mi_r a).1 : Int) ∧ v1.toInt < 20) (fun q => by omega)]
        exact ma_F q1 (ma_T (by rw [h1]; exact q2) (ma_ret ⟨rfl, rfl⟩))
      · refine ma_F (ma_neg q2 (by omega)) (ma_F (by rw [h1, q2]; exact nI_ge q1 (by omega)) (ma_le 20 j rfl q2 (by decide) (by omega) (fun q => ?_) (fun q => ?_)))
        · rw [if_neg (c := 0 ≤ v1.toInt ∧ v1.toInt < ((mi_r a).1 : Int) ∧ v1.toInt < 20) (fun q => by omega)]
          exact ma_ret ⟨rfl, rfl⟩
        · rw [if_pos (c := 0 ≤ v1.toInt ∧ v1.toInt < ((mi_r a).1 : Int) ∧ v1.toInt < 20) (by omega)]
          refine ma_gd (ma_ib j q2 q (by decide)) (ma_ret ⟨?_, rfl⟩)
          rw [q2, nI_clamp (by omega)]
          exact h2 j q1 q
  · obtain ⟨h1, h2⟩ := H.2.2.2.2.1
    unfold F_X12_trouble F_X12_trouble_41
    refine ma_if (fun e => ?_) (fun e => ?_)
    · rw [if_pos e]; exact ma_ret ⟨h1, rfl⟩
    · rw [if_neg e]
      have em : (if (20 : Int32) < σ.1 30 0 41 then (20 : Int32) else σ.1 30 0 41) = nI (min 20 (mi_r a).1) := by
        rw [h1, show (20 : Int32) = nI 20 from rfl]
        by_cases q : 20 < (mi_r a).1
        · rw [if_pos (nI_lt (a := 20) q (by omega)), Nat.min_eq_left (by omega)]
        · rw [if_neg (nI_nlt (a := 20) (b := (mi_r a).1) (by omega) (by decide)), Nat.min_eq_right (by omega)]
      rw [em]
      refine ma_be (ma_isInN (min 20 (mi_r a).1) rfl (by omega) σ) ?_
      by_cases q : 0 ≤ v1.toInt ∧ v1.toInt < (mi_r a).1 ∧ v1.toInt < 20
      · rw [if_pos (c := 0 ≤ v1.toInt ∧ v1.toInt < ((min 20 (mi_r a).1 : Nat) : Int)) (by omega), if_pos q]
        obtain ⟨j, hj, rfl⟩ := nI_of (x := v1) (by rw [fa_lt]; show ¬ v1.toInt < 0; omega)
        rw [nI_toInt hj] at q
        refine ma_F ma_01 (ma_gd (ma_ib j rfl (by omega) (by decide)) (ma_ret ⟨?_, rfl⟩))
        rw [nI_clamp hj]; exact h2 j (by omega) (by omega)
      · rw [if_neg (c := 0 ≤ v1.toInt ∧ v1.toInt < ((min 20 (mi_r a).1 : Nat) : Int)) (by omega), if_neg q]
        exact ma_T rfl (ma_ret ⟨rfl, rfl⟩))
