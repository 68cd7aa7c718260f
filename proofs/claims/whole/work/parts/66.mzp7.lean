/-! show: the model, the call -/
theorem ms_kdM : ∀ k, k < 9 → ms_wd (ae_kw k) = ms_wd (if k < 7 then (if k = 6 then 26 else if k % 2 = 1 then 26 else 27) else 25) ++ ms_nb (8 * mv_by k) := by decide
theorem ms_headM {sz v : Nat} {w : mv_V} {σ : ae_S} (hs : sz ≤ 256) (hv : v < 16) (hw : mv_W1 sz w) (c : mv_M1 v w σ) (H : ms_M σ [] σ) : ma_wp (ae_gd (ae_ib (nI v) 32) (ae_bd (F_X12_saysName (σ.2.1 35 0 (nI v).toNatClampNeg) σ) (fun (r129 : Unit) s130 => ae_bd (F_X12_saysByte (32 : Int32) s130) (fun (r133 : Unit) s134 => ae_gd (ae_ib (nI v) 32) (ae_bd (F_X12_saysKind (s134.1 36 0 (nI v).toNatClampNeg) s134) (fun (r139 : Unit) s140 => ae_gd (ae_ib (nI v) 32) (if (s140.1 37 0 (nI v).toNatClampNeg) = (1 : Int32) then (ae_bd (F_X12_says (9 : Fin 32) s140) (fun (r147 : Unit) s148 => F_X12_show_58 (nI v) s148)) else (F_X12_show_58 (nI v) s140))))))) ) (fun x τ => x = nI (ms_tx w).length ∧ ms_M σ (ms_tx w) τ) := by
  have ib : ae_ib (nI v) 32 = true := ma_ib v rfl (by omega) (by decide)
  have b := mv_byle _ hw.1
  have hst : mv_st w < 1000 := by have := hw.2.2.2.2.2.1; omega
  have hct : mv_ct w ≤ 64 := hw.2.2.1
  have hsd : mv_sd w ≤ 64 := hw.2.2.2.2.1
  have hac : mv_ac w < 4 := hw.2.2.2.2.2.2.1
  have l8 := hw.2.2.2.2.2.2.2.1
  have l1 := ms_h1len w
  have l2 := ms_h2len w
  have l3 := ms_h3len w
  have l4 := ms_h4len w
  have l5 := ms_h5len w
  have l6 := ms_aclen w
  have n1 := ms_nmlen (mv_nm w).toBitVec.toNat
  have vc : (nI v).toNatClampNeg = v := nI_clamp (by omega)
  have cc : ∀ (L : List Int32) (τ : ae_S), ms_M σ L τ → mv_M1 v w τ := fun L τ h => c.fr h.2 (fun _ _ _ _ q => by omega)
  have s307 : ∀ (L : List Int32) (τ : ae_S), ms_M σ L τ → ma_wp (F_X12_show_307 τ) (fun x τ => x = nI L.length ∧ ms_M σ L τ) := fun L τ h => ma_ret ⟨by rw [h.1.1, ms_len], h⟩
  have loop : ∀ (L : List Int32), L.length ≤ 52 → ∀ n f : Nat, (mv_fs w).length < f + n → f ≤ (mv_fs w).length → ∀ υ : ae_S, ms_M σ (L ++ ms_fk w f) υ → ma_wp (F_X12_show_204 n (nI v) (nI f) υ) (fun x τ => x = nI (L ++ ms_fl w).length ∧ ms_M σ (L ++ ms_fl w) τ) := by
    intro L lL n
    induction n with
    | zero => intro k a b; omega
    | succ n ih =>
      intro f a b υ h
      have lk := ms_fklen w f
      unfold F_X12_show_204
      rw [vc]
      refine ma_gd ib (ma_le _ f (cc _ υ h).2.2.2.2.2.2.2.1 rfl (by omega) (by omega) (fun q => ma_gd ib ?_) (fun q => ?_))
      · rw [(cc _ υ h).2.2.2.2.2.2.2.1]
        unfold ms_fl
        obtain rfl : f = (mv_fs w).length := by omega
        refine ma_le _ 0 rfl rfl (by omega) (by decide) (fun q2 => ?_) (fun q2 => ?_)
        · rw [if_pos (show (mv_fs w).length = 0 by omega), List.append_nil]
          rw [show (mv_fs w).length = 0 by omega, ms_fk, List.append_nil] at h
          exact s307 L υ h
        · rw [if_neg (show ¬ (mv_fs w).length = 0 by omega), ← List.append_assoc]
          exact ma_bd (ms_byteM 125 h (by rw [List.length_append]; omega)) (fun _ ψ r => s307 _ ψ r)
      · have ef : (mv_fs w)[f]? = some (mv_fs w)[f] := List.getElem?_eq_getElem q
        generalize (mv_fs w)[f] = fq at ef
        have fb := mv_fB hw ef
        obtain ⟨o1, o2⟩ := ms_oN (hw.2.2.2.2.2.2.2.2.2.1 fq (List.mem_of_getElem? ef)).2.2.2
        have m1 := ms_nmlen fq.1.toBitVec.toNat
        have m2 := ms_nblen fq.2.1
        have m3 := ms_nblen fq.2.2
        have ei : (8 : Int32) * nI v + nI f = nI (8 * v + f) := by rw [show (8 : Int32) = nI 8 from rfl, pk_mul, nI_add]
        have ibf : ae_ib (nI (8 * v + f)) 256 = true := ma_ib _ rfl (by omega) (by decide)
        have go : ∀ x : Int32, x = (if f = 0 then 123 else 44) → ma_wp (F_X12_show_226 (F_X12_show_204 n) (nI v) (nI f) x υ) (fun x τ => x = nI (L ++ ms_fl w).length ∧ ms_M σ (L ++ ms_fl w) τ) := by
          intro x hx
          unfold F_X12_show_226
          rw [ei, nI_clamp (show 8 * v + f < 2 ^ 31 by omega)]
          refine ma_bd (ms_byteM x h (by rw [List.length_append]; omega)) (fun _ υ1 r1 => ma_gd ibf ?_)
          have g1 := (cc _ υ1 r1).2.2.2.2.2.2.2.2 f fq ef
          rw [g1.1, o1]
          refine ma_bd (ms_nameM o2 r1 (by simp only [List.length_append, List.length_cons, List.length_nil]; omega)) (fun _ υ2 r2 => ?_)
          refine ma_bd (ms_byteM 58 r2 (by simp only [List.length_append, List.length_cons, List.length_nil]; omega)) (fun _ υ3 r3 => ma_gd ibf ?_)
          rw [((cc _ υ3 r3).2.2.2.2.2.2.2.2 f fq ef).2.1]
          refine ma_bd (ms_numM (by omega) r3 (by simp only [List.length_append, List.length_cons, List.length_nil]; omega)) (fun _ υ4 r4 => ?_)
          refine ma_bd (ms_byteM 45 r4 (by simp only [List.length_append, List.length_cons, List.length_nil]; omega)) (fun _ υ5 r5 => ma_gd ibf ?_)
          rw [((cc _ υ5 r5).2.2.2.2.2.2.2.2 f fq ef).2.2]
          refine ma_bd (ms_numM (by omega) r5 (by simp only [List.length_append, List.length_cons, List.length_nil]; omega)) (fun _ υ6 r6 => ma_lt ?_)
          rw [nI_1]
          refine ih (f + 1) (by omega) (by omega) υ6 ?_
          rw [ms_fkS ef]
          unfold ms_f1
          rw [← hx]
          simp only [List.append_assoc] at r6 ⊢
          exact r6
        refine ma_en f 0 rfl rfl (by omega) (by decide) (fun h0 => go 123 (by rw [if_pos h0])) (fun h0 => go 44 (by rw [if_neg h0]))
  have s202 : ∀ (L : List Int32) (τ : ae_S), ms_M σ L τ → L.length ≤ 52 → ma_wp (F_X12_show_202 (nI v) τ) (fun x τ => x = nI (L ++ ms_fl w).length ∧ ms_M σ (L ++ ms_fl w) τ) := fun L τ h hl => loop L hl ae_fu 0 (by rw [ae_fu]; omega) (by omega) τ (by rw [ms_fk, List.append_nil]; exact h)
  have s151 : ∀ (L : List Int32) (τ : ae_S), ms_M σ L τ → L.length ≤ 46 → ma_wp (F_X12_show_151 (nI v) τ) (fun x τ => x = nI (L ++ (ms_ac w ++ ms_fl w)).length ∧ ms_M σ (L ++ (ms_ac w ++ ms_fl w)) τ) := by
    intro L τ h hl
    have w13 := ms_wdlen 13
    have w14 := ms_wdlen 14
    have w15 := ms_wdlen 15
    unfold F_X12_show_151 F_X12_show_168 F_X12_show_185 ms_ac
    rw [vc]
    have ca := (cc L τ h).2.2.2.2.2.2.1
    refine ma_gd ib (ma_en _ 1 ca rfl (by omega) (by decide) (fun e => ?_) (fun e => ?_))
    · rw [if_pos e]
      refine ma_bd (ms_wordM 13 (by decide) h (by omega)) (fun _ υ r => ?_)
      have cb := (cc _ υ r).2.2.2.2.2.2.1
      rw [← List.append_assoc]
      exact ma_gd ib (ma_F (by rw [cb, e]; decide) (ma_gd ib (ma_F (by rw [cb, e]; decide) (s202 _ υ r (by rw [List.length_append]; omega)))))
    rw [if_neg e]
    refine ma_gd ib (ma_en _ 2 ca rfl (by omega) (by decide) (fun e => ?_) (fun e => ?_))
    · rw [if_pos e]
      refine ma_bd (ms_wordM 14 (by decide) h (by omega)) (fun _ υ r => ?_)
      have cb := (cc _ υ r).2.2.2.2.2.2.1
      rw [← List.append_assoc]
      exact ma_gd ib (ma_F (by rw [cb, e]; decide) (s202 _ υ r (by rw [List.length_append]; omega)))
    rw [if_neg e]
    refine ma_gd ib (ma_en _ 3 ca rfl (by omega) (by decide) (fun e => ?_) (fun e => ?_))
    · rw [if_pos e]
      refine ma_bd (ms_wordM 15 (by decide) h (by omega)) (fun _ υ r => ?_)
      rw [← List.append_assoc]
      exact s202 _ υ r (by rw [List.length_append]; omega)
    rw [if_neg e, List.nil_append]
    exact s202 L τ h (by omega)
  have s130 : ∀ (L : List Int32) (τ : ae_S), ms_M σ L τ → L.length ≤ 37 → ma_wp (F_X12_show_130 (nI v) (mv_bI (decide (mv_sd w ≠ mv_by (mv_kd w)))) τ) (fun x τ => x = nI (L ++ (ms_h5 w ++ (ms_ac w ++ ms_fl w))).length ∧ ms_M σ (L ++ (ms_h5 w ++ (ms_ac w ++ ms_fl w))) τ) := by
    intro L τ h hl
    unfold F_X12_show_130 ms_h5
    have w12 := ms_wdlen 12
    have nb := ms_nblen (mv_sd w)
    rw [vc]
    by_cases e : mv_sd w ≠ mv_by (mv_kd w)
    · rw [if_pos e, decide_eq_true e]
      refine ma_F ma_01 (ma_bd (ms_wordM 12 (by decide) h (by omega)) (fun _ υ r => ma_gd ib ?_))
      rw [(cc _ υ r).2.2.2.2.2.1]
      refine ma_bd (ms_numM (by omega) r (by rw [List.length_append]; omega)) (fun _ ψ r2 => ?_)
      rw [List.append_assoc] at r2
      rw [← List.append_assoc]
      exact s151 _ ψ r2 (by simp only [List.length_append]; omega)
    · rw [if_neg e, decide_eq_false e, List.nil_append]
      exact ma_T rfl (s151 L τ h (by omega))
  have s98 : ∀ (L : List Int32) (τ : ae_S), ms_M σ L τ → L.length ≤ 28 → ma_wp (F_X12_show_98 (nI v) (mv_bI (decide (mv_sd w ≠ mv_by (mv_kd w)))) τ) (fun x τ => x = nI (L ++ (ms_h4 w ++ (ms_h5 w ++ (ms_ac w ++ ms_fl w)))).length ∧ ms_M σ (L ++ (ms_h4 w ++ (ms_h5 w ++ (ms_ac w ++ ms_fl w)))) τ) := by
    intro L τ h hl
    have w11 := ms_wdlen 11
    have nb := ms_nblen (mv_ct w)
    have go : (1 < mv_ct w ∨ mv_sd w ≠ mv_by (mv_kd w)) → ma_wp (F_X12_show_113 (nI v) (mv_bI (decide (mv_sd w ≠ mv_by (mv_kd w)))) τ) (fun x τ => x = nI (L ++ (ms_h4 w ++ (ms_h5 w ++ (ms_ac w ++ ms_fl w)))).length ∧ ms_M σ (L ++ (ms_h4 w ++ (ms_h5 w ++ (ms_ac w ++ ms_fl w)))) τ) := by
      intro e
      unfold F_X12_show_113 ms_h4
      rw [if_pos e, vc]
      refine ma_bd (ms_wordM 11 (by decide) h (by omega)) (fun _ υ r => ma_gd ib ?_)
      rw [(cc _ υ r).2.2.2.2.1]
      refine ma_bd (ms_numM (by omega) r (by rw [List.length_append]; omega)) (fun _ ψ r2 => ?_)
      rw [List.append_assoc] at r2
      rw [← List.append_assoc]
      exact s130 _ ψ r2 (by simp only [List.length_append]; omega)
    unfold F_X12_show_98
    rw [vc]
    refine ma_gd ib (ma_ls 1 (mv_ct w) rfl (cc L τ h).2.2.2.2.1 (by decide) (by omega) (fun q => go (.inl q)) (fun q => ?_))
    by_cases e : mv_sd w ≠ mv_by (mv_kd w)
    · rw [decide_eq_true e] at go ⊢
      exact ma_F ma_01 (go (.inr e))
    · have e4 : ms_h4 w = [] := if_neg (fun q2 => q2.elim (fun q3 => by omega) e)
      rw [e4, List.nil_append]
      have := s130 L τ h (by omega)
      rw [decide_eq_false e] at this ⊢
      exact ma_T rfl this
  have s58 : ∀ (L : List Int32) (τ : ae_S), ms_M σ L τ → L.length ≤ 19 → ma_wp (F_X12_show_58 (nI v) τ) (fun x τ => x = nI (L ++ (ms_h3 w ++ (ms_h4 w ++ (ms_h5 w ++ (ms_ac w ++ ms_fl w))))).length ∧ ms_M σ (L ++ (ms_h3 w ++ (ms_h4 w ++ (ms_h5 w ++ (ms_ac w ++ ms_fl w))))) τ) := by
    intro L τ h hl
    have w10 := ms_wdlen 10
    have nb := ms_nblen (mv_st w)
    unfold F_X12_show_58
    rw [vc]
    refine ma_bd (ms_wordM 10 (by decide) h (by omega)) (fun _ υ r => ma_gd ib ?_)
    rw [(cc _ υ r).2.2.2.1]
    refine ma_bd (ms_numM hst r (by rw [List.length_append]; omega)) (fun _ ψ r2 => ma_gd ib (ma_gd ib ?_))
    rw [List.append_assoc] at r2
    have cp := cc _ ψ r2
    rw [cp.2.1]
    refine ma_be (mv_bytesOf hw.1 ψ) ?_
    rw [cp.2.2.2.2.2.1, ← List.append_assoc]
    have key := s98 _ ψ r2 (by have := l3; unfold ms_h3 at this; simp only [List.length_append] at this ⊢; omega)
    refine ma_en _ _ rfl rfl (by omega) (by omega) (fun e => ?_) (fun e => ?_)
    · rw [decide_eq_false (fun q => q e)] at key
      exact key
    · rw [decide_eq_true e] at key
      exact key
  obtain ⟨o1, o2⟩ := ms_oN hw.2.2.2.2.2.2.2.2.1
  rw [vc, c.1, o1]
  refine ma_gd ib (ma_bd (ms_nameM o2 H (by show 0 + 6 ≤ 600; omega)) (fun _ τ1 r1 => ?_))
  rw [List.nil_append] at r1
  refine ma_bd (ms_byteM 32 r1 (by omega)) (fun _ τ2 r2 => ma_gd ib ?_)
  have c2 := cc _ τ2 r2
  have kind : ma_wp (F_X12_saysKind (τ2.1 36 0 v) τ2) (fun _ τ => ms_M σ (ms_h1 w) τ) := by
    have lw := ms_wdlen (ae_kw (mv_kd w))
    have k35 : ∀ i : Fin 32, i.val < 28 → ms_wd (ae_kw (mv_kd w)) = ms_wd i ++ ms_nb (8 * mv_by (mv_kd w)) → ma_wp (F_X12_saysKind_35 (nI (mv_kd w)) i τ2) (fun _ τ => ms_M σ (ms_h1 w) τ) := by
      intro i hi he
      have li := ms_wdlen i
      unfold F_X12_saysKind_35
      refine ma_bd (ms_wordM i hi r2 (by rw [List.length_append]; show _ + 1 + _ ≤ _; omega)) (fun _ τ3 r3 => ma_be (mv_bytesOf hw.1 τ3) ?_)
      rw [show (8 : Int32) * nI (mv_by (mv_kd w)) = nI (8 * mv_by (mv_kd w)) by rw [show (8 : Int32) = nI 8 from rfl, pk_mul]]
      refine ma_bd (ms_numM (by omega) r3 (by simp only [List.length_append, List.length_cons, List.length_nil]; omega)) (fun _ τ4 r4 => ma_ret ?_)
      unfold ms_h1
      rw [he]
      simp only [List.append_assoc] at r4 ⊢
      exact r4
    have he := ms_kdM _ hw.1
    have h9 := hw.1
    rw [c2.2.1]
    unfold F_X12_saysKind F_X12_saysKind_26
    refine ma_ls _ 7 rfl rfl (by omega) (by decide) (fun q => ?_) (fun q => ?_)
    · rw [if_pos q] at he
      refine ma_en _ 6 rfl rfl (by omega) (by decide) (fun q2 => ?_) (fun q2 => ?_)
      · rw [if_pos q2] at he
        exact k35 26 (by decide) he
      · rw [if_neg q2] at he
        rw [show nI (mv_kd w) - nI (mv_kd w) / (2 : Int32) * (2 : Int32) = nI (mv_kd w % 2) from pk_rem (d := 2) (by omega) (by decide) (by decide)]
        refine ma_en _ 1 rfl rfl (by omega) (by decide) (fun q3 => ?_) (fun q3 => ?_)
        · rw [if_pos q3] at he
          exact k35 26 (by decide) he
        · rw [if_neg q3] at he
          exact k35 27 (by decide) he
    · rw [if_neg (by omega)] at he
      exact k35 25 (by decide) he
  refine ma_bd kind (fun _ τ3 r3 => ma_gd ib ?_)
  rw [(cc _ τ3 r3).2.2.1]
  have fin : ms_tx w = ms_h1 w ++ (ms_h2 w ++ (ms_h3 w ++ (ms_h4 w ++ (ms_h5 w ++ (ms_ac w ++ ms_fl w))))) := by
    unfold ms_tx ms_hd
    simp only [List.append_assoc]
  rw [fin]
  unfold ms_h2
  cases hb : mv_bg w with
  | true =>
    rw [if_pos (c := true = true) rfl]
    refine ma_T rfl (ma_bd (ms_wordM 9 (by decide) r3 (by have := ms_wdlen 9; omega)) (fun _ τ4 r4 => ?_))
    rw [← List.append_assoc]
    exact s58 _ τ4 r4 (by have := ms_wdlen 9; rw [List.length_append]; omega)
  | false =>
    rw [if_neg (c := false = true) (by decide), List.nil_append]
    exact ma_F (by decide) (s58 _ τ3 r3 (by omega))
theorem mz_show : zp_show mi_I := fun v1 => mi_zp (fun a hW => by
  have hs : (mi_m a).1 ≤ 256 := hW.1.2.1
  have hl := hW.2.1.1
  rcases mv_ix (mi_v a) v1 hl with hx | ⟨v, w, rfl, hv, e⟩
  · refine ⟨-1, a, hW, mi_c1 (fun σ H => ?_), mi_d1 (fun σ H => ?_)⟩
    · obtain ⟨p, Hp⟩ := H.2.1
      unfold F_X11_show
      exact ma_be (mv_getN Hp hl hx) (ma_mn (ma_ret ⟨rfl, rfl⟩))
    · unfold F_X12_show
      exact ma_be (mv_isViewN H.2.1 hl hx) (ma_T rfl (ma_ret ⟨rfl, rfl⟩))
  · have hw := hW.2.1.at e
    have ht := ms_txlen hw
    refine ⟨nI (ms_tx w).length, (a.1, a.2.1, a.2.2.1, ms_ap ms_t0 (ms_tx w), a.2.2.2.2), ⟨hW.1, hW.2.1, hW.2.2.1, by show (ms_ap ms_t0 (ms_tx w)).1 ≤ 256; rw [ms_len]; exact ht, hW.2.2.2.2⟩, fun σ H => ?_, fun σ H => ?_⟩
    · obtain ⟨p, Hp⟩ := H.2.1
      unfold F_X11_show
      refine ma_be (mv_getS Hp hl hv) (ma_ms (ma_be (r := ()) (s := ae_wI σ 1 1 1 0) (by rfl) ?_))
      have f0 : ma_fr (fun g j _ => ¬ ((g = 1 ∨ g = 2) ∧ j = 1)) σ (ae_wI σ 1 1 1 0) := ma_fwI (fun q => q ⟨.inl rfl, rfl⟩)
      have c0 : mv_C1 (mv_at p v) w (ae_wI σ 1 1 1 0) := (Hp.2.2.2.2 v w e).fr f0 (fun _ q => by omega) (fun _ q => by omega) (fun _ q => by omega) (fun _ q => by omega)
      have h0 : ms_C (ae_wI σ 1 1 1 0) [] (ae_wI σ 1 1 1 0) := ⟨⟨ma_rI, fun k hk => absurd hk (Nat.not_lt_zero k)⟩, ma_fr.rf⟩
      refine ma_bd (ms_headC hs hw c0 h0) (fun _ τ r => ma_bd (ms_fieldsC hw c0 r) (fun _ υ r2 => ?_))
      refine ma_be (r := nI (ms_tx w).length) (s := υ) (ma_eq ?_) (ma_ret ⟨rfl, ?_, ?_⟩)
      · unfold F_X7_length
        exact ma_gd (by decide) (ma_ret ⟨by rw [r2.1.1, ms_len], rfl⟩)
      · have f := f0.tr r2.2
        obtain ⟨h1, h2, h3, h4, h5, h6⟩ := H
        exact ⟨h1.fr f (fun _ _ q => by omega) (fun _ _ q => by omega), h2.fr f (fun _ _ _ _ _ q => by omega), h3.fr f (by decide) (fun _ q => by revert q; decide), r2.1, h5.fr f (by decide) (fun _ q => by omega), h6.fr f (by decide) (by decide)⟩
      · exact (f0.tr r2.2).mo (fun g i k q => by omega)
    · unfold F_X12_show
      refine ma_be (mv_isViewS H.2.1 hl hv) (ma_F ma_01 (ma_lt ?_))
      have f0 : ma_fr (fun g _ k => ¬ (g = 57 ∨ g = 30 ∧ k = 51)) σ (ae_wI σ 30 0 51 0) := ma_fwI (fun q => q (.inr ⟨rfl, rfl⟩))
      have c0 : mv_M1 v w (ae_wI σ 30 0 51 0) := (H.2.1.2 v w e).fr f0 (fun _ _ _ _ q => by omega)
      have h0 : ms_M (ae_wI σ 30 0 51 0) [] (ae_wI σ 30 0 51 0) := ⟨⟨ma_rI, fun k hk => absurd hk (Nat.not_lt_zero k)⟩, ma_fr.rf⟩
      refine ma_mono (ms_headM hs (by omega) hw c0 h0) (fun x υ r => ⟨r.1, ?_, ?_⟩)
      · have f := f0.tr r.2.2
        obtain ⟨h1, h2, h3, h4, h5, h6⟩ := H
        exact ⟨h1.fr f (by decide) (by decide) (fun _ _ => by omega) (fun _ _ => by omega) (fun _ _ => by omega), h2.fr f (by decide) (fun _ _ _ _ => by omega), h3.fr f (by decide) (fun _ => by omega), r.2.1, h5.fr f (by decide) (fun _ => by omega), h6.fr f (by decide) (by decide)⟩
      · exact (f0.tr r.2.2).mo (fun g i k q => by omega))
