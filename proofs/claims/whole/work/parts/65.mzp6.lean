/-! show: the call -/
def ms_ac (w : mv_V) : List Int32 := if mv_ac w = 1 then ms_wd 13 else if mv_ac w = 2 then ms_wd 14 else if mv_ac w = 3 then ms_wd 15 else []
def ms_h1 (w : mv_V) : List Int32 := ms_nm (mv_nm w).toBitVec.toNat ++ ([32] ++ ms_wd (ae_kw (mv_kd w)))
def ms_h2 (w : mv_V) : List Int32 := if mv_bg w = true then ms_wd 9 else []
def ms_h3 (w : mv_V) : List Int32 := ms_wd 10 ++ ms_nb (mv_st w)
def ms_h4 (w : mv_V) : List Int32 := if 1 < mv_ct w ∨ mv_sd w ≠ mv_by (mv_kd w) then ms_wd 11 ++ ms_nb (mv_ct w) else []
def ms_h5 (w : mv_V) : List Int32 := if mv_sd w ≠ mv_by (mv_kd w) then ms_wd 12 ++ ms_nb (mv_sd w) else []
def ms_hd (w : mv_V) : List Int32 := ms_h1 w ++ (ms_h2 w ++ (ms_h3 w ++ (ms_h4 w ++ (ms_h5 w ++ ms_ac w))))
def ms_f1 (f : Nat) (q : mv_F) : List Int32 := [if f = 0 then 123 else 44] ++ (ms_nm q.1.toBitVec.toNat ++ ([58] ++ (ms_nb q.2.1 ++ ([45] ++ ms_nb q.2.2))))
def ms_fk (w : mv_V) : Nat → List Int32
  | 0 => []
  | f + 1 => ms_fk w f ++ (match (mv_fs w)[f]? with
    | some q => ms_f1 f q
    | none => [])
def ms_fl (w : mv_V) : List Int32 := if (mv_fs w).length = 0 then [] else ms_fk w (mv_fs w).length ++ [125]
def ms_tx (w : mv_V) : List Int32 := ms_hd w ++ ms_fl w
theorem ms_fkS {w : mv_V} {f : Nat} {q : mv_F} (h : (mv_fs w)[f]? = some q) : ms_fk w (f + 1) = ms_fk w f ++ ms_f1 f q := by rw [ms_fk, h]
theorem ms_f1len (f : Nat) (q : mv_F) : (ms_f1 f q).length ≤ 15 := by
  have a := ms_nmlen q.1.toBitVec.toNat
  have b := ms_nblen q.2.1
  have c := ms_nblen q.2.2
  unfold ms_f1
  simp only [List.length_append, List.length_cons, List.length_nil]
  omega
theorem ms_fklen (w : mv_V) : ∀ f, (ms_fk w f).length ≤ 15 * f
  | 0 => Nat.zero_le _
  | f + 1 => by
    have := ms_fklen w f
    rw [ms_fk, List.length_append]
    cases h : (mv_fs w)[f]? with
    | none => show _ + 0 ≤ _; omega
    | some q => have := ms_f1len f q; show _ + (ms_f1 f q).length ≤ _; omega
theorem ms_h1len (w : mv_V) : (ms_h1 w).length ≤ 13 := by
  have a := ms_nmlen (mv_nm w).toBitVec.toNat
  have b := ms_wdlen (ae_kw (mv_kd w))
  unfold ms_h1
  simp only [List.length_append, List.length_cons, List.length_nil]
  omega
theorem ms_h2len (w : mv_V) : (ms_h2 w).length ≤ 6 := by
  unfold ms_h2
  by_cases h : mv_bg w = true
  · rw [if_pos h]; exact ms_wdlen 9
  · rw [if_neg h]; exact Nat.zero_le _
theorem ms_h3len (w : mv_V) : (ms_h3 w).length ≤ 9 := by
  have a := ms_nblen (mv_st w)
  have b := ms_wdlen 10
  unfold ms_h3
  rw [List.length_append]; omega
theorem ms_h4len (w : mv_V) : (ms_h4 w).length ≤ 9 := by
  have a := ms_nblen (mv_ct w)
  have b := ms_wdlen 11
  unfold ms_h4
  by_cases h : 1 < mv_ct w ∨ mv_sd w ≠ mv_by (mv_kd w)
  · rw [if_pos h, List.length_append]; omega
  · rw [if_neg h]; exact Nat.zero_le _
theorem ms_h5len (w : mv_V) : (ms_h5 w).length ≤ 9 := by
  have a := ms_nblen (mv_sd w)
  have b := ms_wdlen 12
  unfold ms_h5
  by_cases h : mv_sd w ≠ mv_by (mv_kd w)
  · rw [if_pos h, List.length_append]; omega
  · rw [if_neg h]; exact Nat.zero_le _
theorem ms_aclen (w : mv_V) : (ms_ac w).length ≤ 6 := by
  unfold ms_ac
  by_cases h : mv_ac w = 1
  · rw [if_pos h]; exact ms_wdlen 13
  · rw [if_neg h]
    by_cases h : mv_ac w = 2
    · rw [if_pos h]; exact ms_wdlen 14
    · rw [if_neg h]
      by_cases h : mv_ac w = 3
      · rw [if_pos h]; exact ms_wdlen 15
      · rw [if_neg h]; exact Nat.zero_le _
theorem ms_hdlen (w : mv_V) : (ms_hd w).length ≤ 52 := by
  have a := ms_h1len w
  have b := ms_h2len w
  have c := ms_h3len w
  have d := ms_h4len w
  have e := ms_h5len w
  have f := ms_aclen w
  unfold ms_hd
  simp only [List.length_append]
  omega
theorem ms_txlen {sz : Nat} {w : mv_V} (hw : mv_W1 sz w) : (ms_tx w).length ≤ 256 := by
  have a := ms_hdlen w
  have b := ms_fklen w (mv_fs w).length
  have c := hw.2.2.2.2.2.2.2.1
  unfold ms_tx ms_fl
  by_cases h : (mv_fs w).length = 0
  · rw [if_pos h, List.append_nil]; omega
  · rw [if_neg h, List.length_append, List.length_append]; show _ + (_ + 1) ≤ _; omega
theorem ms_kw28 : ∀ k, k < 9 → (ae_kw (Fin.ofNat 32 k).val).val < 28 ∧ ae_kw (Fin.ofNat 32 k).val = ae_kw k := by decide
theorem ms_oN {x : Int64} (h : mv_oN x) : x = lN x.toBitVec.toNat ∧ x.toBitVec.toNat < 2 ^ 48 := by
  obtain ⟨a, ha, rfl⟩ := h
  rw [wb_tn (by omega)]
  exact ⟨rfl, ha⟩
theorem ms_headC {sz : Nat} {w : mv_V} {j : Fin 32} {σ : ae_S} (hs : sz ≤ 256) (hw : mv_W1 sz w) (c : mv_C1 j w σ) (H : ms_C σ [] σ) : ma_wp (F_X9_addHead j 1 σ) (fun _ τ => ms_C σ (ms_hd w) τ) := by
  have ok : ae_ok (1, 1) = true := by decide
  have b := mv_byle _ hw.1
  have hst : mv_st w < 1000 := by have := hw.2.2.2.2.2.1; omega
  have hct : mv_ct w ≤ 64 := hw.2.2.1
  have hsd : mv_sd w ≤ 64 := hw.2.2.2.2.1
  have hac : mv_ac w < 4 := hw.2.2.2.2.2.2.1
  have l1 := ms_h1len w
  have l2 := ms_h2len w
  have l3 := ms_h3len w
  have l4 := ms_h4len w
  have l5 := ms_h5len w
  have n1 := ms_nmlen (mv_nm w).toBitVec.toNat
  have cc : ∀ (L : List Int32) (τ : ae_S), ms_C σ L τ → mv_C1 j w τ := fun L τ h => c.fr h.2 (fun _ q => by omega) (fun _ q => by omega) (fun _ q => by omega) (fun _ q => by omega)
  have s116 : ∀ (L : List Int32) (τ : ae_S), ms_C σ L τ → L.length ≤ 200 → ma_wp (F_X9_addHead_116 j 1 τ) (fun _ τ => ms_C σ (L ++ ms_ac w) τ) := by
    intro L τ h hl
    unfold F_X9_addHead_116 F_X9_addHead_164 ms_ac
    have ca := (cc L τ h).2.2.2.2.2.2.1
    have w13 := ms_wdlen 13
    have w14 := ms_wdlen 14
    have w15 := ms_wdlen 15
    refine ma_en _ 1 ca rfl (by omega) (by decide) (fun e => ?_) (fun e => ?_)
    · rw [if_pos e]; exact ma_gd ok (ma_bd (ms_wordC 13 (by decide) h (by omega)) (fun _ υ r => ma_ret r))
    rw [if_neg e]
    refine ma_en _ 2 ca rfl (by omega) (by decide) (fun e => ?_) (fun e => ?_)
    · rw [if_pos e]; exact ma_gd ok (ma_bd (ms_wordC 14 (by decide) h (by omega)) (fun _ υ r => ma_ret r))
    rw [if_neg e]
    refine ma_en _ 3 ca rfl (by omega) (by decide) (fun e => ?_) (fun e => ?_)
    · rw [if_pos e]; exact ma_gd ok (ma_bd (ms_wordC 15 (by decide) h (by omega)) (fun _ υ r => ma_ret r))
    rw [if_neg e, List.append_nil]
    exact ma_ret h
  have s98 : ∀ (L : List Int32) (τ : ae_S), ms_C σ L τ → L.length ≤ 150 → ma_wp (F_X9_addHead_98 j 1 (mv_bI (decide (mv_sd w ≠ mv_by (mv_kd w)))) τ) (fun _ τ => ms_C σ (L ++ (ms_h5 w ++ ms_ac w)) τ) := by
    intro L τ h hl
    unfold F_X9_addHead_98 ms_h5
    have w12 := ms_wdlen 12
    have nb := ms_nblen (mv_sd w)
    by_cases e : mv_sd w ≠ mv_by (mv_kd w)
    · rw [if_pos e, decide_eq_true e]
      refine ma_F ma_01 (ma_gd ok (ma_bd (ms_wordC 12 (by decide) h (by omega)) (fun _ υ r => ?_)))
      rw [(cc _ υ r).2.2.2.2.2.1]
      refine ma_bd (ms_numC (by omega) r (by rw [List.length_append]; omega)) (fun _ ψ r2 => ?_)
      rw [List.append_assoc] at r2
      rw [← List.append_assoc]
      exact s116 _ ψ r2 (by simp only [List.length_append]; omega)
    · rw [if_neg e, decide_eq_false e, List.nil_append]
      exact ma_T rfl (s116 L τ h (by omega))
  have s71 : ∀ (L : List Int32) (τ : ae_S), ms_C σ L τ → L.length ≤ 100 → ma_wp (F_X9_addHead_71 j 1 (mv_bI (decide (mv_sd w ≠ mv_by (mv_kd w)))) τ) (fun _ τ => ms_C σ (L ++ (ms_h4 w ++ (ms_h5 w ++ ms_ac w))) τ) := by
    intro L τ h hl
    have w11 := ms_wdlen 11
    have nb := ms_nblen (mv_ct w)
    have go : (1 < mv_ct w ∨ mv_sd w ≠ mv_by (mv_kd w)) → ma_wp (F_X9_addHead_84 j 1 (mv_bI (decide (mv_sd w ≠ mv_by (mv_kd w)))) τ) (fun _ τ => ms_C σ (L ++ (ms_h4 w ++ (ms_h5 w ++ ms_ac w))) τ) := by
      intro e
      unfold F_X9_addHead_84 ms_h4
      rw [if_pos e]
      refine ma_gd ok (ma_bd (ms_wordC 11 (by decide) h (by omega)) (fun _ υ r => ?_))
      rw [(cc _ υ r).2.2.2.2.1]
      refine ma_bd (ms_numC (by omega) r (by rw [List.length_append]; omega)) (fun _ ψ r2 => ?_)
      rw [List.append_assoc] at r2
      rw [← List.append_assoc]
      exact s98 _ ψ r2 (by simp only [List.length_append]; omega)
    unfold F_X9_addHead_71
    refine ma_ls 1 (mv_ct w) rfl (cc L τ h).2.2.2.2.1 (by decide) (by omega) (fun q => go (.inl q)) (fun q => ?_)
    by_cases e : mv_sd w ≠ mv_by (mv_kd w)
    · rw [decide_eq_true e] at go ⊢
      exact ma_F ma_01 (go (.inr e))
    · have e4 : ms_h4 w = [] := if_neg (fun q2 => q2.elim (fun q3 => by omega) e)
      rw [e4, List.nil_append]
      have := s98 L τ h (by omega)
      rw [decide_eq_false e] at this ⊢
      exact ma_T rfl this
  have s38 : ∀ (L : List Int32) (τ : ae_S), ms_C σ L τ → L.length ≤ 60 → ma_wp (F_X9_addHead_38 j 1 τ) (fun _ τ => ms_C σ (L ++ (ms_h3 w ++ (ms_h4 w ++ (ms_h5 w ++ ms_ac w)))) τ) := by
    intro L τ h hl
    have w10 := ms_wdlen 10
    have nb := ms_nblen (mv_st w)
    unfold F_X9_addHead_38
    refine ma_gd ok (ma_bd (ms_wordC 10 (by decide) h (by omega)) (fun _ υ r => ?_))
    rw [(cc _ υ r).2.2.2.1]
    refine ma_bd (ms_numC hst r (by rw [List.length_append]; omega)) (fun _ ψ r2 => ?_)
    rw [List.append_assoc] at r2
    have cp := cc _ ψ r2
    refine mv_kk cp.2.1 hw.1 ?_
    rw [cp.2.2.2.2.2.1, mv_kB _ hw.1, ← List.append_assoc]
    have key := s71 _ ψ r2 (by simp only [List.length_append]; omega)
    refine ma_en _ _ rfl rfl (by omega) (by omega) (fun e => ?_) (fun e => ?_)
    · rw [decide_eq_false (fun q => q e)] at key
      exact key
    · rw [decide_eq_true e] at key
      exact key
  obtain ⟨o1, o2⟩ := ms_oN hw.2.2.2.2.2.2.2.2.1
  obtain ⟨k1, k2⟩ := ms_kw28 _ hw.1
  have wk := ms_wdlen (ae_kw (mv_kd w))
  unfold F_X9_addHead
  rw [c.1, o1]
  refine ma_gd ok (ma_bd (ms_nameC o2 H (by show 0 + 6 ≤ 256; omega)) (fun _ τ1 r1 => ?_))
  rw [List.nil_append] at r1
  refine ma_bd (ms_addC 32 32 (by decide) r1 (by omega)) (fun _ τ2 r2 => ?_)
  have c2 := cc _ τ2 r2
  refine mv_kk c2.2.1 hw.1 (ma_bd (ms_wordC _ k1 r2 (by rw [k2, List.length_append]; show _ + 1 + _ ≤ _; omega)) (fun _ τ3 r3 => ?_))
  rw [k2, List.append_assoc] at r3
  have r3 : ms_C σ (ms_h1 w) τ3 := r3
  rw [(cc _ τ3 r3).2.2.1]
  unfold ms_hd ms_h2
  cases hb : mv_bg w with
  | true =>
    rw [if_pos rfl]
    refine ma_F ma_01 (ma_bd (ms_wordC 9 (by decide) r3 (by have := ms_wdlen 9; omega)) (fun _ τ4 r4 => ?_))
    rw [← List.append_assoc]
    exact s38 _ τ4 r4 (by have := ms_wdlen 9; rw [List.length_append]; omega)
  | false =>
    rw [if_neg (c := false = true) (by decide), List.nil_append]
    exact ma_T rfl (s38 _ τ3 r3 (by omega))
theorem ms_fieldsC {sz : Nat} {w : mv_V} {j : Fin 32} {σ τ : ae_S} (hw : mv_W1 sz w) (c : mv_C1 j w σ) (H : ms_C σ (ms_hd w) τ) : ma_wp (F_X9_addFields j 1 τ) (fun _ τ => ms_C σ (ms_tx w) τ) := by
  have ok : ae_ok (1, 1) = true := by decide
  have lh := ms_hdlen w
  have l8 := hw.2.2.2.2.2.2.2.1
  have cc : ∀ (L : List Int32) (τ : ae_S), ms_C σ L τ → mv_C1 j w τ := fun L τ h => c.fr h.2 (fun _ q => by omega) (fun _ q => by omega) (fun _ q => by omega) (fun _ q => by omega)
  unfold F_X9_addFields
  refine ma_en _ 0 (cc _ τ H).2.2.2.2.2.2.2.1 rfl (by omega) (by decide) (fun e => ma_ret ?_) (fun e => ?_)
  · unfold ms_tx ms_fl
    rw [if_pos e, List.append_nil]; exact H
  · have loop : ∀ n f : Nat, (mv_fs w).length < f + n → f ≤ (mv_fs w).length → ∀ υ : ae_S, ms_C σ (ms_hd w ++ ms_fk w f) υ → ma_wp (F_X9_addFields_10 n j 1 (nI f) υ) (fun _ τ => ms_C σ (ms_tx w) τ) := by
      intro n
      induction n with
      | zero => intro k a b; omega
      | succ n ih =>
        intro f a b υ h
        have lk := ms_fklen w f
        unfold F_X9_addFields_10
        refine ma_le _ f (cc _ υ h).2.2.2.2.2.2.2.1 rfl (by omega) (by omega) (fun q => ?_) (fun q => ma_F (nI_ge (b := 8) (by omega) (by decide)) ?_)
        · unfold F_X9_addFields_87
          refine ma_gd ok (ma_bd (ms_addC 125 125 (by decide) h (by rw [List.length_append]; omega)) (fun _ ψ r => ma_ret ?_))
          unfold ms_tx ms_fl
          rw [if_neg e, ← List.append_assoc, ← show f = (mv_fs w).length by omega]
          exact r
        · have ef : (mv_fs w)[f]? = some (mv_fs w)[f] := List.getElem?_eq_getElem q
          generalize (mv_fs w)[f] = fq at ef
          have fb := mv_fB hw ef
          obtain ⟨o1, o2⟩ := ms_oN (hw.2.2.2.2.2.2.2.2.2.1 fq (List.mem_of_getElem? ef)).2.2.2
          have n1 := ms_nmlen fq.1.toBitVec.toNat
          have n2 := ms_nblen fq.2.1
          have n3 := ms_nblen fq.2.2
          have ib : ae_ib (nI f) 8 = true := ma_ib f rfl (by omega) (by decide)
          have go : ∀ x : Int32, x = (if f = 0 then 123 else 44) → ma_wp (F_X9_addFields_36 (F_X9_addFields_10 n) j 1 (nI f) x 1 υ) (fun _ τ => ms_C σ (ms_tx w) τ) := by
            intro x hx
            have hx2 : x &&& 255 = x := by
              rw [hx]
              by_cases h0 : f = 0
              · rw [if_pos h0]; decide
              · rw [if_neg h0]; decide
            unfold F_X9_addFields_36
            refine ma_gd ok (ma_bd (ms_addC x x hx2 h (by rw [List.length_append]; omega)) (fun _ υ1 r1 => ma_gd ib (ma_gd ok ?_)))
            have g1 := (cc _ υ1 r1).2.2.2.2.2.2.2.2 f fq ef
            rw [nI_clamp (show f < 2 ^ 31 by omega), g1.1, o1]
            refine ma_bd (ms_nameC o2 r1 (by simp only [List.length_append, List.length_cons, List.length_nil]; omega)) (fun _ υ2 r2 => ?_)
            refine ma_bd (ms_addC 58 58 (by decide) r2 (by simp only [List.length_append, List.length_cons, List.length_nil]; omega)) (fun _ υ3 r3 => ma_gd ib ?_)
            rw [((cc _ υ3 r3).2.2.2.2.2.2.2.2 f fq ef).2.1]
            refine ma_bd (ms_numC (by omega) r3 (by simp only [List.length_append, List.length_cons, List.length_nil]; omega)) (fun _ υ4 r4 => ?_)
            refine ma_bd (ms_addC 45 45 (by decide) r4 (by simp only [List.length_append, List.length_cons, List.length_nil]; omega)) (fun _ υ5 r5 => ma_gd ib ?_)
            rw [((cc _ υ5 r5).2.2.2.2.2.2.2.2 f fq ef).2.2]
            refine ma_bd (ms_numC (by omega) r5 (by simp only [List.length_append, List.length_cons, List.length_nil]; omega)) (fun _ υ6 r6 => ma_lt ?_)
            rw [nI_1]
            refine ih (f + 1) (by omega) (by omega) υ6 ?_
            rw [ms_fkS ef]
            unfold ms_f1
            rw [← hx]
            simp only [List.append_assoc] at r6 ⊢
            exact r6
          refine ma_en f 0 rfl rfl (by omega) (by decide) (fun h0 => go 123 (by rw [if_pos h0])) (fun h0 => go 44 (by rw [if_neg h0]))
    exact loop ae_fu 0 (by rw [ae_fu]; omega) (by omega) τ (by rw [ms_fk, List.append_nil]; exact H)
