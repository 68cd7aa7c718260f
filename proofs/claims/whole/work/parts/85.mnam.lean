/-! what the model asks of the j-th token; named -/
def kt_ac (T : kt_T) (j : Nat) : Nat := if kt_wd T j 4 = true then 1 else if kt_wd T j 5 = true then 2 else if kt_wd T j 6 = true then 3 else 0
section KN
variable {T : kt_T} {σ τ : ae_S} {j : Nat}
theorem km_St.fr {P : Nat → Fin 32 → Nat → Prop} (H : km_St T j σ) (f : ma_fr P σ τ) (p20 : P 30 0 20) (p : ∀ k, 25 ≤ k → k ≤ 31 → P 30 0 k) (p46 : ∀ k, P 46 0 k) : km_St T j τ := by
  obtain ⟨h1, h2, h3, h4, h5, h6, h7⟩ := H
  refine ⟨h1.fr f p20 p46, (f.i (p _ (by decide) (by decide))).trans h2, (f.i (p _ (by decide) (by decide))).trans h3, (f.i (p _ (by decide) (by decide))).trans h4, fun g => ?_, fun g => ?_, fun g => (f.i (p _ (by decide) (by decide))).trans (h7 g)⟩
  · rw [f.l (p _ (by decide) (by decide))]; exact h5 g
  · rw [f.l (p _ (by decide) (by decide)), f.i (p _ (by decide) (by decide))]; exact h6 g
theorem km_wd (H : km_St T j σ) {i : Fin 32} (hi : i.val < 28) : F_X12_isWord i σ = some (mv_bI (kt_wd T j i), σ) := by
  have hB := kt_tyB (T := T) (j := j)
  refine ma_eq ?_
  unfold F_X12_isWord F_X12_isWord_24 F_X12_isWord_25 kt_wd
  refine ma_en _ 1 H.2.1 rfl (by omega) (by decide) (fun q => ma_be (kt_pkM hi σ) ?_) (fun q => ?_)
  · obtain ⟨w1, w2⟩ := H.2.2.2.2.1 q
    by_cases q6 : kt_n T j ≤ 6
    · rw [w1 q6]
      refine ma_if (fun g => ?_) (fun g => ?_)
      · rw [decide_eq_true ⟨q, q6, (lg_cmp_eq _ _).mp g⟩]; exact ma_gd ma_z1 (ma_ret ⟨rfl, rfl⟩)
      · rw [decide_eq_false (fun w => g ((lg_cmp_eq _ _).mpr w.2.2))]; exact ma_gd ma_z0 (ma_ret ⟨rfl, rfl⟩)
    · rw [decide_eq_false (fun w => q6 w.2.1)]
      exact ma_F (fun g => w2 (by omega) i hi ((lg_cmp_eq _ _).mp g)) (ma_gd ma_z0 (ma_ret ⟨rfl, rfl⟩))
  · rw [decide_eq_false (fun w => q w.1)]; exact ma_gd ma_z0 (ma_ret ⟨rfl, rfl⟩)
theorem kt_wdW (h : kt_ty T j = 1 ∧ kt_n T j ≤ 6) (i : Fin 32) : kt_wd T j i = decide (kt_wv T j = kt_pk i) := by
  unfold kt_wd
  exact decide_eq_decide.mpr ⟨fun g => g.2.2, fun g => ⟨h.1, h.2, g⟩⟩
theorem kt_wdN (h : ¬ (kt_ty T j = 1 ∧ kt_n T j ≤ 6)) (i : Fin 32) : kt_wd T j i = false := decide_eq_false (fun g => h ⟨g.1, g.2.1⟩)
theorem km_kind (H : km_St T j σ) : F_X12_kindHere σ = some (if kt_kd T j = 9 then -1 else nI (kt_kd T j), σ) := by
  refine ma_eq ?_
  unfold F_X12_kindHere F_X12_kindHere_105 kt_kd
  by_cases h : kt_ty T j = 1 ∧ kt_n T j ≤ 6
  · rw [if_pos h]
    unfold kt_ko
    have step : ∀ (i : Fin 32) (hi : i.val < 28) (A : Option (Int32 × ae_S)) (B : ae_S → Option (Int32 × ae_S)) (Q : Int32 → ae_S → Prop), (kt_wv T j = kt_pk i → ma_wp A Q) → (¬ kt_wv T j = kt_pk i → ma_wp (B σ) Q) → ma_wp (ae_bd (F_X12_isWord i σ) (fun r s => if r = 0 then B s else A)) Q := by
      intro i hi A B Q h1 h2
      refine ma_be (km_wd H hi) ?_
      rw [kt_wdW h]
      by_cases q : kt_wv T j = kt_pk i
      · rw [decide_eq_true q]; exact ma_F (by decide) (h1 q)
      · rw [decide_eq_false q]; exact ma_T rfl (h2 q)
    have go : ∀ (i : Fin 32) (hi : i.val < 28) (A B : ae_S → Option (Int32 × ae_S)) (Q : Int32 → ae_S → Prop), (kt_wv T j = kt_pk i → ma_wp (A σ) Q) → (¬ kt_wv T j = kt_pk i → ma_wp (B σ) Q) → ma_wp (ae_bd (F_X12_isWord i σ) (fun r s => if r = 0 then B s else A s)) Q := by
      intro i hi A B Q h1 h2
      refine ma_be (km_wd H hi) ?_
      rw [kt_wdW h]
      by_cases q : kt_wv T j = kt_pk i
      · rw [decide_eq_true q]; exact ma_F (by decide) (h1 q)
      · rw [decide_eq_false q]; exact ma_T rfl (h2 q)
    refine go 16 (by decide) (fun s => some ((0 : Int32), s)) _ _ (fun e => ma_ret ⟨by rw [if_pos e]; rfl, rfl⟩) (fun e => ?_)
    rw [if_neg e]
    refine go 17 (by decide) (fun s => some ((1 : Int32), s)) _ _ (fun e => ma_ret ⟨by rw [if_pos e]; rfl, rfl⟩) (fun e => ?_)
    rw [if_neg e]
    refine go 18 (by decide) (fun s => some ((2 : Int32), s)) _ _ (fun e => ma_ret ⟨by rw [if_pos e]; rfl, rfl⟩) (fun e => ?_)
    rw [if_neg e]
    refine go 19 (by decide) (fun s => some ((3 : Int32), s)) _ _ (fun e => ma_ret ⟨by rw [if_pos e]; rfl, rfl⟩) (fun e => ?_)
    rw [if_neg e]
    refine go 20 (by decide) (fun s => some ((4 : Int32), s)) _ _ (fun e => ma_ret ⟨by rw [if_pos e]; rfl, rfl⟩) (fun e => ?_)
    rw [if_neg e]
    refine go 21 (by decide) (fun s => some ((5 : Int32), s)) _ _ (fun e => ma_ret ⟨by rw [if_pos e]; rfl, rfl⟩) (fun e => ?_)
    rw [if_neg e]
    refine go 22 (by decide) (fun s => some ((6 : Int32), s)) _ _ (fun e => ma_ret ⟨by rw [if_pos e]; rfl, rfl⟩) (fun e => ?_)
    rw [if_neg e]
    refine go 23 (by decide) (fun s => some ((7 : Int32), s)) _ _ (fun e => ma_ret ⟨by rw [if_pos e]; rfl, rfl⟩) (fun e => ?_)
    rw [if_neg e]
    refine go 24 (by decide) (fun s => some ((8 : Int32), s)) (fun s => some ((-1 : Int32), s)) _ (fun e => ma_ret ⟨by rw [if_pos e]; rfl, rfl⟩) (fun e => ma_ret ⟨?_, rfl⟩)
    rw [if_neg e]; rfl
  · rw [if_neg h, if_pos rfl]
    have go : ∀ (i : Fin 32) (hi : i.val < 28) (A B : ae_S → Option (Int32 × ae_S)) (Q : Int32 → ae_S → Prop), ma_wp (B σ) Q → ma_wp (ae_bd (F_X12_isWord i σ) (fun r s => if r = 0 then B s else A s)) Q := by
      intro i hi A B Q h2
      refine ma_be (km_wd H hi) ?_
      rw [kt_wdN h]
      exact ma_T rfl h2
    refine go 16 (by decide) (fun s => some ((0 : Int32), s)) _ _ ?_
    refine go 17 (by decide) (fun s => some ((1 : Int32), s)) _ _ ?_
    refine go 18 (by decide) (fun s => some ((2 : Int32), s)) _ _ ?_
    refine go 19 (by decide) (fun s => some ((3 : Int32), s)) _ _ ?_
    refine go 20 (by decide) (fun s => some ((4 : Int32), s)) _ _ ?_
    refine go 21 (by decide) (fun s => some ((5 : Int32), s)) _ _ ?_
    refine go 22 (by decide) (fun s => some ((6 : Int32), s)) _ _ ?_
    refine go 23 (by decide) (fun s => some ((7 : Int32), s)) _ _ ?_
    exact go 24 (by decide) (fun s => some ((8 : Int32), s)) (fun s => some ((-1 : Int32), s)) _ (ma_ret ⟨rfl, rfl⟩)
theorem km_acc (H : km_St T j σ) : F_X12_accessHere σ = some (nI (kt_ac T j), σ) := by
  refine ma_eq ?_
  unfold F_X12_accessHere F_X12_accessHere_40 kt_ac
  refine ma_be (km_wd H (by decide)) ?_
  cases kt_wd T j 4 with
  | true => exact ma_F (by decide) (ma_ret ⟨rfl, rfl⟩)
  | false =>
    refine ma_T rfl (ma_be (km_wd H (by decide)) ?_)
    cases kt_wd T j 5 with
    | true => exact ma_F (by decide) (ma_ret ⟨rfl, rfl⟩)
    | false =>
      refine ma_T rfl (ma_be (km_wd H (by decide)) ?_)
      cases kt_wd T j 6 with
      | true => exact ma_F (by decide) (ma_ret ⟨rfl, rfl⟩)
      | false => exact ma_T rfl (ma_ret ⟨rfl, rfl⟩)
theorem kt_acB : kt_ac T j ≤ 3 := by
  unfold kt_ac
  split
  · decide
  · split
    · decide
    · split <;> decide
theorem kt_koB (x : Int64) : kt_ko x ≤ 9 := by
  unfold kt_ko
  repeat' split
  all_goals decide
theorem kt_kdB : kt_kd T j ≤ 9 := by
  unfold kt_kd
  split
  · exact kt_koB _
  · decide
theorem km_own (H : km_St T j σ) (h : kt_ty T j = 1 ∧ kt_n T j ≤ 6) : F_X12_isOwn σ = some (mv_bI (kt_res (kt_wv T j)), σ) := by
  refine ma_eq ?_
  unfold F_X12_isOwn F_X12_isOwn_69 F_X12_isOwn_74
  have yes : kt_res (kt_wv T j) = true → ma_wp (ae_gd (ae_zz (1 : Int32)) (some ((1 : Int32), σ))) (fun r τ => r = mv_bI (kt_res (kt_wv T j)) ∧ τ = σ) := fun h => by rw [h]; exact ma_gd ma_z1 (ma_ret ⟨rfl, rfl⟩)
  have go : ∀ (i : Fin 32) (hi : i.val < 28) (hr : kt_res (kt_pk i) = true) (B : ae_S → Option (Int32 × ae_S)), (¬ kt_wv T j = kt_pk i → ma_wp (B σ) (fun r τ => r = mv_bI (kt_res (kt_wv T j)) ∧ τ = σ)) → ma_wp (ae_bd (F_X12_isWord i σ) (fun r s => if r = 0 then B s else ae_gd (ae_zz (1 : Int32)) (some ((1 : Int32), s)))) (fun r τ => r = mv_bI (kt_res (kt_wv T j)) ∧ τ = σ) := by
    intro i hi hr B h2
    refine ma_be (km_wd H hi) ?_
    rw [kt_wdW h]
    by_cases q : kt_wv T j = kt_pk i
    · rw [decide_eq_true q]; exact ma_F (by decide) (yes (by rw [q]; exact hr))
    · rw [decide_eq_false q]; exact ma_T rfl (h2 q)
  refine go 0 (by decide) (kt_rs _ (by decide)) _ (fun e0 => ?_)
  refine go 1 (by decide) (kt_rs _ (by decide)) _ (fun e1 => ?_)
  refine go 2 (by decide) (kt_rs _ (by decide)) _ (fun e2 => ?_)
  refine go 3 (by decide) (kt_rs _ (by decide)) _ (fun e3 => ma_be (km_acc H) ?_)
  unfold kt_ac
  rw [kt_wdW h, kt_wdW h, kt_wdW h]
  by_cases e4 : kt_wv T j = kt_pk 4
  · rw [decide_eq_true e4, if_pos (c := true = true) rfl]
    exact ma_T (by decide) (yes (by rw [e4]; exact kt_rs _ (by decide)))
  rw [decide_eq_false e4, if_neg (c := false = true) (by decide)]
  by_cases e5 : kt_wv T j = kt_pk 5
  · rw [decide_eq_true e5, if_pos (c := true = true) rfl]
    exact ma_T (by decide) (yes (by rw [e5]; exact kt_rs _ (by decide)))
  rw [decide_eq_false e5, if_neg (c := false = true) (by decide)]
  by_cases e6 : kt_wv T j = kt_pk 6
  · rw [decide_eq_true e6, if_pos (c := true = true) rfl]
    exact ma_T (by decide) (yes (by rw [e6]; exact kt_rs _ (by decide)))
  rw [decide_eq_false e6, if_neg (c := false = true) (by decide)]
  refine ma_F (by decide) ?_
  refine go 7 (by decide) (kt_rs _ (by decide)) _ (fun e7 => ?_)
  refine go 8 (by decide) (kt_rs _ (by decide)) _ (fun e8 => ma_be (km_kind H) ?_)
  have hk : kt_kd T j = kt_ko (kt_wv T j) := if_pos h
  rw [hk]
  by_cases q : kt_ko (kt_wv T j) = 9
  · rw [if_pos q]
    refine ma_T rfl (ma_gd ma_z0 (ma_ret ⟨?_, rfl⟩))
    have : kt_res (kt_wv T j) = false := decide_eq_false (by simp [e0, e1, e2, e3, e4, e5, e6, e7, e8, q])
    rw [this]; rfl
  · have hB := kt_koB (kt_wv T j)
    rw [if_neg q]
    refine ma_F (fun g => ?_) (yes (decide_eq_true (by simp [q])))
    rw [iN_nI, show (-1 : Int32) = iN (-1) by decide, iN_eq (by omega) (by omega)] at g
    omega
theorem km_nm (hT : kt_W T) (H : km_St T j σ) : F_X12_isName σ = some (mv_bI (kt_nm T j), σ) := by
  have hB := kt_tyB (T := T) (j := j)
  have hL := kt_eL hT j
  have hTL := hT.1
  refine ma_eq ?_
  unfold F_X12_isName F_X12_isName_33 F_X12_isName_34 kt_nm
  have he : σ.1 30 0 27 - σ.1 30 0 26 = nI (kt_n T j) := by
    rw [H.2.2.2.1, H.2.2.1]
    have : kt_s T j ≤ kt_e T j := by
      unfold kt_e kt_en
      split
      · exact Nat.le_refl _
      · split
        · exact kt_nx_ge _ _ _
        · split
          · exact kt_nx_ge _ _ _
          · omega
    exact pk_sub this
  refine ma_en _ 1 H.2.1 rfl (by omega) (by decide) (fun q => ?_) (fun q => ?_)
  · rw [he]
    have hn : kt_n T j ≤ 500 := by unfold kt_n; omega
    refine ma_ls 6 (kt_n T j) rfl rfl (by decide) (by omega) (fun q2 => ?_) (fun q2 => ma_be (km_own H ⟨q, q2⟩) ?_)
    · rw [decide_eq_false (fun w => by have := w.2.1; omega)]; exact ma_gd ma_z0 (ma_ret ⟨rfl, rfl⟩)
    · cases hr : kt_res (kt_wv T j) with
      | true =>
        rw [decide_eq_false (fun w => absurd w.2.2 (by decide))]
        exact ma_F (by decide) (ma_gd ma_z0 (ma_ret ⟨rfl, rfl⟩))
      | false =>
        rw [decide_eq_true ⟨q, q2, rfl⟩]
        exact ma_T rfl (ma_gd ma_z1 (ma_ret ⟨rfl, rfl⟩))
  · rw [decide_eq_false (fun w => q w.1)]; exact ma_gd ma_z0 (ma_ret ⟨rfl, rfl⟩)
theorem km_sg (hT : kt_W T) (H : km_St T j σ) {c : Nat} (hc : c < 256) : F_X12_isSign (nI c) σ = some (mv_bI (kt_sg T j c), σ) := by
  have hB := kt_tyB (T := T) (j := j)
  have hb : kt_c T j ≤ 256 := (kt_bl hT (kt_s T j)).1
  refine ma_eq ?_
  unfold F_X12_isSign F_X12_isSign_20 F_X12_isSign_21 kt_sg
  refine ma_en _ 3 H.2.1 rfl (by omega) (by decide) (fun q => ma_en _ c (H.2.2.2.2.2.2 q) rfl (by omega) (by omega) (fun q2 => ?_) (fun q2 => ?_)) (fun q => ?_)
  · rw [decide_eq_true ⟨q, q2⟩]; exact ma_gd ma_z1 (ma_ret ⟨rfl, rfl⟩)
  · rw [decide_eq_false (fun w => q2 w.2)]; exact ma_gd ma_z0 (ma_ret ⟨rfl, rfl⟩)
  · rw [decide_eq_false (fun w => q w.1)]; exact ma_gd ma_z0 (ma_ret ⟨rfl, rfl⟩)
theorem km_fine (h : σ.1 30 0 23 = 0) : F_X12_isFine σ = some (1, σ) := by
  refine ma_eq ?_
  unfold F_X12_isFine F_X12_isFine_12
  exact ma_T h (ma_gd ma_z1 (ma_ret ⟨rfl, rfl⟩))
/-- the fault that the model finds -/
def km_bad (f : Int32) (p : Nat) (τ : ae_S) : Prop := τ.1 30 0 23 = f ∧ τ.1 30 0 24 = nI p
theorem km_fail (h : σ.1 30 0 23 = 0) (f : Int32) (p : Nat) : ma_wp (F_X12_fails f (nI p) σ) (fun r τ => r = 0 ∧ km_bad f p τ ∧ ma_fr (fun g _ k => ¬ (g = 30 ∧ (k = 23 ∨ k = 24))) σ τ) := by
  unfold F_X12_fails F_X12_fails_17
  refine ma_T h (ma_lt (ma_lt (ma_ret ⟨rfl, ⟨?_, ma_rI⟩, (ma_fwI (by simp)).tr (ma_fwI (by simp))⟩)))
  rw [ma_rIn (by simp), ma_rI]
theorem km_num (H : km_St T j σ) (h : σ.1 30 0 23 = 0) {D : Nat} (hD : D < 100) (hn : kt_n T j < 2 ^ 31) : ma_wp (F_X12_readsNumber (nI D) σ) (fun r τ => (kt_nu T D j = true ∧ r = 1 ∧ τ = σ) ∨ (kt_nu T D j = false ∧ r = 0 ∧ km_bad 1 (kt_s T j) τ ∧ ma_fr (fun g _ k => ¬ (g = 30 ∧ (k = 23 ∨ k = 24))) σ τ)) := by
  have hB := kt_tyB (T := T) (j := j)
  unfold F_X12_readsNumber F_X12_readsNumber_25 kt_nu
  have no : ¬ (kt_ty T j = 2 ∧ kt_n T j ≤ D) → ma_wp (ae_bd (F_X12_fails 1 (nI (kt_s T j)) σ) (fun r1 s2 => ae_gd (ae_zz r1) (some (r1, s2)))) (fun r τ => (decide (kt_ty T j = 2 ∧ kt_n T j ≤ D) = true ∧ r = 1 ∧ τ = σ) ∨ (decide (kt_ty T j = 2 ∧ kt_n T j ≤ D) = false ∧ r = 0 ∧ km_bad 1 (kt_s T j) τ ∧ ma_fr (fun g _ k => ¬ (g = 30 ∧ (k = 23 ∨ k = 24))) σ τ)) := fun g => by
    refine ma_bd (km_fail h 1 _) (fun r τ q => ?_)
    obtain ⟨rfl, q⟩ := q
    exact ma_gd ma_z0 (ma_ret (.inr ⟨decide_eq_false g, rfl, q⟩))
  refine ma_be (km_fine h) (ma_F ma_01 ?_)
  rw [H.2.2.1]
  refine (ma_en _ 2 H.2.1 rfl (by omega) (by decide) (fun q => ma_le _ D (H.2.2.2.2.2.1 q).1 rfl hn (by omega) (fun q2 => ma_ret (.inl ⟨decide_eq_true ⟨q, q2⟩, rfl, rfl⟩)) (fun q2 => no (fun w => by omega))) (fun q => no (fun w => q w.1)))
theorem km_take (hT : kt_W T) (H : km_St T j σ) (h : σ.1 30 0 23 = 0) {c : Nat} (hc : c < 256) : ma_wp (F_X12_takes (nI c) σ) (fun r τ => (kt_sg T j c = true ∧ r = 1 ∧ km_St T (j + 1) τ ∧ ma_fr km_F σ τ) ∨ (kt_sg T j c = false ∧ r = 0 ∧ km_bad 1 (kt_s T j) τ ∧ ma_fr (fun g _ k => ¬ (g = 30 ∧ (k = 23 ∨ k = 24))) σ τ)) := by
  unfold F_X12_takes
  refine ma_be (km_fine h) (ma_F ma_01 (ma_be (km_sg hT H hc) ?_))
  rw [H.2.2.1]
  cases kt_sg T j c with
  | true => exact ma_F (by decide) (ma_bd (km_adv hT H) (fun _ τ q => ma_ret (.inl ⟨rfl, rfl, q⟩)))
  | false => exact ma_T rfl (ma_bd (km_fail h 1 _) (fun r τ q => by obtain ⟨rfl, q⟩ := q; exact ma_gd ma_z0 (ma_ret (.inr ⟨rfl, rfl, q⟩))))
theorem km_start (hT : kt_W T) (ht : km_tp T σ) : ma_wp (F_X12_starts σ) (fun _ τ => km_St T 0 τ ∧ τ.1 30 0 23 = 0 ∧ τ.1 30 0 24 = -1 ∧ ma_fr (fun g _ k => ¬ (g = 30 ∧ 23 ≤ k ∧ k ≤ 31)) σ τ) := by
  unfold F_X12_starts
  have f : ma_fr (fun g _ k => ¬ (g = 30 ∧ 23 ≤ k ∧ k ≤ 31)) σ (ae_wI (ae_wI (ae_wI σ 30 0 27 0) 30 0 23 0) 30 0 24 (-1)) := (ma_fwI (by omega)).tr ((ma_fwI (by omega)).tr (ma_fwI (by omega)))
  refine ma_lt (ma_lt (ma_lt (ma_bd (km_next (j := 0) (p := 0) hT (ht.fr f (by omega) (fun _ => by omega)) (Nat.zero_le _) ?_ rfl) (fun _ τ q => ma_ret ⟨q.1, ?_, ?_, f.tr (q.2.mo (fun g _ k q => by unfold km_F; omega))⟩))))
  · rw [ma_rIn (by simp), ma_rIn (by simp), ma_rI]; rfl
  · rw [q.2.i (by unfold km_F; omega), ma_rIn (by simp), ma_rI]
  · rw [q.2.i (by unfold km_F; omega), ma_rI]
end KN
/-! views by name -/
def kv_p (vs : List mv_V) (x : Int64) (k : Nat) : Bool := decide (vs[k]?.map mv_nm = some x)
def kv_ix (vs : List mv_V) (x : Int64) : Int32 := my_fd (kv_p vs x) vs.length 0
theorem kv_among {p : Nat} {vs : List mv_V} {σ : ae_S} (x : Int64) (hp : p < 2) (hl : vs.length ≤ 16) (h : ∀ v w, vs[v]? = some w → σ.2.1 8 (mv_at p v) 3 = mv_nm w) : F_X6_numberAmong (Fin.ofNat 32 p) (nI vs.length) x σ = some (kv_ix vs x, σ) := by
  have loop : ∀ n k r : Nat, r < n → vs.length = k + r → ma_wp (F_X6_numberAmong_3 n (Fin.ofNat 32 p) (nI vs.length) x (nI k) σ) (fun z τ => z = my_fd (kv_p vs x) r k ∧ τ = σ) := by
    intro n
    induction n with
    | zero => intro k r h; omega
    | succ n ih =>
      intro k r hr hk
      unfold F_X6_numberAmong_3 F_X6_numberAmong_37
      refine ma_le _ k rfl rfl (by omega) (by omega) (fun q => ?_) (fun q => ma_gd ?_ (ma_F (nI_ge (b := 16) (by omega) (by decide)) (ma_gd (ma_ib k rfl (by omega) (by decide)) ?_)))
      · rw [show r = 0 by omega]; exact ma_ret ⟨rfl, rfl⟩
      · have : p = 0 ∨ p = 1 := by omega
        rcases this with rfl | rfl <;> decide
      · obtain ⟨r, rfl⟩ : ∃ r', r = r' + 1 := ⟨r - 1, by omega⟩
        have e : vs[k]? = some vs[k] := List.getElem?_eq_getElem q
        have hn := h k vs[k] e
        rw [nI_clamp (by omega), mv_val (by omega)]
        have hn2 : σ.2.1 8 (Fin.ofNat 32 (16 * p + k)) 3 = mv_nm vs[k] := hn
        rw [hn2, my_fd]
        have hp2 : kv_p vs x k = decide (mv_nm vs[k] = x) := by
          unfold kv_p
          rw [e]
          exact decide_eq_decide.mpr ⟨fun g => Option.some.inj g, fun g => congrArg some g⟩
        refine ma_if (fun g => ?_) (fun g => ma_lt ?_)
        · rw [if_pos (c := kv_p vs x k = true) (by rw [hp2]; exact decide_eq_true ((lg_cmp_eq _ _).mp g))]
          exact ma_ret ⟨rfl, rfl⟩
        · rw [if_neg (c := kv_p vs x k = true) (by rw [hp2, decide_eq_true_eq]; exact fun w => g ((lg_cmp_eq _ _).mpr w)), nI_1]
          exact ih (k + 1) r (by omega) (by omega)
  refine ma_eq ?_
  unfold F_X6_numberAmong
  exact loop ae_fu 0 vs.length (by rw [ae_fu]; omega) (by omega)
theorem kv_numOf {p : Nat} {vs : List mv_V} {σ : ae_S} (x : Int64) (H : mv_Cp p vs σ) (hl : vs.length ≤ 16) : F_X6_numberOf x σ = some (kv_ix vs x, σ) := by
  obtain ⟨h1, h2, h3, h4, h5⟩ := H
  refine ma_eq ?_
  unfold F_X6_numberOf
  refine ma_mo h2 ?_
  rw [h4]
  exact ma_be (kv_among x h1 hl (fun v w e => (h5 v w e).1)) (ma_ret ⟨rfl, rfl⟩)
theorem kv_place {f0 : Nat} {vs : List mv_V} {σ : ae_S} (x : Int64) (hf : f0 ≤ 16) (hl : vs.length ≤ 16) (h : ∀ v w, vs[v]? = some w → σ.2.1 35 0 (f0 + v) = mv_nm w) : F_X12_placeOf x (nI f0) (nI vs.length) σ = some (kv_ix vs x, σ) := by
  have loop : ∀ n k r : Nat, r < n → vs.length = k + r → ma_wp (F_X12_placeOf_3 n x (nI f0) (nI vs.length) (nI (f0 + k)) σ) (fun z τ => z = my_fd (kv_p vs x) r k ∧ τ = σ) := by
    intro n
    induction n with
    | zero => intro k r h; omega
    | succ n ih =>
      intro k r hr hk
      unfold F_X12_placeOf_3
      rw [nI_add]
      refine ma_le _ (f0 + k) rfl rfl (by omega) (by omega) (fun q => ?_) (fun q => ma_gd (ma_ib (f0 + k) rfl (by omega) (by decide)) ?_)
      · rw [show r = 0 by omega]; exact ma_ret ⟨rfl, rfl⟩
      · obtain ⟨r, rfl⟩ : ∃ r', r = r' + 1 := ⟨r - 1, by omega⟩
        have e : vs[k]? = some vs[k] := List.getElem?_eq_getElem (by omega)
        rw [nI_clamp (by omega), h k vs[k] e, my_fd]
        have hp2 : kv_p vs x k = decide (mv_nm vs[k] = x) := by
          unfold kv_p
          rw [e]
          exact decide_eq_decide.mpr ⟨fun g => Option.some.inj g, fun g => congrArg some g⟩
        refine ma_if (fun g => ?_) (fun g => ma_lt ?_)
        · rw [if_pos (c := kv_p vs x k = true) (by rw [hp2]; exact decide_eq_true ((lg_cmp_eq _ _).mp g)), pk_sub (by omega), show f0 + k - f0 = k by omega]
          exact ma_ret ⟨rfl, rfl⟩
        · rw [if_neg (c := kv_p vs x k = true) (by rw [hp2, decide_eq_true_eq]; exact fun w => g ((lg_cmp_eq _ _).mpr w)), nI_1]
          exact ih (k + 1) r (by omega) (by omega)
  refine ma_eq ?_
  unfold F_X12_placeOf
  exact loop ae_fu 0 vs.length (by rw [ae_fu]; omega) (by omega)
/-- a tape as bytes -/
def kt_of (t : mt_T) : kt_T := (t.1, fun k => (t.2 k).toBitVec.toNat % 256)
theorem kt_ofW {a : mi_A} (hW : mi_W a) : kt_W (kt_of (mi_t a)) := ⟨hW.2.2.1.1, fun k => Nat.mod_lt _ (by decide)⟩
theorem kt_ofB {x : Int32} (h : mb_by x) : x = nI (x.toBitVec.toNat % 256) := by
  obtain ⟨b, hb, rfl⟩ := h
  have : (nI b).toBitVec.toNat = b := by
    show (BitVec.ofNat 32 b).toNat = b
    rw [BitVec.toNat_ofNat, Nat.mod_eq_of_lt (by omega)]
  rw [this, Nat.mod_eq_of_lt hb]
theorem kt_ofC {a : mi_A} {σ : ae_S} (hW : mi_W a) (H : mi_C a σ) : kt_tp (kt_of (mi_t a)) σ := ⟨H.2.2.1.1, fun k hk => (H.2.2.1.2 k hk).trans (kt_ofB (hW.2.2.1.2 k))⟩
theorem kt_ofM {a : mi_A} {σ : ae_S} (hW : mi_W a) (H : mi_M a σ) : km_tp (kt_of (mi_t a)) σ := ⟨H.2.2.1.1, fun k hk => (H.2.2.1.2 k hk).trans (kt_ofB (hW.2.2.1.2 k))⟩
