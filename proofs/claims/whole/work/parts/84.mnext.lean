/-! the model's tokens -/
def km_tp (T : kt_T) (σ : ae_S) : Prop := σ.1 30 0 20 = nI T.1 ∧ ∀ k, k < T.1 → σ.1 46 0 k = nI (T.2 k)
def km_ww (T : kt_T) (j : Nat) (x : Int64) : Prop := (kt_n T j ≤ 6 → x = kt_wv T j) ∧ (6 < kt_n T j → ∀ i : Fin 32, i.val < 28 → x ≠ kt_pk i)
def km_St (T : kt_T) (j : Nat) (σ : ae_S) : Prop := km_tp T σ ∧ σ.1 30 0 25 = nI (kt_ty T j) ∧ σ.1 30 0 26 = nI (kt_s T j) ∧ σ.1 30 0 27 = nI (kt_e T j) ∧ (kt_ty T j = 1 → km_ww T j (σ.2.1 30 0 28)) ∧ (kt_ty T j = 2 → σ.1 30 0 30 = nI (kt_n T j) ∧ (kt_n T j ≤ 12 → σ.2.1 30 0 29 = lN (kt_nv T j))) ∧ (kt_ty T j = 3 → σ.1 30 0 31 = nI (kt_c T j))
def km_F (g : Nat) (_ : Fin 32) (k : Nat) : Prop := ¬ (g = 30 ∧ 25 ≤ k ∧ k ≤ 31)
def km_v (c : Nat) : Int32 := if c = 256 then -1 else nI c
theorem kt_pkB : ∀ i : Fin 32, i.val < 28 → 0 < (kt_pk i).toInt ∧ (kt_pk i).toInt < 2 ^ 48 := by decide +kernel
section KM
variable {T : kt_T} {σ τ : ae_S} {j : Nat}
theorem km_tp.fr {P : Nat → Fin 32 → Nat → Prop} (H : km_tp T σ) (f : ma_fr P σ τ) (p1 : P 30 0 20) (p2 : ∀ k, P 46 0 k) : km_tp T τ := ⟨(f.i p1).trans H.1, fun k hk => (f.i (p2 k)).trans (H.2 k hk)⟩
theorem km_tpF (H : km_tp T σ) (f : ma_fr km_F σ τ) : km_tp T τ := H.fr f (by unfold km_F; omega) (fun _ => by unfold km_F; omega)
theorem km_see (hT : kt_W T) (h : km_tp T σ) {p : Nat} (hp : p ≤ 600) : F_X12_see (nI p) σ = some (km_v (kt_b T p), σ) := by
  have := hT.1
  have hb := kt_bl hT p
  refine ma_eq ?_
  unfold F_X12_see F_X12_see_18 km_v
  refine ma_le T.1 p h.1 rfl (by omega) (by omega) (fun q => ?_) (fun q => ma_gd (ma_ib p rfl (by omega) (by decide)) ?_)
  · rw [if_pos (hb.2.mpr q)]; exact ma_ret ⟨rfl, rfl⟩
  · rw [if_neg (fun g => by have := hb.2.mp g; omega), nI_clamp (by omega), h.2 p q]
    refine ma_ret ⟨?_, rfl⟩
    unfold kt_b
    rw [if_pos q]
theorem km_isL {c : Nat} (hc : c ≤ 256) (σ : ae_S) : F_X12_isLetter (km_v c) σ = some (mv_bI (kt_L c), σ) := by
  refine ma_eq ?_
  unfold F_X12_isLetter F_X12_isLetter_16 F_X12_isLetter_17 kt_L km_v
  by_cases h : c = 256
  · rw [if_pos (c := c = 256) h, decide_eq_false (by omega)]
    exact ma_T (by decide) (ma_gd ma_z0 (ma_ret ⟨rfl, rfl⟩))
  · rw [if_neg (c := c = 256) h]
    refine ma_ls c 97 rfl rfl (by omega) (by decide) (fun q => ?_) (fun q => ma_ls 122 c rfl rfl (by decide) (by omega) (fun q2 => ?_) (fun q2 => ?_))
    · rw [decide_eq_false (by omega)]; exact ma_gd ma_z0 (ma_ret ⟨rfl, rfl⟩)
    · rw [decide_eq_false (by omega)]; exact ma_gd ma_z0 (ma_ret ⟨rfl, rfl⟩)
    · rw [decide_eq_true (by omega)]; exact ma_gd ma_z1 (ma_ret ⟨rfl, rfl⟩)
theorem km_isD {c : Nat} (hc : c ≤ 256) (σ : ae_S) : F_X12_isDigit (km_v c) σ = some (mv_bI (kt_D c), σ) := by
  refine ma_eq ?_
  unfold F_X12_isDigit F_X12_isDigit_16 F_X12_isDigit_17 kt_D km_v
  by_cases h : c = 256
  · rw [if_pos (c := c = 256) h, decide_eq_false (by omega)]
    exact ma_T (by decide) (ma_gd ma_z0 (ma_ret ⟨rfl, rfl⟩))
  · rw [if_neg (c := c = 256) h]
    refine ma_ls c 48 rfl rfl (by omega) (by decide) (fun q => ?_) (fun q => ma_ls 57 c rfl rfl (by decide) (by omega) (fun q2 => ?_) (fun q2 => ?_))
    · rw [decide_eq_false (by omega)]; exact ma_gd ma_z0 (ma_ret ⟨rfl, rfl⟩)
    · rw [decide_eq_false (by omega)]; exact ma_gd ma_z0 (ma_ret ⟨rfl, rfl⟩)
    · rw [decide_eq_true (by omega)]; exact ma_gd ma_z1 (ma_ret ⟨rfl, rfl⟩)
theorem kt_fwG (p : Nat) : ∀ k, kt_b T p * 256 ^ k ≤ kt_fw T p (k + 1)
  | 0 => by rw [kt_fw, kt_fw, Nat.pow_zero]; show kt_b T p * 1 ≤ 0 * 256 + kt_b T (p + 0); rw [Nat.add_zero]; omega
  | k + 1 => by
    have := kt_fwG p k
    rw [kt_fw, Nat.pow_succ, ← Nat.mul_assoc]
    omega
theorem km_word (hT : kt_W T) {s : Nat} (hs : kt_s T j = s) (hp : s < T.1) (hL : kt_L (kt_b T s) = true) : ∀ n k : Nat, T.1 < s + k + n → s + k ≤ T.1 → kt_we T (s + k) = kt_we T s → ∀ τ : ae_S, km_tp T τ → ma_fr km_F σ τ → τ.1 30 0 25 = 1 → τ.1 30 0 26 = nI s → τ.1 30 0 27 = nI (s + k) → (k ≤ 7 → τ.2.1 30 0 28 = lN (kt_fw T s k)) → ma_wp (F_X12_next_86 n τ) (fun _ τ => km_St T j τ ∧ ma_fr km_F σ τ) := by
  have hTL := hT.1
  have hb := kt_bl hT s
  have hc : kt_c T j = kt_b T s := by unfold kt_c; rw [hs]
  have hne : ¬ kt_b T s = 256 := fun q => by have := hb.2.mp q; omega
  have hty : kt_ty T j = 1 := by unfold kt_ty; rw [hc, if_neg hne, if_pos hL]
  have he : kt_e T j = kt_we T s := by unfold kt_e kt_en; rw [hs, if_neg hne, if_pos hL]
  have fw28 : ∀ (υ : ae_S) (x : Int64), ma_fr km_F υ (ae_wL υ 30 0 28 x) := fun υ x => ma_fwL (by unfold km_F; omega)
  have fw27 : ∀ (υ : ae_S) (x : Int32), ma_fr km_F υ (ae_wI υ 30 0 27 x) := fun υ x => ma_fwI (by unfold km_F; omega)
  intro n
  induction n with
  | zero => intro k a b; omega
  | succ n ih =>
    intro k a b hw τ ht hf h25 h26 h27 h28
    have hbk := kt_bl hT (s + k)
    have stop : (kt_L (kt_b T (s + k)) || kt_D (kt_b T (s + k))) = false → ma_wp (if ((τ.1 30 0 27) - (τ.1 30 0 26)) ≤ (7 : Int32) then (F_X12_next_308 τ) else (ae_lt (ae_wL τ 30 0 28 (0 : Int64)) (fun s57 => F_X12_next_308 s57))) (fun _ τ => km_St T j τ ∧ ma_fr km_F σ τ) := by
      intro hq
      have hk : kt_we T s = s + k := by rw [← hw]; exact kt_nxF hq
      have hn : kt_n T j = k := by unfold kt_n; rw [he, hs, hk]; omega
      have hk1 : 0 < k := by
        rcases Nat.eq_zero_or_pos k with q | q
        · subst q
          rw [Nat.add_zero, hL] at hq
          cases hq
        · exact q
      unfold F_X12_next_308
      rw [h26, h27, pk_sub (show s ≤ s + k by omega), show s + k - s = k by omega]
      refine ma_le k 7 rfl rfl (by omega) (by decide) (fun q => ma_ret ⟨⟨ht, by rw [h25, hty]; rfl, by rw [h26, hs], by rw [h27, he, hk], fun _ => ⟨fun q6 => ?_, fun q6 i hi => ?_⟩, fun g => absurd (hty.symm.trans g) (by decide), fun g => absurd (hty.symm.trans g) (by decide)⟩, hf⟩) (fun q => ma_lt (ma_ret ⟨⟨km_tpF ht (fw28 _ _), by rw [show (ae_wL τ 30 0 28 0).1 = τ.1 from rfl, h25, hty]; rfl, by rw [show (ae_wL τ 30 0 28 0).1 = τ.1 from rfl, h26, hs], by rw [show (ae_wL τ 30 0 28 0).1 = τ.1 from rfl, h27, he, hk], fun _ => ⟨fun q6 => by omega, fun q6 i hi => ?_⟩, fun g => absurd (hty.symm.trans g) (by decide), fun g => absurd (hty.symm.trans g) (by decide)⟩, hf.tr (fw28 _ _)⟩))
      · rw [h28 q]
        unfold kt_wv
        rw [hs, hn]
      · have hk7 : k = 7 := by omega
        have hB := kt_pkB i hi
        have hl := of_decide_eq_true hL
        have hG : kt_b T s * 256 ^ 6 ≤ kt_fw T s 7 := kt_fwG (T := T) s 6
        have hU := kt_fwB hT s 7 (by omega)
        rw [h28 q, hk7]
        intro g
        have g2 := congrArg Int64.toInt g
        have : (256 : Nat) ^ 7 = 2 ^ 56 := by decide
        have : (256 : Nat) ^ 6 = 2 ^ 48 := by decide
        rw [pf_lI (by omega)] at g2
        have : 97 * 2 ^ 48 ≤ kt_b T s * 256 ^ 6 := by rw [this]; exact Nat.mul_le_mul_right _ hl.1
        omega
      · have hB := kt_pkB i hi
        rw [ma_rL]
        intro g
        have g2 := congrArg Int64.toInt g
        have : (0 : Int64).toInt = 0 := by decide
        omega
    have more : s + k < T.1 → kt_b T (s + k) < 256 → (kt_L (kt_b T (s + k)) || kt_D (kt_b T (s + k))) = true → ma_wp (F_X12_next_114 (F_X12_next_86 n) τ) (fun _ τ => km_St T j τ ∧ ma_fr km_F σ τ) := by
      intro hlt h256 hq
      have hw2 : kt_we T (s + (k + 1)) = kt_we T s := by
        rw [← hw]; exact (kt_nxT (P := fun k => kt_L (kt_b T k) || kt_D (kt_b T k)) hq hlt).symm
      have go : ∀ x : Int64, (k + 1 ≤ 7 → x = lN (kt_fw T s (k + 1))) → ma_wp (F_X12_next_150 (F_X12_next_86 n) x τ) (fun _ τ => km_St T j τ ∧ ma_fr km_F σ τ) := by
        intro x hx
        unfold F_X12_next_150
        refine ma_lt (ma_lt ?_)
        rw [show (ae_wL τ 30 0 28 x).1 = τ.1 from rfl, h27, nI_1]
        refine ih (k + 1) (by omega) (by omega) hw2 _ (km_tpF (km_tpF ht (fw28 _ x)) (fw27 _ _)) (hf.tr ((fw28 _ _).tr (fw27 _ _))) ?_ ?_ ma_rI (fun hk => ?_)
        · rw [ma_rIn (by simp)]; exact h25
        · rw [ma_rIn (by simp)]; exact h26
        · show (ae_wL τ 30 0 28 x).2.1 30 0 28 = _
          rw [ma_rL]; exact hx hk
      unfold F_X12_next_114
      rw [h26, h27, pk_sub (show s ≤ s + k by omega), show s + k - s = k by omega]
      refine ma_le 7 k rfl rfl (by decide) (by omega) (fun q => go 0 (fun q2 => by omega)) (fun q => ma_be (km_see hT ht (by omega)) (go _ (fun q2 => ?_)))
      have hB := kt_fwB hT s k (by omega)
      have hp6 : 256 ^ k ≤ 256 ^ 6 := Nat.pow_le_pow_right (by decide) (by omega)
      unfold km_v
      rw [if_neg (by omega), h28 (by omega), nI_l (by omega), show (8 : Int32) = nI 8 from rfl, wb_shl _ (by decide), kt_fw]
      exact g_or (k := 8) rfl h256 (by omega)
    have inb : (kt_L (kt_b T (s + k)) || kt_D (kt_b T (s + k))) = true → s + k < T.1 ∧ kt_b T (s + k) < 256 := fun hq => by
      have : ¬ kt_b T (s + k) = 256 := fun g => by rw [g] at hq; exact absurd hq (by decide)
      exact ⟨by have := mt hbk.2.mpr this; omega, by omega⟩
    unfold F_X12_next_86
    rw [h27]
    refine ma_be (km_see hT ht (by omega)) (ma_be (km_isL hbk.1 τ) ?_)
    cases hl : kt_L (kt_b T (s + k)) with
    | true =>
      rw [hl] at more inb
      exact ma_F (by decide) (more (inb rfl).1 (inb rfl).2 rfl)
    | false =>
      rw [hl] at more inb stop
      refine ma_T rfl ?_
      rw [h27]
      refine ma_be (km_see hT ht (by omega)) (ma_be (km_isD hbk.1 τ) ?_)
      cases hd : kt_D (kt_b T (s + k)) with
      | true =>
        rw [hd] at more inb
        exact ma_F (by decide) (more (inb rfl).1 (inb rfl).2 rfl)
      | false =>
        rw [hd] at stop
        exact ma_T rfl (stop rfl)
theorem km_numb (hT : kt_W T) {s : Nat} (hs : kt_s T j = s) (hp : s < T.1) (hL : kt_L (kt_b T s) = false) (hG : kt_D (kt_b T s) = true) : ∀ n k : Nat, T.1 < s + k + n → s + k ≤ T.1 → kt_de T (s + k) = kt_de T s → ∀ τ : ae_S, km_tp T τ → ma_fr km_F σ τ → τ.1 30 0 25 = 2 → τ.1 30 0 26 = nI s → τ.1 30 0 27 = nI (s + k) → (k ≤ 12 → τ.2.1 30 0 29 = lN (kt_fn T s k)) → ma_wp (F_X12_next_205 n τ) (fun _ τ => km_St T j τ ∧ ma_fr km_F σ τ) := by
  have hTL := hT.1
  have hb := kt_bl hT s
  have hc : kt_c T j = kt_b T s := by unfold kt_c; rw [hs]
  have hne : ¬ kt_b T s = 256 := fun q => by have := hb.2.mp q; omega
  have hty : kt_ty T j = 2 := by unfold kt_ty; rw [hc, if_neg hne, hL, if_neg (by decide), if_pos hG]
  have he : kt_e T j = kt_de T s := by unfold kt_e kt_en; rw [hs, if_neg hne, hL, if_neg (by decide), if_pos hG]
  have fw29 : ∀ (υ : ae_S) (x : Int64), ma_fr km_F υ (ae_wL υ 30 0 29 x) := fun υ x => ma_fwL (by unfold km_F; omega)
  have fw27 : ∀ (υ : ae_S) (x : Int32), ma_fr km_F υ (ae_wI υ 30 0 27 x) := fun υ x => ma_fwI (by unfold km_F; omega)
  have fw30 : ∀ (υ : ae_S) (x : Int32), ma_fr km_F υ (ae_wI υ 30 0 30 x) := fun υ x => ma_fwI (by unfold km_F; omega)
  intro n
  induction n with
  | zero => intro k a b; omega
  | succ n ih =>
    intro k a b hw τ ht hf h25 h26 h27 h29
    have hbk := kt_bl hT (s + k)
    unfold F_X12_next_205 F_X12_next_259 F_X12_next_308
    rw [h27]
    refine ma_be (km_see hT ht (by omega)) (ma_be (km_isD hbk.1 τ) ?_)
    rw [h26, h27, pk_sub (show s ≤ s + k by omega), show s + k - s = k by omega]
    cases hd : kt_D (kt_b T (s + k)) with
    | false =>
      have hk : kt_de T s = s + k := by rw [← hw]; exact kt_nxF hd
      have hn : kt_n T j = k := by unfold kt_n; rw [he, hs, hk]; omega
      refine ma_T rfl (ma_lt (ma_ret ⟨⟨km_tpF ht (fw30 _ _), ?_, ?_, ?_, fun g => absurd (hty.symm.trans g) (by decide), fun _ => ⟨?_, fun q => ?_⟩, fun g => absurd (hty.symm.trans g) (by decide)⟩, hf.tr (fw30 _ _)⟩))
      · rw [ma_rIn (by simp), h25, hty]; rfl
      · rw [ma_rIn (by simp), h26, hs]
      · rw [ma_rIn (by simp), h27, he, hk]
      · rw [ma_rI, hn]
      · show τ.2.1 30 0 29 = _
        rw [hn] at q
        rw [h29 q]
        unfold kt_nv
        rw [hs, hn]
    | true =>
      have hdd := of_decide_eq_true hd
      have hlt : s + k < T.1 := by
        have : ¬ kt_b T (s + k) = 256 := by omega
        have := mt hbk.2.mpr this
        omega
      have hw2 : kt_de T (s + (k + 1)) = kt_de T s := by
        rw [← hw]; exact (kt_nxT (P := fun k => kt_D (kt_b T k)) hd hlt).symm
      refine ma_F (by decide) (ma_le 12 k rfl rfl (by decide) (by omega) (fun q => ma_lt ?_) (fun q => ma_be (km_see hT ht (by omega)) (ma_lt (ma_lt ?_))))
      · rw [nI_1]
        refine ih (k + 1) (by omega) (by omega) hw2 _ (km_tpF ht (fw27 _ _)) (hf.tr (fw27 _ _)) ?_ ?_ ma_rI (fun hk => by omega)
        · rw [ma_rIn (by simp)]; exact h25
        · rw [ma_rIn (by simp)]; exact h26
      · rw [show (ae_wL τ 30 0 29 (((10 : Int64) * τ.2.1 30 0 29 + (km_v (kt_b T (s + k))).toInt64) - (48 : Int64))).1 = τ.1 from rfl, h27, nI_1]
        refine ih (k + 1) (by omega) (by omega) hw2 _ (km_tpF (km_tpF ht (fw29 _ _)) (fw27 _ _)) (hf.tr ((fw29 _ _).tr (fw27 _ _))) ?_ ?_ ma_rI (fun hk => ?_)
        · rw [ma_rIn (by simp)]; exact h25
        · rw [ma_rIn (by simp)]; exact h26
        · show (ae_wL τ 30 0 29 _).2.1 30 0 29 = _
          rw [ma_rL, h29 (by omega)]
          unfold km_v
          rw [if_neg (by omega), nI_l (by omega), show (10 : Int64) = lN 10 from rfl, lN_mul, lN_add, show (48 : Int64) = lN 48 from rfl, lN_sub (by omega), kt_fn]
          congr 1
          omega
theorem km_next (hT : kt_W T) (ht : km_tp T σ) {p : Nat} (hp : p ≤ T.1) (h27 : σ.1 30 0 27 = nI p) (hsk : kt_sk T p = kt_s T j) : ma_wp (F_X12_next σ) (fun _ τ => km_St T j τ ∧ ma_fr km_F σ τ) := by
  have hTL := hT.1
  have fwI : ∀ (υ : ae_S) (k : Nat) (x : Int32), 25 ≤ k → k ≤ 31 → ma_fr km_F υ (ae_wI υ 30 0 k x) := fun υ k x h1 h2 => ma_fwI (by unfold km_F; omega)
  have fwL : ∀ (υ : ae_S) (k : Nat) (x : Int64), 25 ≤ k → k ≤ 31 → ma_fr km_F υ (ae_wL υ 30 0 k x) := fun υ k x h1 h2 => ma_fwL (by unfold km_F; omega)
  have loop : ∀ n p : Nat, T.1 < p + n → p ≤ T.1 → kt_sk T p = kt_s T j → ∀ τ : ae_S, km_tp T τ → ma_fr km_F σ τ → τ.1 30 0 27 = nI p → ma_wp (F_X12_next_0 n τ) (fun _ τ => km_St T j τ ∧ ma_fr km_F σ τ) := by
    intro n
    induction n with
    | zero => intro p a b; omega
    | succ n ih =>
      intro p a b hsk τ ht hf h27
      have hb := kt_bl hT p
      have v32 : ∀ c, c ≤ 256 → ∀ d, d < 256 → (km_v c = nI d ↔ c = d) := fun c hc d hd => by
        unfold km_v
        by_cases q : c = 256
        · rw [if_pos q, iN_nI, show (-1 : Int32) = iN (-1) by decide, iN_eq (by omega) (by omega)]; omega
        · rw [if_neg q, nI_eq (by omega) (by omega)]
      have blank : kt_B (kt_b T p) = true → ma_wp (F_X12_next_26 (F_X12_next_0 n) τ) (fun _ τ => km_St T j τ ∧ ma_fr km_F σ τ) := fun g => by
        have g2 := of_decide_eq_true g
        have hlt : p < T.1 := by
          have : ¬ kt_b T p = 256 := by omega
          have := mt hb.2.mpr this
          omega
        unfold F_X12_next_26
        refine ma_lt ?_
        rw [h27, nI_1]
        exact ih (p + 1) (by omega) (by omega) (by rw [← hsk]; exact (kt_nxT (P := fun k => kt_B (kt_b T k)) g hlt).symm) _ (km_tpF ht (fwI _ _ _ (by decide) (by decide))) (hf.tr (fwI _ _ _ (by decide) (by decide))) ma_rI
      unfold F_X12_next_0 F_X12_next_308
      rw [h27]
      refine ma_be (km_see hT ht (by omega)) (ma_if (fun g => blank (decide_eq_true (.inl ((v32 _ hb.1 32 (by decide)).mp g)))) (fun g => ?_))
      rw [h27]
      refine ma_be (km_see hT ht (by omega)) (ma_if (fun g2 => blank (decide_eq_true (.inr ((v32 _ hb.1 10 (by decide)).mp g2)))) (fun g2 => ma_lt ?_))
      have hnb : kt_B (kt_b T p) = false := decide_eq_false (fun q => q.elim (fun q => g ((v32 _ hb.1 32 (by decide)).mpr q)) (fun q => g2 ((v32 _ hb.1 10 (by decide)).mpr q)))
      have hs : kt_s T j = p := by rw [← hsk]; exact kt_nxF hnb
      have hc : kt_c T j = kt_b T p := by unfold kt_c; rw [hs]
      rw [h27]
      have ht2 : km_tp T (ae_wI τ 30 0 26 (nI p)) := km_tpF ht (fwI _ _ _ (by decide) (by decide))
      have hf2 : ma_fr km_F σ (ae_wI τ 30 0 26 (nI p)) := hf.tr (fwI _ _ _ (by decide) (by decide))
      have h26 : (ae_wI τ 30 0 26 (nI p)).1 30 0 26 = nI p := ma_rI
      have h27b : (ae_wI τ 30 0 26 (nI p)).1 30 0 27 = nI p := by rw [ma_rIn (by simp)]; exact h27
      generalize ae_wI τ 30 0 26 (nI p) = υ at ht2 hf2 h26 h27b ⊢
      rw [h27b]
      refine ma_be (km_see hT ht2 (by omega)) ?_
      by_cases h256 : kt_b T p = 256
      · have hty : kt_ty T j = 0 := by unfold kt_ty; rw [hc, if_pos h256]
        have he : kt_e T j = p := by unfold kt_e kt_en; rw [hs, if_pos h256]
        refine ma_T (by rw [h256]; rfl) (ma_lt (ma_ret ⟨⟨km_tpF ht2 (fwI _ _ _ (by decide) (by decide)), ?_, ?_, ?_, fun g => absurd (hty.symm.trans g) (by decide), fun g => absurd (hty.symm.trans g) (by decide), fun g => absurd (hty.symm.trans g) (by decide)⟩, hf2.tr (fwI _ _ _ (by decide) (by decide))⟩))
        · rw [ma_rI, hty]; rfl
        · rw [ma_rIn (by simp), h26, hs]
        · rw [ma_rIn (by simp), h27b, he]
      · have hlt : p < T.1 := by
          have := mt hb.2.mpr h256
          omega
        refine ma_F (fun q => ?_) (ma_be (km_isL hb.1 υ) ?_)
        · unfold km_v at q
          rw [if_neg h256, iN_nI, show (-1 : Int32) = iN (-1) by decide, iN_eq (by omega) (by omega)] at q
          omega
        · cases hl : kt_L (kt_b T p) with
          | true =>
            refine ma_F (by decide) (ma_lt (ma_lt ?_))
            refine km_word hT hs hlt hl ae_fu 0 (by rw [ae_fu]; omega) (by omega) rfl _ (km_tpF (km_tpF ht2 (fwI _ 25 1 (by decide) (by decide))) (fwL _ _ _ (by decide) (by decide))) (hf2.tr ((fwI _ _ _ (by decide) (by decide)).tr (fwL _ _ _ (by decide) (by decide)))) (show (ae_wI υ 30 0 25 _).1 30 0 25 = _ from ma_rI) ?_ ?_ (fun _ => ma_rL)
            · show (ae_wI υ 30 0 25 1).1 30 0 26 = _
              rw [ma_rIn (by simp)]; exact h26
            · show (ae_wI υ 30 0 25 1).1 30 0 27 = _
              rw [ma_rIn (by simp)]; exact h27b
          | false =>
            refine ma_T rfl (ma_be (km_isD hb.1 υ) ?_)
            cases hd : kt_D (kt_b T p) with
            | true =>
              refine ma_F (by decide) (ma_lt (ma_lt ?_))
              refine km_numb hT hs hlt hl hd ae_fu 0 (by rw [ae_fu]; omega) (by omega) rfl _ (km_tpF (km_tpF ht2 (fwI _ 25 2 (by decide) (by decide))) (fwL _ _ _ (by decide) (by decide))) (hf2.tr ((fwI _ _ _ (by decide) (by decide)).tr (fwL _ _ _ (by decide) (by decide)))) (show (ae_wI υ 30 0 25 _).1 30 0 25 = _ from ma_rI) ?_ ?_ (fun _ => ma_rL)
              · show (ae_wI υ 30 0 25 2).1 30 0 26 = _
                rw [ma_rIn (by simp)]; exact h26
              · show (ae_wI υ 30 0 25 2).1 30 0 27 = _
                rw [ma_rIn (by simp)]; exact h27b
            | false =>
              have hty : kt_ty T j = 3 := by unfold kt_ty; rw [hc, if_neg h256, hl, if_neg (by decide), hd, if_neg (by decide)]
              have he : kt_e T j = p + 1 := by unfold kt_e kt_en; rw [hs, if_neg h256, hl, if_neg (by decide), hd, if_neg (by decide)]
              have f3 : ma_fr km_F υ (ae_wI (ae_wI υ 30 0 25 3) 30 0 31 (km_v (kt_b T p))) := (fwI _ _ _ (by decide) (by decide)).tr (fwI _ _ _ (by decide) (by decide))
              have e27 : (ae_wI (ae_wI υ 30 0 25 3) 30 0 31 (km_v (kt_b T p))).1 30 0 27 = nI p := by rw [ma_rIn (by simp), ma_rIn (by simp)]; exact h27b
              refine ma_T rfl (ma_lt (ma_lt (ma_lt ?_)))
              rw [e27, nI_1]
              refine ma_ret ⟨⟨km_tpF (km_tpF ht2 f3) (fwI _ _ _ (by decide) (by decide)), ?_, ?_, ?_, fun g => absurd (hty.symm.trans g) (by decide), fun g => absurd (hty.symm.trans g) (by decide), fun _ => ?_⟩, hf2.tr (f3.tr (fwI _ _ _ (by decide) (by decide)))⟩
              · rw [ma_rIn (by simp), ma_rIn (by simp), ma_rI, hty]; rfl
              · rw [ma_rIn (by simp), ma_rIn (by simp), ma_rIn (by simp), h26, hs]
              · rw [ma_rI, he]
              · rw [ma_rIn (by simp), ma_rI, hc]
                unfold km_v
                rw [if_neg h256]
  unfold F_X12_next
  exact loop ae_fu p (by rw [ae_fu]; omega) hp hsk σ ht ma_fr.rf h27
theorem kt_eL (hT : kt_W T) (j : Nat) : kt_P T j ≤ T.1 ∧ kt_s T j ≤ T.1 ∧ kt_e T j ≤ T.1 := by
  have key : ∀ p, p ≤ T.1 → kt_sk T p ≤ T.1 ∧ kt_en T (kt_sk T p) ≤ T.1 := fun p hp => by
    have h1 : kt_sk T p ≤ T.1 := kt_nx_le _ hp
    have hb := kt_bl hT (kt_sk T p)
    refine ⟨h1, ?_⟩
    unfold kt_en
    by_cases q : kt_b T (kt_sk T p) = 256
    · rw [if_pos q]; exact h1
    · rw [if_neg q]
      have := mt hb.2.mpr q
      split
      · exact kt_nx_le _ h1
      · split
        · exact kt_nx_le _ h1
        · omega
  have hP : ∀ j, kt_P T j ≤ T.1 := fun j => by
    induction j with
    | zero => exact Nat.zero_le _
    | succ j ih => exact (key _ ih).2
  exact ⟨hP j, (key _ (hP j)).1, (key _ (hP j)).2⟩
theorem km_adv (hT : kt_W T) (H : km_St T j σ) : ma_wp (F_X12_next σ) (fun _ τ => km_St T (j + 1) τ ∧ ma_fr km_F σ τ) :=
  km_next hT H.1 (kt_eL hT j).2.2 H.2.2.2.1 rfl
end KM
