/-! the reference reads terms, sums, comparisons -/
section KN
variable {T : kt_T} {σ σ0 τ φ : ae_S} {j j0 u o X K sz : Nat} {vs : List mv_V}
theorem kn_tl (hT : kt_W T) (hM : mv_M vs σ0) {g : GT_A} {a : Nat → kv_O (ks_E × Nat)} (hf : ∀ j', j0 ≤ j' → kn_rd T vs o g.2.2.2.1 (a j') j') : ∀ (m n : Nat) (c : ks_E) (j : Nat) (r : Int32) (σ : ae_S), 502 ≤ m + j → 502 ≤ n + j → kn_ok T vs o σ0 u X j0 (j - j0) (c, j) r σ → ma_wp (F_X12_readTerm_5 g n r σ) (fun r τ => kv_po (ks_lp T 3 a m c j) (fun f q => kn_bad σ0 u X f q τ) (fun x => kn_ok T vs o σ0 u X j0 (x.2 - j0) x r τ)) := by
  intro m
  induction m with
  | zero =>
    intro n c j r σ hm hn H
    obtain ⟨w, u1, _, _, _, _, _, hj, _⟩ := H
    have hj : j ≤ 500 := hj
    omega
  | succ m ih =>
    intro n c j r σ hm hn H
    have H0 := H
    obtain ⟨w, u1, rfl, hw, c1, hu, hX, hj, hj0, KK, ho, hE, F⟩ := H0
    have hj : j ≤ 500 := hj
    have hj0 : j0 < j := hj0
    have KK : kK T j σ := KK
    obtain ⟨n, rfl⟩ : ∃ n2, n = n2 + 1 := ⟨n - 1, by omega⟩
    rw [F_X12_readTerm_5, ks_lp]
    have go : ks_rk (ks_op T j) = 3 → ma_wp (F_X12_readTerm_39 g (F_X12_readTerm_5 g n) (nI w) σ) (fun r τ => kv_po (if ks_rk (ks_op T j) = 3 then kv_bn (a (j + 1)) (fun x => ks_lp T 3 a m (c ++ x.1 ++ [(ks_op T j, 0, 0)]) x.2) else .inr (c, j)) (fun f q => kn_bad σ0 u X f q τ) (fun x => kn_ok T vs o σ0 u X j0 (x.2 - j0) x r τ)) := by
      intro hr
      rw [if_pos (c := ks_rk (ks_op T j) = 3) hr]
      unfold F_X12_readTerm_39
      refine kn_bin hT hM (by omega) (by omega) H (hf (j + 1) (by omega)) (fun f q r τ e hb => ?_) (fun x r τ e hk hx => ?_)
      · rw [e]
        obtain ⟨n, rfl⟩ : ∃ n2, n = n2 + 1 := ⟨n - 1, by omega⟩
        rw [F_X12_readTerm_5]
        exact ma_be (kn_fineB hb) (ma_T rfl (ma_ret (kv_pol hb)))
      · rw [e]
        exact ih n _ x.2 r τ (by omega) (by omega) hk
    refine ma_be (km_fine KK.2.1) (ma_F ma_01 (ma_be (km_sg hT KK.1 (c := 42) (by decide)) ?_))
    cases h1 : kt_sg T j 42 with
    | true => exact ma_F (by decide) (go (ks_r3.mpr (.inl h1)))
    | false =>
      refine ma_T rfl (ma_be (km_sg hT KK.1 (c := 47) (by decide)) ?_)
      cases h2 : kt_sg T j 47 with
      | true => exact ma_F (by decide) (go (ks_r3.mpr (.inr (.inl h2))))
      | false =>
        refine ma_T rfl (ma_be (km_sg hT KK.1 (c := 37) (by decide)) ?_)
        cases h3 : kt_sg T j 37 with
        | true => exact ma_F (by decide) (go (ks_r3.mpr (.inr (.inr h3))))
        | false =>
          have hn3 : ¬ ks_rk (ks_op T j) = 3 := fun g => by
            have := ks_r3.mp g
            rw [h1, h2, h3] at this
            simp at this
          rw [if_neg (c := ks_rk (ks_op T j) = 3) hn3]
          exact ma_T rfl (ma_ret (kv_por H))
theorem kn_sl (hT : kt_W T) (hM : mv_M vs σ0) {g : GT_A} {a : Nat → kv_O (ks_E × Nat)} (hf : ∀ j', j0 ≤ j' → kn_rd T vs o g.2.2.1 (a j') j') : ∀ (m n : Nat) (c : ks_E) (j : Nat) (r : Int32) (σ : ae_S), 502 ≤ m + j → 502 ≤ n + j → kn_ok T vs o σ0 u X j0 (j - j0) (c, j) r σ → ma_wp (F_X12_readSum_5 g n r σ) (fun r τ => kv_po (ks_lp T 2 a m c j) (fun f q => kn_bad σ0 u X f q τ) (fun x => kn_ok T vs o σ0 u X j0 (x.2 - j0) x r τ)) := by
  intro m
  induction m with
  | zero =>
    intro n c j r σ hm hn H
    obtain ⟨w, u1, _, _, _, _, _, hj, _⟩ := H
    have hj : j ≤ 500 := hj
    omega
  | succ m ih =>
    intro n c j r σ hm hn H
    have H0 := H
    obtain ⟨w, u1, rfl, hw, c1, hu, hX, hj, hj0, KK, ho, hE, F⟩ := H0
    have hj : j ≤ 500 := hj
    have hj0 : j0 < j := hj0
    have KK : kK T j σ := KK
    obtain ⟨n, rfl⟩ : ∃ n2, n = n2 + 1 := ⟨n - 1, by omega⟩
    rw [F_X12_readSum_5, ks_lp]
    have go : ks_rk (ks_op T j) = 2 → ma_wp (F_X12_readSum_30 g (F_X12_readSum_5 g n) (nI w) σ) (fun r τ => kv_po (if ks_rk (ks_op T j) = 2 then kv_bn (a (j + 1)) (fun x => ks_lp T 2 a m (c ++ x.1 ++ [(ks_op T j, 0, 0)]) x.2) else .inr (c, j)) (fun f q => kn_bad σ0 u X f q τ) (fun x => kn_ok T vs o σ0 u X j0 (x.2 - j0) x r τ)) := by
      intro hr
      rw [if_pos (c := ks_rk (ks_op T j) = 2) hr]
      unfold F_X12_readSum_30
      refine kn_bin hT hM (by omega) (by omega) H (hf (j + 1) (by omega)) (fun f q r τ e hb => ?_) (fun x r τ e hk hx => ?_)
      · rw [e]
        obtain ⟨n, rfl⟩ : ∃ n2, n = n2 + 1 := ⟨n - 1, by omega⟩
        rw [F_X12_readSum_5]
        exact ma_be (kn_fineB hb) (ma_T rfl (ma_ret (kv_pol hb)))
      · rw [e]
        exact ih n _ x.2 r τ (by omega) (by omega) hk
    refine ma_be (km_fine KK.2.1) (ma_F ma_01 (ma_be (km_sg hT KK.1 (c := 43) (by decide)) ?_))
    cases h1 : kt_sg T j 43 with
    | true => exact ma_F (by decide) (go (ks_r2.mpr (.inl h1)))
    | false =>
      refine ma_T rfl (ma_be (km_sg hT KK.1 (c := 45) (by decide)) ?_)
      cases h2 : kt_sg T j 45 with
      | true => exact ma_F (by decide) (go (ks_r2.mpr (.inr h2)))
      | false =>
        have hn3 : ¬ ks_rk (ks_op T j) = 2 := fun g => by
          have := ks_r2.mp g
          rw [h1, h2] at this
          simp at this
        rw [if_neg (c := ks_rk (ks_op T j) = 2) hn3]
        exact ma_T rfl (ma_ret (kv_por H))
theorem kn_term (hT : kt_W T) {g : GT_A} {a : Nat → kv_O (ks_E × Nat)} (hf : ∀ j', j ≤ j' → kn_rd T vs o g.2.2.2.1 (a j') j') : kn_rd T vs o (FZ_X12_readTerm g) (ks_trm T a j) j := by
  intro u X σ H HM h ho hX hj
  unfold FZ_X12_readTerm ks_trm
  refine ma_bd (hf j (Nat.le_refl _) u X σ H HM h ho hX hj) (fun r τ q => ?_)
  cases ha : a j with
  | inl e =>
    rw [ha] at q
    have q : kn_bad σ u X e.1 e.2 τ := q
    rw [ae_fu, F_X12_readTerm_5]
    exact ma_be (kn_fineB q) (ma_T rfl (ma_ret (kv_pol q)))
  | inr x =>
    rw [ha] at q
    have q : kn_ok T vs o σ u X j (x.2 - j) x r τ := q
    have hq := q
    obtain ⟨_, _, _, _, _, _, _, _, hx, _⟩ := hq
    rw [kv_bnr]
    exact kn_tl hT HM hf 501 ae_fu x.1 x.2 r τ (by omega) (by rw [ae_fu]; omega) q
theorem kn_sum (hT : kt_W T) {g : GT_A} {a : Nat → kv_O (ks_E × Nat)} (hf : ∀ j', j ≤ j' → kn_rd T vs o g.2.2.1 (ks_trm T a j') j') : kn_rd T vs o (FZ_X12_readSum g) (ks_sum T a j) j := by
  intro u X σ H HM h ho hX hj
  unfold FZ_X12_readSum ks_sum
  refine ma_bd (hf j (Nat.le_refl _) u X σ H HM h ho hX hj) (fun r τ q => ?_)
  cases ha : ks_trm T a j with
  | inl e =>
    rw [ha] at q
    have q : kn_bad σ u X e.1 e.2 τ := q
    rw [ae_fu, F_X12_readSum_5]
    exact ma_be (kn_fineB q) (ma_T rfl (ma_ret (kv_pol q)))
  | inr x =>
    rw [ha] at q
    have q : kn_ok T vs o σ u X j (x.2 - j) x r τ := q
    have hq := q
    obtain ⟨_, _, _, _, _, _, _, _, hx, _⟩ := hq
    rw [kv_bnr]
    exact kn_sl hT HM hf 501 ae_fu x.1 x.2 r τ (by omega) (by rw [ae_fu]; omega) q
theorem kn_all (hT : kt_W T) {g : GT_A} {a : Nat → kv_O (ks_E × Nat)} (hf : ∀ j', j ≤ j' → kn_rd T vs o g.2.1 (ks_sum T a j') j') : kn_rd T vs o (FZ_X12_readAll g) (ks_all T a j) j := by
  intro u X σ H HM h ho hX hj
  unfold FZ_X12_readAll ks_all
  refine ma_bd (hf j (Nat.le_refl _) u X σ H HM h ho hX hj) (fun r τ q => ?_)
  cases ha : ks_sum T a j with
  | inl e =>
    rw [ha] at q
    have q : kn_bad σ u X e.1 e.2 τ := q
    exact ma_be (kn_fineB q) (ma_T rfl (ma_ret (kv_pol q)))
  | inr x =>
    rw [ha] at q
    have q : kn_ok T vs o σ u X j (x.2 - j) (x.1, x.2) r τ := q
    have hq := q
    obtain ⟨w, u1, rfl, _, _, _, _, _, hx, KK, _⟩ := hq
    have hx : j < x.2 := hx
    have KK : kK T x.2 τ := KK
    rw [kv_bnr]
    have go : ks_rk (ks_op T x.2) = 1 → ma_wp (F_X12_readAll_41 g (nI w) τ) (fun r τ => kv_po (if ks_rk (ks_op T x.2) = 1 then kv_bn (ks_sum T a (x.2 + 1)) (fun y => .inr (x.1 ++ y.1 ++ [(ks_op T x.2, 0, 0)], y.2)) else .inr x) (fun f q => kn_bad σ u X f q τ) (fun x => kn_ok T vs o σ u X j (x.2 - j) x r τ)) := by
      intro hr
      rw [if_pos (c := ks_rk (ks_op T x.2) = 1) hr]
      unfold F_X12_readAll_41
      refine kn_bin hT HM (by omega) (by omega) q (hf (x.2 + 1) (by omega)) (fun f q r τ e hb => ?_) (fun y r τ e hk hx => ?_)
      · rw [e]
        exact ma_ret (kv_pol hb)
      · rw [e]
        exact ma_ret (kv_por hk)
    refine ma_be (km_fine KK.2.1) (ma_F ma_01 (ma_be (km_sg hT KK.1 (c := 60) (by decide)) ?_))
    cases h1 : kt_sg T x.2 60 with
    | true => exact ma_F (by decide) (go (ks_r1.mpr (.inl h1)))
    | false =>
      refine ma_T rfl (ma_be (km_sg hT KK.1 (c := 62) (by decide)) ?_)
      cases h2 : kt_sg T x.2 62 with
      | true => exact ma_F (by decide) (go (ks_r1.mpr (.inr (.inl h2))))
      | false =>
        refine ma_T rfl (ma_be (km_sg hT KK.1 (c := 126) (by decide)) ?_)
        cases h3 : kt_sg T x.2 126 with
        | true => exact ma_F (by decide) (go (ks_r1.mpr (.inr (.inr h3))))
        | false =>
          have hn3 : ¬ ks_rk (ks_op T x.2) = 1 := fun g => by
            have := ks_r1.mp g
            rw [h1, h2, h3] at this
            simp at this
          rw [if_neg (c := ks_rk (ks_op T x.2) = 1) hn3]
          exact ma_T rfl (ma_ret (kv_por q))
end KN
