/-! the class reads a view -/
theorem kt_run_all (P : Nat → Bool) : ∀ n p k, p ≤ k → k < kt_run P n p → P k = true
  | 0, p, k, h1, h2 => by rw [kt_run] at h2; omega
  | n + 1, p, k, h1, h2 => by
    rw [kt_run] at h2
    by_cases h : P p = true
    · rw [if_pos h] at h2
      by_cases q : k = p
      · rw [q]; exact h
      · exact kt_run_all P n (p + 1) k (by omega) h2
    · rw [if_neg h] at h2; omega
theorem kt_fnB (T : kt_T) (p : Nat) : ∀ k, (∀ i, p ≤ i → i < p + k → kt_D (kt_b T i) = true) → kt_fn T p k < 10 ^ k
  | 0, _ => by show (0 : Nat) < 1; decide
  | k + 1, h => by
    have h1 := kt_fnB T p k (fun i a b => h i a (by omega))
    have h2 := of_decide_eq_true (h (p + k) (by omega) (by omega))
    rw [kt_fn, Nat.pow_succ]
    omega
theorem kt_nvB {T : kt_T} {D j : Nat} (h : kt_nu T D j = true) : kt_nv T j < 10 ^ D := by
  obtain ⟨h1, h2⟩ := of_decide_eq_true h
  have hc : ¬ kt_b T (kt_s T j) = 256 ∧ ¬ kt_L (kt_b T (kt_s T j)) = true ∧ kt_D (kt_b T (kt_s T j)) = true := by
    unfold kt_ty kt_c at h1
    by_cases q1 : kt_b T (kt_s T j) = 256
    · rw [if_pos q1] at h1; omega
    · rw [if_neg q1] at h1
      by_cases q2 : kt_L (kt_b T (kt_s T j)) = true
      · rw [if_pos q2] at h1; omega
      · rw [if_neg q2] at h1
        by_cases q3 : kt_D (kt_b T (kt_s T j)) = true
        · exact ⟨q1, q2, q3⟩
        · rw [if_neg q3] at h1; omega
  have he : kt_e T j = kt_de T (kt_s T j) := by
    unfold kt_e kt_en
    rw [if_neg hc.1, if_neg hc.2.1, if_pos hc.2.2]
  have hge : kt_s T j ≤ kt_de T (kt_s T j) := kt_nx_ge _ _ _
  have := kt_fnB T (kt_s T j) (kt_n T j) (fun i a b => by
    refine kt_run_all (fun k => kt_D (kt_b T k)) (T.1 - kt_s T j) (kt_s T j) i a ?_
    show i < kt_de T (kt_s T j)
    unfold kt_n at b
    rw [he] at b
    omega)
  exact Nat.lt_of_lt_of_le this (Nat.pow_le_pow_right (by decide) h2)
theorem kt_nuV {T : kt_T} {D j : Nat} (h : kt_nu T D j = true) : kt_cvl T j = lN (kt_nv T j) := by
  unfold kt_cvl
  rw [(of_decide_eq_true h).1]; rfl
theorem kt_nmV {T : kt_T} {j : Nat} (h : kt_nm T j = true) : kt_cvl T j = kt_wv T j := by
  have h2 := of_decide_eq_true h
  unfold kt_cvl
  rw [h2.1, if_neg (by decide), if_pos rfl, if_pos h2.2.1]
def kc_bad (f : Int32) (p : Nat) (τ : ae_S) : Prop := τ.1 12 0 7 = f ∧ τ.1 12 0 8 = nI p
def kF (j0 : Fin 32) (g : Nat) (i : Fin 32) (k : Nat) : Prop := ¬ (g = 12 ∧ k = 6) ∧ ¬ (8 ≤ g ∧ g ≤ 11 ∧ i = j0)
def kW (j0 : Fin 32) (g : Nat) (i : Fin 32) (k : Nat) : Prop := ¬ (g = 12 ∧ (k = 6 ∨ k = 7 ∨ k = 8)) ∧ ¬ (8 ≤ g ∧ g ≤ 11 ∧ i = j0)
section KV
variable {T : kt_T} {σ τ : ae_S} {j k st ct sd ac sz : Nat} {j0 : Fin 32} {nm : Int64} {bg : Bool} {fs : List mv_F}
theorem kF_adv (f : ma_fr (fun g _ k => ¬ (g = 12 ∧ k = 6)) σ τ) : ma_fr (kF j0) σ τ := f.mo (fun g i k q => by unfold kF at q; omega)
theorem kW_ref (f : ma_fr (fun g _ k => ¬ (g = 12 ∧ (k = 7 ∨ k = 8))) σ τ) : ma_fr (kW j0) σ τ := f.mo (fun g i k q => by unfold kW at q; omega)
theorem kWF (f : ma_fr (kF j0) σ τ) : ma_fr (kW j0) σ τ := f.mo (fun g i k q => by unfold kW at q; unfold kF; exact ⟨by omega, q.2⟩)
theorem kF_wI {k2 : Nat} {x : Int32} : ma_fr (kF j0) σ (ae_wI σ 8 j0 k2 x) := ma_fwI (by unfold kF; simp)
theorem kF_C1 {w : mv_V} (c : mv_C1 j0 w σ) (f : ma_fr (fun g _ k => ¬ (g = 12 ∧ (k = 6 ∨ k = 7 ∨ k = 8))) σ τ) : mv_C1 j0 w τ := c.fr f (fun _ => by omega) (fun _ => by omega) (fun _ => by omega) (fun _ => by omega)
theorem kc_C1a {w : mv_V} (c : mv_C1 j0 w σ) (f : ma_fr (fun g _ k => ¬ (g = 12 ∧ k = 6)) σ τ) : mv_C1 j0 w τ := c.fr f (fun _ => by omega) (fun _ => by omega) (fun _ => by omega) (fun _ => by omega)
theorem kS_w {D : Nat} {k2 : Nat} {x : Int32} (H : kt_St T D j σ) : kt_St T D j (ae_wI σ 8 j0 k2 x) := H.fr (P := fun g _ _ => g ≠ 8) (ma_fwI (by simp)) (by decide) (by decide) (fun _ _ => by decide) (fun _ => by decide)
theorem kS_wR {D : Nat} {k2 : Nat} {x : Option ae_R} (H : kt_St T D j σ) : kt_St T D j (ae_wR σ 8 j0 k2 x) := H.fr (P := fun g _ _ => g ≠ 8) (ma_fwR (by simp)) (by decide) (by decide) (fun _ _ => by decide) (fun _ => by decide)
theorem kC_5 (b2 : Bool) (c : mv_C1 j0 (nm, k, bg, st, ct, sd, ac, fs) σ) : mv_C1 j0 (nm, k, b2, st, ct, sd, ac, fs) (ae_wI σ 8 j0 5 (mv_bI b2)) := by
  obtain ⟨c1, c2, c3, c4, c5, c6, c7, c8, c9⟩ := c
  exact ⟨c1, c2, ma_rI, by rw [ma_rIn (by simp)]; exact c4, by rw [ma_rIn (by simp)]; exact c5, by rw [ma_rIn (by simp)]; exact c6, by rw [ma_rIn (by simp)]; exact c7, by rw [ma_rIn (by simp)]; exact c8, fun f q e => ⟨(c9 f q e).1, by rw [ma_rIn (by simp)]; exact (c9 f q e).2.1, by rw [ma_rIn (by simp)]; exact (c9 f q e).2.2⟩⟩
theorem kC_6 (s2 : Nat) (c : mv_C1 j0 (nm, k, bg, st, ct, sd, ac, fs) σ) : mv_C1 j0 (nm, k, bg, s2, ct, sd, ac, fs) (ae_wI σ 8 j0 6 (nI s2)) := by
  obtain ⟨c1, c2, c3, c4, c5, c6, c7, c8, c9⟩ := c
  exact ⟨c1, c2, by rw [ma_rIn (by simp)]; exact c3, ma_rI, by rw [ma_rIn (by simp)]; exact c5, by rw [ma_rIn (by simp)]; exact c6, by rw [ma_rIn (by simp)]; exact c7, by rw [ma_rIn (by simp)]; exact c8, fun f q e => ⟨(c9 f q e).1, by rw [ma_rIn (by simp)]; exact (c9 f q e).2.1, by rw [ma_rIn (by simp)]; exact (c9 f q e).2.2⟩⟩
theorem kC_7 (s2 : Nat) (c : mv_C1 j0 (nm, k, bg, st, ct, sd, ac, fs) σ) : mv_C1 j0 (nm, k, bg, st, s2, sd, ac, fs) (ae_wI σ 8 j0 7 (nI s2)) := by
  obtain ⟨c1, c2, c3, c4, c5, c6, c7, c8, c9⟩ := c
  exact ⟨c1, c2, by rw [ma_rIn (by simp)]; exact c3, by rw [ma_rIn (by simp)]; exact c4, ma_rI, by rw [ma_rIn (by simp)]; exact c6, by rw [ma_rIn (by simp)]; exact c7, by rw [ma_rIn (by simp)]; exact c8, fun f q e => ⟨(c9 f q e).1, by rw [ma_rIn (by simp)]; exact (c9 f q e).2.1, by rw [ma_rIn (by simp)]; exact (c9 f q e).2.2⟩⟩
theorem kC_8 (s2 : Nat) (c : mv_C1 j0 (nm, k, bg, st, ct, sd, ac, fs) σ) : mv_C1 j0 (nm, k, bg, st, ct, s2, ac, fs) (ae_wI σ 8 j0 8 (nI s2)) := by
  obtain ⟨c1, c2, c3, c4, c5, c6, c7, c8, c9⟩ := c
  exact ⟨c1, c2, by rw [ma_rIn (by simp)]; exact c3, by rw [ma_rIn (by simp)]; exact c4, by rw [ma_rIn (by simp)]; exact c5, ma_rI, by rw [ma_rIn (by simp)]; exact c7, by rw [ma_rIn (by simp)]; exact c8, fun f q e => ⟨(c9 f q e).1, by rw [ma_rIn (by simp)]; exact (c9 f q e).2.1, by rw [ma_rIn (by simp)]; exact (c9 f q e).2.2⟩⟩
theorem kC_9 (s2 : Nat) (c : mv_C1 j0 (nm, k, bg, st, ct, sd, ac, fs) σ) : mv_C1 j0 (nm, k, bg, st, ct, sd, s2, fs) (ae_wI σ 8 j0 9 (nI s2)) := by
  obtain ⟨c1, c2, c3, c4, c5, c6, c7, c8, c9⟩ := c
  exact ⟨c1, c2, by rw [ma_rIn (by simp)]; exact c3, by rw [ma_rIn (by simp)]; exact c4, by rw [ma_rIn (by simp)]; exact c5, by rw [ma_rIn (by simp)]; exact c6, ma_rI, by rw [ma_rIn (by simp)]; exact c8, fun f q e => ⟨(c9 f q e).1, by rw [ma_rIn (by simp)]; exact (c9 f q e).2.1, by rw [ma_rIn (by simp)]; exact (c9 f q e).2.2⟩⟩
theorem kC_4 (k2 : Nat) (c : mv_C1 j0 (nm, k, bg, st, ct, sd, ac, fs) σ) : mv_C1 j0 (nm, k2, bg, st, ct, sd, ac, fs) (ae_wR σ 8 j0 4 (some (60, Fin.ofNat 32 k2))) := by
  obtain ⟨c1, c2, c3, c4, c5, c6, c7, c8, c9⟩ := c
  exact ⟨c1, ma_rR, c3, c4, c5, c6, c7, c8, c9⟩
theorem kv_eor (hk : k < 9) (hc : 1 ≤ ct) (c : mv_C1 j0 (nm, k, bg, st, ct, sd, ac, fs) σ) : F_X9_endOfRow j0 σ = some (nI (st + (ct - 1) * sd + mv_by k), σ) := by
  refine ma_eq ?_
  unfold F_X9_endOfRow
  refine mv_kk c.2.1 hk (ma_ret ⟨?_, rfl⟩)
  have h6 : σ.1 8 j0 6 = nI st := c.2.2.2.1
  have h7 : σ.1 8 j0 7 = nI ct := c.2.2.2.2.1
  have h8 : σ.1 8 j0 8 = nI sd := c.2.2.2.2.2.1
  rw [h6, h7, h8, mv_kB k hk, show (1 : Int32) = nI 1 from rfl, pk_sub hc, pk_mul, nI_add, nI_add]
theorem kv_hrn (H : kt_St T 3 j σ) : ma_wp (F_X10_holdsRowNumber σ) (fun r τ => ma_fr (fun g _ k => ¬ (g = 12 ∧ (k = 7 ∨ k = 8))) σ τ ∧ ((kt_nu T 3 j = true ∧ (1 ≤ kt_nv T j ∧ kt_nv T j ≤ 64) ∧ r = 1 ∧ τ = σ) ∨ (kt_nu T 3 j = true ∧ ¬ (1 ≤ kt_nv T j ∧ kt_nv T j ≤ 64) ∧ r = 0 ∧ kc_bad 3 (kt_s T j) τ) ∨ (kt_nu T 3 j = false ∧ r = 0 ∧ kc_bad 1 (kt_s T j) τ))) := by
  unfold F_X10_holdsRowNumber F_X10_holdsRowNumber_45
  refine ma_be (kc_num H) ?_
  cases hn : kt_nu T 3 j with
  | false =>
    refine ma_T rfl (ma_bd (kc_ref H 1) (fun r τ q => ?_))
    obtain ⟨rfl, q⟩ := q
    exact ma_gd ma_z0 (ma_ret ⟨q.2.2, .inr (.inr ⟨rfl, rfl, q.1, q.2.1⟩)⟩)
  | true =>
    have hB := kt_nvB hn
    have no : ¬ (1 ≤ kt_nv T j ∧ kt_nv T j ≤ 64) → ma_wp (ae_bd (F_X8_refuse (3 : Int32) σ) (fun (r1 : Int32) s2 => ae_gd (ae_zz r1) (some (r1, s2)))) (fun r τ => ma_fr (fun g _ k => ¬ (g = 12 ∧ (k = 7 ∨ k = 8))) σ τ ∧ ((true = true ∧ (1 ≤ kt_nv T j ∧ kt_nv T j ≤ 64) ∧ r = 1 ∧ τ = σ) ∨ (true = true ∧ ¬ (1 ≤ kt_nv T j ∧ kt_nv T j ≤ 64) ∧ r = 0 ∧ kc_bad 3 (kt_s T j) τ) ∨ (true = false ∧ r = 0 ∧ kc_bad 1 (kt_s T j) τ))) := fun g => by
      refine ma_bd (kc_ref H 3) (fun r τ q => ?_)
      obtain ⟨rfl, q⟩ := q
      exact ma_gd ma_z0 (ma_ret ⟨q.2.2, .inr (.inl ⟨rfl, g, rfl, q.1, q.2.1⟩)⟩)
    refine ma_F (by decide) (ma_be (kc_value H) ?_)
    rw [kt_nuV hn]
    refine ma_if (fun g => no (fun w => ?_)) (fun g => ma_be (kc_value H) ?_)
    · rw [lg_cmp_lt, show (1 : Int64) = lN 1 from rfl, lN_lt (by omega) (by decide)] at g
      omega
    · rw [lg_cmp_lt, show (1 : Int64) = lN 1 from rfl, lN_lt (by omega) (by decide)] at g
      rw [kt_nuV hn]
      refine ma_if (fun g2 => ma_ret ⟨ma_fr.rf, .inl ⟨rfl, ?_, rfl, rfl⟩⟩) (fun g2 => no (fun w => ?_))
      · rw [lg_cmp_le, show (64 : Int64) = lN 64 from rfl, lN_le (by omega) (by decide)] at g2
        omega
      · rw [lg_cmp_le, show (64 : Int64) = lN 64 from rfl, lN_le (by omega) (by decide)] at g2
        omega
theorem kv_rowC (hs : sz ≤ 256) (hk : k < 9) (hst : st ≤ 256) (H : kt_St T 3 j σ) (c : mv_C1 j0 (nm, k, bg, st, 1, mv_by k, 0, []) σ) : ma_wp (F_X10_takeRow j0 (nI sz) σ) (fun r τ => kv_po (kv_row T sz k st j) (fun f p => r = 0 ∧ kc_bad f p τ ∧ ma_fr (kW j0) σ τ) (fun x => r = 1 ∧ ma_fr (kF j0) σ τ ∧ kt_St T 3 x.2.2 τ ∧ mv_C1 j0 (nm, k, bg, st, x.1, x.2.1, 0, []) τ)) := by
  have hb8 := mv_byle k hk
  unfold F_X10_takeRow kv_row
  refine ma_be (kc_word H (by decide)) ?_
  cases hw : kt_wd T j 2 with
  | false =>
    rw [if_neg (c := false = true) (by decide)]
    exact ma_T rfl (ma_ret (kv_por ⟨rfl, ma_fr.rf, H, c⟩))
  | true =>
    rw [if_pos (c := true = true) rfl]
    refine ma_F (by decide) (ma_bd (kc_adv H) (fun _ τ1 q1 => ?_))
    have c1 := kc_C1a c q1.2
    have f1 : ma_fr (kF j0) σ τ1 := kF_adv q1.2
    refine ma_bd (kv_hrn q1.1) (fun r1 τ2 q2 => ?_)
    obtain ⟨f2, q2⟩ := q2
    rcases q2 with ⟨hn, hv, rfl, rfl⟩ | ⟨hn, hv, rfl, hb⟩ | ⟨hn, rfl, hb⟩
    · rw [if_pos (c := kt_nu T 3 (j + 1) = true) hn, if_pos (c := 1 ≤ kt_nv T (j + 1) ∧ kt_nv T (j + 1) ≤ 64) hv]
      refine ma_F ma_01 (ma_be (kc_value q1.1) (ma_lt ?_))
      rw [kt_nuV hn, lN_i]
      have H2 : kt_St T 3 (j + 1) (ae_wI τ2 8 j0 7 (nI (kt_nv T (j + 1)))) := kS_w q1.1
      have c2 := kC_7 (kt_nv T (j + 1)) c1
      have f3 : ma_fr (kF j0) σ (ae_wI τ2 8 j0 7 (nI (kt_nv T (j + 1)))) := f1.tr kF_wI
      generalize ae_wI τ2 8 j0 7 (nI (kt_nv T (j + 1))) = υ at H2 c2 f3 ⊢
      refine ma_be (kc_place H2) (ma_bd (kc_adv H2) (fun _ τ3 q3 => ?_))
      have c3 := kc_C1a c2 q3.2
      have f4 : ma_fr (kF j0) σ τ3 := f3.tr (kF_adv q3.2)
      have fin : ∀ (sd2 jj pl : Nat) (ψ : ae_S), sd2 ≤ 64 → kt_St T 3 jj ψ → mv_C1 j0 (nm, k, bg, st, kt_nv T (j + 1), sd2, 0, []) ψ → ma_fr (kF j0) σ ψ → ma_wp (F_X10_takeRow_116 j0 (nI sz) (nI pl) ψ) (fun r τ => kv_po (if st + (kt_nv T (j + 1) - 1) * sd2 + mv_by k ≤ sz then .inr (kt_nv T (j + 1), sd2, jj) else .inl (3, pl)) (fun f p => r = 0 ∧ kc_bad f p τ ∧ ma_fr (kW j0) σ τ) (fun x => r = 1 ∧ ma_fr (kF j0) σ τ ∧ kt_St T 3 x.2.2 τ ∧ mv_C1 j0 (nm, k, bg, st, x.1, x.2.1, 0, []) τ)) := by
        intro sd2 jj pl ψ hsd Hs Hc Hf
        have hm : (kt_nv T (j + 1) - 1) * sd2 ≤ 64 * 64 := Nat.mul_le_mul (by omega) hsd
        unfold F_X10_takeRow_116 F_X10_takeRow_136 F_X10_takeRow_141 F_X8_refuseAt
        refine ma_be (kv_eor hk hv.1 Hc) (ma_le _ sz rfl rfl (by omega) (by omega) (fun q => ?_) (fun q => ?_))
        · rw [if_pos q]
          exact ma_gd ma_z1 (ma_ret (kv_por ⟨rfl, Hf, Hs, Hc⟩))
        · rw [if_neg (by omega)]
          refine ma_be rfl (ma_T rfl (ma_gd ma_z0 (ma_ret (kv_pol ⟨rfl, ⟨?_, ma_rI⟩, (kWF Hf).tr ((ma_fwI (by unfold kW; simp)).tr (ma_fwI (by unfold kW; simp)))⟩))))
          rw [ma_rIn (by simp), ma_rI]
      refine ma_be (kc_word q3.1 (by decide)) ?_
      cases hw3 : kt_wd T (j + 1 + 1) 3 with
      | false =>
        rw [if_neg (c := false = true) (by decide)]
        exact ma_T rfl (fin (mv_by k) (j + 2) (kt_s T (j + 1)) τ3 (by omega) q3.1 c3 f4)
      | true =>
        rw [if_pos (c := true = true) rfl]
        refine ma_F (by decide) (ma_bd (kc_adv q3.1) (fun _ τ4 q4 => ?_))
        have c4 := kc_C1a c3 q4.2
        have f5 : ma_fr (kF j0) σ τ4 := f4.tr (kF_adv q4.2)
        refine ma_bd (kv_hrn q4.1) (fun r5 τ5 q5 => ?_)
        obtain ⟨f6, q5⟩ := q5
        rcases q5 with ⟨hn5, hv5, rfl, rfl⟩ | ⟨hn5, hv5, rfl, hb⟩ | ⟨hn5, rfl, hb⟩
        · rw [if_pos (c := kt_nu T 3 (j + 3) = true) hn5, if_pos (c := 1 ≤ kt_nv T (j + 3) ∧ kt_nv T (j + 3) ≤ 64) hv5]
          refine ma_F ma_01 (ma_be (kc_value q4.1) (ma_lt ?_))
          rw [kt_nuV hn5, lN_i]
          have H6 : kt_St T 3 (j + 3) (ae_wI τ5 8 j0 8 (nI (kt_nv T (j + 3)))) := kS_w q4.1
          have c6 := kC_8 (kt_nv T (j + 3)) c4
          have f7 : ma_fr (kF j0) σ (ae_wI τ5 8 j0 8 (nI (kt_nv T (j + 3)))) := f5.tr kF_wI
          have e3 : j + 1 + 1 + 1 = j + 3 := by omega
          rw [e3]
          generalize ae_wI τ5 8 j0 8 (nI (kt_nv T (j + 3))) = χ at H6 c6 f7 ⊢
          refine ma_be (kc_place H6) (ma_bd (kc_adv H6) (fun _ τ7 q7 => ?_))
          exact fin (kt_nv T (j + 3)) (j + 4) (kt_s T (j + 3)) τ7 hv5.2 q7.1 (kc_C1a c6 q7.2) (f7.tr (kF_adv q7.2))
        · rw [if_pos (c := kt_nu T 3 (j + 3) = true) hn5, if_neg (c := 1 ≤ kt_nv T (j + 3) ∧ kt_nv T (j + 3) ≤ 64) hv5]
          exact ma_T rfl (ma_ret (kv_pol ⟨rfl, hb, (kWF f5).tr (kW_ref f6)⟩))
        · rw [if_neg (c := kt_nu T 3 (j + 3) = true) (by rw [show j + 3 = j + 1 + 1 + 1 by omega, hn5]; decide)]
          exact ma_T rfl (ma_ret (kv_pol ⟨rfl, hb, (kWF f5).tr (kW_ref f6)⟩))
    · rw [if_pos (c := kt_nu T 3 (j + 1) = true) hn, if_neg (c := 1 ≤ kt_nv T (j + 1) ∧ kt_nv T (j + 1) ≤ 64) hv]
      exact ma_T rfl (ma_ret (kv_pol ⟨rfl, hb, (kWF f1).tr (kW_ref f2)⟩))
    · rw [if_neg (c := kt_nu T 3 (j + 1) = true) (by rw [hn]; decide)]
      exact ma_T rfl (ma_ret (kv_pol ⟨rfl, hb, (kWF f1).tr (kW_ref f2)⟩))
theorem kv_accC (H : kt_St T 3 j σ) (c : mv_C1 j0 (nm, k, bg, st, ct, sd, 0, fs) σ) : ma_wp (F_X10_takeAccess j0 σ) (fun _ τ => ma_fr (kF j0) σ τ ∧ kt_St T 3 (if kt_ac T j = 0 then j else j + 1) τ ∧ mv_C1 j0 (nm, k, bg, st, ct, sd, kt_ac T j, fs) τ) := by
  have fin : ∀ (a : Nat) (ψ : ae_S), a ≤ 3 → a = kt_ac T j → kt_St T 3 j ψ → mv_C1 j0 (nm, k, bg, st, ct, sd, a, fs) ψ → ma_fr (kF j0) σ ψ → ma_wp (F_X10_takeAccess_57 j0 ψ) (fun _ τ => ma_fr (kF j0) σ τ ∧ kt_St T 3 (if kt_ac T j = 0 then j else j + 1) τ ∧ mv_C1 j0 (nm, k, bg, st, ct, sd, kt_ac T j, fs) τ) := by
    intro a ψ ha he Hs Hc Hf
    unfold F_X10_takeAccess_57 F_X10_takeAccess_71
    rw [← he]
    have h9 : ψ.1 8 j0 9 = nI a := Hc.2.2.2.2.2.2.1
    refine ma_en a 0 h9 rfl (by omega) (by decide) (fun q => ?_) (fun q => ?_)
    · rw [if_pos q]; exact ma_ret ⟨Hf, Hs, Hc⟩
    · rw [if_neg q]; exact ma_bd (kc_adv Hs) (fun _ χ r => ma_ret ⟨Hf.tr (kF_adv r.2), r.1, kc_C1a Hc r.2⟩)
  unfold F_X10_takeAccess
  refine ma_be (kc_word H (by decide)) ?_
  have e : kt_ac T j = if kt_wd T j 4 = true then 1 else if kt_wd T j 5 = true then 2 else if kt_wd T j 6 = true then 3 else 0 := rfl
  cases h4 : kt_wd T j 4 with
  | true =>
    rw [h4, if_pos (c := true = true) rfl] at e
    exact ma_F (by decide) (ma_lt (fin 1 _ (by decide) e.symm (kS_w H) (kC_9 1 c) kF_wI))
  | false =>
    rw [h4, if_neg (c := false = true) (by decide)] at e
    refine ma_T rfl (ma_be (kc_word H (by decide)) ?_)
    cases h5 : kt_wd T j 5 with
    | true =>
      rw [h5, if_pos (c := true = true) rfl] at e
      exact ma_F (by decide) (ma_lt (fin 2 _ (by decide) e.symm (kS_w H) (kC_9 2 c) kF_wI))
    | false =>
      rw [h5, if_neg (c := false = true) (by decide)] at e
      refine ma_T rfl (ma_be (kc_word H (by decide)) ?_)
      cases h6 : kt_wd T j 6 with
      | true =>
        rw [h6, if_pos (c := true = true) rfl] at e
        exact ma_F (by decide) (ma_lt (fin 3 _ (by decide) e.symm (kS_w H) (kC_9 3 c) kF_wI))
      | false =>
        rw [h6, if_neg (c := false = true) (by decide)] at e
        exact ma_T rfl (fin 0 σ (by decide) e.symm H c ma_fr.rf)
end KV
