/-! the model reads rows and fields -/
section KM
variable {T : kt_T} {σ τ ψ : ae_S} {j k st ct sd ac sz v c d D : Nat} {nm : Int64} {bg : Bool} {fs : List mv_F}
def kK (T : kt_T) (j : Nat) (τ : ae_S) : Prop := km_St T j τ ∧ τ.1 30 0 23 = 0 ∧ τ.1 30 0 24 = -1
theorem kK.fr {P : Nat → Fin 32 → Nat → Prop} (H : kK T j σ) (f : ma_fr P σ τ) (p20 : P 30 0 20) (p : ∀ k, 23 ≤ k → k ≤ 31 → P 30 0 k) (p46 : ∀ k, P 46 0 k) : kK T j τ := ⟨H.1.fr f p20 (fun k h1 h2 => p k (by omega) h2) p46, (f.i (p 23 (by decide) (by decide))).trans H.2.1, (f.i (p 24 (by decide) (by decide))).trans H.2.2⟩
theorem kK.adv (hT : kt_W T) (H : kK T j σ) : ma_wp (F_X12_next σ) (fun _ τ => kK T (j + 1) τ ∧ ma_fr km_F σ τ) := ma_mono (km_adv hT H.1) (fun _ τ q => ⟨⟨q.1, (q.2.i (by unfold km_F; omega)).trans H.2.1, (q.2.i (by unfold km_F; omega)).trans H.2.2⟩, q.2⟩)
theorem kK.num (hT : kt_W T) (H : kK T j σ) (hD : D ≤ 12) : ma_wp (F_X12_readsNumber (nI D) σ) (fun r τ => (kt_nu T D j = true ∧ r = 1 ∧ τ = σ ∧ σ.2.1 30 0 29 = lN (kt_nv T j)) ∨ (kt_nu T D j = false ∧ r = 0 ∧ km_bad 1 (kt_s T j) τ ∧ ma_fr (fun g _ k => ¬ (g = 30 ∧ (k = 23 ∨ k = 24))) σ τ)) := by
  have h1 := kt_eL hT j
  have h2 : kt_n T j < 2 ^ 31 := by
    have := hT.1
    unfold kt_n
    omega
  refine ma_mono (km_num H.1 H.2.1 (by omega) h2) (fun r τ q => ?_)
  rcases q with ⟨h, hr, ht⟩ | q
  · have h3 := of_decide_eq_true h
    exact .inl ⟨h, hr, ht, (H.1.2.2.2.2.2.1 h3.1).2 (by omega)⟩
  · exact .inr q
theorem kK.take (hT : kt_W T) (H : kK T j σ) {c : Nat} (hc : c < 256) : ma_wp (F_X12_takes (nI c) σ) (fun r τ => (kt_sg T j c = true ∧ r = 1 ∧ kK T (j + 1) τ ∧ ma_fr km_F σ τ) ∨ (kt_sg T j c = false ∧ r = 0 ∧ km_bad 1 (kt_s T j) τ ∧ ma_fr (fun g _ k => ¬ (g = 30 ∧ (k = 23 ∨ k = 24))) σ τ)) := by
  refine ma_mono (km_take hT H.1 H.2.1 hc) (fun r τ q => ?_)
  rcases q with ⟨h, hr, ht, f⟩ | q
  · exact .inl ⟨h, hr, ⟨ht, (f.i (by unfold km_F; omega)).trans H.2.1, (f.i (by unfold km_F; omega)).trans H.2.2⟩, f⟩
  · exact .inr q
theorem kK.wI {g k : Nat} {x : Int32} (H : kK T j σ) (hg : g ≠ 30 ∧ g ≠ 46) : kK T j (ae_wI σ g 0 k x) := H.fr (P := fun a _ _ => a ≠ g) (ma_fwI (by simp)) (by omega) (fun _ _ _ => by omega) (fun _ => by omega)
theorem kK.wL {g k : Nat} {x : Int64} (H : kK T j σ) (hg : g ≠ 30 ∧ g ≠ 46) : kK T j (ae_wL σ g 0 k x) := H.fr (P := fun a _ _ => a ≠ g) (ma_fwL (by simp)) (by omega) (fun _ _ _ => by omega) (fun _ => by omega)
def kR (v : Nat) (g : Nat) (_ : Fin 32) (k : Nat) : Prop := ¬ (g = 30 ∧ 23 ≤ k ∧ k ≤ 31) ∧ ¬ ((g = 39 ∨ g = 40) ∧ k = v)
def kRI (T : kt_T) (v : Nat) (σ : ae_S) (j c d : Nat) (ψ : ae_S) : Prop := kK T j ψ ∧ ψ.1 39 0 v = nI c ∧ ψ.1 40 0 v = nI d ∧ ma_fr (kR v) σ ψ
theorem kR_B (f : ma_fr (fun g _ k => ¬ (g = 30 ∧ (k = 23 ∨ k = 24))) σ τ) : ma_fr (kR v) σ τ := f.mo (fun g i k q => by unfold kR at q; omega)
theorem kRI.adv (hT : kt_W T) (H : kRI T v σ j c d ψ) : ma_wp (F_X12_next ψ) (fun _ τ => kRI T v σ (j + 1) c d τ) := ma_mono (H.1.adv hT) (fun _ τ q => ⟨q.1, (q.2.i (by unfold km_F; omega)).trans H.2.1, (q.2.i (by unfold km_F; omega)).trans H.2.2.1, H.2.2.2.tr (q.2.mo (fun g i k q => by unfold kR at q; unfold km_F; omega))⟩)
theorem kRI.w39 (H : kRI T v σ j c d ψ) (c2 : Nat) : kRI T v σ j c2 d (ae_wI ψ 39 0 v (nI c2)) := ⟨H.1.wI (by decide), ma_rI, by rw [ma_rIn (by simp)]; exact H.2.2.1, H.2.2.2.tr (ma_fwI (by unfold kR; simp))⟩
theorem kRI.w40 (H : kRI T v σ j c d ψ) (c2 : Nat) : kRI T v σ j c c2 (ae_wI ψ 40 0 v (nI c2)) := ⟨H.1.wI (by decide), by rw [ma_rIn (by simp)]; exact H.2.1, ma_rI, H.2.2.2.tr (ma_fwI (by unfold kR; simp))⟩
theorem kv_rowM (hT : kt_W T) (hv : v < 32) (hs : sz ≤ 256) (hk : k < 9) (hst : st ≤ 256) (H : kK T j σ) (h0 : σ.1 30 0 0 = nI sz) (h36 : σ.1 36 0 v = nI k) (h38 : σ.1 38 0 v = nI st) : ma_wp (F_X12_readRow (nI v) σ) (fun r τ => ma_fr (kR v) σ τ ∧ kv_po (kv_row T sz k st j) (fun f p => r = 0 ∧ km_bad f p τ) (fun x => r = 1 ∧ kK T x.2.2 τ ∧ τ.1 39 0 v = nI x.1 ∧ τ.1 40 0 v = nI x.2.1)) := by
  have hb8 := mv_byle k hk
  have hcl : (nI v).toNatClampNeg = v := nI_clamp (by omega)
  have hib : ae_ib (nI v) 32 = true := ma_ib v rfl hv (by decide)
  unfold F_X12_readRow kv_row
  rw [hcl]
  refine ma_gd hib (ma_lt (ma_gd hib ?_))
  have e36 : (ae_wI σ 39 0 v 1).1 36 0 v = nI k := by rw [ma_rIn (by simp)]; exact h36
  rw [e36]
  refine ma_be (mv_bytesOf hk _) (ma_gd hib (ma_lt ?_))
  have I0 : kRI T v σ j 1 (mv_by k) (ae_wI (ae_wI σ 39 0 v 1) 40 0 v (nI (mv_by k))) := ⟨(H.wI (by decide)).wI (by decide), by rw [ma_rIn (by simp), ma_rI]; rfl, ma_rI, (ma_fwI (by unfold kR; simp)).tr (ma_fwI (by unfold kR; simp))⟩
  generalize ae_wI (ae_wI σ 39 0 v 1) 40 0 v (nI (mv_by k)) = ψ0 at I0 ⊢
  refine ma_be (km_wd I0.1.1 (by decide)) ?_
  cases hw : kt_wd T j 2 with
  | false =>
    rw [if_neg (c := false = true) (by decide)]
    exact ma_T rfl (ma_ret ⟨I0.2.2.2, kv_por ⟨rfl, I0.1, I0.2.1, I0.2.2.1⟩⟩)
  | true =>
    rw [if_pos (c := true = true) rfl]
    refine ma_F (by decide) (ma_bd (I0.adv hT) (fun _ ψ1 I1 => ?_))
    refine ma_bd (I1.1.num hT (D := 3) (by decide)) (fun r τ2 q2 => ?_)
    rcases q2 with ⟨hn, rfl, rfl, hx⟩ | ⟨hn, rfl, hb, f2⟩
    · rw [if_pos (c := kt_nu T 3 (j + 1) = true) hn]
      have hB := kt_nvB hn
      refine ma_F ma_01 ?_
      rw [hx]
      refine ma_be (ma_isIn _ _ _ _) ?_
      have e1 : ((1 : Int64) ≤ lN (kt_nv T (j + 1)) ∧ lN (kt_nv T (j + 1)) ≤ 64) ↔ (1 ≤ kt_nv T (j + 1) ∧ kt_nv T (j + 1) ≤ 64) := by
        rw [show (1 : Int64) = lN 1 from rfl, show (64 : Int64) = lN 64 from rfl, lN_le (by decide) (by omega), lN_le (by omega) (by decide)]
      rw [ma_ic e1]
      by_cases hv1 : 1 ≤ kt_nv T (j + 1) ∧ kt_nv T (j + 1) ≤ 64
      · rw [if_pos (c := 1 ≤ kt_nv T (j + 1) ∧ kt_nv T (j + 1) ≤ 64) hv1, if_pos (c := 1 ≤ kt_nv T (j + 1) ∧ kt_nv T (j + 1) ≤ 64) hv1]
        refine ma_F ma_01 (ma_gd hib (ma_lt (ma_lt ?_)))
        rw [hx, lN_i]
        have I2 := I1.w39 (kt_nv T (j + 1))
        generalize ae_wI τ2 39 0 v (nI (kt_nv T (j + 1))) = ψ2 at I2 ⊢
        rw [I2.1.1.2.2.1]
        refine ma_bd (I2.adv hT) (fun _ ψ3 I3 => ?_)
        have fin : ∀ (sd2 jj pl : Nat) (ψ : ae_S), sd2 ≤ 64 → kRI T v σ jj (kt_nv T (j + 1)) sd2 ψ → ma_wp (F_X12_readRow_158 (nI v) (nI pl) ψ) (fun r τ => ma_fr (kR v) σ τ ∧ kv_po (if st + (kt_nv T (j + 1) - 1) * sd2 + mv_by k ≤ sz then .inr (kt_nv T (j + 1), sd2, jj) else .inl (3, pl)) (fun f p => r = 0 ∧ km_bad f p τ) (fun x => r = 1 ∧ kK T x.2.2 τ ∧ τ.1 39 0 v = nI x.1 ∧ τ.1 40 0 v = nI x.2.1)) := by
          intro sd2 jj pl ψ hsd I
          have hm : (kt_nv T (j + 1) - 1) * sd2 ≤ 64 * 64 := Nat.mul_le_mul (by omega) hsd
          have g36 : ψ.1 36 0 v = nI k := (I.2.2.2.i (by unfold kR; omega)).trans h36
          have g38 : ψ.1 38 0 v = nI st := (I.2.2.2.i (by unfold kR; omega)).trans h38
          have g0 : ψ.1 30 0 0 = nI sz := (I.2.2.2.i (by unfold kR; omega)).trans h0
          unfold F_X12_readRow_158 F_X12_readRow_206 F_X12_readRow_211
          rw [hcl, g36, g38, I.2.1, I.2.2.1, show (1 : Int32) = nI 1 from rfl, pk_sub hv1.1, pk_mul, nI_add]
          refine ma_gd hib (ma_gd hib (ma_gd hib (ma_gd hib (ma_be (mv_bytesOf hk _) ?_))))
          rw [nI_add, Nat.mul_comm sd2]
          refine ma_le _ sz rfl g0 (by omega) (by omega) (fun q => ?_) (fun q => ?_)
          · rw [if_pos (c := st + (kt_nv T (j + 1) - 1) * sd2 + mv_by k ≤ sz) q]
            exact ma_gd ma_z1 (ma_ret ⟨I.2.2.2, kv_por ⟨rfl, I.1, I.2.1, I.2.2.1⟩⟩)
          · rw [if_neg (c := st + (kt_nv T (j + 1) - 1) * sd2 + mv_by k ≤ sz) (by omega)]
            refine ma_bd (km_fail I.1.2.1 3 pl) (fun r τ q => ?_)
            obtain ⟨rfl, hb, f⟩ := q
            exact ma_T rfl (ma_gd ma_z0 (ma_ret ⟨I.2.2.2.tr (kR_B f), kv_pol ⟨rfl, hb⟩⟩))
        refine ma_be (km_wd I3.1.1 (by decide)) ?_
        cases hw3 : kt_wd T (j + 1 + 1) 3 with
        | false =>
          rw [if_neg (c := false = true) (by decide)]
          exact ma_T rfl (fin (mv_by k) (j + 2) (kt_s T (j + 1)) ψ3 (by omega) I3)
        | true =>
          rw [if_pos (c := true = true) rfl]
          refine ma_F (by decide) (ma_bd (I3.adv hT) (fun _ ψ4 I4 => ?_))
          refine ma_bd (I4.1.num hT (D := 3) (by decide)) (fun r τ5 q5 => ?_)
          rcases q5 with ⟨hn5, rfl, rfl, hx5⟩ | ⟨hn5, rfl, hb, f5⟩
          · rw [if_pos (c := kt_nu T 3 (j + 3) = true) hn5]
            have hx5 : τ5.2.1 30 0 29 = lN (kt_nv T (j + 3)) := hx5
            have hB5 := kt_nvB hn5
            have hB5 : kt_nv T (j + 3) < 10 ^ 3 := hB5
            refine ma_F ma_01 ?_
            rw [hx5]
            refine ma_be (ma_isIn _ _ _ _) ?_
            have e5 : ((1 : Int64) ≤ lN (kt_nv T (j + 3)) ∧ lN (kt_nv T (j + 3)) ≤ 64) ↔ (1 ≤ kt_nv T (j + 3) ∧ kt_nv T (j + 3) ≤ 64) := by
              rw [show (1 : Int64) = lN 1 from rfl, show (64 : Int64) = lN 64 from rfl, lN_le (by decide) (by omega), lN_le (by omega) (by decide)]
            rw [ma_ic e5]
            by_cases hv5 : 1 ≤ kt_nv T (j + 3) ∧ kt_nv T (j + 3) ≤ 64
            · rw [if_pos (c := 1 ≤ kt_nv T (j + 3) ∧ kt_nv T (j + 3) ≤ 64) hv5, if_pos (c := 1 ≤ kt_nv T (j + 3) ∧ kt_nv T (j + 3) ≤ 64) hv5]
              refine ma_F ma_01 (ma_gd hib (ma_lt (ma_lt ?_)))
              rw [hx5, lN_i]
              have I6 := I4.w40 (kt_nv T (j + 3))
              generalize ae_wI τ5 40 0 v (nI (kt_nv T (j + 3))) = ψ6 at I6 ⊢
              rw [I6.1.1.2.2.1]
              exact ma_bd (I6.adv hT) (fun _ ψ7 I7 => fin (kt_nv T (j + 3)) (j + 4) (kt_s T (j + 3)) ψ7 hv5.2 I7)
            · rw [if_neg (c := 1 ≤ kt_nv T (j + 3) ∧ kt_nv T (j + 3) ≤ 64) hv5, if_neg (c := 1 ≤ kt_nv T (j + 3) ∧ kt_nv T (j + 3) ≤ 64) hv5]
              refine ma_T rfl ?_
              rw [I4.1.1.2.2.1]
              refine ma_bd (km_fail I4.1.2.1 3 _) (fun r τ q => ?_)
              obtain ⟨rfl, hb, f⟩ := q
              exact ma_gd ma_z0 (ma_ret ⟨I4.2.2.2.tr (kR_B f), kv_pol ⟨rfl, hb⟩⟩)
          · rw [if_neg (c := kt_nu T 3 (j + 3) = true) (by rw [show j + 3 = j + 1 + 1 + 1 from rfl, hn5]; decide)]
            exact ma_T rfl (ma_ret ⟨I4.2.2.2.tr (kR_B f5), kv_pol ⟨rfl, hb⟩⟩)
      · rw [if_neg (c := 1 ≤ kt_nv T (j + 1) ∧ kt_nv T (j + 1) ≤ 64) hv1, if_neg (c := 1 ≤ kt_nv T (j + 1) ∧ kt_nv T (j + 1) ≤ 64) hv1]
        refine ma_T rfl ?_
        rw [I1.1.1.2.2.1]
        refine ma_bd (km_fail I1.1.2.1 3 _) (fun r τ q => ?_)
        obtain ⟨rfl, hb, f⟩ := q
        exact ma_gd ma_z0 (ma_ret ⟨I1.2.2.2.tr (kR_B f), kv_pol ⟨rfl, hb⟩⟩)
    · rw [if_neg (c := kt_nu T 3 (j + 1) = true) (by rw [hn]; decide)]
      exact ma_T rfl (ma_ret ⟨I1.2.2.2.tr (kR_B f2), kv_pol ⟨rfl, hb⟩⟩)
end KM
