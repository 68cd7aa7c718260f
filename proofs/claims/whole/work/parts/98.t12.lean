/-! the reference reads a script -/
section KN
variable {T : kt_T} {σ σ0 τ φ ρ : ae_S} {j j0 u u0 o X K sz b w lo hi : Nat} {vs : List mv_V} {c : ks_E} {v1 v2 : Int32} {Q : Int32 → ae_S → Prop}
/-- a statement of the script itself, with the step ahead of it -/
def kn_T (vs : List mv_V) (K : Nat) (ρ : ae_S) (u b : Nat) (c : ks_E) : Prop := ∃ d, c = (19, 0, 0) :: d ∧ kn_S vs K 0 u (b + 1) d ρ
def kn_nd (σ ρ : ae_S) : Prop := ∀ k, ρ.1 47 0 k = σ.1 47 0 k ∧ ρ.1 48 0 k = σ.1 48 0 k ∧ ρ.1 49 0 k = σ.1 49 0 k ∧ ρ.1 50 0 k = σ.1 50 0 k ∧ ρ.2.1 51 0 k = σ.2.1 51 0 k ∧ ρ.2.2.1 52 0 k = σ.2.2.1 52 0 k
theorem kn_ndG (h : kn_nd σ ρ) : kn_ag lo hi w σ ρ := ⟨fun k _ => ⟨(h k).1, fun _ => ⟨(h k).2.1, (h k).2.2.1, (h k).2.2.2.2.1, (h k).2.2.2.2.2⟩⟩, fun k _ _ => ⟨(h k).2.1, (h k).2.2.1, fun _ => (h k).2.2.2.1⟩⟩
def kn_top (vs : List mv_V) (l : List (Nat × ks_E)) (x : Int32) (v2 : Int32) (u : Nat) (σ : ae_S) : Prop := (l = [] ∧ v2 = -1 ∧ x = -1) ∨ ∃ L, v2 = nI L ∧ x ≠ -1 ∧ L < u ∧ σ.1 50 0 L = -1 ∧ ∀ ρ, kn_ag 0 u L σ ρ → kn_LS (kn_T vs 500 ρ) ρ l x (ρ.1 50 0 L) 0
theorem kn_prg (hT : kt_W T) (hW : mv_W sz vs) (HM : mv_M vs σ0) : ∀ (m n : Nat) (l : List (Nat × ks_E)) (j u : Nat) (v1 v2 : Int32) (σ : ae_S), 502 ≤ m + j → 502 ≤ n + j → kK T j σ → σ.1 30 0 38 = nI u → σ.1 30 0 39 = nI 0 → u ≤ j → j ≤ 500 → ma_fr (kn_G 0) σ0 σ → kn_top vs l v1 v2 u σ → kv_po (ks_prg T vs m (kn_cat l) j) (fun f q => ∀ v τ, kn_bad σ0 0 0 f q τ → ma_wp (F_X12_script_69 v τ) Q) (fun C => ∀ v τ l, τ.1 30 0 23 = 0 → τ.1 30 0 24 = -1 → ma_fr (kn_G 0) σ0 τ → (∀ ρ, kn_nd τ ρ → kn_LS (kn_T vs 500 ρ) ρ l v (-1) 0) → C = kn_cat l → ma_wp (F_X12_script_69 v τ) Q) → ma_wp (F_X12_script_18 n v1 v2 σ) Q := by
  intro m
  induction m with
  | zero => intro n l j u v1 v2 σ hm _ _ _ _ _ hj; omega
  | succ m ih =>
    intro n l j u v1 v2 σ hm hn H h ho hX hj F0 hR hpo
    obtain ⟨n, rfl⟩ : ∃ n2, n = n2 + 1 := ⟨n - 1, by omega⟩
    rw [ks_prg] at hpo
    rw [F_X12_script_18]
    have htB := kt_tyB (T := T) (j := j)
    refine ma_be (km_fine H.2.1) (ma_F ma_01 (ma_en (kt_ty T j) 0 H.1.2.1 rfl (by omega) (by decide) (fun h0 => ?_) (fun h0 => ?_)))
    · rw [if_pos (c := kt_ty T j = 0) h0] at hpo
      refine hpo v1 σ l H.2.1 H.2.2 F0 (fun ρ hρ => ?_) rfl
      rcases hR with ⟨rfl, _, hx⟩ | ⟨L, _, _, k2, k3, k4⟩
      · exact hx
      · have g := k4 ρ (kn_ndG hρ)
        rw [(hρ L).2.2.2.1, k3] at g
        exact g
    · rw [if_neg (c := kt_ty T j = 0) h0] at hpo
      refine ma_bd (kn_srS hT hW ((kn_cat l).length + 1) j u 0 σ H (kn_MG HM F0) h ho (by omega) hj) (fun r φ q => ?_)
      cases ha : ks_stm T vs 502 0 ((kn_cat l).length + 1) j with
      | inl e =>
        rw [ha] at q hpo
        have q : kn_bad σ u 0 e.1 e.2 φ := q
        exact ma_be (kn_fineB q) (ma_T rfl (hpo v1 φ (kn_bad.tr F0 (by omega) (Nat.le_refl _) q)))
      | inr x =>
        rw [ha] at q hpo
        rw [kv_bnr] at hpo
        obtain ⟨w, u2, rfl, S, F⟩ := q
        obtain ⟨s1, s2, s3, s4, s5, s6, s7, s8, s9, s10⟩ := S
        have ec : kn_cat l ++ [((19 : Int32), (0 : Int64), (0 : Int32))] ++ x.1 = kn_cat (l ++ [(w, (19, 0, 0) :: x.1)]) := by
          rw [kn_catS, List.append_assoc]
          rfl
        rw [ec] at hpo
        unfold F_X12_script_64
        refine ma_be (km_fine s7.2.1) (ma_F ma_01 ?_)
        rcases hR with ⟨rfl, rfl, rfl⟩ | ⟨L, rfl, k1, k2, k3, k4⟩
        · refine ma_T rfl (ih n [(w, (19, 0, 0) :: x.1)] x.2 u2 (nI w) (nI w) φ (by omega) (by omega) s7 s3 s8 (by omega) s5 (F0.tr (kn_Gm (by omega) F)) (.inr ⟨w, rfl, kn_nIne (by omega), s2, s9, fun ρ hρ => ?_⟩) hpo)
          refine ⟨rfl, by show w < 600; omega, ⟨x.1, rfl, kn_S.mo _ 500 _ _ _ _ _ (by omega) (s10 ρ ⟨hρ.1, fun k q1 q2 => hρ.2 k (by omega) q2⟩)⟩, rfl⟩
        · refine ma_F k1 (ma_gd (ma_ib L rfl (by omega) (by decide)) (ma_lt ?_))
          rw [nI_clamp (by omega)]
          have f2 : ma_fr (fun g _ k => ¬ (g = 50 ∧ k = L)) φ (ae_wI φ 50 0 L (nI w)) := ma_fwI (by simp)
          have r2 : (ae_wI φ 50 0 L (nI w)).1 50 0 L = nI w := ma_rI
          generalize ae_wI φ 50 0 L (nI w) = ψ at f2 r2 ⊢
          refine ih n (l ++ [(w, (19, 0, 0) :: x.1)]) x.2 u2 v1 (nI w) ψ (by omega) (by omega) (s7.fr f2 (by omega) (fun _ _ _ => by omega) (fun _ => by omega)) ((f2.i (by omega)).trans s3) ((f2.i (by omega)).trans s8) (by omega) s5 ((F0.tr (kn_Gm (by omega) F)).tr (f2.mo (fun g i k q => by unfold kn_G at q; omega))) (.inr ⟨w, rfl, k1, s2, (f2.i (by omega)).trans s9, fun ρ hρ => ?_⟩) hpo
          have ak1 : kn_ak u2 φ ψ := fun k hk => ⟨f2.i (by omega), fun _ => ⟨f2.i (by omega), f2.i (by omega), f2.l (by omega), f2.d (by omega)⟩⟩
          have h1 : kn_ag 0 u L σ ρ := by
            refine ⟨((kn_akG F).tr (ak1.le (by omega))).tr (hρ.1.le (by omega)), fun k q1 q2 => ?_⟩
            have a := hρ.2 k q1 (by omega)
            exact ⟨a.1.trans ((f2.i (by omega)).trans (F.i (by unfold kn_G; omega))), a.2.1.trans ((f2.i (by omega)).trans (F.i (by unfold kn_G; omega))), fun n => (a.2.2 (by omega)).trans ((f2.i (by omega)).trans (F.i (by unfold kn_G; omega)))⟩
          have h2 : kn_ag u u2 w φ ρ := by
            refine ⟨ak1.tr hρ.1, fun k q1 q2 => ?_⟩
            have a := hρ.2 k (by omega) q2
            exact ⟨a.1.trans (f2.i (by omega)), a.2.1.trans (f2.i (by omega)), fun n => (a.2.2 n).trans (f2.i (by omega))⟩
          have e : ρ.1 50 0 L = nI w := ((hρ.2 L (by omega) (by omega)).2.2 (by omega)).trans r2
          have g1 := k4 ρ h1
          rw [e] at g1
          refine kn_LS.snoc (by omega) l v1 0 g1 ⟨x.1, rfl, ?_⟩
          rw [Nat.zero_add]
          exact kn_S.mo _ 500 _ _ _ _ _ (by omega) (s10 ρ h2)
/-- up to the doing -/
theorem kn_scr (hT : kt_W T) (hW : mv_W sz vs) (HM : mv_M vs σ) (ht : km_tp T σ) (hk : kv_po (ks_prg T vs 502 [] 0) (fun f q => ∀ v τ, f ≠ 0 → km_bad f q τ → ma_fr (kn_G 0) σ τ → ma_wp (F_X12_script_69 v τ) Q) (fun C => ∀ v τ l, τ.1 30 0 23 = 0 → τ.1 30 0 24 = -1 → ma_fr (kn_G 0) σ τ → (∀ ρ, kn_nd τ ρ → kn_LS (kn_T vs 500 ρ) ρ l v (-1) 0) → C = kn_cat l → ma_wp (F_X12_script_69 v τ) Q)) : ma_wp (F_X12_script σ) Q := by
  unfold F_X12_script
  refine ma_lt (ma_lt ?_)
  have f : ma_fr (fun g _ k => ¬ (g = 30 ∧ (k = 38 ∨ k = 39))) σ (ae_wI (ae_wI σ 30 0 38 0) 30 0 39 0) := (ma_fwI (by simp)).tr (ma_fwI (by simp))
  have e38 : (ae_wI (ae_wI σ 30 0 38 0) 30 0 39 0).1 30 0 38 = nI 0 := by rw [ma_rIn (by simp), ma_rI]; rfl
  have e39 : (ae_wI (ae_wI σ 30 0 38 0) 30 0 39 0).1 30 0 39 = nI 0 := ma_rI
  generalize ae_wI (ae_wI σ 30 0 38 0) 30 0 39 0 = φ at f e38 e39 ⊢
  refine ma_bd (km_start hT (ht.fr f (by omega) (fun _ => by omega))) (fun _ ψ q => ?_)
  obtain ⟨q1, q2, q3, q4⟩ := q
  have F : ma_fr (kn_G 0) σ ψ := (f.mo (fun g i k q => by unfold kn_G at q; omega)).tr (q4.mo (fun g i k q => by unfold kn_G at q; omega))
  refine kn_prg hT hW HM 502 ae_fu [] 0 0 (-1) (-1) ψ (by omega) (by rw [ae_fu]; omega) ⟨q1, q2, q3⟩ ((q4.i (by omega)).trans e38) ((q4.i (by omega)).trans e39) (by omega) (by omega) F (.inl ⟨rfl, rfl, rfl⟩) ?_
  have e0 : kn_cat [] = [] := rfl
  rw [e0]
  cases hv : ks_prg T vs 502 [] 0 with
  | inl e =>
    rw [hv] at hk
    exact fun v τ hb => hk v τ hb.1 hb.2.1 hb.2.2.2
  | inr C =>
    rw [hv] at hk
    exact hk
end KN
