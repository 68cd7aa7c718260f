/-! the reference reads factors: whole expressions -/
section KN
variable {T : kt_T} {σ σ0 τ φ : ae_S} {j j0 u o X K sz : Nat} {vs : List mv_V}
def kn_ng (b : Nat) (c : ks_E) : ks_E := if b = 1 then c ++ [(6, 0, 0)] else c
theorem kn_f100 {g : GT_A} {b : Nat} {v2 r : Int32} {x : ks_E × Nat} (hb : b ≤ 1) (hv : b = 1 → v2 = 1) (H : kn_ok T vs o σ0 u (X + b) j (x.2 - j) x r σ) : ma_wp (F_X12_readFactor_100 g (nI b) v2 r σ) (fun r τ => kn_ok T vs o σ0 u X j (x.2 - j + b) (kn_ng b x.1, x.2) r τ) := by
  obtain ⟨w, u1, rfl, hw, c1, hu, hX, hj, hj0, KK, ho, hE, F⟩ := H
  unfold F_X12_readFactor_100 F_X12_readFactor_111 F_X12_readFactor_128
  refine ma_be (km_fine KK.2.1) (ma_F ma_01 ?_)
  have hbb : b = 0 ∨ b = 1 := by omega
  rcases hbb with rfl | rfl
  · have e : kn_ok T vs o σ0 u X j (x.2 - j + 0) (kn_ng 0 x.1, x.2) (nI w) σ := ⟨w, u1, rfl, hw, c1, hu, hX, hj, hj0, KK, ho, hE, F⟩
    exact ma_if (fun _ => ma_ret e) (fun _ => ma_T rfl (ma_ret e))
  · rw [hv rfl]
    refine ma_F ma_01 (ma_F (by decide) (ma_bd (kn_node c1 (by omega) 3 (nI w) (-1)) (fun r ω q => ma_ret ?_)))
    obtain ⟨rfl, d1, d2, d3, _, _, _, d5⟩ := q
    refine ⟨u1, u1 + 1, rfl, by omega, d1, by omega, by show u1 + 1 + X ≤ x.2; omega, hj, hj0, kn_KF KK d5, (d5.i (by unfold kn_F; omega)).trans ho, ?_, F.tr (kn_Gm hu (kn_GN d5))⟩
    show kn_E vs (x.2 - j + 1) u1 (x.1 ++ [(6, 0, 0)]) ω
    unfold kn_E
    exact .inr (.inr (.inr (.inl ⟨d2, w, x.1, hw, d3, kn_E.fr _ w u1 x.1 σ ω hw (kn_GN d5) hE, rfl⟩)))
theorem kn_f100B {g : GT_A} {b q : Nat} {v1 v2 r f : Int32} (H : kn_bad σ0 u (X + b) f q σ) : ma_wp (F_X12_readFactor_100 g v1 v2 r σ) (fun r τ => kn_bad σ0 u X f q τ) := by
  unfold F_X12_readFactor_100 F_X12_readFactor_111
  exact ma_be (kn_fineB H) (ma_T rfl (ma_ret (kn_bad.tr ma_fr.rf (Nat.le_refl _) (by omega) H)))
def kn_fl (T : kt_T) (vs : List mv_V) (o : Nat) (g : GT_A) (a : kv_O (ks_E × Nat)) (j : Nat) : Prop := ∀ (n b : Nat) (v2 : Int32) (u X : Nat) (σ : ae_S), 502 ≤ n + j → b ≤ 1 → (b = 1 → v2 = 1) → kK T j σ → mv_M vs σ → σ.1 30 0 38 = nI u → σ.1 30 0 39 = nI o → u + X + b ≤ j → j ≤ 500 → ma_wp (F_X12_readFactor_4 g n (nI b) v2 σ) (fun r τ => kv_po a (fun f q => kn_bad σ u X f q τ) (fun x => kn_ok T vs o σ u X j (x.2 - j + b) (kn_ng b x.1, x.2) r τ))
theorem kn_facR (hT : kt_W T) {g : GT_A} {A F : Nat → Nat → kv_O (ks_E × Nat)} (hF : kn_fl T vs o g (F o (j + 1)) (j + 1)) (hA : o < 5 → kn_rd T vs (o + 1) g.1 (A (o + 1) (j + 1)) (j + 1)) (hP : kn_pr T vs o g.2.2.2.2 (ks_plc T vs (A o) j) j) (ho5 : o ≤ 5) : kn_fl T vs o g (ks_fac T vs A F o j) j := by
  intro n b v2 u X σ hn hb hv H HM h ho hX hj
  obtain ⟨n, rfl⟩ : ∃ n2, n = n2 + 1 := ⟨n - 1, by omega⟩
  rw [F_X12_readFactor_4]
  unfold ks_fac
  refine ma_be (km_sg hT H.1 (c := 45) (by decide)) ?_
  cases h45 : kt_sg T j 45 with
  | true =>
    rw [if_pos (c := true = true) rfl]
    have hj5 := ks_jB hT (ks_sgT h45)
    refine ma_F (by decide) ?_
    have go : ∀ b2 : Nat, b + b2 = 1 → ma_wp (F_X12_readFactor_22 g (F_X12_readFactor_4 g n) (nI b2) σ) (fun r τ => kv_po (kv_bn (F o (j + 1)) (fun x => .inr (x.1 ++ [(6, 0, 0)], x.2))) (fun f q => kn_bad σ u X f q τ) (fun x => kn_ok T vs o σ u X j (x.2 - j + b) (kn_ng b x.1, x.2) r τ)) := by
      intro b2 hb2
      unfold F_X12_readFactor_22
      refine ma_bd (H.adv hT) (fun _ φ q => ?_)
      obtain ⟨K1, f1⟩ := q
      have G1 : ma_fr (kn_G u) σ φ := kn_GF f1
      refine ma_mono (hF n b2 1 u X φ (by omega) (by omega) (fun _ => rfl) K1 (kn_MG HM G1) ((f1.i (by unfold km_F; omega)).trans h) ((f1.i (by unfold km_F; omega)).trans ho) (by omega) hj5) (fun r τ q => ?_)
      cases hv : F o (j + 1) with
      | inl e =>
        rw [hv] at q
        exact kv_pol (kn_bad.tr G1 (Nat.le_refl _) (Nat.le_refl _) q)
      | inr x =>
        rw [hv] at q
        obtain ⟨w, u1, rfl, hw, c1, hu, hX, hj, hj0, KK, ho, hE, F1⟩ := q
        have hj0 : j + 1 < x.2 := hj0
        refine kv_por ⟨w, u1, rfl, hw, c1, hu, hX, hj, by show j < x.2; omega, KK, ho, ?_, G1.tr F1⟩
        have hbb : b = 0 ∨ b = 1 := by omega
        rcases hbb with rfl | rfl
        · rw [show b2 = 1 by omega] at hE
          have hE : kn_E vs (x.2 - (j + 1) + 1) w (x.1 ++ [(6, 0, 0)]) τ := hE
          exact kn_E.mo _ _ w _ τ (by show x.2 - (j + 1) + 1 ≤ x.2 - j + 0; omega) hE
        · rw [show b2 = 0 by omega] at hE
          have hE : kn_E vs (x.2 - (j + 1) + 0) w x.1 τ := hE
          show kn_E vs (x.2 - j + 1) w (x.1 ++ [(6, 0, 0)] ++ [(6, 0, 0)]) τ
          unfold kn_E
          exact .inr (.inr (.inr (.inr (.inl ⟨x.1, kn_E.mo _ _ w _ τ (by omega) hE, rfl⟩))))
    have hbb : b = 0 ∨ b = 1 := by omega
    rcases hbb with rfl | rfl
    · exact ma_T rfl (go 1 rfl)
    · exact ma_F (by decide) (go 0 rfl)
  | false =>
    rw [if_neg (c := false = true) (by decide)]
    refine ma_T rfl ?_
    have hty : σ.1 30 0 25 = nI (kt_ty T j) := H.1.2.1
    have htB := kt_tyB (T := T) (j := j)
    refine ma_en (kt_ty T j) 2 hty rfl (by omega) (by decide) (fun h2 => ?_) (fun h2 => ?_)
    · have s40 : kt_sg T j 40 = false := decide_eq_false (fun g => by omega)
      rw [s40, if_neg (c := false = true) (by decide)]
      have hj5 := ks_jB hT (show kt_ty T j ≠ 0 by omega)
      refine ma_bd (kn_num (vs := vs) hT H h (X := X + b) (by omega) hj) (fun r τ q => ?_)
      have nm : kt_nm T j = false := decide_eq_false (fun g => by omega)
      cases hn9 : kt_nu T 9 j with
      | true =>
        rw [hn9, if_pos (c := true = true) rfl] at q
        rw [if_pos (c := true = true) rfl]
        cases hx : ks_num T j with
        | inl e =>
          rw [hx] at q
          exact ma_mono (kn_f100B q.2) (fun r τ q => kv_pol q)
        | inr x =>
          rw [hx] at q
          obtain ⟨rfl, k1, k2, k3, k4, k5⟩ := q
          have hB := ks_numB hT hn9 hx
          refine ma_mono (kn_f100 (x := x) (j := j) (vs := vs) (o := o) (T := T) hb hv ⟨u, u + 1, rfl, by omega, k2, by omega, by omega, hB.2.2, hB.1, k1, k5.trans ho, kn_E.mo 1 _ u _ τ (by omega) k3, k4⟩) (fun r τ q => kv_por q)
      | false =>
        rw [hn9, if_neg (c := false = true) (by decide)] at q
        rw [if_neg (c := false = true) (by decide)]
        unfold ks_plc ks_nam
        rw [nm, if_neg (c := false = true) (by decide)]
        exact ma_mono (kn_f100B q.2) (fun r τ q => kv_pol q)
    · have n9 : kt_nu T 9 j = false := decide_eq_false (fun g => h2 g.1)
      rw [n9, if_neg (c := false = true) (by decide)]
      refine ma_be (km_sg hT H.1 (c := 40) (by decide)) ?_
      cases h40 : kt_sg T j 40 with
      | true =>
        rw [if_pos (c := true = true) rfl]
        have hj5 := ks_jB hT (ks_sgT h40)
        refine ma_F (by decide) (ma_bd (kn_open hT H ho ho5) (fun r φ q => ?_))
        rcases q with ⟨g5, rfl, K1, o1, f1⟩ | ⟨g5, rfl, hb1, f1⟩
        · rw [if_pos (c := o < 5) g5]
          have G1 : ma_fr (kn_G u) σ φ := f1.mo (fun g i k q => by unfold kn_G at q; unfold km_F; omega)
          have c1 : φ.1 30 0 38 = nI u := (f1.i (by unfold km_F; omega)).trans h
          refine ma_F ma_01 (ma_bd (hA g5 u (X + b) φ K1 (kn_MG HM G1) c1 o1 (by omega) hj5) (fun r ψ q2 => ?_))
          cases ha : A (o + 1) (j + 1) with
          | inl e =>
            rw [ha] at q2
            have q2 : kn_bad φ u (X + b) e.1 e.2 ψ := q2
            exact ma_be (kn_takeB q2 _) (ma_T rfl (ma_ret (kv_pol (kn_bad.tr G1 (Nat.le_refl _) (by omega) q2))))
          | inr x =>
            rw [ha] at q2
            obtain ⟨w, u3, rfl, e1, e2, e3, e4, e5, e6, e7, e8, e9, e10⟩ := q2
            rw [kv_bnr]
            refine ma_bd (e7.take hT (c := 41) (by decide)) (fun r φ4 q4 => ?_)
            rcases q4 with ⟨hs4, rfl, K4, f4⟩ | ⟨hs4, rfl, hb4, f4⟩
            · rw [if_pos (c := kt_sg T x.2 41 = true) hs4]
              have hj7 := ks_jB hT (ks_sgT hs4)
              have o4 : φ4.1 30 0 39 = nI (o + 1) := (f4.i (by unfold km_F; omega)).trans e8
              rw [o4, show nI (o + 1) - 1 = nI o from nI_pred o]
              refine ma_F ma_01 (ma_lt ?_)
              have f5 : ma_fr (fun g _ k => ¬ (g = 30 ∧ k = 39)) φ4 (ae_wI φ4 30 0 39 (nI o)) := ma_fwI (by simp)
              have o5 : (ae_wI φ4 30 0 39 (nI o)).1 30 0 39 = nI o := ma_rI
              generalize ae_wI φ4 30 0 39 (nI o) = φ5 at f5 o5 ⊢
              have g45 : ma_fr (kn_G u3) φ4 φ5 := f5.mo (fun g i k q => by unfold kn_G at q; omega)
              have G5 : ma_fr (kn_G u3) ψ φ5 := (kn_GF f4).tr g45
              have F5 : ma_fr (kn_G u) σ φ5 := (G1.tr e10).tr (kn_Gm e3 G5)
              have K5 : kK T (x.2 + 1) φ5 := K4.fr f5 (by omega) (fun _ _ _ => by omega) (fun _ => by omega)
              have c5 : φ5.1 30 0 38 = nI u3 := (f5.i (by omega)).trans ((f4.i (by unfold km_F; omega)).trans e2)
              exact ma_mono (kn_f100 (x := (x.1, x.2 + 1)) (j := j) (vs := vs) (o := o) (T := T) hb hv ⟨w, u3, rfl, e1, c5, e3, by show u3 + (X + b) ≤ x.2 + 1; omega, hj7, by show j < x.2 + 1; omega, K5, o5, kn_E.mo _ _ w _ φ5 (by show x.2 - (j + 1) ≤ x.2 + 1 - j; omega) (kn_E.fr _ w u3 _ ψ φ5 e1 G5 e9), F5⟩) (fun r τ q => kv_por q)
            · rw [if_neg (c := kt_sg T x.2 41 = true) (by rw [hs4]; decide)]
              exact ma_T rfl (ma_ret (kv_pol (kn_badT (G1.tr e10) e2 e3 (by omega) (by decide) hb4 f4)))
        · rw [if_neg (c := o < 5) (by omega)]
          exact ma_T rfl (ma_ret (kv_pol (kn_badT ma_fr.rf h (Nat.le_refl _) (by omega) (by decide) hb1 f1)))
      | false =>
        rw [if_neg (c := false = true) (by decide)]
        refine ma_T rfl (ma_bd (hP u (X + b) σ H HM h ho (by omega) hj) (fun r τ q => ?_))
        cases hp : ks_plc T vs (A o) j with
        | inl e =>
          rw [hp] at q
          have q : kn_bad σ u (X + b) e.1 e.2 τ := q
          exact ma_mono (kn_f100B q) (fun r τ q => kv_pol q)
        | inr x =>
          rw [hp] at q
          obtain ⟨w, u3, v, ev, rfl, e1, e2, e3, e4, e5, e6, e7, e8, e9, e10⟩ := q
          rw [kv_bnr, ev]
          have hE := kn_PE e9
          exact ma_mono (kn_f100 (x := (x.1.2.1 ++ [(4, (nI v).toInt64, x.1.2.2)], x.2)) (j := j) (vs := vs) (o := o) (T := T) hb hv ⟨w, u3, rfl, e1, e2, e3, e4, e5, e6, e7, e8, kn_E.mo _ _ w _ τ (by show x.2 - j - 1 + 1 ≤ x.2 - j; omega) hE, e10⟩) (fun r τ q => kv_por q)
theorem kn_fac0 {g : GT_A} {a : kv_O (ks_E × Nat)} (H : kn_fl T vs o g a j) : kn_rd T vs o (FZ_X12_readFactor g) a j := by
  intro u X σ hK HM h ho hX hj
  unfold FZ_X12_readFactor
  exact H ae_fu 0 0 u X σ (by rw [ae_fu]; omega) (by decide) (fun g => by omega) hK HM h ho hX hj
/-- expressions, as they are told by brackets -/
theorem kn_ex (hT : kt_W T) (hW : mv_W sz vs) : ∀ m : Nat, (∀ o j k, o ≤ 5 → 502 ≤ m + j → 5 * ((501 - j) / 2 + (5 - o)) + 6 ≤ k + 4 → kn_fl T vs o (FG_A k) ((ks_X T vs m).1 o j) j) ∧ (∀ o j k, o ≤ 5 → 502 ≤ m + j → 5 * ((501 - j) / 2 + (5 - o)) + 6 ≤ k + 4 → kn_rd T vs o (FG_A (k + 4)).1 ((ks_X T vs m).2 o j) j) := by
  intro m
  induction m with
  | zero => exact ⟨fun o j k _ hm _ n b v2 u X σ _ _ _ _ _ _ _ _ hj => by omega, fun o j k _ hm _ u X σ _ _ _ _ _ hj => by omega⟩
  | succ m ih =>
    have fac : ∀ o j k, o ≤ 5 → 502 ≤ m + 1 + j → 5 * ((501 - j) / 2 + (5 - o)) + 6 ≤ k + 4 → kn_fl T vs o (FG_A k) ((ks_X T vs (m + 1)).1 o j) j := by
      intro o j k ho hm hk
      obtain ⟨k, rfl⟩ : ∃ k2, k = k2 + 1 := ⟨k - 1, by omega⟩
      refine kn_facR hT (ih.1 o (j + 1) (k + 1) ho (by omega) (by omega)) (fun g5 => ?_) ?_ ho
      · obtain ⟨k2, rfl⟩ : ∃ k2, k = k2 + 3 := ⟨k - 3, by omega⟩
        exact ih.2 (o + 1) (j + 1) k2 (by omega) (by omega) (by omega)
      · refine kn_plc hT hW (fun h2 => ?_)
        obtain ⟨k2, rfl⟩ : ∃ k2, k = k2 + 4 := ⟨k - 4, by omega⟩
        exact ih.2 o (j + 2) k2 ho (by omega) (by omega)
    refine ⟨fac, fun o j k ho hm hk => ?_⟩
    exact kn_all hT (fun j1 h1 => kn_sum hT (fun j2 h2 => kn_term hT (fun j3 h3 => kn_fac0 (fac o j3 k ho (by omega) (by omega)))))
theorem kn_rdA (hT : kt_W T) (hW : mv_W sz vs) (ho : o ≤ 5) (j : Nat) : kn_rd T vs o F_X12_readAll (ks_ex T vs o j) j := (kn_ex hT hW 502).2 o j 1296 ho (by omega) (by omega)
theorem kn_rdP (hT : kt_W T) (hW : mv_W sz vs) (ho : o ≤ 5) (j : Nat) : kn_pr T vs o F_X12_readPlace (ks_plc T vs (ks_ex T vs o) j) j := kn_plc (g := FG_A 1299) hT hW (fun _ => (kn_ex hT hW 502).2 o (j + 2) 1295 ho (by omega) (by omega))
end KN
