/-! the reference reads places; joins by signs -/
section KN
variable {T : kt_T} {σ σ0 τ φ : ae_S} {j j0 u o X K sz : Nat} {vs : List mv_V}
def kn_ok (T : kt_T) (vs : List mv_V) (o : Nat) (σ : ae_S) (u X j K : Nat) (x : ks_E × Nat) (r : Int32) (τ : ae_S) : Prop := ∃ w u2 : Nat, r = nI w ∧ w < u2 ∧ τ.1 30 0 38 = nI u2 ∧ u ≤ u2 ∧ u2 + X ≤ x.2 ∧ x.2 ≤ 500 ∧ j < x.2 ∧ kK T x.2 τ ∧ τ.1 30 0 39 = nI o ∧ kn_E vs K w x.1 τ ∧ ma_fr (kn_G u) σ τ
def kn_rd (T : kt_T) (vs : List mv_V) (o : Nat) (g : ae_S → Option (Int32 × ae_S)) (a : kv_O (ks_E × Nat)) (j : Nat) : Prop := ∀ (u X : Nat) (σ : ae_S), kK T j σ → mv_M vs σ → σ.1 30 0 38 = nI u → σ.1 30 0 39 = nI o → u + X ≤ j → j ≤ 500 → ma_wp (g σ) (fun r τ => kv_po a (fun f q => kn_bad σ u X f q τ) (fun x => kn_ok T vs o σ u X j (x.2 - j) x r τ))
theorem kn_Gm {u' : Nat} (h : u ≤ u') (f : ma_fr (kn_G u') σ τ) : ma_fr (kn_G u) σ τ := f.mo (fun g i k q => by unfold kn_G at q ⊢; omega)
theorem kn_MG (H : mv_M vs σ) (f : ma_fr (kn_G u) σ τ) : mv_M vs τ := H.fr f (by unfold kn_G; omega) (fun g k _ _ => by unfold kn_G; omega)
theorem kn_KF (H : kK T j σ) (f : ma_fr (kn_F u) σ τ) : kK T j τ := H.fr f (by unfold kn_F; omega) (fun _ _ _ => by unfold kn_F; omega) (fun _ => by unfold kn_F; omega)
theorem kv_bnr {α β : Type} {x : α} {f : α → kv_O β} : kv_bn (.inr x) f = f x := rfl
section
variable {f : Int32} {q : Nat}
theorem kn_fineB (h : kn_bad σ0 u X f q τ) : F_X12_isFine τ = some (0, τ) := by
  refine ma_eq ?_
  unfold F_X12_isFine F_X12_isFine_12
  exact ma_F (by rw [h.2.1.1]; exact h.1) (ma_gd ma_z0 (ma_ret ⟨rfl, rfl⟩))
theorem kn_takeB (h : kn_bad σ0 u X f q τ) (c : Int32) : F_X12_takes c τ = some (0, τ) := by
  refine ma_eq ?_
  unfold F_X12_takes
  exact ma_be (kn_fineB h) (ma_T rfl (ma_ret ⟨rfl, rfl⟩))
theorem kn_bad.tr {u' X' : Nat} (F : ma_fr (kn_G u) σ0 σ) (hu : u ≤ u') (hX : X ≤ X') (h : kn_bad σ u' X' f q τ) : kn_bad σ0 u X f q τ := by
  obtain ⟨b1, b2, ⟨u2, b3, b4, b5⟩, b6⟩ := h
  exact ⟨b1, b2, ⟨u2, b3, by omega, by omega⟩, F.tr (kn_Gm hu b6)⟩
theorem kn_badT (F : ma_fr (kn_G u) σ0 σ) {u1 p : Nat} (c : σ.1 30 0 38 = nI u1) (hu : u ≤ u1) (hX : u1 + X ≤ 501) (hf : f ≠ 0) (hb : km_bad f p τ) (f2 : ma_fr (fun g _ k => ¬ (g = 30 ∧ (k = 23 ∨ k = 24))) σ τ) : kn_bad σ0 u X f p τ := ⟨hf, hb, ⟨u1, (f2.i (by omega)).trans c, hu, hX⟩, F.tr (kn_GB f2)⟩
end
/-- a place's node -/
def kn_P (vs : List mv_V) (K u v : Nat) (es : ks_E) (f : Int32) (σ : ae_S) : Prop := σ.1 47 0 u = 2 ∧ (v < vs.length ∧ kn_fv vs v f) ∧ σ.1 48 0 u = nI v ∧ σ.2.1 51 0 u = f.toInt64 ∧ ((σ.1 49 0 u = -1 ∧ es = [(1, 0, 0)]) ∨ ∃ (q : Nat) (e : ks_E), q < u ∧ σ.1 49 0 u = nI q ∧ kn_E vs K q e σ ∧ es = e ++ [(3, (nI v).toInt64, 0)])
theorem kn_PE {v : Nat} {es : ks_E} {f : Int32} (h : kn_P vs K u v es f σ) : kn_E vs (K + 1) u (es ++ [(4, (nI v).toInt64, f)]) σ := by
  obtain ⟨h0, h1, h2, h3, h4⟩ := h
  unfold kn_E
  refine .inr (.inr (.inl ⟨h0, v, f, h1, h2, h3, ?_⟩))
  rcases h4 with ⟨k1, k2⟩ | ⟨q, e, k1, k2, k3, k4⟩
  · exact .inl ⟨k1, by rw [k2]⟩
  · exact .inr ⟨q, e, k1, k2, k3, by rw [k4]⟩
theorem kn_P.fr {v u0 : Nat} {es : ks_E} {f : Int32} (h : kn_P vs K u v es f σ) (hu : u < u0) (F : ma_fr (kn_G u0) σ τ) : kn_P vs K u v es f τ := by
  obtain ⟨h0, h1, h2, h3, h4⟩ := h
  refine ⟨(F.i (by unfold kn_G; omega)).trans h0, h1, (F.i (by unfold kn_G; omega)).trans h2, (F.l (by unfold kn_G; omega)).trans h3, ?_⟩
  rcases h4 with ⟨k1, k2⟩ | ⟨q, e, k1, k2, k3, k4⟩
  · exact .inl ⟨(F.i (by unfold kn_G; omega)).trans k1, k2⟩
  · exact .inr ⟨q, e, k1, (F.i (by unfold kn_G; omega)).trans k2, kn_E.fr K q u0 e σ τ (by omega) F k3, k4⟩
def kn_po (T : kt_T) (vs : List mv_V) (o : Nat) (σ : ae_S) (u X j : Nat) (x : (Int32 × ks_E × Int32) × Nat) (r : Int32) (τ : ae_S) : Prop := ∃ w u2 v : Nat, x.1.1 = nI v ∧ r = nI w ∧ w < u2 ∧ τ.1 30 0 38 = nI u2 ∧ u ≤ u2 ∧ u2 + X ≤ x.2 ∧ x.2 ≤ 500 ∧ j < x.2 ∧ kK T x.2 τ ∧ τ.1 30 0 39 = nI o ∧ kn_P vs (x.2 - j - 1) w v x.1.2.1 x.1.2.2 τ ∧ ma_fr (kn_G u) σ τ
def kn_pr (T : kt_T) (vs : List mv_V) (o : Nat) (g : ae_S → Option (Int32 × ae_S)) (a : kv_O ((Int32 × ks_E × Int32) × Nat)) (j : Nat) : Prop := ∀ (u X : Nat) (σ : ae_S), kK T j σ → mv_M vs σ → σ.1 30 0 38 = nI u → σ.1 30 0 39 = nI o → u + X ≤ j → j ≤ 500 → ma_wp (g σ) (fun r τ => kv_po a (fun f q => kn_bad σ u X f q τ) (fun x => kn_po T vs o σ u X j x r τ))
theorem ks_fldV {v j : Nat} (hv : v < vs.length) (hl : vs.length ≤ 16) {y : Int32 × Nat} (h : ks_fld T vs (nI v) j = .inr y) : kn_fv vs v y.1 := by
  unfold ks_fld at h
  have ev : vs[v]? = some vs[v] := List.getElem?_eq_getElem hv
  have ef : ∀ x, ks_fix vs (nI v) x = kv_fix (mv_fs vs[v]) x := fun x => by
    unfold ks_fix
    rw [nI_clamp (by omega), ev]
  split at h
  · split at h
    · split at h
      · cases h
      · rename_i h3
        have h := Sum.inr.inj h
        rw [← h]
        rw [ef] at h3
        show kn_fv vs v (ks_fix vs (nI v) (kt_wv T (j + 1)))
        rw [ef]
        rcases my_fdS (q := fun k => decide ((mv_fs vs[v])[k]?.map (fun q => q.1) = some (kt_wv T (j + 1)))) (mv_fs vs[v]).length 0 with g2 | ⟨k, _, h5, h6⟩
        · exact absurd g2 h3
        · exact .inr ⟨k, vs[v], h6, ev, by omega⟩
    · cases h
  · have h := Sum.inr.inj h
    rw [← h]
    exact .inl rfl
theorem kn_plc {g : GT_A} {A : Nat → kv_O (ks_E × Nat)} (hT : kt_W T) (hW : mv_W sz vs) (hA : j + 2 ≤ 500 → kn_rd T vs o g.1 (A (j + 2)) (j + 2)) : kn_pr T vs o (FZ_X12_readPlace g) (ks_plc T vs A j) j := by
  intro u X σ H HM h ho hX hj
  have hl := hW.1
  unfold FZ_X12_readPlace ks_plc ks_nam
  refine ma_be (km_nm hT H.1) ?_
  cases hn : kt_nm T j with
  | false =>
    rw [if_neg (c := false = true) (by decide)]
    refine ma_T rfl ?_
    rw [H.1.2.2.1]
    refine ma_bd (km_fail H.2.1 1 _) (fun r τ q => ?_)
    obtain ⟨_, hb, f3⟩ := q
    exact ma_ret (kv_pol (kn_badT ma_fr.rf h (Nat.le_refl _) (by omega) (by decide) hb f3))
  | true =>
    rw [if_pos (c := true = true) rfl]
    have hn2 := of_decide_eq_true hn
    have hj5 := ks_jB hT (ks_nmT hn)
    have hx : σ.2.1 30 0 28 = kt_wv T j := (H.1.2.2.2.2.1 hn2.1).1 hn2.2.1
    refine ma_F (by decide) ?_
    rw [hx, HM.1]
    refine ma_be (kv_place (f0 := 0) (vs := vs) _ (by omega) hl (fun v w e => by rw [Nat.zero_add]; exact (HM.2 v w e).1)) ?_
    refine ma_if (fun q => ?_) (fun q => ?_)
    · rw [if_pos (c := kv_ix vs (kt_wv T j) = -1) q, H.1.2.2.1]
      refine ma_bd (km_fail H.2.1 2 _) (fun r τ q => ?_)
      obtain ⟨_, hb, f3⟩ := q
      exact ma_ret (kv_pol (kn_badT ma_fr.rf h (Nat.le_refl _) (by omega) (by decide) hb f3))
    · rw [if_neg (c := kv_ix vs (kt_wv T j) = -1) q, kv_bnr]
      obtain ⟨v, hv, ev⟩ := ks_ixS q
      rw [ev]
      refine ma_bd (H.adv hT) (fun _ φ1 q1 => ?_)
      obtain ⟨K1, f1⟩ := q1
      have F1 : ma_fr (kn_G u) σ φ1 := kn_GF f1
      have M1 : mv_M vs φ1 := kn_MG HM F1
      have c1 : φ1.1 30 0 38 = nI u := (f1.i (by unfold km_F; omega)).trans h
      have o1 : φ1.1 30 0 39 = nI o := (f1.i (by unfold km_F; omega)).trans ho
      refine ma_be (km_sg hT K1.1 (c := 91) (by decide)) ?_
      cases hs : kt_sg T (j + 1) 91 with
      | false =>
        rw [if_neg (c := false = true) (by decide)]
        refine ma_T rfl (ma_mono (kn_pl (X := X) g hT hW K1 M1 hv c1 (by omega) (by omega) (-1)) (fun r τ q => ?_))
        cases hf : ks_fld T vs (nI v) (j + 1) with
        | inl e =>
          rw [hf] at q
          exact kv_pol (kn_bad.tr F1 (Nat.le_refl _) (Nat.le_refl _) q)
        | inr y =>
          rw [hf] at q
          obtain ⟨rfl, k1, k2, k3, k4, k5, k6, k7, k8⟩ := q
          have hB := ks_fldB hT hf
          exact kv_por ⟨u, u + 1, v, rfl, rfl, by omega, k2, by omega, by show u + 1 + X ≤ y.2; omega, hB.2 hj5, by show j < y.2; omega, k1, k8.trans o1, ⟨k3, ⟨hv, ks_fldV hv hl hf⟩, k4, k6, .inl ⟨k5, rfl⟩⟩, F1.tr k7⟩
      | true =>
        rw [if_pos (c := true = true) rfl]
        have hj6 := ks_jB hT (ks_sgT hs)
        refine ma_F (by decide) (ma_bd (K1.adv hT) (fun _ φ2 q2 => ?_))
        obtain ⟨K2, f2⟩ := q2
        have F2 : ma_fr (kn_G u) σ φ2 := F1.tr (kn_GF f2)
        have M2 : mv_M vs φ2 := kn_MG HM F2
        have c2 : φ2.1 30 0 38 = nI u := (f2.i (by unfold km_F; omega)).trans c1
        have o2 : φ2.1 30 0 39 = nI o := (f2.i (by unfold km_F; omega)).trans o1
        refine ma_bd (hA (by omega) u (X + 1) φ2 K2 M2 c2 o2 (by omega) (by omega)) (fun r φ3 q3 => ?_)
        cases ha : A (j + 2) with
        | inl e =>
          rw [ha] at q3
          have q3 : kn_bad φ2 u (X + 1) e.1 e.2 φ3 := q3
          exact ma_be (kn_takeB q3 _) (ma_T rfl (ma_ret (kv_pol (kn_bad.tr F2 (Nat.le_refl _) (by omega) q3))))
        | inr x =>
          rw [ha] at q3
          obtain ⟨w, u3, rfl, e1, e2, e3, e4, e5, e6, e7, e8, e9, e10⟩ := q3
          rw [kv_bnr]
          refine ma_bd (e7.take hT (c := 93) (by decide)) (fun r φ4 q4 => ?_)
          rcases q4 with ⟨hs4, rfl, K4, f4⟩ | ⟨hs4, rfl, hb, f4⟩
          · rw [if_pos (c := kt_sg T x.2 93 = true) hs4]
            have F4 : ma_fr (kn_G u) σ φ4 := (F2.tr e10).tr (kn_GF f4)
            have M4 : mv_M vs φ4 := kn_MG HM F4
            have c4 : φ4.1 30 0 38 = nI u3 := (f4.i (by unfold km_F; omega)).trans e2
            have o4 : φ4.1 30 0 39 = nI o := (f4.i (by unfold km_F; omega)).trans e8
            have hj7 := ks_jB hT (ks_sgT hs4)
            refine ma_F ma_01 (ma_mono (kn_pl (X := X) g hT hW K4 M4 hv c4 (by omega) (by omega) (nI w)) (fun r τ q => ?_))
            cases hf : ks_fld T vs (nI v) (x.2 + 1) with
            | inl e =>
              rw [hf] at q
              exact kv_pol (kn_bad.tr F4 e3 (Nat.le_refl _) q)
            | inr y =>
              rw [hf] at q
              obtain ⟨rfl, k1, k2, k3, k4, k5, k6, k7, k8⟩ := q
              have hB := ks_fldB hT hf
              have hE : kn_E vs (y.2 - j - 1) w x.1 τ := kn_E.mo (x.2 - (j + 2)) (y.2 - j - 1) w x.1 τ (by omega) (kn_E.fr (x.2 - (j + 2)) w u3 x.1 φ3 τ e1 ((kn_GF f4).tr k7) e9)
              exact kv_por ⟨u3, u3 + 1, v, rfl, rfl, by omega, k2, by omega, by show u3 + 1 + X ≤ y.2; omega, hB.2 hj7, by show j < y.2; omega, k1, k8.trans o4, ⟨k3, ⟨hv, ks_fldV hv hl hf⟩, k4, k6, .inr ⟨w, x.1, e1, k5, hE, rfl⟩⟩, F4.tr (kn_Gm e3 k7)⟩
          · rw [if_neg (c := kt_sg T x.2 93 = true) (by rw [hs4]; decide)]
            exact ma_T rfl (ma_ret (kv_pol (kn_badT (F2.tr e10) e2 e3 (by omega) (by decide) hb f4)))
/-! signs that join -/
theorem ks_opSg (h : 1 ≤ ks_rk (ks_op T j)) : kt_ty T j = 3 ∧ nI (kt_c T j) = kn_sc (ks_op T j) := by
  revert h
  unfold ks_op
  repeat' split
  all_goals (intro h)
  all_goals (first | (exact absurd h (by decide)) | skip)
  all_goals (rename_i g; have g2 := of_decide_eq_true g; exact ⟨g2.1, by rw [g2.2]; decide⟩)
theorem ks_r3 : ks_rk (ks_op T j) = 3 ↔ (kt_sg T j 42 = true ∨ kt_sg T j 47 = true ∨ kt_sg T j 37 = true) := by
  constructor
  · intro h
    have g := ks_opSg (T := T) (j := j) (by omega)
    revert h
    unfold ks_op
    repeat' split
    all_goals (intro h)
    all_goals (first | (exact absurd h (by decide)) | skip)
    all_goals simp_all
  · intro h
    rcases h with h | h | h
    all_goals (have g := of_decide_eq_true h; unfold ks_op kt_sg; rw [g.1, g.2]; decide)
theorem ks_r2 : ks_rk (ks_op T j) = 2 ↔ (kt_sg T j 43 = true ∨ kt_sg T j 45 = true) := by
  constructor
  · intro h
    revert h
    unfold ks_op
    repeat' split
    all_goals (intro h)
    all_goals (first | (exact absurd h (by decide)) | skip)
    all_goals simp_all
  · intro h
    rcases h with h | h
    all_goals (have g := of_decide_eq_true h; unfold ks_op kt_sg; rw [g.1, g.2]; decide)
theorem ks_r1 : ks_rk (ks_op T j) = 1 ↔ (kt_sg T j 60 = true ∨ kt_sg T j 62 = true ∨ kt_sg T j 126 = true) := by
  constructor
  · intro h
    revert h
    unfold ks_op
    repeat' split
    all_goals (intro h)
    all_goals (first | (exact absurd h (by decide)) | skip)
    all_goals simp_all
  · intro h
    rcases h with h | h | h
    all_goals (have g := of_decide_eq_true h; unfold ks_op kt_sg; rw [g.1, g.2]; decide)
theorem kn_bin (hT : kt_W T) (hM : mv_M vs σ0) {g : ae_S → Option (Int32 × ae_S)} {a : kv_O (ks_E × Nat)} {k : Int32 → ae_S → Option (Int32 × ae_S)} {c : ks_E} {r0 : Int32} {Q : Int32 → ae_S → Prop} (h1 : 1 ≤ ks_rk (ks_op T j)) (h2 : ks_rk (ks_op T j) ≤ 3) (H : kn_ok T vs o σ0 u X j0 (j - j0) (c, j) r0 σ) (hg : kn_rd T vs o g a (j + 1)) (kb : ∀ f q r τ, a = .inl (f, q) → kn_bad σ0 u X f q τ → ma_wp (k r τ) Q) (ko : ∀ x r τ, a = .inr x → kn_ok T vs o σ0 u X j0 (x.2 - j0) (c ++ x.1 ++ [(ks_op T j, 0, 0)], x.2) r τ → j < x.2 → ma_wp (k r τ) Q) : ma_wp (ae_lt (σ.1 30 0 31) (fun x1 => ae_bd (F_X12_next σ) (fun (_ : Unit) s4 => ae_bd (g s4) (fun (r7 : Int32) s8 => ae_bd (F_X12_node x1 r0 r7 s8) (fun (r11 : Int32) s12 => k r11 s12))))) Q := by
  obtain ⟨w, u1, rfl, hw, c1, hu, hX, hj, hj0, KK, ho, hE, F⟩ := H
  have hX : u1 + X ≤ j := hX
  have hj0 : j0 < j := hj0
  have KK : kK T j σ := KK
  have hE : kn_E vs (j - j0) w c σ := hE
  have h3 := ks_opSg h1
  have hj5 := ks_jB hT (show kt_ty T j ≠ 0 by omega)
  have x31 : σ.1 30 0 31 = kn_sc (ks_op T j) := (KK.1.2.2.2.2.2.2 h3.1).trans h3.2
  rw [x31]
  refine ma_lt (ma_bd (KK.adv hT) (fun _ φ q => ?_))
  obtain ⟨K1, f1⟩ := q
  have G1 : ma_fr (kn_G u1) σ φ := kn_GF f1
  have F1 : ma_fr (kn_G u) σ0 φ := F.tr (kn_Gm hu G1)
  have c2 : φ.1 30 0 38 = nI u1 := (f1.i (by unfold km_F; omega)).trans c1
  have o2 : φ.1 30 0 39 = nI o := (f1.i (by unfold km_F; omega)).trans ho
  refine ma_bd (hg u1 (X + 1) φ K1 (kn_MG hM F1) c2 o2 (by omega) hj5) (fun r7 ψ q => ?_)
  cases ha : a with
  | inl e =>
    rw [ha] at q
    have q : kn_bad φ u1 (X + 1) e.1 e.2 ψ := q
    obtain ⟨b1, b2, ⟨u2, b3, b4, b5⟩, b6⟩ := q
    refine ma_bd (kn_node b3 (by omega) _ _ _) (fun r ω q2 => kb e.1 e.2 r ω ha ?_)
    obtain ⟨_, d1, _, _, _, _, _, d2⟩ := q2
    exact ⟨b1, ⟨(d2.i (by unfold kn_F; omega)).trans b2.1, (d2.i (by unfold kn_F; omega)).trans b2.2⟩, ⟨u2 + 1, d1, by omega, by omega⟩, F1.tr ((kn_Gm hu b6).tr (kn_Gm (by omega) (kn_GN d2)))⟩
  | inr x =>
    rw [ha] at q
    obtain ⟨w2, u2, rfl, e1, e2, e3, e4, e5, e6, e7, e8, e9, e10⟩ := q
    refine ma_bd (kn_node e2 (by omega) _ _ _) (fun r ω q2 => ko x r ω ha ?_ (by omega))
    obtain ⟨rfl, d1, d2, d3, d4, _, _, d5⟩ := q2
    refine ⟨u2, u2 + 1, rfl, by omega, d1, by omega, by show u2 + 1 + X ≤ x.2; omega, e5, by show j0 < x.2; omega, kn_KF e7 d5, (d5.i (by unfold kn_F; omega)).trans e8, ?_, F1.tr ((kn_Gm hu e10).tr (kn_Gm (by omega) (kn_GN d5)))⟩
    obtain ⟨K', hK⟩ : ∃ K', x.2 - j0 = K' + 1 := ⟨x.2 - j0 - 1, by omega⟩
    have g5 : ma_fr (kn_G u2) ψ ω := kn_GN d5
    have El : kn_E vs K' w c ω := kn_E.mo (j - j0) K' w c ω (by omega) (kn_E.fr (j - j0) w u1 c σ ω hw ((G1.tr e10).tr (kn_Gm e3 g5)) hE)
    have Er : kn_E vs K' w2 x.1 ω := kn_E.mo (x.2 - (j + 1)) K' w2 x.1 ω (by omega) (kn_E.fr (x.2 - (j + 1)) w2 u2 x.1 ψ ω e1 g5 e9)
    show kn_E vs (x.2 - j0) u2 (c ++ x.1 ++ [(ks_op T j, 0, 0)]) ω
    rw [hK]
    unfold kn_E
    exact .inr (.inr (.inr (.inr (.inr ⟨ks_op T j, w, w2, c, x.1, h1, h2, d2, by omega, e1, d3, d4, El, Er, rfl⟩))))
end KN
