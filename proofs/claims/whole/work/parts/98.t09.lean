/-! nodes that stand for statements -/
section KN
variable {T : kt_T} {σ σ0 τ φ ρ : ae_S} {j j0 u o X K sz b w lo hi : Nat} {vs : List mv_V} {c : ks_E}
def kn_LS (S : Nat → Nat → ks_E → Prop) (σ : ae_S) : List (Nat × ks_E) → Int32 → Int32 → Nat → Prop
  | [], x, y, _ => x = y
  | p :: l, x, y, b => x = nI p.1 ∧ p.1 < 600 ∧ S p.1 b p.2 ∧ kn_LS S σ l (σ.1 50 0 p.1) y (b + p.2.length)
def kn_cat (l : List (Nat × ks_E)) : ks_E := (l.map (fun p => p.2)).flatten
/-- node u stands for the steps c of a statement, the first of them the b-th; o groups round it -/
def kn_S (vs : List mv_V) : Nat → Nat → Nat → Nat → ks_E → ae_S → Prop
  | 0, _, _, _, _, _ => False
  | n + 1, o, u, b, c, σ =>
    (σ.1 47 0 u = 10 ∧ ∃ (p q v : Nat) (es e : ks_E) (f : Int32), p < 600 ∧ q < 600 ∧ σ.1 48 0 u = nI p ∧ σ.1 49 0 u = nI q ∧ (kn_P vs 500 p v es f σ ∧ kn_B es) ∧ (kn_E vs 500 q e σ ∧ kn_B e) ∧ c = es ++ e ++ [(5, (nI v).toInt64, f)]) ∨
    (σ.1 47 0 u = 11 ∧ ∃ (q w : Nat) (e d : ks_E), q < 600 ∧ w < 600 ∧ σ.1 48 0 u = nI q ∧ σ.1 49 0 u = nI w ∧ (kn_E vs 500 q e σ ∧ kn_B e) ∧ kn_S vs n o w (b + e.length + 1) d σ ∧ c = e ++ [(15, lN (b + e.length + 1 + d.length), 0)] ++ d) ∨
    (σ.1 47 0 u = 12 ∧ c = [(16, 0, 0)]) ∨
    (σ.1 47 0 u = 13 ∧ o < 5 ∧ ∃ l : List (Nat × ks_E), kn_LS (fun u b c => kn_S vs n (o + 1) u b c σ) σ l (σ.1 48 0 u) (-1) (b + 1) ∧ c = [(17, lN (b + 1 + (kn_cat l).length + 1), 0)] ++ kn_cat l ++ [(18, 0, 0)])
theorem kn_LS.mo {S S' : Nat → Nat → ks_E → Prop} (h : ∀ u b c, S u b c → S' u b c) : ∀ (l : List (Nat × ks_E)) (x y : Int32) (b : Nat), kn_LS S σ l x y b → kn_LS S' σ l x y b := by
  intro l
  induction l with
  | nil => intro x y b g; exact g
  | cons p l ih => intro x y b g; exact ⟨g.1, g.2.1, h _ _ _ g.2.2.1, ih _ _ _ g.2.2.2⟩
theorem kn_S.mo : ∀ (n m o u b : Nat) (c : ks_E) (σ : ae_S), n ≤ m → kn_S vs n o u b c σ → kn_S vs m o u b c σ := by
  intro n
  induction n with
  | zero => intro m o u b c σ _ h; exact h.elim
  | succ n ih =>
    intro m o u b c σ hm h
    obtain ⟨m, rfl⟩ : ∃ k, m = k + 1 := ⟨m - 1, by omega⟩
    unfold kn_S at h ⊢
    rcases h with h | ⟨h0, q, w, e, d, h1, h2, h3, h4, h5, h6, h7⟩ | h | ⟨h0, h1, l, h2, h3⟩
    · exact .inl h
    · exact .inr (.inl ⟨h0, q, w, e, d, h1, h2, h3, h4, h5, ih m o w _ d σ (by omega) h6, h7⟩)
    · exact .inr (.inr (.inl h))
    · exact .inr (.inr (.inr ⟨h0, h1, l, kn_LS.mo (fun u b c g => ih m (o + 1) u b c σ (by omega) g) l _ _ _ h2, h3⟩))
theorem kn_LS.snoc {S : Nat → Nat → ks_E → Prop} (hw : w < 600) : ∀ (l : List (Nat × ks_E)) (x : Int32) (b : Nat), kn_LS S σ l x (nI w) b → S w (b + (kn_cat l).length) c → kn_LS S σ (l ++ [(w, c)]) x (σ.1 50 0 w) b := by
  intro l
  induction l with
  | nil =>
    intro x b h hS
    exact ⟨h, hw, hS, rfl⟩
  | cons p l ih =>
    intro x b h hS
    refine ⟨h.1, h.2.1, h.2.2.1, ih _ _ h.2.2.2 ?_⟩
    have e : b + (kn_cat (p :: l)).length = b + p.2.length + (kn_cat l).length := by
      unfold kn_cat
      rw [List.map_cons, List.flatten_cons, List.length_append]
      omega
    rw [← e]
    exact hS
theorem kn_catS {l : List (Nat × ks_E)} : kn_cat (l ++ [(w, c)]) = kn_cat l ++ c := by
  unfold kn_cat
  rw [List.map_append, List.flatten_append]
  simp
/-! what may still change behind a node's making -/
def kn_st (x : Int32) : Prop := x = 10 ∨ x = 11 ∨ x = 12 ∨ x = 13
def kn_ak (hi : Nat) (σ ρ : ae_S) : Prop := ∀ k, k < hi → ρ.1 47 0 k = σ.1 47 0 k ∧ (¬ kn_st (σ.1 47 0 k) → ρ.1 48 0 k = σ.1 48 0 k ∧ ρ.1 49 0 k = σ.1 49 0 k ∧ ρ.2.1 51 0 k = σ.2.1 51 0 k ∧ ρ.2.2.1 52 0 k = σ.2.2.1 52 0 k)
def kn_ag (lo hi w : Nat) (σ ρ : ae_S) : Prop := kn_ak hi σ ρ ∧ ∀ k, lo ≤ k → k < hi → ρ.1 48 0 k = σ.1 48 0 k ∧ ρ.1 49 0 k = σ.1 49 0 k ∧ (k ≠ w → ρ.1 50 0 k = σ.1 50 0 k)
theorem kn_ak.rf : kn_ak hi σ σ := fun _ _ => ⟨rfl, fun _ => ⟨rfl, rfl, rfl, rfl⟩⟩
theorem kn_ag.rf : kn_ag lo hi w σ σ := ⟨kn_ak.rf, fun _ _ _ => ⟨rfl, rfl, fun _ => rfl⟩⟩
theorem kn_ak.tr (h : kn_ak hi σ τ) (g : kn_ak hi τ ρ) : kn_ak hi σ ρ := fun k hk => by
  have a := h k hk
  have b := g k hk
  refine ⟨b.1.trans a.1, fun n => ?_⟩
  have a2 := a.2 n
  have b2 := b.2 (by rw [a.1]; exact n)
  exact ⟨b2.1.trans a2.1, b2.2.1.trans a2.2.1, b2.2.2.1.trans a2.2.2.1, b2.2.2.2.trans a2.2.2.2⟩
theorem kn_ak.le {hi' : Nat} (h : kn_ak hi' σ τ) (hh : hi ≤ hi') : kn_ak hi σ τ := fun k hk => h k (by omega)
theorem kn_akG (f : ma_fr (kn_G u) σ τ) : kn_ak u σ τ := fun k hk => ⟨f.i (by unfold kn_G; omega), fun _ => ⟨f.i (by unfold kn_G; omega), f.i (by unfold kn_G; omega), f.l (by unfold kn_G; omega), f.d (by unfold kn_G; omega)⟩⟩
theorem kn_scN (p : Int32) : ¬ kn_st (kn_sc p) := by
  unfold kn_sc
  repeat' split
  all_goals (unfold kn_st; decide)
theorem kn_E.ak : ∀ (n u u0 : Nat) (c : ks_E) (σ τ : ae_S), u < u0 → kn_ak u0 σ τ → kn_E vs n u c σ → kn_E vs n u c τ := by
  intro n
  induction n with
  | zero => intro u u0 c σ τ _ _ h; exact h
  | succ n ih =>
    intro u u0 c σ τ hu f h
    have e47 := (f u hu).1
    have e2 := (f u hu).2
    unfold kn_E at h ⊢
    rcases h with h | h | ⟨h0, v, x, h1, h2, h3, h4⟩ | ⟨h0, q, e, h1, h2, h3, h4⟩ | ⟨e, h1, h2⟩ | ⟨p, q, r, e, x, h1, h2, h3, h4, h5, h6, h7, h8, h9, h10⟩
    · have g := e2 (by rw [h.1]; unfold kn_st; decide)
      exact .inl ⟨e47.trans h.1, by rw [g.2.2.1]; exact h.2⟩
    · have g := e2 (by rw [h.1]; unfold kn_st; decide)
      exact .inr (.inl ⟨e47.trans h.1, by rw [g.2.2.2]; exact h.2⟩)
    · have g := e2 (by rw [h0]; unfold kn_st; decide)
      refine .inr (.inr (.inl ⟨e47.trans h0, v, x, h1, g.1.trans h2, g.2.2.1.trans h3, ?_⟩))
      rcases h4 with h4 | ⟨q, e, k1, k2, k3, k4⟩
      · exact .inl ⟨g.2.1.trans h4.1, h4.2⟩
      · exact .inr ⟨q, e, k1, g.2.1.trans k2, ih q u0 e σ τ (by omega) f k3, k4⟩
    · have g := e2 (by rw [h0]; unfold kn_st; decide)
      exact .inr (.inr (.inr (.inl ⟨e47.trans h0, q, e, h1, g.1.trans h2, ih q u0 e σ τ (by omega) f h3, h4⟩)))
    · exact .inr (.inr (.inr (.inr (.inl ⟨e, ih u u0 e σ τ hu f h1, h2⟩))))
    · have g := e2 (by rw [h3]; exact kn_scN p)
      exact .inr (.inr (.inr (.inr (.inr ⟨p, q, r, e, x, h1, h2, e47.trans h3, h4, h5, g.1.trans h6, g.2.1.trans h7, ih q u0 e σ τ (by omega) f h8, ih r u0 x σ τ (by omega) f h9, h10⟩))))
theorem kn_P.ak {v u0 : Nat} {es : ks_E} {f : Int32} (h : kn_P vs K u v es f σ) (hu : u < u0) (F : kn_ak u0 σ τ) : kn_P vs K u v es f τ := by
  obtain ⟨h0, h1, h2, h3, h4⟩ := h
  have g := (F u hu).2 (by rw [h0]; unfold kn_st; decide)
  refine ⟨(F u hu).1.trans h0, h1, g.1.trans h2, g.2.2.1.trans h3, ?_⟩
  rcases h4 with ⟨k1, k2⟩ | ⟨q, e, k1, k2, k3, k4⟩
  · exact .inl ⟨g.2.1.trans k1, k2⟩
  · exact .inr ⟨q, e, k1, g.2.1.trans k2, kn_E.ak K q u0 e σ τ (by omega) F k3, k4⟩
theorem kn_P.mo {v K' : Nat} {es : ks_E} {f : Int32} (h : kn_P vs K u v es f σ) (hK : K ≤ K') : kn_P vs K' u v es f σ := by
  obtain ⟨h0, h1, h2, h3, h4⟩ := h
  refine ⟨h0, h1, h2, h3, ?_⟩
  rcases h4 with ⟨k1, k2⟩ | ⟨q, e, k1, k2, k3, k4⟩
  · exact .inl ⟨k1, k2⟩
  · exact .inr ⟨q, e, k1, k2, kn_E.mo K K' q e σ hK k3, k4⟩
/-- a statement was read: its node is w -/
def kn_so (T : kt_T) (vs : List mv_V) (o b u X j K : Nat) (x : ks_E × Nat) (w u2 : Nat) (τ : ae_S) : Prop := u ≤ w ∧ w < u2 ∧ τ.1 30 0 38 = nI u2 ∧ u2 + X ≤ x.2 ∧ x.2 ≤ 500 ∧ j < x.2 ∧ kK T x.2 τ ∧ τ.1 30 0 39 = nI o ∧ τ.1 50 0 w = -1 ∧ ∀ ρ, kn_ag u u2 w τ ρ → kn_S vs K o w b x.1 ρ
def kn_sr (T : kt_T) (vs : List mv_V) (o : Nat) (g : ae_S → Option (Int32 × ae_S)) (a : kv_O (ks_E × Nat)) (b j : Nat) : Prop := ∀ (u X : Nat) (σ : ae_S), kK T j σ → mv_M vs σ → σ.1 30 0 38 = nI u → σ.1 30 0 39 = nI o → u + X ≤ j → j ≤ 500 → ma_wp (g σ) (fun r τ => kv_po a (fun f q => kn_bad σ u X f q τ) (fun x => ∃ w u2, r = nI w ∧ kn_so T vs o b u X j (x.2 - j) x w u2 τ ∧ ma_fr (kn_G u) σ τ))
/-- a word or a sign -/
theorem kn_isW (σ : ae_S) {i : Fin 32} (hi : i.val < 28) : ∃ r, F_X12_isWord i σ = some (r, σ) := by
  unfold F_X12_isWord F_X12_isWord_24 F_X12_isWord_25
  rw [kt_pkM hi σ]
  by_cases h : σ.1 30 0 25 = 1
  · rw [if_pos h]
    show ∃ r, (if lg_cmp (σ.2.1 30 0 28) (kt_pk i) = 0 then ae_gd (ae_zz 1) (some (1, σ)) else ae_gd (ae_zz 0) (some (0, σ))) = some (r, σ)
    by_cases h2 : lg_cmp (σ.2.1 30 0 28) (kt_pk i) = 0
    · rw [if_pos h2]; exact ⟨1, rfl⟩
    · rw [if_neg h2]; exact ⟨0, rfl⟩
  · rw [if_neg h]; exact ⟨0, rfl⟩
theorem kn_wS {i : Fin 32} {d : Nat} (h : kt_wd T j i = true) : kt_sg T j d = false := decide_eq_false (fun g => by have := (of_decide_eq_true h).1; omega)
/-- behind a fault -/
theorem kn_58B {g : GT_B} {v1 v2 f : Int32} {q : Nat} (H : kn_bad σ0 u X f q σ) : ma_wp (F_X12_readStatement_58 g v1 v2 σ) (fun r τ => kn_bad σ0 u X f q τ) := by
  unfold F_X12_readStatement_58
  exact ma_be (kn_fineB H) (ma_T rfl (ma_ret H))
theorem kn_4B {g : GT_B} {n : Nat} {v1 v2 f : Int32} {q : Nat} (H : kn_bad σ0 u X f q σ) : ma_wp (F_X12_readStatement_4 g (n + 1) v1 v2 σ) (fun r τ => kn_bad σ0 u X f q τ) := by
  rw [F_X12_readStatement_4]
  obtain ⟨r, e⟩ := kn_isW σ (i := 7) (by decide)
  exact ma_be e (ma_if (fun _ => kn_58B H) (fun _ => ma_be (kn_fineB H) (ma_T rfl (kn_58B H))))
theorem kn_153B {g : GT_B} {v1 v2 v3 f : Int32} {q : Nat} (H : kn_bad σ0 u X f q σ) : ma_wp (F_X12_readStatement_153 g v1 v2 v3 σ) (fun r τ => kn_bad σ0 u X f q τ) := by
  unfold F_X12_readStatement_153 F_X12_readStatement_165
  exact ma_if (fun _ => ma_ret H) (fun _ => ma_be (kn_fineB H) (ma_T rfl (ma_ret H)))
/-- the last of the ifs ahead of it, if there are any -/
def kn_if (u0 u : Nat) (v1 v2 : Int32) (σ : ae_S) : Prop := v1 = -1 ∨ ∃ L, v1 ≠ -1 ∧ v2 = nI L ∧ u0 ≤ L ∧ L < u ∧ σ.1 47 0 L = 11
/-- how it ends -/
def kn_fin (T : kt_T) (vs : List mv_V) (o b : Nat) (σ0 : ae_S) (u0 u X j K : Nat) (v1 v2 : Int32) (σ : ae_S) (x : ks_E × Nat) (r : Int32) (τ : ae_S) : Prop := ∃ w u2, kn_so T vs o b u X j K x w u2 τ ∧ ma_fr (kn_G u0) σ0 τ ∧ ((v1 = -1 ∧ r = nI w ∧ ma_fr (kn_G u) σ τ) ∨ ∃ L, v1 ≠ -1 ∧ (v2 = nI L ∧ L < 600) ∧ r = v1 ∧ τ.1 49 0 L = nI w ∧ ma_fr (fun g i k => kn_G u g i k ∧ ¬ (g = 49 ∧ k = L)) σ τ)
theorem kn_so.w49 {L : Nat} {x : ks_E × Nat} {u2 : Nat} {y : Int32} (H : kn_so T vs o b u X j K x w u2 τ) (hL : L < u) (h11 : τ.1 47 0 L = 11) : kn_so T vs o b u X j K x w u2 (ae_wI τ 49 0 L y) := by
  obtain ⟨h1, h2, h3, h4, h5, h6, h7, h8, h9, h10⟩ := H
  refine ⟨h1, h2, (ma_rIn (by simp)).trans h3, h4, h5, h6, h7.wI (by decide), (ma_rIn (by simp)).trans h8, (ma_rIn (by simp)).trans h9, fun ρ hρ => h10 ρ ⟨fun k hk => ?_, fun k k1 k2 => ?_⟩⟩
  · have a := hρ.1 k hk
    have e47 : (ae_wI τ 49 0 L y).1 47 0 k = τ.1 47 0 k := ma_rIn (by simp)
    rw [e47] at a
    refine ⟨a.1, fun n => ?_⟩
    have a2 := a.2 n
    have hk : k ≠ L := fun e => n (by rw [e, h11]; unfold kn_st; decide)
    exact ⟨a2.1.trans (ma_rIn (by simp)), a2.2.1.trans (ma_rIn (by omega)), a2.2.2.1, a2.2.2.2⟩
  · have a := hρ.2 k k1 k2
    exact ⟨a.1.trans (ma_rIn (by simp)), a.2.1.trans (ma_rIn (by omega)), fun n => (a.2.2 n).trans (ma_rIn (by simp))⟩
theorem kn_153 {g : GT_B} {v1 v2 : Int32} {x : ks_E × Nat} {u0 u2 : Nat} (hu0 : u0 ≤ u) (F0 : ma_fr (kn_G u0) σ0 σ) (hi : kn_if u0 u v1 v2 σ) (hu : u ≤ 600) (H : kn_so T vs o b u X j K x w u2 τ) (F : ma_fr (kn_G u) σ τ) : ma_wp (F_X12_readStatement_153 g v1 v2 (nI w) τ) (fun r τ => kn_fin T vs o b σ0 u0 u X j K v1 v2 σ x r τ) := by
  unfold F_X12_readStatement_153 F_X12_readStatement_165
  rcases hi with rfl | ⟨L, h1, rfl, h3, h4, h5⟩
  · exact ma_T rfl (ma_ret ⟨w, u2, H, F0.tr (kn_Gm hu0 F), .inl ⟨rfl, rfl, F⟩⟩)
  · refine ma_F h1 (ma_be (km_fine H.2.2.2.2.2.2.1.2.1) (ma_F ma_01 (ma_gd (ma_ib L rfl (by omega) (by decide)) (ma_lt ?_))))
    rw [nI_clamp (by omega)]
    have f2 : ma_fr (fun g _ k => ¬ (g = 49 ∧ k = L)) τ (ae_wI τ 49 0 L (nI w)) := ma_fwI (by simp)
    refine ma_ret ⟨w, u2, H.w49 h4 ((F.i (by unfold kn_G; omega)).trans h5), (F0.tr (kn_Gm hu0 F)).tr (f2.mo (fun g i k q => by unfold kn_G at q; omega)), .inr ⟨L, h1, ⟨rfl, by omega⟩, rfl, ma_rI, (F.mo (fun g i k q => q.1)).tr (f2.mo (fun g i k q => q.2))⟩⟩
end KN
