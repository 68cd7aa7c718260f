/-! WHAT BOTH HOLD: an abstract state, how the class holds it (mi_C), how the model does (mi_M), what is known of it (mi_W) -/
abbrev mv_F : Type := Int64 × Nat × Nat
/-- a view: name, kind, big, where, how many, stride, access, fields -/
abbrev mv_V : Type := Int64 × Nat × Bool × Nat × Nat × Nat × Nat × List mv_F
abbrev mv_nm (w : mv_V) : Int64 := w.1
abbrev mv_kd (w : mv_V) : Nat := w.2.1
abbrev mv_bg (w : mv_V) : Bool := w.2.2.1
abbrev mv_st (w : mv_V) : Nat := w.2.2.2.1
abbrev mv_ct (w : mv_V) : Nat := w.2.2.2.2.1
abbrev mv_sd (w : mv_V) : Nat := w.2.2.2.2.2.1
abbrev mv_ac (w : mv_V) : Nat := w.2.2.2.2.2.2.1
abbrev mv_fs (w : mv_V) : List mv_F := w.2.2.2.2.2.2.2
def mv_by (k : Nat) : Nat := ([1, 1, 2, 2, 4, 4, 8, 4, 8] : List Nat).getD k 0
def mv_oN (x : Int64) : Prop := ∃ a : Nat, a < 2 ^ 48 ∧ x = lN a
def mv_W1 (sz : Nat) (w : mv_V) : Prop := mv_kd w < 9 ∧ 1 ≤ mv_ct w ∧ mv_ct w ≤ 64 ∧ 1 ≤ mv_sd w ∧ mv_sd w ≤ 64 ∧ mv_st w + (mv_ct w - 1) * mv_sd w + mv_by (mv_kd w) ≤ sz ∧ mv_ac w < 4 ∧ (mv_fs w).length ≤ 8 ∧ mv_oN (mv_nm w) ∧ (∀ q ∈ mv_fs w, q.2.1 ≤ q.2.2 ∧ q.2.2 < 8 * mv_by (mv_kd w) ∧ q.2.2 - q.2.1 < 63 ∧ mv_oN q.1) ∧ (∀ (i j : Nat) (p q : mv_F), (mv_fs w)[i]? = some p → (mv_fs w)[j]? = some q → p.1 = q.1 → i = j) ∧ (7 ≤ mv_kd w → mv_fs w = [])
def mv_W (sz : Nat) (vs : List mv_V) : Prop := vs.length ≤ 16 ∧ ∀ w ∈ vs, mv_W1 sz w
def mv_bI (b : Bool) : Int32 := if b = true then 1 else 0
def mv_C1 (j : Fin 32) (w : mv_V) (σ : ae_S) : Prop := σ.2.1 8 j 3 = mv_nm w ∧ σ.2.2.2 8 j 4 = some (60, Fin.ofNat 32 (mv_kd w)) ∧ σ.1 8 j 5 = mv_bI (mv_bg w) ∧ σ.1 8 j 6 = nI (mv_st w) ∧ σ.1 8 j 7 = nI (mv_ct w) ∧ σ.1 8 j 8 = nI (mv_sd w) ∧ σ.1 8 j 9 = nI (mv_ac w) ∧ σ.1 8 j 10 = nI (mv_fs w).length ∧ ∀ f q, (mv_fs w)[f]? = some q → σ.2.1 9 j f = q.1 ∧ σ.1 10 j f = nI q.2.1 ∧ σ.1 11 j f = nI q.2.2
def mv_at (p v : Nat) : Fin 32 := Fin.ofNat 32 (16 * p + v)
/-- the class's views: the row p stands -/
def mv_Cp (p : Nat) (vs : List mv_V) (σ : ae_S) : Prop := p < 2 ∧ σ.2.2.2 6 0 0 = some (7, Fin.ofNat 32 p) ∧ σ.2.2.2 6 0 1 = some (7, Fin.ofNat 32 (1 - p)) ∧ σ.1 6 0 2 = nI vs.length ∧ ∀ v w, vs[v]? = some w → mv_C1 (mv_at p v) w σ
def mv_C (vs : List mv_V) (σ : ae_S) : Prop := ∃ p, mv_Cp p vs σ
def mv_M1 (v : Nat) (w : mv_V) (σ : ae_S) : Prop := σ.2.1 35 0 v = mv_nm w ∧ σ.1 36 0 v = nI (mv_kd w) ∧ σ.1 37 0 v = mv_bI (mv_bg w) ∧ σ.1 38 0 v = nI (mv_st w) ∧ σ.1 39 0 v = nI (mv_ct w) ∧ σ.1 40 0 v = nI (mv_sd w) ∧ σ.1 41 0 v = nI (mv_ac w) ∧ σ.1 42 0 v = nI (mv_fs w).length ∧ ∀ f q, (mv_fs w)[f]? = some q → σ.2.1 43 0 (8 * v + f) = q.1 ∧ σ.1 44 0 (8 * v + f) = nI q.2.1 ∧ σ.1 45 0 (8 * v + f) = nI q.2.2
def mv_M (vs : List mv_V) (σ : ae_S) : Prop := σ.1 30 0 17 = nI vs.length ∧ ∀ v w, vs[v]? = some w → mv_M1 v w σ
section MV
variable {P : Nat → Fin 32 → Nat → Prop} {σ τ : ae_S}
theorem mv_C1.fr {j : Fin 32} {w : mv_V} (H : mv_C1 j w σ) (f : ma_fr P σ τ) (p8 : ∀ k, P 8 j k) (p9 : ∀ k, P 9 j k) (p10 : ∀ k, P 10 j k) (p11 : ∀ k, P 11 j k) : mv_C1 j w τ := by
  obtain ⟨h1, h2, h3, h4, h5, h6, h7, h8, h9⟩ := H
  exact ⟨(f.l (p8 _)).trans h1, (f.r (p8 _)).trans h2, (f.i (p8 _)).trans h3, (f.i (p8 _)).trans h4, (f.i (p8 _)).trans h5, (f.i (p8 _)).trans h6, (f.i (p8 _)).trans h7, (f.i (p8 _)).trans h8, fun a q e => ⟨(f.l (p9 _)).trans (h9 a q e).1, (f.i (p10 _)).trans (h9 a q e).2.1, (f.i (p11 _)).trans (h9 a q e).2.2⟩⟩
theorem mv_Cp.fr {p : Nat} {vs : List mv_V} (H : mv_Cp p vs σ) (f : ma_fr P σ τ) (p6 : ∀ k, P 6 0 k) (p8 : ∀ j k, P 8 j k) (p9 : ∀ j k, P 9 j k) (p10 : ∀ j k, P 10 j k) (p11 : ∀ j k, P 11 j k) : mv_Cp p vs τ := by
  obtain ⟨h1, h2, h3, h4, h5⟩ := H
  exact ⟨h1, (f.r (p6 _)).trans h2, (f.r (p6 _)).trans h3, (f.i (p6 _)).trans h4, fun v w e => (h5 v w e).fr f (p8 _) (p9 _) (p10 _) (p11 _)⟩
theorem mv_M1.fr {v : Nat} {w : mv_V} (H : mv_M1 v w σ) (f : ma_fr P σ τ) (pp : ∀ g k, 35 ≤ g → g ≤ 45 → P g 0 k) : mv_M1 v w τ := by
  obtain ⟨h1, h2, h3, h4, h5, h6, h7, h8, h9⟩ := H
  exact ⟨(f.l (pp _ _ (by decide) (by decide))).trans h1, (f.i (pp _ _ (by decide) (by decide))).trans h2, (f.i (pp _ _ (by decide) (by decide))).trans h3, (f.i (pp _ _ (by decide) (by decide))).trans h4, (f.i (pp _ _ (by decide) (by decide))).trans h5, (f.i (pp _ _ (by decide) (by decide))).trans h6, (f.i (pp _ _ (by decide) (by decide))).trans h7, (f.i (pp _ _ (by decide) (by decide))).trans h8, fun a q e => ⟨(f.l (pp _ _ (by decide) (by decide))).trans (h9 a q e).1, (f.i (pp _ _ (by decide) (by decide))).trans (h9 a q e).2.1, (f.i (pp _ _ (by decide) (by decide))).trans (h9 a q e).2.2⟩⟩
theorem mv_M.fr {vs : List mv_V} (H : mv_M vs σ) (f : ma_fr P σ τ) (p17 : P 30 0 17) (pp : ∀ g k, 35 ≤ g → g ≤ 45 → P g 0 k) : mv_M vs τ :=
  ⟨(f.i p17).trans H.1, fun v w e => (H.2 v w e).fr f pp⟩
end MV
/-- a row of signs: how many, which -/
abbrev mt_T : Type := Nat × (Nat → Int32)
def mt_R (g : Nat) (i : Fin 32) (t : mt_T) (σ : ae_S) : Prop := ∀ k, k < t.1 → σ.1 g i k = t.2 k
theorem mt_R.fr {P : Nat → Fin 32 → Nat → Prop} {σ τ : ae_S} {g : Nat} {i : Fin 32} {t : mt_T} (H : mt_R g i t σ) (f : ma_fr P σ τ) (p : ∀ k, P g i k) : mt_R g i t τ := fun k hk => (f.i (p k)).trans (H k hk)
abbrev mi_B : Type := Nat × (Nat → Int32) × (Nat → Int32) × List (Nat → Int32)
/-- memory; views; the tape; what was shown; troubles; the fault -/
abbrev mi_A : Type := mi_B × List mv_V × mt_T × mt_T × mt_T × (Int32 × Int32)
abbrev mi_m (a : mi_A) : mi_B := a.1
abbrev mi_v (a : mi_A) : List mv_V := a.2.1
abbrev mi_t (a : mi_A) : mt_T := a.2.2.1
abbrev mi_s (a : mi_A) : mt_T := a.2.2.2.1
abbrev mi_r (a : mi_A) : mt_T := a.2.2.2.2.1
abbrev mi_f (a : mi_A) : Int32 × Int32 := a.2.2.2.2.2
def mi_W (a : mi_A) : Prop := mb_W (mi_m a).1 (mi_m a).2.1 (mi_m a).2.2.1 (mi_m a).2.2.2 ∧ mv_W (mi_m a).1 (mi_v a) ∧ ((mi_t a).1 ≤ 500 ∧ ∀ k, mb_by ((mi_t a).2 k)) ∧ (mi_s a).1 ≤ 256 ∧ (mi_r a).1 < 2 ^ 30
def mi_Cm (a : mi_B) (σ : ae_S) : Prop := mb_C a.1 a.2.1 a.2.2.1 a.2.2.2 σ
def mi_Mm (a : mi_B) (σ : ae_S) : Prop := mb_M a.1 a.2.1 a.2.2.1 a.2.2.2 σ
def mi_Ct (t : mt_T) (σ : ae_S) : Prop := σ.1 1 0 1 = nI t.1 ∧ mt_R 2 0 t σ
def mi_Mt (t : mt_T) (σ : ae_S) : Prop := σ.1 30 0 20 = nI t.1 ∧ mt_R 46 0 t σ
def mi_Cs (t : mt_T) (σ : ae_S) : Prop := σ.1 1 1 1 = nI t.1 ∧ mt_R 2 1 t σ
def mi_Ms (t : mt_T) (σ : ae_S) : Prop := σ.1 30 0 51 = nI t.1 ∧ mt_R 57 0 t σ
def mi_Cr (t : mt_T) (σ : ae_S) : Prop := σ.1 21 0 13 = nI t.1 ∧ ∀ k, k < t.1 → k < 20 → σ.1 26 0 k = t.2 k
def mi_Mr (t : mt_T) (σ : ae_S) : Prop := σ.1 30 0 41 = nI t.1 ∧ ∀ k, k < t.1 → k < 20 → σ.1 53 0 k = t.2 k
def mi_Cf (t : Int32 × Int32) (σ : ae_S) : Prop := σ.1 12 0 7 = t.1 ∧ σ.1 12 0 8 = t.2
def mi_Mf (t : Int32 × Int32) (σ : ae_S) : Prop := σ.1 30 0 21 = t.1 ∧ σ.1 30 0 22 = t.2
def mi_C (a : mi_A) (σ : ae_S) : Prop := mi_Cm (mi_m a) σ ∧ mv_C (mi_v a) σ ∧ mi_Ct (mi_t a) σ ∧ mi_Cs (mi_s a) σ ∧ mi_Cr (mi_r a) σ ∧ mi_Cf (mi_f a) σ
def mi_M (a : mi_A) (σ : ae_S) : Prop := mi_Mm (mi_m a) σ ∧ mv_M (mi_v a) σ ∧ mi_Mt (mi_t a) σ ∧ mi_Ms (mi_s a) σ ∧ mi_Mr (mi_r a) σ ∧ mi_Mf (mi_f a) σ
section MI
variable {P : Nat → Fin 32 → Nat → Prop} {σ τ : ae_S}
theorem mi_Cm.fr {a : mi_B} (H : mi_Cm a σ) (f : ma_fr P σ τ) (p3 : ∀ i k, P 3 i k) (p4 : ∀ i k, P 4 i k) : mi_Cm a τ := mb_C.fr H f p3 p4
theorem mi_Mm.fr {a : mi_B} (H : mi_Mm a σ) (f : ma_fr P σ τ) (p0 : P 30 0 0) (p5 : P 30 0 5) (p1 : ∀ i k, P 31 i k) (p3 : ∀ i k, P 33 i k) (p4 : ∀ i k, P 34 i k) : mi_Mm a τ := mb_M.fr H f p0 p5 p1 p3 p4
theorem mv_C.fr {vs : List mv_V} (H : mv_C vs σ) (f : ma_fr P σ τ) (pp : ∀ g j k, 6 ≤ g → g ≤ 11 → P g j k) : mv_C vs τ := by
  obtain ⟨p, H⟩ := H
  exact ⟨p, H.fr f (fun k => pp _ _ _ (by decide) (by decide)) (fun j k => pp _ _ _ (by decide) (by decide)) (fun j k => pp _ _ _ (by decide) (by decide)) (fun j k => pp _ _ _ (by decide) (by decide)) (fun j k => pp _ _ _ (by decide) (by decide))⟩
theorem mi_Ct.fr {t : mt_T} (H : mi_Ct t σ) (f : ma_fr P σ τ) (p1 : P 1 0 1) (p2 : ∀ k, P 2 0 k) : mi_Ct t τ := ⟨(f.i p1).trans H.1, H.2.fr f p2⟩
theorem mi_Mt.fr {t : mt_T} (H : mi_Mt t σ) (f : ma_fr P σ τ) (p1 : P 30 0 20) (p2 : ∀ k, P 46 0 k) : mi_Mt t τ := ⟨(f.i p1).trans H.1, H.2.fr f p2⟩
theorem mi_Cs.fr {t : mt_T} (H : mi_Cs t σ) (f : ma_fr P σ τ) (p1 : P 1 1 1) (p2 : ∀ k, P 2 1 k) : mi_Cs t τ := ⟨(f.i p1).trans H.1, H.2.fr f p2⟩
theorem mi_Ms.fr {t : mt_T} (H : mi_Ms t σ) (f : ma_fr P σ τ) (p1 : P 30 0 51) (p2 : ∀ k, P 57 0 k) : mi_Ms t τ := ⟨(f.i p1).trans H.1, H.2.fr f p2⟩
theorem mi_Cr.fr {t : mt_T} (H : mi_Cr t σ) (f : ma_fr P σ τ) (p1 : P 21 0 13) (p2 : ∀ k, P 26 0 k) : mi_Cr t τ := ⟨(f.i p1).trans H.1, fun k h h2 => (f.i (p2 k)).trans (H.2 k h h2)⟩
theorem mi_Mr.fr {t : mt_T} (H : mi_Mr t σ) (f : ma_fr P σ τ) (p1 : P 30 0 41) (p2 : ∀ k, P 53 0 k) : mi_Mr t τ := ⟨(f.i p1).trans H.1, fun k h h2 => (f.i (p2 k)).trans (H.2 k h h2)⟩
theorem mi_Cf.fr {t : Int32 × Int32} (H : mi_Cf t σ) (f : ma_fr P σ τ) (p1 : P 12 0 7) (p2 : P 12 0 8) : mi_Cf t τ := ⟨(f.i p1).trans H.1, (f.i p2).trans H.2⟩
theorem mi_Mf.fr {t : Int32 × Int32} (H : mi_Mf t σ) (f : ma_fr P σ τ) (p1 : P 30 0 21) (p2 : P 30 0 22) : mi_Mf t τ := ⟨(f.i p1).trans H.1, (f.i p2).trans H.2⟩
theorem mi_C.fr {a : mi_A} (H : mi_C a σ) (f : ma_fr (fun g _ _ => g < 30) σ τ) : mi_C a τ := by
  obtain ⟨h1, h2, h3, h4, h5, h6⟩ := H
  exact ⟨h1.fr f (fun _ _ => by decide) (fun _ _ => by decide), h2.fr f (fun _ _ _ _ _ => by omega), h3.fr f (by decide) (fun _ => by decide), h4.fr f (by decide) (fun _ => by decide), h5.fr f (by decide) (fun _ => by decide), h6.fr f (by decide) (by decide)⟩
theorem mi_M.fr {a : mi_A} (H : mi_M a σ) (f : ma_fr (fun g _ _ => 30 ≤ g) σ τ) : mi_M a τ := by
  obtain ⟨h1, h2, h3, h4, h5, h6⟩ := H
  exact ⟨h1.fr f (by decide) (by decide) (fun _ _ => by decide) (fun _ _ => by decide) (fun _ _ => by decide), h2.fr f (by decide) (fun _ _ _ _ => by omega), h3.fr f (by decide) (fun _ => by decide), h4.fr f (by decide) (fun _ => by decide), h5.fr f (by decide) (fun _ => by decide), h6.fr f (by decide) (by decide)⟩
end MI
def mi_I (σ : ae_S) : Prop := ∃ a, mi_W a ∧ mi_C a σ ∧ mi_M a σ
/-- a call of the class, a call of the model -/
def mi_c {α : Type} (F : ae_S → Option (α × ae_S)) (a : mi_A) (r : α) (b : mi_A) : Prop := ∀ σ, mi_C a σ → ma_wp (F σ) (fun x τ => x = r ∧ mi_C b τ ∧ ma_fr (fun g _ _ => 30 ≤ g) σ τ)
def mi_d {α : Type} (F : ae_S → Option (α × ae_S)) (a : mi_A) (r : α) (b : mi_A) : Prop := ∀ σ, mi_M a σ → ma_wp (F σ) (fun x τ => x = r ∧ mi_M b τ ∧ ma_fr (fun g _ _ => g < 30) σ τ)
theorem mi_zp {α : Type} {F G : ae_S → Option (α × ae_S)} (h : ∀ a, mi_W a → ∃ r b, mi_W b ∧ mi_c F a r b ∧ mi_d G a r b) (σ : ae_S) (H : mi_I σ) : ∃ (r : α) (σ1 σ2 : ae_S), F σ = some (r, σ1) ∧ G σ1 = some (r, σ2) ∧ mi_I σ2 := by
  obtain ⟨a, hW, hC, hM⟩ := H
  obtain ⟨r, b, hWb, h1, h2⟩ := h a hW
  obtain ⟨x, τ, e, rfl, hC2, f⟩ := h1 σ hC
  obtain ⟨y, υ, e2, rfl, hM2, f2⟩ := h2 τ (hM.fr f)
  exact ⟨_, τ, υ, e, e2, b, hWb, hC2.fr f2, hM2⟩
/-- calls that only tell -/
theorem mi_c1 {α : Type} {F : ae_S → Option (α × ae_S)} {a : mi_A} {r : α} (h : ∀ σ, mi_C a σ → ma_wp (F σ) (fun x τ => x = r ∧ τ = σ)) : mi_c F a r a := fun σ H =>
  ma_mono (h σ H) (fun x τ q => ⟨q.1, q.2.symm ▸ H, q.2.symm ▸ ma_fr.rf⟩)
theorem mi_d1 {α : Type} {F : ae_S → Option (α × ae_S)} {a : mi_A} {r : α} (h : ∀ σ, mi_M a σ → ma_wp (F σ) (fun x τ => x = r ∧ τ = σ)) : mi_d F a r a := fun σ H =>
  ma_mono (h σ H) (fun x τ q => ⟨q.1, q.2.symm ▸ H, q.2.symm ▸ ma_fr.rf⟩)
/-- memory alone changes, of the class and of the model -/
theorem mi_Cset {a : mi_A} {m : mi_B} {σ τ : ae_S} (H : mi_C a σ) (f : ma_fr (fun g _ _ => g ≠ 3 ∧ g ≠ 4) σ τ) (h : mi_Cm m τ) : mi_C (m, a.2) τ := by
  obtain ⟨h1, h2, h3, h4, h5, h6⟩ := H
  exact ⟨h, h2.fr f (fun _ _ _ _ _ => by omega), h3.fr f (by decide) (fun _ => by decide), h4.fr f (by decide) (fun _ => by decide), h5.fr f (by decide) (fun _ => by decide), h6.fr f (by decide) (by decide)⟩
theorem mi_Mset {a : mi_A} {m : mi_B} {σ τ : ae_S} (H : mi_M a σ) (f : ma_fr (fun g _ k => g ≠ 31 ∧ g ≠ 32 ∧ g ≠ 33 ∧ g ≠ 34 ∧ ¬ (g = 30 ∧ k = 5)) σ τ) (h : mi_Mm m τ) : mi_M (m, a.2) τ := by
  obtain ⟨h1, h2, h3, h4, h5, h6⟩ := H
  exact ⟨h, h2.fr f (by decide) (fun _ _ _ _ => by omega), h3.fr f (by decide) (fun _ => by omega), h4.fr f (by decide) (fun _ => by omega), h5.fr f (by decide) (fun _ => by omega), h6.fr f (by decide) (by decide)⟩
