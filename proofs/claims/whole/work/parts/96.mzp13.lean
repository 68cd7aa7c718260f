/-! the model reads all views -/
section KM
variable {T : kt_T} {σ τ ψ : ae_S} {j k v sz : Nat} {vs ws : List mv_V}
theorem kv_allM (hT : kt_W T) (hs : sz ≤ 256) {Q : Int32 → ae_S → Prop} : ∀ (m n : Nat) (vs : List mv_V) (j : Nat) (σ : ae_S), vs.length + m = 17 → mv_W sz vs → m ≤ n → kP_M T vs j σ → σ.1 30 0 0 = nI sz → (∀ (n' : Nat) (φ : ae_S), ma_fr kO σ φ → kv_po (kv_all T sz m vs j) (fun f p => km_bad f p φ) (fun ws => φ.1 30 0 23 = 0 ∧ φ.1 30 0 24 = -1 ∧ φ.1 30 0 18 = nI ws.length ∧ ∀ v w, ws[v]? = some w → mv_M1 (16 + v) w φ) → ma_wp (F_X12_views_22 (n' + 1) 0 φ) Q) → ma_wp (F_X12_views_22 (n + 1) (if kt_ty T j = 0 then 0 else 1) σ) Q := by
  intro m
  induction m with
  | zero => intro n vs j σ h1 h2; have := h2.1; omega
  | succ m ih =>
    intro n vs j σ h1 hW hn H h0 hyp
    unfold kv_all at hyp
    by_cases he : kt_ty T j = 0
    · rw [if_pos (c := kt_ty T j = 0) he]
      rw [if_pos (c := kt_ty T j = 0) he] at hyp
      exact hyp n σ ma_fr.rf (kv_por ⟨H.1.2.1, H.1.2.2, H.2.1, H.2.2⟩)
    · rw [if_neg (c := kt_ty T j = 0) he]
      rw [if_neg (c := kt_ty T j = 0) he] at hyp
      obtain ⟨n, rfl⟩ : ∃ n2, n = n2 + 1 := ⟨n - 1, by omega⟩
      have hfs : ∀ w ∈ vs, (mv_fs w).length ≤ 8 := fun w hw => (hW.2 w hw).2.2.2.2.2.2.2.1
      have hWx := kv_viewW (T := T) (sz := sz) (vs := vs) (j := j) hT
      rw [F_X12_views_22]
      refine ma_F ma_01 (ma_bd (kv_viewM hT hs hW.1 hfs H h0) (fun r φ q => ?_))
      obtain ⟨f, q⟩ := q
      cases ho : kv_view T sz vs j with
      | inl e =>
        rw [ho] at q hyp
        obtain ⟨rfl, hb⟩ := q
        exact ma_T rfl (hyp n φ f hb)
      | inr x =>
        rw [ho] at q hyp hWx
        obtain ⟨rfl, hl, H2⟩ := q
        have hWx : mv_W1 sz x.1 ∧ vs.length ≠ 16 := hWx
        have l2 : (vs ++ [x.1]).length = vs.length + 1 := by rw [List.length_append, List.length_singleton]
        have hW2 : mv_W sz (vs ++ [x.1]) := ⟨by omega, fun w hw => by
          rcases List.mem_append.mp hw with g | g
          · exact hW.2 w g
          · rw [List.mem_singleton.mp g]; exact hWx.1⟩
        have hB := kt_tyB (T := T) (j := x.2)
        have key := ih n (vs ++ [x.1]) x.2 φ (by omega) hW2 (by omega) H2 ((f.i (by unfold kO; omega)).trans h0) (fun n' χ fr hp => hyp n' χ (f.tr fr) hp)
        refine ma_F ma_01 (ma_en (kt_ty T x.2) 0 H2.1.1.2.1 rfl (by omega) (by decide) (fun g => ?_) (fun g => ?_))
        · rw [if_pos (c := kt_ty T x.2 = 0) g] at key
          exact key
        · rw [if_neg (c := kt_ty T x.2 = 0) g] at key
          exact key
def kE (v f : Nat) (φ : ae_S) : Prop := φ.2.1 43 0 (8 * v + f) = φ.2.1 43 0 (8 * (16 + v) + f) ∧ φ.1 44 0 (8 * v + f) = φ.1 44 0 (8 * (16 + v) + f) ∧ φ.1 45 0 (8 * v + f) = φ.1 45 0 (8 * (16 + v) + f)
theorem kE.fr {P : Nat → Fin 32 → Nat → Prop} {f : Nat} (H : kE v f σ) (q : ma_fr P σ τ) (p : ∀ g, 43 ≤ g → g ≤ 45 → P g 0 (8 * v + f) ∧ P g 0 (8 * (16 + v) + f)) : kE v f τ :=
  ⟨(q.l (p 43 (by decide) (by decide)).1).trans (H.1.trans (q.l (p 43 (by decide) (by decide)).2).symm), (q.i (p 44 (by decide) (by decide)).1).trans (H.2.1.trans (q.i (p 44 (by decide) (by decide)).2).symm), (q.i (p 45 (by decide) (by decide)).1).trans (H.2.2.trans (q.i (p 45 (by decide) (by decide)).2).symm)⟩
theorem kv_cpF {k68 : Int32 → ae_S → Option (Int32 × ae_S)} (hv : v < 16) {Q : Int32 → ae_S → Prop} : ∀ (r n i : Nat) (σ : ae_S), r < n → i + r = 8 → (∀ f, f < i → kE v f σ) → (∀ φ, (∀ f, f < 8 → kE v f φ) → ma_fr (fun g _ k => ¬ (43 ≤ g ∧ g ≤ 45 ∧ k / 8 = v)) σ φ → ma_wp (k68 (nI (v + 1)) φ) Q) → ma_wp (F_X12_views_198 k68 n (nI v) (nI i) σ) Q := by
  intro r
  induction r with
  | zero =>
    intro n i σ hn hi h hyp
    obtain ⟨n, rfl⟩ : ∃ n2, n = n2 + 1 := ⟨n - 1, by omega⟩
    rw [F_X12_views_198]
    refine ma_T (nI_le (a := 8) (by omega) (by omega)) (ma_lt ?_)
    rw [nI_1]
    exact hyp σ (fun f hf => h f (by omega)) ma_fr.rf
  | succ r ih =>
    intro n i σ hn hi h hyp
    obtain ⟨n, rfl⟩ : ∃ n2, n = n2 + 1 := ⟨n - 1, by omega⟩
    rw [F_X12_views_198]
    refine ma_F (nI_ge (b := 8) (by omega) (by decide)) ?_
    rw [show (16 : Int32) = nI 16 from rfl, show (8 : Int32) = nI 8 from rfl, nI_add, pk_mul, pk_mul, nI_add, nI_add]
    have hd : ae_ib (nI (8 * v + i)) 256 = true := ma_ib _ rfl (by omega) (by decide)
    have hc : ae_ib (nI (8 * (16 + v) + i)) 256 = true := ma_ib _ rfl (by omega) (by decide)
    refine ma_lt (ma_gd hc (ma_gd hd (ma_lt (ma_gd hc (ma_gd hd (ma_lt (ma_gd hc (ma_gd hd (ma_lt (ma_lt ?_))))))))))
    rw [nI_1, nI_clamp (n := 8 * v + i) (by omega), nI_clamp (n := 8 * (16 + v) + i) (by omega)]
    have s1 : ma_fr (fun g _ k => ¬ (43 ≤ g ∧ g ≤ 45 ∧ k = 8 * v + i)) σ (ae_wL σ 43 0 (8 * v + i) (σ.2.1 43 0 (8 * (16 + v) + i))) := ma_fwL (by simp)
    have r1 : (ae_wL σ 43 0 (8 * v + i) (σ.2.1 43 0 (8 * (16 + v) + i))).2.1 43 0 (8 * v + i) = σ.2.1 43 0 (8 * (16 + v) + i) := ma_rL
    generalize ae_wL σ 43 0 (8 * v + i) (σ.2.1 43 0 (8 * (16 + v) + i)) = σ1 at s1 r1 ⊢
    have s2 : ma_fr (fun g _ k => ¬ (43 ≤ g ∧ g ≤ 45 ∧ k = 8 * v + i)) σ (ae_wI σ1 44 0 (8 * v + i) (σ1.1 44 0 (8 * (16 + v) + i))) := s1.tr (ma_fwI (by simp))
    have r21 : (ae_wI σ1 44 0 (8 * v + i) (σ1.1 44 0 (8 * (16 + v) + i))).2.1 43 0 (8 * v + i) = σ.2.1 43 0 (8 * (16 + v) + i) := r1
    have r22 : (ae_wI σ1 44 0 (8 * v + i) (σ1.1 44 0 (8 * (16 + v) + i))).1 44 0 (8 * v + i) = σ.1 44 0 (8 * (16 + v) + i) := ma_rI.trans (s1.i (by omega))
    generalize ae_wI σ1 44 0 (8 * v + i) (σ1.1 44 0 (8 * (16 + v) + i)) = σ2 at s2 r21 r22 ⊢
    have s3 : ma_fr (fun g _ k => ¬ (43 ≤ g ∧ g ≤ 45 ∧ k = 8 * v + i)) σ (ae_wI σ2 45 0 (8 * v + i) (σ2.1 45 0 (8 * (16 + v) + i))) := s2.tr (ma_fwI (by simp))
    have r31 : (ae_wI σ2 45 0 (8 * v + i) (σ2.1 45 0 (8 * (16 + v) + i))).2.1 43 0 (8 * v + i) = σ.2.1 43 0 (8 * (16 + v) + i) := r21
    have r32 : (ae_wI σ2 45 0 (8 * v + i) (σ2.1 45 0 (8 * (16 + v) + i))).1 44 0 (8 * v + i) = σ.1 44 0 (8 * (16 + v) + i) := (ma_rIn (by simp)).trans r22
    have r33 : (ae_wI σ2 45 0 (8 * v + i) (σ2.1 45 0 (8 * (16 + v) + i))).1 45 0 (8 * v + i) = σ.1 45 0 (8 * (16 + v) + i) := ma_rI.trans (s2.i (by omega))
    generalize ae_wI σ2 45 0 (8 * v + i) (σ2.1 45 0 (8 * (16 + v) + i)) = σ3 at s3 r31 r32 r33 ⊢
    refine ih n (i + 1) σ3 (by omega) (by omega) (fun f hf => ?_) (fun φ hE fr => hyp φ hE ((s3.mo (fun g i k q => by omega)).tr fr))
    by_cases e : f = i
    · rw [e]
      exact ⟨r31.trans (s3.l (by omega)).symm, r32.trans (s3.i (by omega)).symm, r33.trans (s3.i (by omega)).symm⟩
    · exact (h f (by omega)).fr s3 (fun g _ _ => by omega)
def kX (v m : Nat) (σ φ : ae_S) : Prop := ma_fr (fun g _ k => ¬ (35 ≤ g ∧ g ≤ 42 ∧ k = v)) σ φ ∧ φ.2.1 35 0 v = σ.2.1 35 0 (16 + v) ∧ ∀ g, 36 ≤ g → g < m → φ.1 g 0 v = σ.1 g 0 (16 + v)
theorem kX.step {m : Nat} (H : kX v m σ ψ) (h1 : 36 ≤ m) (h2 : m ≤ 42) : kX v (m + 1) σ (ae_wI ψ m 0 v (ψ.1 m 0 (16 + v))) := by
  refine ⟨H.1.tr (ma_fwI (by simp; omega)), H.2.1, fun g a b => ?_⟩
  by_cases e : g = m
  · rw [e, ma_rI]
    exact H.1.i (by omega)
  · rw [ma_rIn (by simp; omega)]
    exact H.2.2 g a (by omega)
theorem kv_cp (hl : ws.length ≤ 16) (hf : ∀ w ∈ ws, (mv_fs w).length ≤ 8) : ∀ (r n v : Nat) (σ : ae_S), r < n → v + r = ws.length → σ.1 30 0 17 = nI ws.length → (∀ u w, ws[u]? = some w → mv_M1 (16 + u) w σ) → (∀ u w, u < v → ws[u]? = some w → mv_M1 u w σ) → ma_wp (F_X12_views_68 n (nI v) σ) (fun r τ => r = nI ws.length ∧ mv_M ws τ ∧ ma_fr (fun g _ k => ¬ (35 ≤ g ∧ g ≤ 42 ∧ k < 16) ∧ ¬ (43 ≤ g ∧ g ≤ 45 ∧ k < 128)) σ τ) := by
  intro r
  induction r with
  | zero =>
    intro n v σ hn hv h17 h1 h2
    obtain ⟨n, rfl⟩ : ∃ n2, n = n2 + 1 := ⟨n - 1, by omega⟩
    rw [F_X12_views_68, h17]
    exact ma_T (nI_le (by omega) (by omega)) (ma_ret ⟨rfl, ⟨h17, fun u w e => h2 u w (by have := (List.getElem?_eq_some_iff.mp e).1; omega) e⟩, ma_fr.rf⟩)
  | succ r ih =>
    intro n v σ hn hv h17 h1 h2
    obtain ⟨n, rfl⟩ : ∃ n2, n = n2 + 1 := ⟨n - 1, by omega⟩
    have hd : ae_ib (nI v) 32 = true := ma_ib _ rfl (by omega) (by decide)
    have hc : ae_ib (nI (16 + v)) 32 = true := ma_ib _ rfl (by omega) (by decide)
    rw [F_X12_views_68, h17]
    refine ma_F (nI_ge (by omega) (by omega)) ?_
    rw [show (16 : Int32) = nI 16 from rfl, nI_add, nI_clamp (n := v) (by omega), nI_clamp (n := 16 + v) (by omega)]
    refine ma_gd hc (ma_gd hd (ma_lt (ma_gd hc (ma_gd hd (ma_lt (ma_gd hc (ma_gd hd (ma_lt (ma_gd hc (ma_gd hd (ma_lt (ma_gd hc (ma_gd hd (ma_lt (ma_gd hc (ma_gd hd (ma_lt (ma_gd hc (ma_gd hd (ma_lt (ma_gd hc (ma_gd hd (ma_lt ?_)))))))))))))))))))))))
    have X0 : kX v 36 σ (ae_wL σ 35 0 v (σ.2.1 35 0 (16 + v))) := ⟨ma_fwL (by simp), ma_rL, fun g a b => by omega⟩
    have X := ((((((X0.step (by decide) (by decide)).step (by decide) (by decide)).step (by decide) (by decide)).step (by decide) (by decide)).step (by decide) (by decide)).step (by decide) (by decide)).step (by decide) (by decide)
    have X : kX v 43 σ _ := X
    refine kv_cpF (k68 := F_X12_views_68 n) (v := v) (by omega) 8 ae_fu 0 _ (by rw [ae_fu]; decide) rfl (fun f hf => by omega) (fun φ hE fr => ?_)
    have F : ma_fr (fun g _ k => ¬ (35 ≤ g ∧ g ≤ 42 ∧ k = v) ∧ ¬ (43 ≤ g ∧ g ≤ 45 ∧ k / 8 = v)) σ φ := (X.1.mo (fun g i k q => q.1)).tr (fr.mo (fun g i k q => q.2))
    have e35 : φ.2.1 35 0 v = σ.2.1 35 0 (16 + v) := (fr.l (by omega)).trans X.2.1
    have e36 : ∀ g, 36 ≤ g → g < 43 → φ.1 g 0 v = σ.1 g 0 (16 + v) := fun g a b => (fr.i (by omega)).trans (X.2.2 g a b)
    have FN : ma_fr (kN v) σ φ := F.mo (fun g i k q => by unfold kN at q; omega)
    have h8 : ∀ u w, ws[u]? = some w → (mv_fs w).length ≤ 8 := fun u w e => hf w (List.mem_of_getElem? e)
    refine ma_mono (ih n (v + 1) φ (by omega) (by omega) ((F.i (by omega)).trans h17) (fun u w e => kM1_fr (h8 u w e) (h1 u w e) FN (by omega)) (fun u w hu e => ?_)) (fun r τ q => ⟨q.1, q.2.1, (F.mo (fun g i k q => by omega)).tr q.2.2⟩)
    by_cases hu2 : u = v
    · have c := h1 u w e
      rw [hu2] at c ⊢
      refine ⟨e35.trans c.1, (e36 36 (by decide) (by decide)).trans c.2.1, (e36 37 (by decide) (by decide)).trans c.2.2.1, (e36 38 (by decide) (by decide)).trans c.2.2.2.1, (e36 39 (by decide) (by decide)).trans c.2.2.2.2.1, (e36 40 (by decide) (by decide)).trans c.2.2.2.2.2.1, (e36 41 (by decide) (by decide)).trans c.2.2.2.2.2.2.1, (e36 42 (by decide) (by decide)).trans c.2.2.2.2.2.2.2.1, fun f q ef => ?_⟩
      have hf8 : f < 8 := Nat.lt_of_lt_of_le (List.getElem?_eq_some_iff.mp ef).1 (h8 u w e)
      have c2 := c.2.2.2.2.2.2.2.2 f q ef
      have ee := hE f hf8
      exact ⟨ee.1.trans ((F.l (by omega)).trans c2.1), ee.2.1.trans ((F.i (by omega)).trans c2.2.1), ee.2.2.trans ((F.i (by omega)).trans c2.2.2)⟩
    · exact kM1_fr (h8 u w e) (h2 u w (by omega) e) FN hu2
theorem km_isRead (χ : ae_S) : ma_wp (F_X12_isRead χ) (fun x ω => x = (if χ.1 30 0 23 = 0 then 1 else 0) ∧ ω.1 30 0 20 = 0 ∧ ω.1 30 0 21 = χ.1 30 0 23 ∧ ω.1 30 0 22 = χ.1 30 0 24 ∧ ma_fr (fun g _ k => ¬ (g = 30 ∧ (k = 20 ∨ k = 21 ∨ k = 22))) χ ω) := by
  unfold F_X12_isRead F_X12_isRead_33
  have r1 : ma_fr (fun g _ k => ¬ (g = 30 ∧ (k = 20 ∨ k = 21 ∨ k = 22))) χ (ae_wI (ae_wI (ae_wI χ 30 0 20 0) 30 0 21 ((ae_wI χ 30 0 20 0).1 30 0 23)) 30 0 22 ((ae_wI (ae_wI χ 30 0 20 0) 30 0 21 ((ae_wI χ 30 0 20 0).1 30 0 23)).1 30 0 24)) := (ma_fwI (by simp)).tr ((ma_fwI (by simp)).tr (ma_fwI (by simp)))
  have r20 : (ae_wI (ae_wI (ae_wI χ 30 0 20 0) 30 0 21 ((ae_wI χ 30 0 20 0).1 30 0 23)) 30 0 22 ((ae_wI (ae_wI χ 30 0 20 0) 30 0 21 ((ae_wI χ 30 0 20 0).1 30 0 23)).1 30 0 24)).1 30 0 20 = 0 := by rw [ma_rIn (by simp), ma_rIn (by simp), ma_rI]
  have r21 : (ae_wI (ae_wI (ae_wI χ 30 0 20 0) 30 0 21 ((ae_wI χ 30 0 20 0).1 30 0 23)) 30 0 22 ((ae_wI (ae_wI χ 30 0 20 0) 30 0 21 ((ae_wI χ 30 0 20 0).1 30 0 23)).1 30 0 24)).1 30 0 21 = χ.1 30 0 23 := by rw [ma_rIn (by simp), ma_rI, ma_rIn (by simp)]
  have r22 : (ae_wI (ae_wI (ae_wI χ 30 0 20 0) 30 0 21 ((ae_wI χ 30 0 20 0).1 30 0 23)) 30 0 22 ((ae_wI (ae_wI χ 30 0 20 0) 30 0 21 ((ae_wI χ 30 0 20 0).1 30 0 23)).1 30 0 24)).1 30 0 22 = χ.1 30 0 24 := by rw [ma_rI, ma_rIn (by simp), ma_rIn (by simp)]
  refine ma_lt (ma_lt (ma_lt ?_))
  generalize ae_wI (ae_wI (ae_wI χ 30 0 20 0) 30 0 21 ((ae_wI χ 30 0 20 0).1 30 0 23)) 30 0 22 ((ae_wI (ae_wI χ 30 0 20 0) 30 0 21 ((ae_wI χ 30 0 20 0).1 30 0 23)).1 30 0 24) = ω at r1 r20 r21 r22 ⊢
  have e23 : ω.1 30 0 23 = χ.1 30 0 23 := r1.i (by omega)
  rw [e23]
  refine ma_if (fun g => ma_gd ma_z1 (ma_ret ⟨(if_pos g).symm, r20, r21, r22, r1⟩)) (fun g => ma_gd ma_z0 (ma_ret ⟨(if_neg g).symm, r20, r21, r22, r1⟩))
theorem mz_viewsM {a : mi_A} (hW : mi_W a) (hT : kt_of (mi_t a) = T) : mi_d F_X12_views a (kv_ans T (mi_m a).1) (kv_fin a T) := fun σ H => by
  have hTw := hT ▸ kt_ofW hW
  have hs : (mi_m a).1 ≤ 256 := hW.1.2.1
  have htp : km_tp T σ := hT ▸ kt_ofM hW H
  obtain ⟨h1, h2, h3, h4, h5, h6⟩ := H
  have hW0 : mv_W (mi_m a).1 [] := ⟨by decide, fun w h => by simp at h⟩
  have hWa := kv_allW (T := T) (sz := (mi_m a).1) hTw 17 [] 0 rfl hW0
  unfold F_X12_views F_X12_views_21
  refine ma_lt ?_
  have f0 : ma_fr (fun g _ k => ¬ (g = 30 ∧ k = 18)) σ (ae_wI σ 30 0 18 0) := ma_fwI (by simp)
  have g18 : (ae_wI σ 30 0 18 0).1 30 0 18 = nI 0 := ma_rI
  have htp0 : km_tp T (ae_wI σ 30 0 18 0) := htp.fr f0 (by omega) (fun _ => by omega)
  generalize ae_wI σ 30 0 18 0 = σ0 at f0 g18 htp0 ⊢
  refine ma_bd (km_start hTw htp0) (fun _ φ q => ?_)
  obtain ⟨S, q23, q24, f1⟩ := q
  have F1 : ma_fr (fun g _ k => ¬ (g = 30 ∧ (k = 18 ∨ 23 ≤ k ∧ k ≤ 31))) σ φ := (f0.mo (fun g i k q => by omega)).tr (f1.mo (fun g i k q => by omega))
  have hP : kP_M T [] 0 φ := ⟨⟨S, q23, q24⟩, (f1.i (by omega)).trans g18, fun v w e => by simp at e⟩
  have hm0 : σ.1 30 0 0 = nI (mi_m a).1 := h1.1
  have hB := kt_tyB (T := T) (j := 0)
  have key : ma_wp (F_X12_views_22 (4095 + 1) (if kt_ty T 0 = 0 then 0 else 1) φ) (fun x τ => x = kv_ans T (mi_m a).1 ∧ mi_M (kv_fin a T) τ ∧ ma_fr (fun g _ _ => g < 30) σ τ) := by
    refine kv_allM hTw hs 17 4095 [] 0 φ rfl hW0 (by decide) hP ((F1.i (by omega)).trans hm0) (fun n' χ fr hp => ?_)
    have F2 : ma_fr kO σ χ := (F1.mo (fun g i k q => by unfold kO at q; omega)).tr fr
    rw [F_X12_views_22]
    refine ma_T rfl ?_
    refine ma_bd (km_isRead χ) (fun x ω q => ?_)
    obtain ⟨rfl, r20, r21, r22, r1⟩ := q
    have F3 : ma_fr (fun g i k => kO g i k ∧ ¬ (g = 30 ∧ (k = 20 ∨ k = 21 ∨ k = 22))) σ ω := (F2.mo (fun g i k q => q.1)).tr (r1.mo (fun g i k q => q.2))
    have m1 : mi_Mm (mi_m a) ω := h1.fr F3 (by unfold kO; omega) (by unfold kO; omega) (fun _ _ => by unfold kO; omega) (fun _ _ => by unfold kO; omega) (fun _ _ => by unfold kO; omega)
    have m4 : mi_Ms (mi_s a) ω := h4.fr F3 (by unfold kO; omega) (fun _ => by unfold kO; omega)
    have m5 : mi_Mr (mi_r a) ω := h5.fr F3 (by unfold kO; omega) (fun _ => by unfold kO; omega)
    unfold kv_ans kv_fin kv_res
    cases ho : kv_all T (mi_m a).1 17 [] 0 with
    | inl e =>
      rw [ho] at hp hWa
      have hp : km_bad e.1 e.2 χ := hp
      have hWa : e.1 ≠ 0 := hWa
      rw [if_neg (c := χ.1 30 0 23 = 0) (by rw [hp.1]; exact hWa)]
      refine ma_T rfl (ma_ret ⟨rfl, ⟨m1, ⟨(F3.i (by unfold kO; omega)).trans h2.1, fun v w e => ?_⟩, ⟨r20, fun k hk => by have hk : k < 0 := hk; omega⟩, m4, m5, ⟨r21.trans hp.1, r22.trans hp.2⟩⟩, F3.mo (fun g i k q => by unfold kO; omega)⟩)
      have hv16 : v < 16 := Nat.lt_of_lt_of_le (List.getElem?_eq_some_iff.mp e).1 hW.2.1.1
      have h8 : (mv_fs w).length ≤ 8 := (hW.2.1.2 w (List.mem_of_getElem? e)).2.2.2.2.2.2.2.1
      have c := h2.2 v w e
      have ca : kC7 v w.1 w.2.1 w.2.2.1 w.2.2.2.1 w.2.2.2.2.1 w.2.2.2.2.2.1 w.2.2.2.2.2.2.1 σ := ⟨c.1, c.2.1, c.2.2.1, c.2.2.2.1, c.2.2.2.2.1, c.2.2.2.2.2.1, c.2.2.2.2.2.2.1⟩
      have cb : kL v w.2.2.2.2.2.2.2 σ := ⟨c.2.2.2.2.2.2.2.1, c.2.2.2.2.2.2.2.2⟩
      have ca := ca.fr F3 (fun g _ _ => by unfold kO; omega)
      have h8 : w.2.2.2.2.2.2.2.length ≤ 8 := h8
      have cb := cb.fr F3 (by unfold kO; omega) (fun g i h1 h2 h3 => by unfold kO; omega)
      exact ⟨ca.1, ca.2.1, ca.2.2.1, ca.2.2.2.1, ca.2.2.2.2.1, ca.2.2.2.2.2.1, ca.2.2.2.2.2.2, cb.1, cb.2⟩
    | inr ws =>
      rw [ho] at hp hWa
      obtain ⟨p23, p24, p18, pv⟩ := hp
      have hWa : mv_W (mi_m a).1 ws := hWa
      rw [if_pos (c := χ.1 30 0 23 = 0) p23]
      refine ma_F ma_01 (ma_lt ?_)
      have e18 : ω.1 30 0 18 = nI ws.length := (r1.i (by omega)).trans p18
      have r17 : (ae_wI ω 30 0 17 (ω.1 30 0 18)).1 30 0 17 = nI ws.length := ma_rI.trans e18
      have fr17 : ma_fr (fun g _ k => ¬ (g = 30 ∧ k = 17)) ω (ae_wI ω 30 0 17 (ω.1 30 0 18)) := ma_fwI (by simp)
      generalize ae_wI ω 30 0 17 (ω.1 30 0 18) = ω2 at r17 fr17 ⊢
      have h8 : ∀ w ∈ ws, (mv_fs w).length ≤ 8 := fun w hw => (hWa.2 w hw).2.2.2.2.2.2.2.1
      have r1b : ma_fr (fun g _ k => ¬ (g = 30 ∧ (k = 20 ∨ k = 21 ∨ k = 22 ∨ k = 17))) χ ω2 := (r1.mo (fun g i k q => by omega)).tr (fr17.mo (fun g i k q => by omega))
      have pv2 : ∀ u w, ws[u]? = some w → mv_M1 (16 + u) w ω2 := fun u w e => (pv u w e).fr r1b (fun g k _ _ => by omega)
      refine ma_mono (kv_cp hWa.1 h8 ws.length ae_fu 0 ω2 (by rw [ae_fu]; have := hWa.1; omega) (by omega) r17 pv2 (fun u w hu => by omega)) (fun x τ q => ?_)
      obtain ⟨rfl, qm, qf⟩ := q
      have F4 : ma_fr (fun g _ k => g ≠ 30 ∧ ¬ (35 ≤ g ∧ g ≤ 45) ∨ g = 30 ∧ ¬ (17 ≤ k ∧ k ≤ 31)) σ τ := ((F3.mo (fun g i k q => by unfold kO; omega)).tr (fr17.mo (fun g i k q => by omega))).tr (qf.mo (fun g i k q => by omega))
      refine ⟨rfl, ⟨h1.fr F4 (by omega) (by omega) (fun _ _ => by omega) (fun _ _ => by omega) (fun _ _ => by omega), qm, ⟨(qf.i (by omega)).trans ((fr17.i (by omega)).trans r20), fun k hk => by have hk : k < 0 := hk; omega⟩, h4.fr F4 (by omega) (fun _ => by omega), h5.fr F4 (by omega) (fun _ => by omega), ⟨(qf.i (by omega)).trans ((fr17.i (by omega)).trans (r21.trans p23)), (qf.i (by omega)).trans ((fr17.i (by omega)).trans (r22.trans p24))⟩⟩, F4.mo (fun g i k q => by omega)⟩
  have hfu : ae_fu = 4095 + 1 := rfl
  rw [hfu]
  refine ma_en (kt_ty T 0) 0 S.2.1 rfl (by omega) (by decide) (fun g => ?_) (fun g => ?_)
  · rw [if_pos (c := kt_ty T 0 = 0) g] at key
    exact key
  · rw [if_neg (c := kt_ty T 0 = 0) g] at key
    exact key
theorem mz_views : zp_views mi_I := mi_zp (fun a hW => by
  refine ⟨kv_ans (kt_of (mi_t a)) (mi_m a).1, kv_fin a (kt_of (mi_t a)), ?_, mz_viewsC hW rfl, mz_viewsM hW rfl⟩
  have hWa := kv_allW (T := kt_of (mi_t a)) (sz := (mi_m a).1) (kt_ofW hW) 17 [] 0 rfl ⟨by decide, fun w h => by simp at h⟩
  unfold kv_fin kv_res
  cases ho : kv_all (kt_of (mi_t a)) (mi_m a).1 17 [] 0 with
  | inl e => exact ⟨hW.1, hW.2.1, ⟨Nat.zero_le _, hW.2.2.1.2⟩, hW.2.2.2⟩
  | inr ws =>
    rw [ho] at hWa
    exact ⟨hW.1, hWa, ⟨Nat.zero_le _, hW.2.2.1.2⟩, hW.2.2.2⟩)
end KM
