/-! the class reads all views -/
section
variable {T : kt_T} {sz : Nat}
def kI (p : Nat) (g : Nat) (i : Fin 32) (k : Nat) : Prop := ¬ (g = 12 ∧ k = 6) ∧ ¬ (8 ≤ g ∧ g ≤ 11 ∧ i.val / 16 = 1 - p) ∧ g ≠ 6
theorem kv_bnl {α β : Type} {o : kv_O α} {f : α → kv_O β} {e : Int32 × Nat} (h : o = .inl e) : kv_bn o f = .inl e := by rw [h]; rfl
theorem kv_allC (hT : kt_W T) (hs : sz ≤ 256) {p : Nat} : ∀ (m n : Nat) (vs : List mv_V) (j : Nat) (σ : ae_S), vs.length + m = 17 → vs.length ≤ 16 → m ≤ n → kP_C T p vs j σ → σ.2.2.2 6 0 0 = some (7, Fin.ofNat 32 p) → ma_wp (F_X10_tellAll_9 n (nI sz) (nI vs.length) σ) (fun r τ => kv_po (kv_all T sz m vs j) (fun f q => r = 0 ∧ kc_bad f q τ ∧ ma_fr (kHW p) σ τ) (fun ws => r = 1 ∧ mv_Cp (1 - p) ws τ ∧ ma_fr (kI p) σ τ)) := by
  intro m
  induction m with
  | zero => intro n vs j σ h1 h2; omega
  | succ m ih =>
    intro n vs j σ h1 h2 hn H h0
    obtain ⟨n, rfl⟩ : ∃ n2, n = n2 + 1 := ⟨n - 1, by omega⟩
    unfold F_X10_tellAll_9 kv_all
    refine ma_ls 16 vs.length rfl rfl (by decide) (by omega) (fun q => by omega) (fun q => ?_)
    refine ma_be (kc_end H.1) ?_
    by_cases he : kt_ty T j = 0
    · rw [if_pos (c := kt_ty T j = 0) he, decide_eq_true he]
      refine ma_F (by decide) (ma_bd (P := fun _ τ => mv_Cp (1 - p) vs τ ∧ ma_fr (kI p) σ τ) ?_ (fun _ τ q => ma_ret (kv_por ⟨rfl, q⟩)))
      obtain ⟨HS, hp, g1, g3, hv⟩ := H
      unfold F_X6_takeComing
      have e : 1 - (1 - p) = p := by omega
      refine ma_mo h0 (ma_mo g1 (ma_lt (ma_lt (ma_lt (ma_ret ⟨⟨by omega, ?_, ?_, ?_, fun v w e => ?_⟩, ?_⟩)))))
      · show (ae_wR (ae_wR σ 6 0 0 _) 6 0 1 _).2.2.2 6 0 0 = _
        rw [ma_rRn (by simp), ma_rR]
      · show (ae_wR (ae_wR σ 6 0 0 _) 6 0 1 _).2.2.2 6 0 1 = _
        rw [ma_rR, e]
      · rw [ma_rI]; exact g3
      · have f : ma_fr (fun g _ _ => g ≠ 6) σ (ae_wI (ae_wR (ae_wR σ 6 0 0 (some (7, Fin.ofNat 32 (1 - p)))) 6 0 1 (some (7, Fin.ofNat 32 p))) 6 0 2 ((ae_wR (ae_wR σ 6 0 0 (some (7, Fin.ofNat 32 (1 - p)))) 6 0 1 (some (7, Fin.ofNat 32 p))).1 6 0 3)) := (ma_fwR (by simp)).tr ((ma_fwR (by simp)).tr (ma_fwI (by simp)))
        exact (hv v w e).fr f (fun _ => by decide) (fun _ => by decide) (fun _ => by decide) (fun _ => by decide)
      · exact (ma_fwR (by unfold kI; simp)).tr ((ma_fwR (by unfold kI; simp)).tr (ma_fwI (by unfold kI; simp)))
    · rw [if_neg (c := kt_ty T j = 0) he, decide_eq_false he]
      refine ma_T rfl (ma_bd (kv_viewC hT hs h2 H) (fun r τ q => ?_))
      cases ho : kv_view T sz vs j with
      | inl e =>
        obtain ⟨f, z⟩ := e
        rw [ho] at q
        obtain ⟨rfl, q⟩ := q
        exact ma_T rfl (ma_ret ⟨rfl, q⟩)
      | inr x =>
        rw [ho] at q
        obtain ⟨rfl, f, hl, H2⟩ := q
        have e1 : nI vs.length + 1 = nI (vs ++ [x.1]).length := by
          rw [List.length_append, List.length_singleton]
          exact nI_1 vs.length
        refine ma_F ma_01 (ma_lt ?_)
        rw [e1]
        have h02 : τ.2.2.2 6 0 0 = some (7, Fin.ofNat 32 p) := (f.r (by unfold kH; simp)).trans h0
        have l2 : (vs ++ [x.1]).length = vs.length + 1 := by rw [List.length_append, List.length_singleton]
        refine ma_mono (ih n (vs ++ [x.1]) x.2 τ (by omega) (by omega) (by omega) H2 h02) (fun r υ q2 => ?_)
        show kv_po (kv_all T sz m (vs ++ [x.1]) x.2) _ _
        cases ho2 : kv_all T sz m (vs ++ [x.1]) x.2 with
        | inl e =>
          rw [ho2] at q2
          exact ⟨q2.1, q2.2.1, (f.mo (fun g i k q => by unfold kHW at q; unfold kH; exact ⟨by omega, q.2.1, q.2.2⟩)).tr q2.2.2⟩
        | inr ws =>
          rw [ho2] at q2
          exact ⟨q2.1, q2.2.1, (f.mo (fun g i k q => by unfold kI at q; unfold kH; exact ⟨q.1, q.2.1, by omega⟩)).tr q2.2.2⟩
/-- views told to the class -/
def kv_res {α : Type} (a : mi_A) (o : kv_O α) (f : α → mi_A) : mi_A := match o with
  | .inl e => (a.1, a.2.1, (0, (mi_t a).2), a.2.2.2.1, a.2.2.2.2.1, (e.1, nI e.2))
  | .inr x => f x
def kv_fin (a : mi_A) (T : kt_T) : mi_A := kv_res a (kv_all T (mi_m a).1 17 [] 0) (fun ws => (a.1, ws, (0, (mi_t a).2), a.2.2.2.1, a.2.2.2.2.1, (0, -1)))
def kv_ans (T : kt_T) (sz : Nat) : Int32 := match kv_all T sz 17 [] 0 with
  | .inl _ => -1
  | .inr ws => nI ws.length
theorem mz_viewsC {a : mi_A} (hW : mi_W a) (hT : kt_of (mi_t a) = T) : mi_c F_X11_views a (kv_ans T (mi_m a).1) (kv_fin a T) := fun σ H => by
  have hTw := hT ▸ kt_ofW hW
  have hs : (mi_m a).1 ≤ 256 := hW.1.2.1
  have htp : kt_tp T σ := hT ▸ kt_ofC hW H
  obtain ⟨h1, h2, h3, h4, h5, h6⟩ := H
  unfold F_X11_views F_X11_views_51
  refine ma_bd (P := fun _ τ => τ.1 12 0 7 = 0 ∧ τ.1 12 0 8 = -1 ∧ ma_fr (fun g _ k => ¬ (g = 12 ∧ (k = 7 ∨ k = 8))) σ τ) ?_ (fun _ τ0 q0 => ?_)
  · unfold F_X8_forgetFault
    refine ma_lt (ma_lt (ma_ret ⟨?_, ma_rI, (ma_fwI (by simp)).tr (ma_fwI (by simp))⟩))
    rw [ma_rIn (by simp), ma_rI]
  have htp0 : kt_tp T τ0 := ⟨(q0.2.2.i (by simp)).trans htp.1, fun k hk => (q0.2.2.i (by simp)).trans (htp.2 k hk)⟩
  refine ma_bd (kt_scan (D := 3) hTw (by decide) htp0) (fun _ τ s => ?_)
  refine ma_be (r := ()) (s := ae_wI τ 1 0 1 0) (ma_eq ?_) ?_
  · unfold F_X7_cut
    exact ma_gd (by decide) (ma_lt (ma_ret ⟨rfl, rfl⟩))
  have f1 : ma_fr (fun g j k => ¬ (g = 1 ∧ j = 0 ∧ k = 1)) τ (ae_wI τ 1 0 1 0) := ma_fwI (by simp)
  have S1 : kt_St T 3 0 (ae_wI τ 1 0 1 0) := s.1.fr f1 (by simp) (by simp) (fun _ _ => by simp) (fun _ => by simp)
  have c0 : (ae_wI τ 1 0 1 0).1 1 0 1 = 0 := ma_rI
  have c7 : (ae_wI τ 1 0 1 0).1 12 0 7 = 0 := by rw [ma_rIn (by simp), s.2.i (by simp)]; exact q0.1
  have c8 : (ae_wI τ 1 0 1 0).1 12 0 8 = -1 := by rw [ma_rIn (by simp), s.2.i (by simp)]; exact q0.2.1
  have f2 : ma_fr (fun g j k => ¬ (g = 1 ∧ j = 0 ∧ k = 1) ∧ g ≠ 12 ∧ g ≠ 13 ∧ g ≠ 14) σ (ae_wI τ 1 0 1 0) := ((q0.2.2.mo (fun g i k q => by omega)).tr (s.2.mo (fun g i k q => by omega))).tr (f1.mo (fun g i k q => q.1))
  generalize ae_wI τ 1 0 1 0 = υ at S1 f2 c0 c7 c8 ⊢
  have hm : mi_Cm (mi_m a) υ := h1.fr f2 (fun _ _ => by omega) (fun _ _ => by omega)
  have hz : F_X0_size υ = some (nI (mi_m a).1, υ) := by
    unfold F_X0_size
    rw [hm.1]
  refine ma_be hz ?_
  unfold F_X10_tellAll
  have hbd : ∀ {α β γ : Type} (x : Option (α × ae_S)) (f : α → ae_S → Option (β × ae_S)) (g : β → ae_S → Option (γ × ae_S)), ae_bd (ae_bd x f) g = ae_bd x (fun a s => ae_bd (f a s) g) := fun x f g => by cases x <;> rfl
  rw [hbd]
  refine ma_bd (P := fun _ τ => τ.1 6 0 3 = 0 ∧ ma_fr (fun g _ k => ¬ (g = 6 ∧ k = 3)) υ τ) ?_ (fun _ τ2 q2 => ?_)
  · unfold F_X6_startComing
    exact ma_lt (ma_ret ⟨ma_rI, ma_fwI (by simp)⟩)
  obtain ⟨p, Hp⟩ := h2
  have f3 : ma_fr (fun g j k => ¬ (g = 1 ∧ j = 0 ∧ k = 1) ∧ g ≠ 12 ∧ g ≠ 13 ∧ g ≠ 14 ∧ ¬ (g = 6 ∧ k = 3)) σ τ2 := (f2.mo (fun g i k q => by omega)).tr (q2.2.mo (fun g i k q => by omega))
  have d0 : τ2.1 1 0 1 = 0 := (q2.2.i (by simp)).trans c0
  have d7 : τ2.1 12 0 7 = 0 := (q2.2.i (by simp)).trans c7
  have d8 : τ2.1 12 0 8 = -1 := (q2.2.i (by simp)).trans c8
  have S2 : kt_St T 3 0 τ2 := S1.fr q2.2 (by simp) (by simp) (fun _ _ => by simp) (fun _ => by simp)
  have hK : kP_C T p [] 0 τ2 := ⟨S2, Hp.1, (f3.r (by simp)).trans Hp.2.2.1, q2.1, fun v w e => by simp at e⟩
  refine ma_bd (kv_allC hTw hs 17 ae_fu [] 0 τ2 rfl (by decide) (by decide) hK ((f3.r (by simp)).trans Hp.2.1)) (fun r ψ q => ?_)
  unfold kv_ans kv_fin kv_res
  cases ho : kv_all T (mi_m a).1 17 [] 0 with
  | inl e =>
    rw [ho] at q
    obtain ⟨rfl, hb, f⟩ := q
    refine ma_T rfl (ma_ret ⟨rfl, ⟨?_, ⟨p, ?_⟩, ⟨?_, fun k hk => by have hk : k < 0 := hk; omega⟩, ?_, ?_, ?_⟩, ?_⟩)
    · exact (h1.fr f3 (fun _ _ => by omega) (fun _ _ => by omega)).fr f (fun _ _ => by unfold kHW; omega) (fun _ _ => by unfold kHW; omega)
    · have Hq : mv_Cp p (mi_v a) τ2 := ⟨Hp.1, (f3.r (by simp)).trans Hp.2.1, (f3.r (by simp)).trans Hp.2.2.1, (f3.i (by simp)).trans Hp.2.2.2.1, fun v w e => (Hp.2.2.2.2 v w e).fr f3 (fun _ => by simp) (fun _ => by simp) (fun _ => by simp) (fun _ => by simp)⟩
      refine ⟨Hq.1, (f.r (by unfold kHW; simp)).trans Hq.2.1, (f.r (by unfold kHW; simp)).trans Hq.2.2.1, (f.i (by unfold kHW; simp)).trans Hq.2.2.2.1, fun v w e => ?_⟩
      have hv : v < 16 := Nat.lt_of_lt_of_le (List.getElem?_eq_some_iff.mp e).1 hW.2.1.1
      have hj := kv_atV Hp.1 hv
      have hd : (mv_at p v).val / 16 = p := by omega
      have hp := Hp.1
      exact (Hq.2.2.2.2 v w e).fr f (fun _ => by unfold kHW; rw [hd]; omega) (fun _ => by unfold kHW; rw [hd]; omega) (fun _ => by unfold kHW; rw [hd]; omega) (fun _ => by unfold kHW; rw [hd]; omega)
    · exact (f.i (by unfold kHW; simp)).trans d0
    · exact (h4.fr f3 (by simp) (fun _ => by simp)).fr f (by unfold kHW; simp) (fun _ => by unfold kHW; simp)
    · exact (h5.fr f3 (by simp) (fun _ => by simp)).fr f (by unfold kHW; simp) (fun _ => by unfold kHW; simp)
    · exact ⟨hb.1, hb.2⟩
    · exact (f3.mo (fun g i k q => by omega)).tr (f.mo (fun g i k q => by unfold kHW; omega))
  | inr ws =>
    rw [ho] at q
    obtain ⟨rfl, hb, f⟩ := q
    refine ma_F ma_01 (ma_be (s := ψ) (r := nI ws.length) ?_ (ma_ret ⟨rfl, ⟨?_, ⟨1 - p, hb⟩, ⟨?_, fun k hk => by have hk : k < 0 := hk; omega⟩, ?_, ?_, ?_⟩, ?_⟩))
    · unfold F_X6_count
      rw [hb.2.2.2.1]
    · exact (h1.fr f3 (fun _ _ => by omega) (fun _ _ => by omega)).fr f (fun _ _ => by unfold kI; omega) (fun _ _ => by unfold kI; omega)
    · exact (f.i (by unfold kI; simp)).trans d0
    · exact (h4.fr f3 (by simp) (fun _ => by simp)).fr f (by unfold kI; simp) (fun _ => by unfold kI; simp)
    · exact (h5.fr f3 (by simp) (fun _ => by simp)).fr f (by unfold kI; simp) (fun _ => by unfold kI; simp)
    · exact ⟨(f.i (by unfold kI; simp)).trans d7, (f.i (by unfold kI; simp)).trans d8⟩
    · exact (f3.mo (fun g i k q => by omega)).tr (f.mo (fun g i k q => by unfold kI; omega))
end
