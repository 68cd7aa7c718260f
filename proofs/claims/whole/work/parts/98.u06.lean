/-! the class does a script -/
section KA
variable {T : kt_T} {a : mi_A} {C : ks_E}
noncomputable def ka_fin (a : mi_A) (g : ka_S) : mi_A := (((mi_m a).1, g.2.2.1, (mi_m a).2.1, mb_kp (mi_m a).1 g.2.2.1 (mi_m a).2.1 (mi_m a).2.2.2), mi_v a, (0, (mi_t a).2), mi_s a, g.2.2.2.2.2, (0, -1))
def ka_flt (a : mi_A) (e : Int32 × Nat) : mi_A := (a.1, a.2.1, (0, (mi_t a).2), a.2.2.2.1, a.2.2.2.2.1, (e.1, nI e.2))
/-- what it comes to -/
def ka_res (a : mi_A) (T : kt_T) (r : Int32) (b : mi_A) : Prop := kv_po (ks_prg T (mi_v a) 502 [] 0) (fun f q => r = -1 ∧ b = ka_flt a (f, q)) (fun C => ∃ g, ka_to (mi_v a) C (ka_0 (mi_m a).2.1) g ∧ C.length ≤ g.1 ∧ r = nI g.2.2.2.2.1 ∧ b = ka_fin a g)
theorem ka_resU {r r2 : Int32} {b b2 : mi_A} (h : ka_res a T r b) (g : ka_res a T r2 b2) : r = r2 ∧ b = b2 := by
  unfold ka_res at h g
  cases e : ks_prg T (mi_v a) 502 [] 0 with
  | inl q =>
    rw [e] at h g
    exact ⟨h.1.trans g.1.symm, h.2.trans g.2.symm⟩
  | inr C =>
    rw [e] at h g
    obtain ⟨x, ⟨k, h1⟩, h2, h3, h4⟩ := h
    obtain ⟨y, ⟨n, g1⟩, g2, g3, g4⟩ := g
    have st : ∀ z : ka_S, C.length ≤ z.1 → ka_step (mi_v a) C z = none := fun z hz => by
      unfold ka_step
      rw [List.getElem?_eq_none hz]
      rfl
    have := ka_det k n _ x y h1 g1 (st x h2) (st y g2)
    subst this
    exact ⟨h3.trans g3.symm, h4.trans g4.symm⟩
theorem ka_cls (hW : mi_W a) (hT : kt_of (mi_t a) = T) {r : Int32} {b : mi_A} (hr : ka_res a T r b) : ∀ σ, mi_C a σ → ma_wp (F_X11_script σ) (fun x τ => x = r ∧ mi_W b ∧ mi_C b τ ∧ ma_fr (fun g _ _ => 30 ≤ g) σ τ) := fun σ H => by
  have hTw := hT ▸ kt_ofW hW
  have hs : (mi_m a).1 ≤ 256 := hW.1.2.1
  have htp : kt_tp T σ := hT ▸ kt_ofC hW H
  obtain ⟨h1, h2, h3, h4, h5, h6⟩ := H
  unfold F_X11_script
  refine ma_bd (P := fun _ τ => τ.1 12 0 7 = 0 ∧ τ.1 12 0 8 = -1 ∧ ma_fr (fun g _ k => ¬ (g = 12 ∧ (k = 7 ∨ k = 8))) σ τ) ?_ (fun _ τ0 q0 => ?_)
  · unfold F_X8_forgetFault
    refine ma_lt (ma_lt (ma_ret ⟨?_, ma_rI, (ma_fwI (by simp)).tr (ma_fwI (by simp))⟩))
    rw [ma_rIn (by simp), ma_rI]
  have htp0 : kt_tp T τ0 := ⟨(q0.2.2.i (by simp)).trans htp.1, fun k hk => (q0.2.2.i (by simp)).trans (htp.2 k hk)⟩
  refine ma_bd (kt_scan (D := 9) hTw (by decide) htp0) (fun _ τ s => ?_)
  refine ma_be (r := ()) (s := ae_wI τ 1 0 1 0) (ma_eq ?_) ?_
  · unfold F_X7_cut
    exact ma_gd (by decide) (ma_lt (ma_ret ⟨rfl, rfl⟩))
  have f1 : ma_fr (fun g j k => ¬ (g = 1 ∧ j = 0 ∧ k = 1)) τ (ae_wI τ 1 0 1 0) := ma_fwI (by simp)
  have S1 : kt_St T 9 0 (ae_wI τ 1 0 1 0) := s.1.fr f1 (by simp) (by simp) (fun _ _ => by simp) (fun _ => by simp)
  have c0 : (ae_wI τ 1 0 1 0).1 1 0 1 = 0 := ma_rI
  have c7 : (ae_wI τ 1 0 1 0).1 12 0 7 = 0 := by rw [ma_rIn (by simp), s.2.i (by simp)]; exact q0.1
  have c8 : (ae_wI τ 1 0 1 0).1 12 0 8 = -1 := by rw [ma_rIn (by simp), s.2.i (by simp)]; exact q0.2.1
  have f2 : ma_fr (fun g j k => ¬ (g = 1 ∧ j = 0 ∧ k = 1) ∧ g ≠ 12 ∧ g ≠ 13 ∧ g ≠ 14) σ (ae_wI τ 1 0 1 0) := ((q0.2.2.mo (fun g i k q => by omega)).tr (s.2.mo (fun g i k q => by omega))).tr (f1.mo (fun g i k q => q.1))
  generalize ae_wI τ 1 0 1 0 = υ at S1 f2 c0 c7 c8 ⊢
  obtain ⟨p, Hp⟩ := h2
  have Hq : mv_Cp p (mi_v a) υ := Hp.fr f2 (fun _ => by simp) (fun _ _ => by simp) (fun _ _ => by simp) (fun _ _ => by simp) (fun _ _ => by simp)
  have hf8 : ∀ w ∈ mi_v a, (mv_fs w).length ≤ 8 := fun w hw => (hW.2.1.2 w hw).2.2.2.2.2.2.2.1
  refine ma_bd (kz_comp hTw hW.2.1.1 hf8 S1 Hq) (fun x ψ q => ?_)
  unfold ka_res at hr
  cases ho : ks_prg T (mi_v a) 502 [] 0 with
  | inl e =>
    rw [ho] at q hr
    obtain ⟨rfl, hb, f⟩ := q
    obtain ⟨rfl, rfl⟩ := hr
    refine ma_T rfl (ma_ret ⟨rfl, ⟨hW.1, hW.2.1, ⟨by show 0 ≤ 500; omega, hW.2.2.1.2⟩, hW.2.2.2⟩, ⟨?_, ⟨p, ?_⟩, ⟨?_, fun k hk => by have hk : k < 0 := hk; omega⟩, ?_, ?_, ?_⟩, ?_⟩)
    · exact (h1.fr f2 (fun _ _ => by omega) (fun _ _ => by omega)).fr f (fun _ _ => by unfold kzG; omega) (fun _ _ => by unfold kzG; omega)
    · exact Hq.fr f (fun _ => by unfold kzG; omega) (fun _ _ => by unfold kzG; omega) (fun _ _ => by unfold kzG; omega) (fun _ _ => by unfold kzG; omega) (fun _ _ => by unfold kzG; omega)
    · exact (f.i (by unfold kzG; omega)).trans c0
    · exact (h4.fr f2 (by simp) (fun _ => by simp)).fr f (by unfold kzG; omega) (fun _ => by unfold kzG; omega)
    · exact (h5.fr f2 (by simp) (fun _ => by simp)).fr f (by unfold kzG; omega) (fun _ => by unfold kzG; omega)
    · exact ⟨hb.1, hb.2⟩
    · exact (f2.mo (fun g i k q => by omega)).tr (f.mo (fun g i k q => by unfold kzG; omega))
  | inr C =>
    rw [ho] at q hr
    obtain ⟨rfl, hC, Hcd, Hv, f⟩ := q
    obtain ⟨g, hto, hg, rfl, rfl⟩ := hr
    have hm1 : mi_Cm (mi_m a) ψ := (h1.fr f2 (fun _ _ => by omega) (fun _ _ => by omega)).fr f (fun _ _ => by unfold kzF; omega) (fun _ _ => by unfold kzF; omega)
    refine ma_F ma_01 (ma_bd (mb_begin hm1) (fun _ χ q3 => ?_))
    obtain ⟨hm2, f3⟩ := q3
    have Hcd3 : kz_cd C χ := Hcd.fr f3 (fun g i k w1 w2 => by omega)
    have Hv3 : mv_Cp p (mi_v a) χ := Hv.fr f3 (fun _ => by omega) (fun _ _ => by omega) (fun _ _ => by omega) (fun _ _ => by omega) (fun _ _ => by omega)
    refine ma_bd (ka_run hW.2.1 hs hC hW.1.2.2.2.1 hW.1.2.2.2.2.1 hg hto Hcd3 Hv3 hm2.2.1) (fun r ω q4 => ?_)
    obtain ⟨rfl, gW, gR, gM, gV, f4, gT⟩ := q4
    have hm4 : mb_C (mi_m a).1 g.2.2.1 (mi_m a).2.1 (mi_m a).2.2.2 ω := by
      obtain ⟨m1, m2, m3, o, ho2, m4, m5, m6⟩ := hm2
      refine ⟨(f4.i (by unfold kaF; omega)).trans m1, gM, fun k hk => (f4.i (by unfold kaF; simp)).trans (m3 k hk), o, ho2, (f4.i (by unfold kaF; omega)).trans m4, (f4.i (by unfold kaF; omega)).trans m5, fun j m e k hk => (f4.i ?_).trans (m6 j m e k hk)⟩
      have hv : (Fin.ofNat 32 ((o + j) % 8 + 2)).val = (o + j) % 8 + 2 := mv_val (by omega)
      refine ⟨by omega, by omega, by omega, by omega, by omega, fun w => ?_⟩
      rcases w.2 with w2 | w2
      · have := mb_fin (b := 0) (by omega) (by omega) w2
        omega
      · rw [hv] at w2
        omega
    refine ma_bd (mb_keepC hs hW.1.2.2.1 hm4) (fun _ ξ q5 => ma_ret ⟨rfl, ?_, ?_, ?_⟩)
    · exact ⟨hW.1.com gW.1 gW.2.1, hW.2.1, ⟨by show 0 ≤ 500; omega, hW.2.2.1.2⟩, hW.2.2.2.1, by show g.2.2.2.2.2.1 < 2 ^ 30; omega⟩
    · have F : ma_fr (fun g _ k => ¬ (g = 21 ∧ 9 ≤ k) ∧ g ≠ 22 ∧ g ≠ 23 ∧ g ≠ 25 ∧ g ≠ 26 ∧ g ≠ 3 ∧ g ≠ 4 ∧ ¬ (g = 12 ∧ k = 6) ∧ ¬ (15 ≤ g ∧ g ≤ 17) ∧ ¬ (g = 19 ∧ 6 ≤ k ∧ k ≤ 8) ∧ g ≠ 20) υ ξ := ((f.mo (fun g i k w => by unfold kzF; omega)).tr (f3.mo (fun g i k w => by omega))).tr ((f4.mo (fun g i k w => by unfold kaF; omega)).tr (q5.2.mo (fun g i k w => by omega)))
      refine ⟨q5.1, ⟨p, gV.fr q5.2 (fun _ => by omega) (fun _ _ => by omega) (fun _ _ => by omega) (fun _ _ => by omega) (fun _ _ => by omega)⟩, ⟨(F.i (by omega)).trans c0, fun k hk => by have hk : k < 0 := hk; omega⟩, ?_, ?_, ?_⟩
      · exact (h4.fr f2 (by simp) (fun _ => by simp)).fr F (by omega) (fun _ => by omega)
      · exact gR.fr q5.2 (by omega) (fun _ => by omega)
      · exact ⟨(F.i (by omega)).trans c7, (F.i (by omega)).trans c8⟩
    · exact ((f2.mo (fun g i k q => by omega)).tr ((f.mo (fun g i k w => by unfold kzF; omega)).tr (f3.mo (fun g i k w => by omega)))).tr ((f4.mo (fun g i k w => by unfold kaF; omega)).tr (q5.2.mo (fun g i k w => by omega)))
end KA
