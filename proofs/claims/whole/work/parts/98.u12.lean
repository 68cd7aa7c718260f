/-! the reference does a script -/
section KX
variable {σ τ σ0 : ae_S} {sz dn : Nat} {vs : List mv_V} {C : ks_E} {m : Nat → Int32} {T : kt_T} {a : mi_A}
theorem kx_top (hW : mv_W sz vs) (hs : sz ≤ 256) (hM : mv_M vs σ0) (h00 : σ0.1 30 0 0 = nI sz) (hC : C.length ≤ 1000) {Q : Int32 → ae_S → Prop} (hQ : ∀ (g : ka_S) (τ : ae_S), ka_to vs C (ka_0 m) g → C.length ≤ g.1 → kx_R sz σ0 g.2.2.1 g.2.2.2.2.1 g.2.2.2.2.2 τ → ma_wp (F_X12_script_159 τ) Q) : ∀ (l : List (Nat × ks_E)) (ptr : Int32) (b1 n1 : Nat) (m1 : Nat → Int32) (lv1 : List ka_L) (dn1 : Nat) (tr1 : mt_T) (σ1 : ae_S), kn_LS (kn_T vs 500 σ0) σ0 l ptr (-1) b1 → kx_at C b1 (kn_cat l) → b1 + (kn_cat l).length = C.length → l.length + 1 < n1 → tr1.1 ≤ b1 → kx_R sz σ0 m1 dn1 tr1 σ1 → σ1.1 30 0 40 = 0 → ka_to vs C (ka_0 m) (b1, [], m1, lv1, dn1, tr1) → ma_wp (F_X12_script_99 n1 ptr σ1) Q := by
  intro l
  induction l with
  | nil =>
    intro ptr b1 n1 m1 lv1 dn1 tr1 σ1 hL haL hbE hn1 ht1 R1 z1 hto
    obtain ⟨n1, rfl⟩ : ∃ k, n1 = k + 1 := ⟨n1 - 1, by omega⟩
    have hL : ptr = -1 := hL
    have hbE : b1 = C.length := hbE
    rw [F_X12_script_99]
    exact ma_T hL (hQ _ σ1 hto (by show C.length ≤ b1; omega) R1)
  | cons pp l ihl =>
    intro ptr b1 n1 m1 lv1 dn1 tr1 σ1 hL haL hbE hn1 ht1 R1 z1 hto
    obtain ⟨n1, rfl⟩ : ∃ k, n1 = k + 1 := ⟨n1 - 1, by omega⟩
    obtain ⟨p, pc⟩ := pp
    obtain ⟨rfl, hp6, ⟨d, hd, hS⟩, hL1⟩ := hL
    have hd : pc = (19, 0, 0) :: d := hd
    subst hd
    have hp6 : p < 600 := hp6
    rw [kn_catC, List.length_append] at hbE
    rw [kn_catC] at haL
    have hbE : b1 + (d.length + 1 + (kn_cat l).length) = C.length := hbE
    rw [List.length_cons] at hn1
    have ibp : ae_ib (nI p) 600 = true := ma_ib p rfl hp6 (by decide)
    rw [F_X12_script_99]
    refine ma_F (kn_nIne hp6) (ma_T z1 (ma_lt ?_))
    have h30 : σ1.1 30 0 0 = nI sz := (R1.2.2.2.2.i (by unfold kxF; omega)).trans h00
    refine ma_bd (kx_keeps (d := 0) (by omega) hs h30) (fun _ φ w => ?_)
    obtain ⟨wk, fk⟩ := w
    have R2 : kx_R sz σ0 m1 dn1 tr1 φ := ⟨R1.1, fun k hk => (fk.i (by omega)).trans (R1.2.1 k hk), (fk.i (by omega)).trans R1.2.2.1, R1.2.2.2.1.fr fk (by omega) (fun _ => by omega), R1.2.2.2.2.tr (fk.mo (fun g i k q => by unfold kxF at q; omega))⟩
    have z2 : φ.1 30 0 40 = 0 := (fk.i (by omega)).trans z1
    have K2 : kx_K sz [(m1, dn1, C.length)] φ := by
      intro i y ey
      rcases kz_app (l := []) ey with ⟨hi, _⟩ | ⟨hi, rfl⟩
      · exact absurd hi (by simp)
      · have hi : i = 0 := hi
        rw [hi]
        exact ⟨fun k hk => (wk k hk).trans (R1.2.1 k (by omega)), R1.1⟩
    have hto1 : ka_to vs C (ka_0 m) (b1 + 1, [], m1, [(m1, dn1, C.length)], dn1, tr1) := hto.tr (kx_st haL.l.h (by
      rw [ka_do19]
      rfl) (by show b1 < b1 + 1; omega) (by show b1 + 1 ≤ C.length; omega))
    have had : kx_at C (b1 + 1) d := by
      have h' : kx_at C b1 ([((19 : Int32), (0 : Int64), (0 : Int32))] ++ d) := haL.l
      exact h'.r
    rw [R1.2.2.1]
    refine ma_bd (P := fun _ τ => kx_P sz vs C σ0 [(m1, dn1, C.length)] (m1, dn1, C.length) (b1 + 1) m1 dn1 tr1 (b1 + 1 + d.length) τ) (kx_S hW hs hM h00 hC 500 0 p (b1 + 1) d 7 ae_fu [(m1, dn1, C.length)] (m1, dn1, C.length) m1 dn1 tr1 φ (by omega) (by rw [ae_fu]; omega) hS hp6 (by omega) rfl (by omega) rfl (by show b1 + 1 + d.length ≤ C.length; omega) (Nat.le_refl _) had (by omega) R2 K2 z2) (fun _ τ w => ?_)
    obtain ⟨Q2, w⟩ := w
    unfold F_X12_script_149
    rcases w with ⟨m2, dn2, tr2, t1, t2, t3, t4⟩ | ⟨t, y1, y2, y3, m2, y4⟩
    · refine ma_T t3 (ma_gd ibp (ma_lt ?_))
      rw [nI_clamp (show p < 2 ^ 31 by omega), show τ.1 50 0 p = σ0.1 50 0 p from t2.2.2.2.2.i (by unfold kxF; omega)]
      have hb2 : b1 + ((19, 0, 0) :: d : ks_E).length = b1 + 1 + d.length := by rw [List.length_cons]; omega
      have hL2 := hL1
      have haR := haL.r
      rw [hb2] at hL2 haR
      exact ihl _ (b1 + 1 + d.length) n1 m2 [(m1, dn1, C.length)] dn2 tr2 τ hL2 haR (by omega) (by omega) t4 t2 t3 (hto1.tr t1)
    · refine ma_F (by rw [y3]; exact y1) (ma_lt ?_)
      have f1 : ma_fr (fun g _ k => ¬ (g = 30 ∧ k = 43)) τ (ae_wI τ 30 0 43 (nI dn1)) := ma_fwI (by simp)
      have r43 : (ae_wI τ 30 0 43 (nI dn1)).1 30 0 43 = nI dn1 := ma_rI
      generalize ae_wI τ 30 0 43 (nI dn1) = ψ at f1 r43 ⊢
      have h30' : ψ.1 30 0 0 = nI sz := (f1.i (by omega)).trans ((y4.2.2.2.2.i (by unfold kxF; omega)).trans h00)
      refine ma_bd (kx_back (d := 0) (by omega) hs h30') (fun _ ω w => ?_)
      obtain ⟨w1, w2, w3⟩ := w
      have hrow := Q2 0 (m1, dn1, C.length) rfl
      have R3 : kx_R sz σ0 m1 dn1 (ka_tn t tr1) ω := by
        refine ⟨R1.1, fun k hk => ?_, (w3.i (by omega)).trans r43, ?_, ?_⟩
        · by_cases hk2 : k < sz
          · rw [w1 k hk2, f1.i (by omega)]
            exact hrow.1 k hk2
          · rw [w2 k (by omega), f1.i (by omega), y4.2.1 k hk, y4.1 k (by omega), R1.1 k (by omega)]
        · exact (y4.2.2.2.1.fr f1 (by omega) (fun _ => by omega)).fr w3 (by omega) (fun _ => by omega)
        · exact y4.2.2.2.2.tr ((f1.mo (fun g i k q => by unfold kxF at q; omega)).tr (w3.mo (fun g i k q => by unfold kxF at q; omega)))
      have fin : ma_wp (F_X12_script_159 ω) Q := hQ (kx_mt (m1, dn1, C.length) [(m1, dn1, C.length)] tr1 t) ω (hto1.tr y2) (Nat.le_refl _) R3
      refine ma_gd ibp (ma_lt ?_)
      obtain ⟨n1, rfl⟩ : ∃ k, n1 = k + 1 := ⟨n1 - 1, by omega⟩
      rw [F_X12_script_99]
      exact ma_if (fun _ => fin) (fun _ => ma_F (by rw [w3.i (by omega), f1.i (by omega), y3]; exact y1) fin)
theorem kx_mod (hW : mi_W a) (hT : kt_of (mi_t a) = T) (hlen : ∀ C, ks_prg T (mi_v a) 502 [] 0 = .inr C → C.length ≤ 1000) (H : mi_M a σ) : ma_wp (F_X12_script σ) (fun r τ => ∃ b, ka_res a T r b ∧ mi_M b τ ∧ ma_fr (fun g _ _ => g < 30) σ τ) := by
  have hTw := hT ▸ kt_ofW hW
  have hs : (mi_m a).1 ≤ 256 := hW.1.2.1
  have htp : km_tp T σ := hT ▸ kt_ofM hW H
  obtain ⟨h1, h2, h3, h4, h5, h6⟩ := H
  refine kn_scr hTw hW.2.1 h2 htp ?_
  cases ho : ks_prg T (mi_v a) 502 [] 0 with
  | inl e =>
    intro v τ hf hb f
    unfold F_X12_script_69
    refine ma_bd (km_isRead τ) (fun r ω q => ?_)
    obtain ⟨rfl, q1, q2, q3, q4⟩ := q
    have F : ma_fr (fun g i k => kn_G 0 g i k ∧ ¬ (g = 30 ∧ (k = 20 ∨ k = 21 ∨ k = 22))) σ ω := (f.mo (fun g i k q => q.1)).tr (q4.mo (fun g i k q => q.2))
    rw [hb.1, if_neg hf]
    refine ma_T rfl (ma_ret ⟨ka_flt a e, ?_, ⟨?_, ?_, ⟨q1, fun k hk => by have hk : k < 0 := hk; omega⟩, ?_, ?_, ⟨?_, ?_⟩⟩, ?_⟩)
    · unfold ka_res
      rw [ho]
      exact ⟨rfl, rfl⟩
    · exact h1.fr F (by unfold kn_G; omega) (by unfold kn_G; omega) (fun _ _ => by unfold kn_G; omega) (fun _ _ => by unfold kn_G; omega) (fun _ _ => by unfold kn_G; omega)
    · exact h2.fr F (by unfold kn_G; omega) (fun g k _ _ => by unfold kn_G; omega)
    · exact h4.fr F (by unfold kn_G; omega) (fun _ => by unfold kn_G; omega)
    · exact h5.fr F (by unfold kn_G; omega) (fun _ => by unfold kn_G; omega)
    · exact q2.trans hb.1
    · exact q3.trans hb.2
    · exact F.mo (fun g i k q => by unfold kn_G; omega)
  | inr C =>
    intro v τ l b23 b24 f hL hCl
    unfold F_X12_script_69
    refine ma_bd (km_isRead τ) (fun r ω q => ?_)
    obtain ⟨rfl, q1, q2, q3, q4⟩ := q
    rw [if_pos b23]
    have F : ma_fr (fun g i k => kn_G 0 g i k ∧ ¬ (g = 30 ∧ (k = 20 ∨ k = 21 ∨ k = 22))) σ ω := (f.mo (fun g i k q => q.1)).tr (q4.mo (fun g i k q => q.2))
    have M1 : mi_Mm (mi_m a) ω := h1.fr F (by unfold kn_G; omega) (by unfold kn_G; omega) (fun _ _ => by unfold kn_G; omega) (fun _ _ => by unfold kn_G; omega) (fun _ _ => by unfold kn_G; omega)
    refine ma_F ma_01 (ma_bd (mb_begins hs M1) (fun _ χ q5 => ?_))
    obtain ⟨N1, f5⟩ := q5
    refine ma_lt (ma_lt (ma_lt ?_))
    have f6 : ma_fr (fun g _ k => ¬ (g = 30 ∧ (k = 40 ∨ k = 41 ∨ k = 43))) χ (ae_wI (ae_wI (ae_wI χ 30 0 40 0) 30 0 41 0) 30 0 43 0) := (ma_fwI (by simp)).tr ((ma_fwI (by simp)).tr (ma_fwI (by simp)))
    have r40 : (ae_wI (ae_wI (ae_wI χ 30 0 40 0) 30 0 41 0) 30 0 43 0).1 30 0 40 = 0 := (ma_rIn (by simp)).trans ((ma_rIn (by simp)).trans ma_rI)
    have r41 : (ae_wI (ae_wI (ae_wI χ 30 0 40 0) 30 0 41 0) 30 0 43 0).1 30 0 41 = nI 0 := (ma_rIn (by simp)).trans ma_rI
    have r43 : (ae_wI (ae_wI (ae_wI χ 30 0 40 0) 30 0 41 0) 30 0 43 0).1 30 0 43 = nI 0 := ma_rI
    generalize ae_wI (ae_wI (ae_wI χ 30 0 40 0) 30 0 41 0) 30 0 43 0 = ρ at f6 r40 r41 r43 ⊢
    have G : ma_fr (fun g _ k => ¬ (g = 30 ∧ (k = 20 ∨ k = 21 ∨ k = 22 ∨ k = 40 ∨ k = 41 ∨ k = 43)) ∧ g ≠ 32) τ ρ := (q4.mo (fun g i k q => by omega)).tr ((f5.mo (fun g i k q => by omega)).tr (f6.mo (fun g i k q => by omega)))
    have GG : ma_fr (fun g i k => kn_G 0 g i k ∧ ¬ (g = 30 ∧ (k = 20 ∨ k = 21 ∨ k = 22 ∨ k = 40 ∨ k = 41 ∨ k = 43)) ∧ g ≠ 32) σ ρ := (f.mo (fun g i k q => q.1)).tr (G.mo (fun g i k q => q.2))
    have nd : kn_nd τ ρ := fun k => ⟨G.i (by omega), G.i (by omega), G.i (by omega), G.i (by omega), G.l (by omega), G.d (by omega)⟩
    have hM0 : mv_M (mi_v a) ρ := h2.fr GG (by unfold kn_G; omega) (fun g k _ _ => by unfold kn_G; omega)
    have N2 : mb_N (mi_m a).1 (mi_m a).2.1 (mi_m a).2.1 (mi_m a).2.2.2 ρ := N1.fr f6 (by omega) (by omega) (fun _ _ => by omega) (fun _ _ => by omega) (fun _ _ => by omega)
    have hC := hlen C ho
    have hl : l.length ≤ (kn_cat l).length := kn_LSl (fun u b c h => by
      obtain ⟨d, rfl, _⟩ := h
      rw [List.length_cons]
      omega) l _ _ _ (hL ρ nd)
    have R0 : kx_R (mi_m a).1 ρ (mi_m a).2.1 0 (0, fun _ => 0) ρ := ⟨hW.1.2.2.2.2.1, N2.2.1, r43, ⟨r41, fun k hk => by have hk : k < 0 := hk; omega⟩, ma_fr.rf⟩
    refine kx_top (m := (mi_m a).2.1) hW.2.1 hs hM0 N2.1 hC (fun g ψ hto hg R => ?_) l v 0 ae_fu (mi_m a).2.1 [] 0 (0, fun _ => 0) ρ (hL ρ nd) (fun i t e => by rw [Nat.zero_add, hCl]; exact e) (by rw [Nat.zero_add, hCl]) (by rw [ae_fu]; rw [← hCl] at hl; omega) (by simp) R0 r40 ka_to.rf
    unfold F_X12_script_159
    have N3 : mb_N (mi_m a).1 g.2.2.1 (mi_m a).2.1 (mi_m a).2.2.2 ψ := ⟨(R.2.2.2.2.i (by unfold kxF; omega)).trans N2.1, R.2.1, fun k hk => (R.2.2.2.2.i (by unfold kxF; omega)).trans (N2.2.2.1 k hk), (R.2.2.2.2.i (by unfold kxF; omega)).trans N2.2.2.2.1, fun j m e k hk => (R.2.2.2.2.i (by unfold kxF; omega)).trans (N2.2.2.2.2 j m e k hk)⟩
    refine ma_bd (mb_ends (kp := 1) hs hW.1.2.2.1 N3) (fun _ ξ q7 => ma_ret ⟨ka_fin a g, ?_, ⟨?_, ?_, ⟨?_, fun k hk => by have hk : k < 0 := hk; omega⟩, ?_, ?_, ⟨?_, ?_⟩⟩, ?_⟩)
    · unfold ka_res
      rw [ho]
      exact ⟨g, hto, hg, (q7.2.i (by omega)).trans R.2.2.1, rfl⟩
    · exact q7.1
    · exact (kx_mv hM0 R.2.2.2.2).fr q7.2 (by omega) (fun g k _ _ => by omega)
    · exact (q7.2.i (by omega)).trans ((R.2.2.2.2.i (by unfold kxF; omega)).trans ((f6.i (by omega)).trans ((f5.i (by omega)).trans q1)))
    · exact ((h4.fr GG (by unfold kn_G; omega) (fun _ => by unfold kn_G; omega)).fr R.2.2.2.2 (by unfold kxF; omega) (fun _ => by unfold kxF; omega)).fr q7.2 (by omega) (fun _ => by omega)
    · exact R.2.2.2.1.fr q7.2 (by omega) (fun _ => by omega)
    · exact (q7.2.i (by omega)).trans ((R.2.2.2.2.i (by unfold kxF; omega)).trans ((f6.i (by omega)).trans ((f5.i (by omega)).trans (q2.trans b23))))
    · exact (q7.2.i (by omega)).trans ((R.2.2.2.2.i (by unfold kxF; omega)).trans ((f6.i (by omega)).trans ((f5.i (by omega)).trans (q3.trans b24))))
    · exact (GG.mo (fun g i k q => by unfold kn_G; omega)).tr ((R.2.2.2.2.mo (fun g i k q => by unfold kxF; omega)).tr (q7.2.mo (fun g i k q => by omega)))
/-- scripts: class and reference answer alike -/
theorem mz_script : zp_script mi_I := fun σ h => by
  obtain ⟨a, hW, hC, hM⟩ := h
  have hlen : ∀ C, ks_prg (kt_of (mi_t a)) (mi_v a) 502 [] 0 = .inr C → C.length ≤ 1000 := by
    intro C ho
    have hTw := kt_ofW hW
    have htp := kt_ofC hW hC
    obtain ⟨p, Hp⟩ := hC.2.1
    have hf8 : ∀ w ∈ mi_v a, (mv_fs w).length ≤ 8 := fun w hw => (hW.2.1.2 w hw).2.2.2.2.2.2.2.1
    obtain ⟨_, τ, _, s⟩ := kt_scan (D := 9) hTw (by decide) htp
    obtain ⟨r, υ, _, q⟩ := kz_comp hTw hW.2.1.1 hf8 s.1 (Hp.fr s.2 (fun _ => by omega) (fun _ _ => by omega) (fun _ _ => by omega) (fun _ _ => by omega) (fun _ _ => by omega))
    rw [ho] at q
    exact q.2.1
  obtain ⟨r, _, _, b, hr, _⟩ := kx_mod hW rfl hlen hM
  obtain ⟨x, σ1, e1, rfl, hWb, hCb, f1⟩ := ka_cls hW rfl hr σ hC
  obtain ⟨y, σ2, e2, b2, hr2, hMb, f2⟩ := kx_mod hW rfl hlen (hM.fr f1)
  obtain ⟨rfl, rfl⟩ := ka_resU hr hr2
  exact ⟨x, σ1, σ2, e1, e2, b, hWb, hCb.fr f2, hMb⟩
end KX
