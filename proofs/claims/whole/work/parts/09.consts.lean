/-! the constants: the enum's, the Strings' -/
theorem ae_fo (i : Fin 32) : Fin.ofNat 32 i.val = i := Fin.ext (Nat.mod_eq_of_lt i.isLt)
def ae_kNum (i : Fin 32) : Int32 := ([0, 1, 2, 3, 4, 5, 6, 7, 8] : List Int32).getD i.val 0
def ae_kByt (i : Fin 32) : Int32 := ([1, 1, 2, 2, 4, 4, 8, 4, 8] : List Int32).getD i.val 0
def ae_kSgn (i : Fin 32) : Int32 := ([0, 1, 0, 1, 0, 1, 1, 1, 1] : List Int32).getD i.val 0
def ae_kFlo (i : Fin 32) : Int32 := ([0, 0, 0, 0, 0, 0, 0, 1, 1] : List Int32).getD i.val 0
def ae_sln (i : Fin 32) : Nat := (ae_sx.getD i.val []).length
def ae_sch (i : Fin 32) (j : Nat) : Int32 := (ae_sx.getD i.val []).getD j 0
theorem ae_slnE (i : Fin 32) : (ae_sx.map List.length).getD i.val 0 = ae_sln i := by
  unfold ae_sln
  rw [List.getD_eq_getElem?_getD, List.getD_eq_getElem?_getD, List.getElem?_map]
  cases ae_sx[i.val]? <;> rfl
theorem ae_schA : ae_sx.all (fun l => l.all (fun b => decide (((b &&& 255).toUInt32 % 65536).toInt32 = b))) = true := by decide +kernel
theorem ae_schE {i : Fin 32} {j : Nat} (h : j < ae_sln i) : ((ae_sch i j &&& 255).toUInt32 % 65536).toInt32 = ae_sch i j := by
  unfold ae_sch ae_sln at *
  cases hl : ae_sx[i.val]? with
  | none =>
    have hx : ae_sx.getD i.val [] = [] := by rw [List.getD_eq_getElem?_getD, hl]; rfl
    rw [hx] at h; exact absurd h (Nat.not_lt_zero _)
  | some x =>
    have hx : ae_sx.getD i.val [] = x := by rw [List.getD_eq_getElem?_getD, hl]; rfl
    rw [hx] at h ⊢
    have h1 := List.all_eq_true.mp ae_schA x (List.mem_of_getElem? hl)
    have h2 := List.all_eq_true.mp h1 x[j] (List.getElem_mem h)
    rw [List.getD_eq_getElem?_getD, List.getElem?_eq_getElem h]
    exact of_decide_eq_true h2
section AEK
variable {l : Launch} {G : ae_G} {d : Nat} {M : ae_M} {Po : Option ae_V → ae_S → Prop} {pc : Nat} {lv : List (Nat × ae_V)} {st : List ae_V} {σ : ae_S}
theorem ae_KN {s : State} (h : ae_K G s) (d0 : Drawn) : ae_N G (s.setDrawn d0) := h.2.2.2.step (State.WarmedH.refl s) (fun _ _ _ => rfl)
theorem ae_getK {idx : Nat} {i : Fin 32} {f de : String} {vs : List Int32} (hd : decode M.2.1 pc = .ok (.getfield idx, 3)) (hq : ("ByteViews$Kind", f, de, vs) ∈ ae_kF) (hlk : Cond.fieldLink M.1 idx "ByteViews$Kind" f de ∈ lw_g) (hi : decide (i.val < 9) = true) (k : ae_T l G d M Po (pc + 3) lv (ae_i (vs.getD i.val 0) :: st) σ) : ae_T l G d M Po pc lv (ae_r (some (60, i)) :: st) σ := by
  intro p e s m args below meth c H locs d0 ls st0 σ0 hX hl hs hσ hP hS hd0
  obtain ⟨r, rfl, hs1⟩ := ae_ss_r hs
  have hN := ae_KN hX.2.2.2.2.2.2.2 d0
  have hi := of_decide_eq_true hi
  have e1 : ae_ga G 60 i = (fun i => ae_ga G 60 (Fin.ofNat 32 i)) i.val := by show _ = ae_ga G 60 (Fin.ofNat 32 i.val); rw [ae_fo]
  show W p l e (ae_rm d) (s.setDrawn d0) m args below meth c H locs 0 0 _ (F0 m pc ls (.ref (ae_ga G 60 i) :: r))
  rw [e1]
  exact va_getE (s := s.setDrawn d0) (q := ("ByteViews$Kind", f, de, vs)) (own := M.1) (ref := "ByteViews$Kind") hX.1 hX.2.1 hN.1 hi hS hX.2.2.2.1 hq (dr_words hX.2.2.2.2.1 d0 _ hlk) (fun x hx => hx) hd (k p e s m args below meth c H locs d0 ls _ σ0 hX hl ⟨rfl, hs1⟩ hσ hP hS hd0)
theorem ae_getKw {idx : Nat} {i : Fin 32} (hd : decode M.2.1 pc = .ok (.getfield idx, 3)) (hlk : Cond.fieldLink M.1 idx "ByteViews$Kind" "word" "Ljava/lang/String;" ∈ lw_g) (hi : decide (i.val < 9) = true) (k : ae_T l G d M Po (pc + 3) lv (ae_r (some (62, ae_kw i.val)) :: st) σ) : ae_T l G d M Po pc lv (ae_r (some (60, i)) :: st) σ := by
  intro p e s m args below meth c H locs d0 ls st0 σ0 hX hl hs hσ hP hS hd0
  obtain ⟨r, rfl, hs1⟩ := ae_ss_r hs
  have hN := ae_KN hX.2.2.2.2.2.2.2 d0
  have hi := of_decide_eq_true hi
  have h2 := hN.2.1 i.val hi
  simp only [ae_fo] at h2
  exact vk_getf (s := s.setDrawn d0) (own := M.1) (ref := "ByteViews$Kind") hX.1 hX.2.1 h2 hS hX.2.2.2.1 (dr_words hX.2.2.2.2.1 d0 _ hlk) (fun x hx => hx) hd (k p e s m args below meth c H locs d0 ls _ σ0 hX hl ⟨rfl, hs1⟩ hσ hP hS hd0)
theorem ae_getU8 {idx : Nat} (hd : decode M.2.1 pc = .ok (.getstatic idx, 3)) (hlk : Cond.fieldLink M.1 idx "ByteViews$Kind" "U8" "LByteViews$Kind;" ∈ lw_g) (k : ae_T l G d M Po (pc + 3) lv (ae_r (some (60, 0)) :: st) σ) : ae_T l G d M Po pc lv st σ := by
  intro p e s m args below meth c H locs d0 ls st0 σ0 hX hl hs hσ hP hS hd0
  have hN := ae_KN hX.2.2.2.2.2.2.2 d0
  exact va_gets (s := s.setDrawn d0) (own := M.1) (ref := "ByteViews$Kind") hX.1 hX.2.1 (hN.1.1 0 (by decide)).1 hS hX.2.2.2.1 (dr_words hX.2.2.2.2.1 d0 _ hlk) (fun x hx => hx) hd (k p e s m args below meth c H locs d0 ls _ σ0 hX hl ⟨rfl, hs⟩ hσ hP hS hd0)
theorem ae_getKS (hM : M.1 = "ByteViews$Tokens") (hd : decode M.2.1 pc = .ok (.getstatic 112, 3)) (k : ae_T l G d M Po (pc + 3) lv (ae_r (some (61, 0)) :: st) σ) : ae_T l G d M Po pc lv st σ := by
  intro p e s m args below meth c H locs d0 ls st0 σ0 hX hl hs hσ hP hS hd0
  have hN := ae_KN hX.2.2.2.2.2.2.2 d0
  have hown : (s.setDrawn d0).vm.findClass "ByteViews$Tokens" = some m.cls := by rw [← hM]; exact hX.2.2.2.1
  exact va_getsN (s := s.setDrawn d0) (own := "ByteViews$Tokens") (ref := "ByteViews") hX.1 hX.2.1 hN.2.2.1 hS hown (va_Nw.use (A := args) rfl hN.2.2.2.2.2.2.2.2) (fun x hx => hx) hd (k p e s m args below meth c H locs d0 ls _ σ0 hX hl ⟨rfl, hs⟩ hσ hP hS hd0)
theorem ae_kslen (hd : decode M.2.1 pc = .ok (.arraylength, 1)) (k : ae_T l G d M Po (pc + 1) lv (ae_i 9 :: st) σ) : ae_T l G d M Po pc lv (ae_r (some (61, 0)) :: st) σ := by
  intro p e s m args below meth c H locs d0 ls st0 σ0 hX hl hs hσ hP hS hd0
  obtain ⟨r, rfl, hs1⟩ := ae_ss_r hs
  have hN := ae_KN hX.2.2.2.2.2.2.2 d0
  exact va_tlen (s := s.setDrawn d0) hX.1 hX.2.1 hN.2.2.2.1 hS (by decide) hd (k p e s m args below meth c H locs d0 ls _ σ0 hX hl ⟨rfl, hs1⟩ hσ hP hS hd0)
theorem ae_ksald {j : Int32} (hd : decode M.2.1 pc = .ok (.aaload, 1)) (hin : vp_in j 9) (k : ae_T l G d M Po (pc + 1) lv (ae_r (some (60, Fin.ofNat 32 j.toNatClampNeg)) :: st) σ) : ae_T l G d M Po pc lv (ae_i j :: ae_r (some (61, 0)) :: st) σ := by
  intro p e s m args below meth c H locs d0 ls st0 σ0 hX hl hs hσ hP hS hd0
  obtain ⟨r, rfl, hs1⟩ := ae_ss_i hs
  obtain ⟨r2, rfl, hs2⟩ := ae_ss_r hs1
  have hN := ae_KN hX.2.2.2.2.2.2.2 d0
  exact vb_tq (s := s.setDrawn d0) hX.1 hX.2.1 hN.2.2.2.1 hS hin rfl hd (k p e s m args below meth c H locs d0 ls _ σ0 hX hl ⟨rfl, hs2⟩ hσ hP hS hd0)
theorem ae_ldcS {idx : Nat} {tx : String} {i : Fin 32} (n : Nat) (hd : decode M.2.1 pc = .ok (.ldc idx, 2)) (hq : ae_sr[n]? = some (M.1, idx, tx, i)) (k : ae_T l G d M Po (pc + 2) lv (ae_r (some (62, i)) :: st) σ) : ae_T l G d M Po pc lv st σ := by
  intro p e s m args below meth c H locs d0 ls st0 σ0 hX hl hs hσ hP hS hd0
  have hN := ae_KN hX.2.2.2.2.2.2.2 d0
  exact va_ldcS (s := s.setDrawn d0) (own := M.1) (tx := tx) hX.1 hX.2.1 hX.2.2.2.1 (hN.2.2.2.2.2.1 _ (List.mem_of_getElem? hq)) hd (k p e s m args below meth c H locs d0 ls _ σ0 hX hl ⟨rfl, hs⟩ hσ hP hS hd0)
theorem ae_strv {idx : Nat} {i : Fin 32} (hi : i.val < 28) (hd : decode M.2.1 pc = .ok (.getfield idx, 3)) (hlk : Cond.fieldLink M.1 idx "java/lang/String" "value" "[B" ∈ lw_g) (k : ae_T l G d M Po (pc + 3) lv (ae_r (some (63, i)) :: st) σ) : ae_T l G d M Po pc lv (ae_r (some (62, i)) :: st) σ := by
  intro p e s m args below meth c H locs d0 ls st0 σ0 hX hl hs hσ hP hS hd0
  obtain ⟨r, rfl, hs1⟩ := ae_ss_r hs
  have hN := (ae_KN hX.2.2.2.2.2.2.2 d0).2.2.2.2.1
  have h2 := (hN.1 i.val hi).2.2.1
  simp only [ae_fo] at h2
  exact vk_getf (s := s.setDrawn d0) (own := M.1) (ref := "java/lang/String") hX.1 hX.2.1 h2 hS hX.2.2.2.1 (dr_words hX.2.2.2.2.1 d0 _ hlk) (fun x hx => hx) hd (k p e s m args below meth c H locs d0 ls _ σ0 hX hl ⟨rfl, hs1⟩ hσ hP hS hd0)
theorem ae_strc {idx : Nat} {i : Fin 32} (hi : i.val < 28) (hd : decode M.2.1 pc = .ok (.getfield idx, 3)) (hlk : Cond.fieldLink M.1 idx "java/lang/String" "coder" "B" ∈ lw_g) (k : ae_T l G d M Po (pc + 3) lv (ae_i 0 :: st) σ) : ae_T l G d M Po pc lv (ae_r (some (62, i)) :: st) σ := by
  intro p e s m args below meth c H locs d0 ls st0 σ0 hX hl hs hσ hP hS hd0
  obtain ⟨r, rfl, hs1⟩ := ae_ss_r hs
  have hN := (ae_KN hX.2.2.2.2.2.2.2 d0).2.2.2.2.1
  have h2 := (hN.1 i.val hi).2.1
  simp only [ae_fo] at h2
  exact vk_getf (s := s.setDrawn d0) (own := M.1) (ref := "java/lang/String") hX.1 hX.2.1 h2 hS hX.2.2.2.1 (dr_words hX.2.2.2.2.1 d0 _ hlk) (fun x hx => hx) hd (k p e s m args below meth c H locs d0 ls _ σ0 hX hl ⟨rfl, hs1⟩ hσ hP hS hd0)
theorem ae_strn {i : Fin 32} (hi : i.val < 28) (hd : decode M.2.1 pc = .ok (.arraylength, 1)) (k : ae_T l G d M Po (pc + 1) lv (ae_i (Int32.ofNat (ae_sln i)) :: st) σ) : ae_T l G d M Po pc lv (ae_r (some (63, i)) :: st) σ := by
  intro p e s m args below meth c H locs d0 ls st0 σ0 hX hl hs hσ hP hS hd0
  obtain ⟨r, rfl, hs1⟩ := ae_ss_r hs
  have hN := (ae_KN hX.2.2.2.2.2.2.2 d0).2.2.2.2.1
  have h2 := (hN.1 i.val hi).2.2.2
  simp only [ae_fo, ae_slnE] at h2
  exact va_tlen (s := s.setDrawn d0) hX.1 hX.2.1 h2 hS rfl hd (k p e s m args below meth c H locs d0 ls _ σ0 hX hl ⟨rfl, hs1⟩ hσ hP hS hd0)
theorem ae_strb {i : Fin 32} {j : Int32} (hi : i.val < 28) (hd : decode M.2.1 pc = .ok (.baload, 1)) (hin : vp_in j (ae_sln i)) (k : ae_T l G d M Po (pc + 1) lv (ae_i (ae_sch i j.toNatClampNeg) :: st) σ) : ae_T l G d M Po pc lv (ae_i j :: ae_r (some (63, i)) :: st) σ := by
  intro p e s m args below meth c H locs d0 ls st0 σ0 hX hl hs hσ hP hS hd0
  obtain ⟨r, rfl, hs1⟩ := ae_ss_i hs
  obtain ⟨r2, rfl, hs2⟩ := ae_ss_r hs1
  have hN := (ae_KN hX.2.2.2.2.2.2.2 d0).2.2.2.2.1
  have h2 := (hN.1 i.val hi).2.2.2
  simp only [ae_fo, ae_slnE] at h2
  exact va_tb (s := s.setDrawn d0) hX.1 hX.2.1 h2 hS hin rfl hd (k p e s m args below meth c H locs d0 ls _ σ0 hX hl ⟨rfl, hs2⟩ hσ hP hS hd0)
theorem ae_cst {idx : Nat} (hd : decode M.2.1 pc = .ok (.getstatic idx, 3)) (hlk : Cond.fieldLink M.1 idx "java/lang/String" "COMPACT_STRINGS" "Z" ∈ lw_g) (k : ae_T l G d M Po (pc + 3) lv (ae_i 1 :: st) σ) : ae_T l G d M Po pc lv st σ := by
  intro p e s m args below meth c H locs d0 ls st0 σ0 hX hl hs hσ hP hS hd0
  have hN := ae_KN hX.2.2.2.2.2.2.2 d0
  exact va_gets (s := s.setDrawn d0) (own := M.1) (ref := "java/lang/String") hX.1 hX.2.1 hN.2.2.2.2.2.2.1 hS hX.2.2.2.1 (dr_words hX.2.2.2.2.1 d0 _ hlk) (fun x hx => hx) hd (k p e s m args below meth c H locs d0 ls _ σ0 hX hl ⟨rfl, hs⟩ hσ hP hS hd0)
theorem ae_i2c {x : Int32} (hd : decode M.2.1 pc = .ok (.i2c, 1)) (k : ae_T l G d M Po (pc + 1) lv (ae_i (x.toUInt32 % 65536).toInt32 :: st) σ) : ae_T l G d M Po pc lv (ae_i x :: st) σ := by
  intro p e s m args below meth c H locs d0 ls st0 σ0 hX hl hs hσ hP hS hd0
  obtain ⟨r1, rfl, hs1⟩ := ae_ss_i hs
  exact lv_i2c hX.1 hX.2.1 hd rfl (k p e s m args below meth c H locs d0 ls _ σ0 hX hl ⟨rfl, hs1⟩ hσ hP hS hd0)
/-- a call on a String -/
theorem ae_callK {idx n : Nat} {y : MethodName} {M' : ae_M} {i : Fin 32} {As sk : List ae_V} {v : ae_V} {τ : ae_S} (hi : i.val < 28) (hd : decode M.2.1 pc = .ok (.invokevirtual idx, 3)) (hlk : Cond.methodLink M.1 idx y ∈ lw_g) (hy : ae_VY y M' n) (hcl : y.cls = "java/lang/String") (hst : sk = As.reverse ++ (ae_r (some (62, i)) :: st)) (hn : As.length = n) (hrm : (st.map ae_cat).sum ≤ 8)
    (hM : ae_Met l G d y M' (ae_r (some (62, i)) :: As) σ (ae_Po (some v) τ)) (k : ae_T l G (d + 1) M Po (pc + 3) lv (v :: st) τ) : ae_T l G (d + 1) M Po pc lv sk σ := by
  intro p e s m args below meth c H locs d0 ls st0 σ0 hX hl hs hσ hP hS hd0
  subst hst
  obtain ⟨us, vs, rfl, ha, hb⟩ := ae_ss_app hs
  obtain ⟨r, rfl, hr⟩ := ae_ss_r hb
  have ha2 := ae_ss_rev ha
  rw [List.reverse_reverse] at ha2
  have hrv := vk_recv (i := i.val) (ae_KN hX.2.2.2.2.2.2.2 d0).2.2.2.2.1 hi hS
  simp only [ae_fo] at hrv
  rw [← hcl] at hrv
  obtain ⟨y1, y2, y3, y4, y5, y6⟩ := hy
  have hts := dr_words hX.2.2.2.2.1 d0
  refine ae_behind (Po1 := ae_Po (some v) τ) hX hl hr hS hd0 (va_runV_D (C := y.cls) (As := us.reverse) (b := ae_ga G 62 i) (Ts := lw_g) (own := M.1) (index := idx) (nL := M.2.2.1) ⟨hX.1, hX.2.1, hX.2.2.1, hX.2.2.2.1, hts⟩ (hM (.ref (ae_ga G 62 i) :: us.reverse) ⟨rfl, ha2⟩) (cwV n hts (lw_gin ?_) rfl rfl rfl ⟨rfl, y5⟩ ⟨Nat.le_refl _, ?_⟩) ⟨ae_blind, hrv, fun U hU hW => ⟨rfl, ⟨σ0, hσ, by rw [hU]; exact hP⟩, ae_K.step hX.2.2.2.2.2.2.2 hW (by rw [hU]; exact hS.1) (fun a h1 h2 => by rw [hU]; exact hS.2.1 a h1 h2)⟩⟩ rfl (by rw [List.length_reverse, ae_ss_len ha, List.length_reverse]; exact hn) hl.1 (by rw [List.reverse_reverse]) (lv_room (by rw [ae_ss_cat hr]; exact hrm)) hd ⟨Nat.le_refl _, Nat.le_refl _⟩) (fun ro σ' h => by obtain ⟨rfl, rfl⟩ := h; exact k)
  · intro w hw
    rcases List.mem_append.mp hw with h | h
    · rcases List.mem_cons.mp h with rfl | h
      · exact hlk
      rcases List.mem_cons.mp h with rfl | h
      · exact y1
      rcases List.mem_cons.mp h with rfl | h
      · exact y2
      rcases List.mem_cons.mp h with rfl | h
      · exact y3
      cases h
    · rcases List.mem_cons.mp h with rfl | h
      · exact y4
      · exact h
  · show 8 + (M'.2.2.1 + 11) + 40 * d ≤ 40 * (d + 1)
    omega
end AEK
/-- the wide form of a String's load -/
theorem ae_ldcSW {l : Launch} {G : ae_G} {d : Nat} {M : ae_M} {Po : Option ae_V → ae_S → Prop} {pc : Nat} {lv : List (Nat × ae_V)} {st : List ae_V} {σ : ae_S} {idx : Nat} {tx : String} {i : Fin 32} (n : Nat) (hd : decode M.2.1 pc = .ok (.ldc_w idx, 3)) (hq : ae_sr[n]? = some (M.1, idx, tx, i)) (k : ae_T l G d M Po (pc + 3) lv (ae_r (some (62, i)) :: st) σ) : ae_T l G d M Po pc lv st σ := by
  intro p e s m args below meth c H locs d0 ls st0 σ0 hX hl hs hσ hP hS hd0
  have hZ := (ae_KN hX.2.2.2.2.2.2.2 d0).2.2.2.2.2.1 _ (List.mem_of_getElem? hq)
  have hown : (s.setDrawn d0).vm.findClass M.1 = some m.cls := hX.2.2.2.1
  intro T hT X
  obtain ⟨t, a1, b1⟩ := k p e s m args below meth c H locs d0 ls (.ref (ae_ga G 62 i) :: st0) σ0 hX hl ⟨rfl, hs⟩ hσ hP hS hd0 T hT X
  refine ⟨t, ?_, b1⟩
  obtain ⟨kC, cf, i0, a', hk, hcf, hcp, -, hr, hev'⟩ := Cond.stringRef_spec hown hZ.1
  cases hZ.2.symm.trans hev'
  obtain ⟨k', hk', he⟩ := X.warmed.alike.2.2 _ _ hk
  have hr' : k'.resolved[idx]? = some (some (.string (ae_ga G 62 i))) := by
    rcases X.warmed.entry hk hk' idx with h | ⟨h, -⟩
    · rw [h]; exact hr
    · rw [hr] at h; cases h
  have hdg : decode c.code pc = .ok (.ldc_w idx, 3) := by rw [hX.2.1]; exact hd
  jvm_step X.here [hX.1, hdg, Op.ldc_w.wp_string (e := e) (s := T) (f := F0 m pc ls st0) X.here.top hk' (by rw [he]; exact hcf) hcp hr']
  exact a1
