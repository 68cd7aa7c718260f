/-! arrays, System.arraycopy, calls -/
theorem lw_gin {ws : List Cond} (h : ∀ w ∈ ws, w ∈ lw_g) : GoodIn lw_g ws := fun w hw => lw_g_good w (h w hw)
/-- an instance method of ours: its words, its bytes, how many parameters -/
def ae_VY (y : MethodName) (M' : ae_M) (n : Nat) : Prop := Cond.instanceMethod y ∈ lw_g ∧ Cond.selects y.cls y y ∈ lw_g ∧ Cond.initialized y.cls ∈ lw_g ∧ Cond.code y M'.2.1 M'.2.2.1 M'.2.2.2 ∈ lw_g ∧ (y.cls ≠ "java/lang/invoke/MethodHandle" ∧ y.cls ≠ "java/lang/invoke/VarHandle" ∧ (parseMethodDescriptor y.desc).map (fun d => d.parameters.length) = some n) ∧ M'.2.2.1 ≤ 21
/-- a static one -/
def ae_SY (y : MethodName) (M' : ae_M) (n : Nat) : Prop := Cond.static y ∈ lw_g ∧ Cond.initialized y.cls ∈ lw_g ∧ Cond.code y M'.2.1 M'.2.2.1 M'.2.2.2 ∈ lw_g ∧ (y.cls ≠ "java/lang/invoke/MethodHandle" ∧ y.cls ≠ "java/lang/invoke/VarHandle" ∧ (parseMethodDescriptor y.desc).map (fun d => d.parameters.length) = some n) ∧ M'.2.2.1 ≤ 21
section AEC
variable {l : Launch} {G : ae_G} {d : Nat} {M : ae_M} {Po : Option ae_V → ae_S → Prop} {pc : Nat} {lv : List (Nat × ae_V)} {st : List ae_V} {σ : ae_S}
theorem ae_blind {As0 : List Value} : FrameBlind (va_Pc As0 (fun U => (∃ σ0 : ae_S, ae_sS σ σ0 ∧ va_P (ae_gD G) vwCl (ae_wl G σ0) U.heap) ∧ ae_K G U)) := by
  intro a U g mk h
  obtain ⟨h1, ⟨σ0, h2, h3⟩, h4⟩ := h
  exact ⟨h1, ⟨σ0, h2, h3⟩, ae_K.step h4 (State.WarmedH.refl U) (Nat.le_refl _) (fun _ _ _ => rfl)⟩
theorem ae_so_list {ro : Option ae_V} {wo : Option Value} {st0 : List Value} (h : ae_so G ro wo) (hs : ae_ss G st st0) : ae_ss G (ro.toList ++ st) (wo.toList ++ st0) := by
  cases ro with
  | none => cases wo with
    | none => exact hs
    | some w => exact h.elim
  | some v => cases wo with
    | none => exact h.elim
    | some w => exact ⟨h, hs⟩
/-- behind any call -/
theorem ae_behind {p : Program} {e : Env} {s : State} {m : MethodId} {args : Array Value} {below : List Frame} {meth : Method} {c : Code} {H : Heap} {locs : List Loc} {d0 : Drawn} {ls : Array Slot} {st0 r : List Value} {a : Array Value} {Po1 : Option ae_V → ae_S → Prop}
    (hX : ae_X G M p s m args meth c) (hl : ae_hl G ls M.2.2.1 lv) (hr : ae_ss G st r) (hS : va_S (ae_gA G) s.heap H locs) (hd0 : s.drawn.sameBut d0 lw_cs)
    (hrun : va_RunD lw_cs p l e (ae_rm d) (s.setDrawn d0) m args below meth c H locs 0 0 0 0 (F0 m pc ls st0) r (ae_Q G Po1 a) (ae_gA G))
    (k : ∀ ro σ', Po1 ro σ' → ae_T l G d M Po (pc + 3) lv (ro.toList ++ st) σ') : W p l e (ae_rm d) (s.setDrawn d0) m args below meth c H locs 0 0 (MQD lw_cs below (ae_Q G Po) args s 0 0 (ae_gA G)) (F0 m pc ls st0) := by
  intro T hT X
  obtain ⟨v, st₀, t, T', L, d', hd', h0, X', hL, e1, e2, hq, stp⟩ := hrun T hT X
  obtain ⟨ro, wo, σ', σ1, hov, hso, hPo, hσ', hP', hz, hk⟩ := hq
  cases hov
  rw [h0] at hz hk
  obtain ⟨t2, a1, b1⟩ := k ro σ' hPo p e s m args below meth c T'.heap (locs ++ L) d' ls (v.toList ++ r) σ1 hX hl (ae_so_list hso hr) hσ' (by rw [e1]; exact hP') ⟨Nat.le_trans hS.1 (by rw [e1]; exact hz), fun q h1 h2 => by rw [e1, hk q (Nat.lt_of_lt_of_le h1 hS.1) h2]; exact hS.2.1 q h1 h2, fun q hq => by
    rcases List.mem_append.mp hq with h | h
    · exact hS.2.2 q h
    · exact hL q h⟩ (hd0.trans hd') T' rfl X'
  exact ⟨t2, stp t2 a1, b1⟩
theorem ae_callV {idx n ci : Nat} {y : MethodName} {M' : ae_M} {q : ae_R} {As sk : List ae_V} {T : u_T} {N : Nat} {Po1 : Option ae_V → ae_S → Prop} (hd : decode M.2.1 pc = .ok (.invokevirtual idx, 3)) (hlk : Cond.methodLink M.1 idx y ∈ lw_g) (hy : ae_VY y M' n) (hq : ae_ok q = true) (hc : (ae_sh q.1).2 = .inl ci) (hcl : vwCl[ci]? = some (y.cls, T, N)) (hst : sk = As.reverse ++ (ae_r (some q) :: st)) (hn : As.length = n) (hrm : (st.map ae_cat).sum ≤ 8)
    (hM : ae_Met l G d y M' (ae_r (some q) :: As) σ Po1) (k : ∀ ro σ', Po1 ro σ' → ae_T l G (d + 1) M Po (pc + 3) lv (ro.toList ++ st) σ') : ae_T l G (d + 1) M Po pc lv sk σ := by
  intro p e s m args below meth c H locs d0 ls st0 σ0 hX hl hs hσ hP hS hd0
  subst hst
  obtain ⟨us, vs, rfl, ha, hb⟩ := ae_ss_app hs
  obtain ⟨r, rfl, hr⟩ := ae_ss_r hb
  have ha2 := ae_ss_rev ha
  rw [List.reverse_reverse] at ha2
  obtain ⟨q0, hq0, -⟩ := ae_place (G := G) (σ := σ0) hq
  have he : (ae_wl G σ0)[q0]? = some (ae_ga G q.1 q.2, .inr (ci, ae_fs G σ0 q.1 q.2 ci)) := by rw [hq0]; simp only [ae_ce, hc]
  obtain ⟨y1, y2, y3, y4, y5, y6⟩ := hy
  have hts := dr_words hX.2.2.2.2.1 d0
  refine ae_behind hX hl hr hS hd0 (va_runV_D (C := y.cls) (As := us.reverse) (b := ae_ga G q.1 q.2) (Ts := lw_g) (own := M.1) (index := idx) (nL := M.2.2.1) ⟨hX.1, hX.2.1, hX.2.2.1, hX.2.2.2.1, hts⟩ (hM (.ref (ae_ga G q.1 q.2) :: us.reverse) ⟨rfl, ha2⟩) (cwV n hts (lw_gin ?_) rfl rfl rfl ⟨rfl, y5⟩ ⟨Nat.le_refl _, ?_⟩) ⟨ae_blind, va_recv hX.2.2.2.2.2.2.2.1 hP hcl he, fun U hU hW => ⟨rfl, ⟨σ0, hσ, by rw [hU]; exact hP⟩, ae_K.step hX.2.2.2.2.2.2.2 hW (by rw [hU]; exact hS.1) (fun a h1 h2 => by rw [hU]; exact hS.2.1 a h1 h2)⟩⟩ rfl (by rw [List.length_reverse, ae_ss_len ha, List.length_reverse]; exact hn) hl.1 (by rw [List.reverse_reverse]) (lv_room (by rw [ae_ss_cat hr]; exact hrm)) hd ⟨Nat.le_refl _, Nat.le_refl _⟩) k
  · intro w hw
    rcases List.mem_append.mp hw with h | h
    · rcases List.mem_cons.mp h with rfl | h
      · exact hlk
      rcases List.mem_cons.mp h with rfl | h
      · exact y1
      rcases List.mem_cons.mp h with rfl | h
      · exact y2
      rcases List.mem_cons.mp h with rfl | h
      · exact y3
      cases h
    · rcases List.mem_cons.mp h with rfl | h
      · exact y4
      · exact h
  · show 8 + (M'.2.2.1 + 11) + 40 * d ≤ 40 * (d + 1)
    omega
theorem ae_callS {idx n : Nat} {y : MethodName} {M' : ae_M} {As sk : List ae_V} {Po1 : Option ae_V → ae_S → Prop} (hd : decode M.2.1 pc = .ok (.invokestatic idx, 3)) (hlk : Cond.methodLink M.1 idx y ∈ lw_g) (hy : ae_SY y M' n) (hst : sk = As.reverse ++ st) (hn : As.length = n) (hrm : (st.map ae_cat).sum ≤ 8)
    (hM : ae_Met l G d y M' As σ Po1) (k : ∀ ro σ', Po1 ro σ' → ae_T l G (d + 1) M Po (pc + 3) lv (ro.toList ++ st) σ') : ae_T l G (d + 1) M Po pc lv sk σ := by
  intro p e s m args below meth c H locs d0 ls st0 σ0 hX hl hs hσ hP hS hd0
  subst hst
  obtain ⟨us, r, rfl, ha, hr⟩ := ae_ss_app hs
  have ha2 := ae_ss_rev ha
  rw [List.reverse_reverse] at ha2
  obtain ⟨y1, y3, y4, y5, y6⟩ := hy
  have hts := dr_words hX.2.2.2.2.1 d0
  refine ae_behind hX hl hr hS hd0 (va_runS_D (As := us.reverse) (Ts := lw_g) (own := M.1) (index := idx) (nL := M.2.2.1) ⟨hX.1, hX.2.1, hX.2.2.1, hX.2.2.2.1, hts⟩ (hM us.reverse ha2) (va_cwS n hts (lw_gin ?_) rfl rfl rfl y5 ⟨Nat.le_refl _, ?_⟩) ⟨ae_blind, fun U hU hW => ⟨rfl, ⟨σ0, hσ, by rw [hU]; exact hP⟩, ae_K.step hX.2.2.2.2.2.2.2 hW (by rw [hU]; exact hS.1) (fun a h1 h2 => by rw [hU]; exact hS.2.1 a h1 h2)⟩⟩ rfl (by rw [List.length_reverse, ae_ss_len ha, List.length_reverse]; exact hn) hl.1 (by rw [List.reverse_reverse]) (lv_room (by rw [ae_ss_cat hr]; exact hrm)) hd ⟨Nat.le_refl _, Nat.le_refl _⟩) k
  · intro w hw
    rcases List.mem_append.mp hw with h | h
    · rcases List.mem_cons.mp h with rfl | h
      · exact hlk
      rcases List.mem_cons.mp h with rfl | h
      · exact y1
      rcases List.mem_cons.mp h with rfl | h
      · exact y3
      cases h
    · rcases List.mem_cons.mp h with rfl | h
      · exact y4
      · exact h
  · show 8 + (M'.2.2.1 + 11) + 40 * d ≤ 40 * (d + 1)
    omega
/-! arrays -/
theorem ae_iald {q : ae_R} {j : Int32} {n : Fin 32 → Nat} (hd : decode M.2.1 pc = .ok (.iaload, 1)) (hq : ae_ok q = true) (hc : (ae_sh q.1).2 = .inr (.int, n)) (hin : vp_in j (n q.2)) (kk : ae_T l G d M Po (pc + 1) lv (ae_i (σ.1 q.1 q.2 j.toNatClampNeg) :: st) σ) : ae_T l G d M Po pc lv (ae_i j :: ae_r (some q) :: st) σ := by
  intro p e s m args below meth c H locs d0 ls st0 σ0 hX hl hs hσ hP hS hd0
  obtain ⟨r1, rfl, hs1⟩ := ae_ss_i hs
  obtain ⟨r2, rfl, hs2⟩ := ae_ss_r hs1
  obtain ⟨q0, hq0, -⟩ := ae_place (G := G) (σ := σ0) hq
  have hKa : ∀ ty, ty ∈ ae_at → va_K (ae_gD G) vwCl [(ae_gc G ty, ty)] (s.setDrawn d0) := fun ty h => hX.2.2.2.2.2.2.2.arr h
  have he : (ae_wl G σ0)[q0]? = some (ae_ga G q.1 q.2, .inl (ae_gc G .int, n q.2, .inl (σ0.1 q.1 q.2))) := by rw [hq0]; simp only [ae_ce, hc]; rfl
  exact va_iald hX.1 hX.2.1 (hKa .int (by simp [ae_at])) hP q0 0 he rfl hin hd (kk p e s m args below meth c H locs d0 ls _ σ0 hX hl ⟨by rw [hσ.1]; rfl, hs2⟩ hσ hP hS hd0)
theorem ae_zald {q : ae_R} {j : Int32} {n : Fin 32 → Nat} (hd : decode M.2.1 pc = .ok (.baload, 1)) (hq : ae_ok q = true) (hc : (ae_sh q.1).2 = .inr (.boolean, n)) (hin : vp_in j (n q.2)) (kk : ae_T l G d M Po (pc + 1) lv (ae_i (σ.1 q.1 q.2 j.toNatClampNeg) :: st) σ) : ae_T l G d M Po pc lv (ae_i j :: ae_r (some q) :: st) σ := by
  intro p e s m args below meth c H locs d0 ls st0 σ0 hX hl hs hσ hP hS hd0
  obtain ⟨r1, rfl, hs1⟩ := ae_ss_i hs
  obtain ⟨r2, rfl, hs2⟩ := ae_ss_r hs1
  obtain ⟨q0, hq0, -⟩ := ae_place (G := G) (σ := σ0) hq
  have hKa : ∀ ty, ty ∈ ae_at → va_K (ae_gD G) vwCl [(ae_gc G ty, ty)] (s.setDrawn d0) := fun ty h => hX.2.2.2.2.2.2.2.arr h
  have he : (ae_wl G σ0)[q0]? = some (ae_ga G q.1 q.2, .inl (ae_gc G .boolean, n q.2, .inl (σ0.1 q.1 q.2))) := by rw [hq0]; simp only [ae_ce, hc]; rfl
  exact va_zald hX.1 hX.2.1 (hKa .boolean (by simp [ae_at])) hP q0 0 he rfl hin hd (kk p e s m args below meth c H locs d0 ls _ σ0 hX hl ⟨by rw [hσ.1]; rfl, hs2⟩ hσ hP hS hd0)
theorem ae_lald {q : ae_R} {j : Int32} {n : Fin 32 → Nat} (hd : decode M.2.1 pc = .ok (.laload, 1)) (hq : ae_ok q = true) (hc : (ae_sh q.1).2 = .inr (.long, n)) (hin : vp_in j (n q.2)) (kk : ae_T l G d M Po (pc + 1) lv (ae_l (σ.2.1 q.1 q.2 j.toNatClampNeg) :: st) σ) : ae_T l G d M Po pc lv (ae_i j :: ae_r (some q) :: st) σ := by
  intro p e s m args below meth c H locs d0 ls st0 σ0 hX hl hs hσ hP hS hd0
  obtain ⟨r1, rfl, hs1⟩ := ae_ss_i hs
  obtain ⟨r2, rfl, hs2⟩ := ae_ss_r hs1
  obtain ⟨q0, hq0, -⟩ := ae_place (G := G) (σ := σ0) hq
  have hKa : ∀ ty, ty ∈ ae_at → va_K (ae_gD G) vwCl [(ae_gc G ty, ty)] (s.setDrawn d0) := fun ty h => hX.2.2.2.2.2.2.2.arr h
  have he : (ae_wl G σ0)[q0]? = some (ae_ga G q.1 q.2, .inl (ae_gc G .long, n q.2, .inr (.inl (σ0.2.1 q.1 q.2)))) := by rw [hq0]; simp only [ae_ce, hc]; rfl
  exact va_lald hX.1 hX.2.1 (hKa .long (by simp [ae_at])) hP q0 0 he rfl hin hd (kk p e s m args below meth c H locs d0 ls _ σ0 hX hl ⟨by rw [hσ.2.1]; rfl, hs2⟩ hσ hP hS hd0)
theorem ae_dald {q : ae_R} {j : Int32} {n : Fin 32 → Nat} (hd : decode M.2.1 pc = .ok (.daload, 1)) (hq : ae_ok q = true) (hc : (ae_sh q.1).2 = .inr (.double, n)) (hin : vp_in j (n q.2)) (kk : ae_T l G d M Po (pc + 1) lv (ae_d (σ.2.2.1 q.1 q.2 j.toNatClampNeg) :: st) σ) : ae_T l G d M Po pc lv (ae_i j :: ae_r (some q) :: st) σ := by
  intro p e s m args below meth c H locs d0 ls st0 σ0 hX hl hs hσ hP hS hd0
  obtain ⟨r1, rfl, hs1⟩ := ae_ss_i hs
  obtain ⟨r2, rfl, hs2⟩ := ae_ss_r hs1
  obtain ⟨q0, hq0, -⟩ := ae_place (G := G) (σ := σ0) hq
  have hKa : ∀ ty, ty ∈ ae_at → va_K (ae_gD G) vwCl [(ae_gc G ty, ty)] (s.setDrawn d0) := fun ty h => hX.2.2.2.2.2.2.2.arr h
  have he : (ae_wl G σ0)[q0]? = some (ae_ga G q.1 q.2, .inl (ae_gc G .double, n q.2, .inr (.inr (.inr (.inl (σ0.2.2.1 q.1 q.2)))))) := by rw [hq0]; simp only [ae_ce, hc]; rfl
  exact va_dald hX.1 hX.2.1 (hKa .double (by simp [ae_at])) hP q0 0 he rfl hin hd (kk p e s m args below meth c H locs d0 ls _ σ0 hX hl ⟨⟨_, rfl, hσ.2.2.1 _ _ _⟩, hs2⟩ hσ hP hS hd0)
theorem ae_aald {q : ae_R} {j : Int32} {n : Fin 32 → Nat} {ty : FieldType} (x : Option ae_R) (hd : decode M.2.1 pc = .ok (.aaload, 1)) (hq : ae_ok q = true) (hc : (ae_sh q.1).2 = .inr (ty, n)) (hty : ty = .array .int ∨ ty = .object "ByteViews$View") (hin : vp_in j (n q.2)) (hx : ae_rv σ q.1 q.2 j.toNatClampNeg = x) (kk : ae_T l G d M Po (pc + 1) lv (ae_r x :: st) σ) : ae_T l G d M Po pc lv (ae_i j :: ae_r (some q) :: st) σ := by
  intro p e s m args below meth c H locs d0 ls st0 σ0 hX hl hs hσ hP hS hd0
  obtain ⟨r1, rfl, hs1⟩ := ae_ss_i hs
  obtain ⟨r2, rfl, hs2⟩ := ae_ss_r hs1
  obtain ⟨q0, hq0, -⟩ := ae_place (G := G) (σ := σ0) hq
  have hKa : ∀ ty, ty ∈ ae_at → va_K (ae_gD G) vwCl [(ae_gc G ty, ty)] (s.setDrawn d0) := fun ty h => hX.2.2.2.2.2.2.2.arr h
  have he : (ae_wl G σ0)[q0]? = some (ae_ga G q.1 q.2, .inl (ae_gc G ty, n q.2, .inr (.inr (.inr (.inr (fun j => ae_ar G (ae_rv σ0 q.1 q.2 j))))))) := by rw [hq0]; simp only [ae_ce, hc]; rcases hty with rfl | rfl <;> rfl
  have hlt : j.toNatClampNeg < n q.2 := Nat.not_le.mp fun z => hin (Or.inr z)
  have hmem : ty ∈ ae_at := by rcases hty with rfl | rfl <;> simp [ae_at]
  have hK := hKa ty hmem
  have hcell : H[ae_ga G q.1 q.2]? = some (arrV (ae_gc G ty) (n q.2) (fun j => va_rf (ae_ar G (ae_rv σ0 q.1 q.2 j)))) := hP q0 _ he
  have harr := (hK.2 0 _ rfl).1 (n q.2) (fun j => va_rf (ae_ar G (ae_rv σ0 q.1 q.2 j)))
  have hrt : ty.isReference = true := by rcases hty with rfl | rfl <;> rfl
  refine W.aald (v := va_rf (ae_ar G (ae_rv σ0 q.1 q.2 j.toNatClampNeg))) (ty := ty) hX.1 hX.2.1 hcell harr hrt (fun z => by cases z) (by rw [arrV_size]; exact hin) (by rw [arrV_read _ _ hlt]) rfl rfl hd ?_
  exact kk p e s m args below meth c H locs d0 ls _ σ0 hX hl ⟨by rw [← hx, ← ae_rv_same hσ]; rfl, hs2⟩ hσ hP hS hd0
theorem ae_alen {q : ae_R} {n : Fin 32 → Nat} {ty : FieldType} (v : Int32) (hd : decode M.2.1 pc = .ok (.arraylength, 1)) (hq : ae_ok q = true) (hc : (ae_sh q.1).2 = .inr (ty, n)) (hty : ty ∈ ae_at) (hv : Int32.ofNat (n q.2) = v) (kk : ae_T l G d M Po (pc + 1) lv (ae_i v :: st) σ) : ae_T l G d M Po pc lv (ae_r (some q) :: st) σ := by
  intro p e s m args below meth c H locs d0 ls st0 σ0 hX hl hs hσ hP hS hd0
  obtain ⟨r1, rfl, hs1⟩ := ae_ss_r hs
  obtain ⟨q0, hq0, -⟩ := ae_place (G := G) (σ := σ0) hq
  have hKa : ∀ ty, ty ∈ ae_at → va_K (ae_gD G) vwCl [(ae_gc G ty, ty)] (s.setDrawn d0) := fun ty h => hX.2.2.2.2.2.2.2.arr h
  have he : (ae_wl G σ0)[q0]? = some (ae_ga G q.1 q.2, .inl (ae_gc G ty, n q.2, ae_av G σ0 q.1 q.2 ty)) := by rw [hq0]; simp only [ae_ce, hc]
  exact va_alen hX.1 hX.2.1 (hKa ty hty) hP q0 0 he rfl hv hd (kk p e s m args below meth c H locs d0 ls _ σ0 hX hl ⟨rfl, hs1⟩ hσ hP hS hd0)
theorem ae_iast {q : ae_R} {j x : Int32} {n : Fin 32 → Nat} (hd : decode M.2.1 pc = .ok (.iastore, 1)) (hq : ae_ok q = true) (hc : (ae_sh q.1).2 = .inr (.int, n)) (hin : vp_in j (n q.2)) (kk : ae_T l G d M Po (pc + 1) lv st (ae_wI σ q.1 q.2 j.toNatClampNeg x)) : ae_T l G d M Po pc lv (ae_i x :: ae_i j :: ae_r (some q) :: st) σ := by
  intro p e s m args below meth c H locs d0 ls st0 σ0 hX hl hs hσ hP hS hd0
  obtain ⟨r0, rfl, hs0⟩ := ae_ss_i hs
  obtain ⟨r1, rfl, hs1⟩ := ae_ss_i hs0
  obtain ⟨r2, rfl, hs2⟩ := ae_ss_r hs1
  obtain ⟨q0, hq0, hq1⟩ := ae_place (G := G) (σ := σ0) hq
  have hKa : ∀ ty, ty ∈ ae_at → va_K (ae_gD G) vwCl [(ae_gc G ty, ty)] (s.setDrawn d0) := fun ty h => hX.2.2.2.2.2.2.2.arr h
  have he : (ae_wl G σ0)[q0]? = some (ae_ga G q.1 q.2, .inl (ae_gc G .int, n q.2, .inl (σ0.1 q.1 q.2))) := by rw [hq0]; simp only [ae_ce, hc]; rfl
  have hD := hX.2.2.2.2.2.2.2.2.2.1 σ0
  have hset := ae_wset (G := G) (σ := σ0) (σ' := ae_wI σ0 q.1 q.2 j.toNatClampNeg x) hq1 hD (fun q' h => ae_one_I q' h)
  have hce : ae_ce G (ae_wI σ0 q.1 q.2 j.toNatClampNeg x) q = .inl (ae_gc G .int, n q.2, .inl (upd (σ0.1 q.1 q.2) j.toNatClampNeg x)) := by
    simp only [ae_ce, hc]
    show (Sum.inl (_, _, Sum.inl _) : va_E) = _
    congr 4
    funext b
    show (if q.1 = q.1 ∧ q.2 = q.2 ∧ b = _ then x else _) = if b = _ then x else _
    simp
  rw [hce] at hset
  refine va_iast hX.1 hX.2.1 (hKa .int (by simp [ae_at])) hP hD hS q0 0 he rfl hin hd (fun H1 locs1 hP1 _ hS1 => ?_)
  rw [hset] at hP1
  exact kk p e s m args below meth c H1 locs1 d0 ls _ (ae_wI σ0 q.1 q.2 j.toNatClampNeg x) hX hl hs2 ⟨by simp only [ae_wI, hσ.1], hσ.2.1, hσ.2.2.1, hσ.2.2.2⟩ hP1 hS1 hd0
theorem ae_last {q : ae_R} {j : Int32} {x : Int64} {n : Fin 32 → Nat} (hd : decode M.2.1 pc = .ok (.lastore, 1)) (hq : ae_ok q = true) (hc : (ae_sh q.1).2 = .inr (.long, n)) (hin : vp_in j (n q.2)) (kk : ae_T l G d M Po (pc + 1) lv st (ae_wL σ q.1 q.2 j.toNatClampNeg x)) : ae_T l G d M Po pc lv (ae_l x :: ae_i j :: ae_r (some q) :: st) σ := by
  intro p e s m args below meth c H locs d0 ls st0 σ0 hX hl hs hσ hP hS hd0
  obtain ⟨r0, rfl, hs0⟩ := ae_ss_l hs
  obtain ⟨r1, rfl, hs1⟩ := ae_ss_i hs0
  obtain ⟨r2, rfl, hs2⟩ := ae_ss_r hs1
  obtain ⟨q0, hq0, hq1⟩ := ae_place (G := G) (σ := σ0) hq
  have hKa : ∀ ty, ty ∈ ae_at → va_K (ae_gD G) vwCl [(ae_gc G ty, ty)] (s.setDrawn d0) := fun ty h => hX.2.2.2.2.2.2.2.arr h
  have he : (ae_wl G σ0)[q0]? = some (ae_ga G q.1 q.2, .inl (ae_gc G .long, n q.2, .inr (.inl (σ0.2.1 q.1 q.2)))) := by rw [hq0]; simp only [ae_ce, hc]; rfl
  have hD := hX.2.2.2.2.2.2.2.2.2.1 σ0
  have hset := ae_wset (G := G) (σ := σ0) (σ' := ae_wL σ0 q.1 q.2 j.toNatClampNeg x) hq1 hD (fun q' h => ae_one_L q' h)
  have hce : ae_ce G (ae_wL σ0 q.1 q.2 j.toNatClampNeg x) q = .inl (ae_gc G .long, n q.2, .inr (.inl (vp_updL (σ0.2.1 q.1 q.2) j.toNatClampNeg x))) := by
    simp only [ae_ce, hc]
    show (Sum.inl (_, _, Sum.inr (Sum.inl _)) : va_E) = _
    congr 5
    funext b
    show (if q.1 = q.1 ∧ q.2 = q.2 ∧ b = _ then x else _) = if b = _ then x else _
    simp
  rw [hce] at hset
  refine va_last hX.1 hX.2.1 (hKa .long (by simp [ae_at])) hP hD hS q0 0 he rfl hin hd (fun H1 locs1 hP1 _ hS1 => ?_)
  rw [hset] at hP1
  exact kk p e s m args below meth c H1 locs1 d0 ls _ (ae_wL σ0 q.1 q.2 j.toNatClampNeg x) hX hl hs2 ⟨hσ.1, by simp only [ae_wL, hσ.2.1], hσ.2.2.1, hσ.2.2.2⟩ hP1 hS1 hd0
theorem ae_zast {q : ae_R} {j x : Int32} {n : Fin 32 → Nat} (hd : decode M.2.1 pc = .ok (.bastore, 1)) (hq : ae_ok q = true) (hc : (ae_sh q.1).2 = .inr (.boolean, n)) (hin : vp_in j (n q.2)) (hx : x = 0 ∨ x = 1) (kk : ae_T l G d M Po (pc + 1) lv st (ae_wI σ q.1 q.2 j.toNatClampNeg x)) : ae_T l G d M Po pc lv (ae_i x :: ae_i j :: ae_r (some q) :: st) σ := by
  intro p e s m args below meth c H locs d0 ls st0 σ0 hX hl hs hσ hP hS hd0
  obtain ⟨r0, rfl, hs0⟩ := ae_ss_i hs
  obtain ⟨r1, rfl, hs1⟩ := ae_ss_i hs0
  obtain ⟨r2, rfl, hs2⟩ := ae_ss_r hs1
  obtain ⟨q0, hq0, hq1⟩ := ae_place (G := G) (σ := σ0) hq
  have hKa : ∀ ty, ty ∈ ae_at → va_K (ae_gD G) vwCl [(ae_gc G ty, ty)] (s.setDrawn d0) := fun ty h => hX.2.2.2.2.2.2.2.arr h
  have he : (ae_wl G σ0)[q0]? = some (ae_ga G q.1 q.2, .inl (ae_gc G .boolean, n q.2, .inl (σ0.1 q.1 q.2))) := by rw [hq0]; simp only [ae_ce, hc]; rfl
  have hD := hX.2.2.2.2.2.2.2.2.2.1 σ0
  have hset := ae_wset (G := G) (σ := σ0) (σ' := ae_wI σ0 q.1 q.2 j.toNatClampNeg x) hq1 hD (fun q' h => ae_one_I q' h)
  have hnar : vp_nar .boolean x = x := by rcases hx with rfl | rfl <;> decide
  have hce : ae_ce G (ae_wI σ0 q.1 q.2 j.toNatClampNeg x) q = .inl (ae_gc G .boolean, n q.2, .inl (upd (σ0.1 q.1 q.2) j.toNatClampNeg (vp_nar .boolean x))) := by
    rw [hnar]
    simp only [ae_ce, hc]
    show (Sum.inl (_, _, Sum.inl _) : va_E) = _
    congr 4
    funext b
    show (if q.1 = q.1 ∧ q.2 = q.2 ∧ b = _ then x else _) = if b = _ then x else _
    simp
  rw [hce] at hset
  refine va_zast hX.1 hX.2.1 (hKa .boolean (by simp [ae_at])) hP hD hS q0 0 he rfl hin hd (fun H1 locs1 hP1 _ hS1 => ?_)
  rw [hset] at hP1
  exact kk p e s m args below meth c H1 locs1 d0 ls _ (ae_wI σ0 q.1 q.2 j.toNatClampNeg x) hX hl hs2 ⟨by simp only [ae_wI, hσ.1], hσ.2.1, hσ.2.2.1, hσ.2.2.2⟩ hP1 hS1 hd0
theorem ae_dast {q : ae_R} {j : Int32} {x : UInt64} {n : Fin 32 → Nat} (hd : decode M.2.1 pc = .ok (.dastore, 1)) (hq : ae_ok q = true) (hc : (ae_sh q.1).2 = .inr (.double, n)) (hin : vp_in j (n q.2)) (kk : ae_T l G d M Po (pc + 1) lv st (ae_wD σ q.1 q.2 j.toNatClampNeg x)) : ae_T l G d M Po pc lv (ae_d x :: ae_i j :: ae_r (some q) :: st) σ := by
  intro p e s m args below meth c H locs d0 ls st0 σ0 hX hl hs hσ hP hS hd0
  obtain ⟨w, r0, rfl, ⟨y, rfl, hy⟩, hs0⟩ := ae_ss_c hs
  obtain ⟨r1, rfl, hs1⟩ := ae_ss_i hs0
  obtain ⟨r2, rfl, hs2⟩ := ae_ss_r hs1
  obtain ⟨q0, hq0, hq1⟩ := ae_place (G := G) (σ := σ0) hq
  have hKa : ∀ ty, ty ∈ ae_at → va_K (ae_gD G) vwCl [(ae_gc G ty, ty)] (s.setDrawn d0) := fun ty h => hX.2.2.2.2.2.2.2.arr h
  have he : (ae_wl G σ0)[q0]? = some (ae_ga G q.1 q.2, .inl (ae_gc G .double, n q.2, .inr (.inr (.inr (.inl (σ0.2.2.1 q.1 q.2)))))) := by rw [hq0]; simp only [ae_ce, hc]; rfl
  have hD := hX.2.2.2.2.2.2.2.2.2.1 σ0
  have hset := ae_wset (G := G) (σ := σ0) (σ' := ae_wD σ0 q.1 q.2 j.toNatClampNeg y) hq1 hD (fun q' h => ae_one_D q' h)
  have hce : ae_ce G (ae_wD σ0 q.1 q.2 j.toNatClampNeg y) q = .inl (ae_gc G .double, n q.2, .inr (.inr (.inr (.inl (vf_upd (σ0.2.2.1 q.1 q.2) j.toNatClampNeg y))))) := by
    simp only [ae_ce, hc]
    show (Sum.inl (_, _, Sum.inr (Sum.inr (Sum.inr (Sum.inl _)))) : va_E) = _
    congr 7
    funext b
    show (if q.1 = q.1 ∧ q.2 = q.2 ∧ b = _ then y else _) = if b = _ then y else _
    simp
  rw [hce] at hset
  refine va_dast hX.1 hX.2.1 (hKa .double (by simp [ae_at])) hP hD hS q0 0 he rfl hin hd (fun H1 locs1 hP1 _ hS1 => ?_)
  rw [hset] at hP1
  refine kk p e s m args below meth c H1 locs1 d0 ls _ (ae_wD σ0 q.1 q.2 j.toNatClampNeg y) hX hl hs2 ⟨hσ.1, hσ.2.1, fun a b i => ?_, hσ.2.2.2⟩ hP1 hS1 hd0
  show alike64 (if a = q.1 ∧ b = q.2 ∧ i = j.toNatClampNeg then y else σ0.2.2.1 a b i) (if a = q.1 ∧ b = q.2 ∧ i = j.toNatClampNeg then x else σ.2.2.1 a b i) = true
  by_cases h : a = q.1 ∧ b = q.2 ∧ i = j.toNatClampNeg
  · rw [if_pos h, if_pos h]; exact hy
  · rw [if_neg h, if_neg h]; exact hσ.2.2.1 a b i
/-- what stands in a row of ints after n of another's from sp on came to dp -/
def ae_wC (σ : ae_S) (q0 q1 : ae_R) (sp dp n : Nat) : ae_S := (fun a b c => if a = q1.1 ∧ b = q1.2 then va_cpy (σ.1 q0.1 q0.2) (σ.1 q1.1 q1.2) sp dp n c else σ.1 a b c, σ.2)
theorem ae_copy {idx : Nat} {qa qb : ae_R} {sp dp k : Int32} {n0 n1 : Fin 32 → Nat} (hd : decode M.2.1 pc = .ok (.invokestatic idx, 3)) (hlk : Cond.methodLink M.1 idx arraycopyName ∈ lw_g) (hn0 : Cond.native arraycopyName ∈ lw_g) (hs0 : Cond.static arraycopyName ∈ lw_g) (hi0 : Cond.initialized "java/lang/System" ∈ lw_g) (hqa : ae_ok qa = true) (hqb : ae_ok qb = true) (hca : (ae_sh qa.1).2 = .inr (.int, n0)) (hcb : (ae_sh qb.1).2 = .inr (.int, n1)) (h1 : ¬ sp < 0) (h2 : ¬ dp < 0) (h3 : ¬ k < 0) (h4 : sp.toNatClampNeg + k.toNatClampNeg ≤ n0 qa.2) (h5 : dp.toNatClampNeg + k.toNatClampNeg ≤ n1 qb.2) (hrm : (st.map ae_cat).sum ≤ 8)
    (kk : ae_T l G (d + 1) M Po (pc + 3) lv st (ae_wC σ qa qb sp.toNatClampNeg dp.toNatClampNeg k.toNatClampNeg)) : ae_T l G (d + 1) M Po pc lv (ae_i k :: ae_i dp :: ae_r (some qb) :: ae_i sp :: ae_r (some qa) :: st) σ := by
  intro p e s m args below meth c H locs d0 ls st0 σ0 hX hl hs hσ hP hS hd0
  obtain ⟨r0, rfl, hs0⟩ := ae_ss_i hs
  obtain ⟨r1, rfl, hs1⟩ := ae_ss_i hs0
  obtain ⟨r2, rfl, hs2⟩ := ae_ss_r hs1
  obtain ⟨r3, rfl, hs3⟩ := ae_ss_i hs2
  obtain ⟨r4, rfl, hs4⟩ := ae_ss_r hs3
  obtain ⟨a0, ha0, -⟩ := ae_place (G := G) (σ := σ0) hqa
  obtain ⟨b0, hb0, hb1⟩ := ae_place (G := G) (σ := σ0) hqb
  have hKa : ∀ ty, ty ∈ ae_at → va_K (ae_gD G) vwCl [(ae_gc G ty, ty)] (s.setDrawn d0) := fun ty h => hX.2.2.2.2.2.2.2.arr h
  have hea : (ae_wl G σ0)[a0]? = some (ae_ga G qa.1 qa.2, .inl (ae_gc G .int, n0 qa.2, .inl (σ0.1 qa.1 qa.2))) := by rw [ha0]; simp only [ae_ce, hca]; rfl
  have heb : (ae_wl G σ0)[b0]? = some (ae_ga G qb.1 qb.2, .inl (ae_gc G .int, n1 qb.2, .inl (σ0.1 qb.1 qb.2))) := by rw [hb0]; simp only [ae_ce, hcb]; rfl
  have hD := hX.2.2.2.2.2.2.2.2.2.1 σ0
  have hset := ae_wset (G := G) (σ := σ0) (σ' := ae_wC σ0 qa qb sp.toNatClampNeg dp.toNatClampNeg k.toNatClampNeg) hb1 hD (fun q' h => ae_ce_same (fun c => if_neg fun e => h (Prod.ext e.1 e.2)) (fun _ => rfl) (fun _ => rfl) (fun _ => rfl))
  have hce : ae_ce G (ae_wC σ0 qa qb sp.toNatClampNeg dp.toNatClampNeg k.toNatClampNeg) qb = .inl (ae_gc G .int, n1 qb.2, .inl (va_cpy (σ0.1 qa.1 qa.2) (σ0.1 qb.1 qb.2) sp.toNatClampNeg dp.toNatClampNeg k.toNatClampNeg)) := by
    simp only [ae_ce, hcb]
    show (Sum.inl (_, _, Sum.inl _) : va_E) = _
    congr 4
    funext b
    show (if qb.1 = qb.1 ∧ qb.2 = qb.2 then _ else _) = _
    simp
  rw [hce] at hset
  have hts := dr_words hX.2.2.2.2.1 d0
  refine va_copyi (s := s.setDrawn d0) (R := ae_rm (d + 1)) (ty := .int) hX.1 hX.2.1 (hX.2.2.1.trans hl.1.symm) hX.2.2.2.1 (hts _ hlk) (hts _ hn0) (hts _ ‹Cond.static arraycopyName ∈ lw_g›) (hts _ hi0) (hKa .int (by simp [ae_at])) hP hD hS a0 b0 0 0 hea heb rfl rfl rfl h1 h2 h3 h4 h5 (fun _ _ => rfl) (Nat.le_add_left 1 d) (by rw [ae_ss_cat hs4]; have hw : nativeFrameWords "java/lang/System" "arraycopy" 5 = 7 := (by decide); show _ + _ ≤ 40 * (d + 1); omega) hd (fun H1 locs1 hP1 _ hS1 => ?_)
  rw [hset] at hP1
  exact kk p e s m args below meth c H1 locs1 d0 ls _ (ae_wC σ0 qa qb sp.toNatClampNeg dp.toNatClampNeg k.toNatClampNeg) hX hl hs4 ⟨by simp only [ae_wC, hσ.1], hσ.2.1, hσ.2.2.1, hσ.2.2.2⟩ hP1 hS1 hd0
theorem ae_mmax {idx : Nat} {x y : Int32} (hd : decode M.2.1 pc = .ok (.invokestatic idx, 3)) (hlk : Cond.methodLink M.1 idx Lib.Math.max.name ∈ lw_g) (h1 : Cond.static Lib.Math.max.name ∈ lw_g) (h2 : Cond.initialized "java/lang/Math" ∈ lw_g) (h3 : Cond.code Lib.Math.max.name Lib.Math.max.code 2 (some .int) ∈ lw_g) (hrm : (st.map ae_cat).sum ≤ 8) (k : ae_T l G (d + 1) M Po (pc + 3) lv (ae_i (if x < y then y else x) :: st) σ) : ae_T l G (d + 1) M Po pc lv (ae_i y :: ae_i x :: st) σ := by
  intro p e s m args below meth c H locs d0 ls st0 σ0 hX hl hs hσ hP hS hd0
  obtain ⟨r1, rfl, hs1⟩ := ae_ss_i hs
  obtain ⟨r2, rfl, hs2⟩ := ae_ss_i hs1
  have hts := dr_words hX.2.2.2.2.1 d0
  exact va_mmax (s := s.setDrawn d0) (R := ae_rm (d + 1)) hX.1 hX.2.1 (hX.2.2.1.trans hl.1.symm) hX.2.2.2.1 (hts _ hlk) (hts _ h1) (hts _ h2) (hts _ h3) (Nat.le_add_left 1 d) (by rw [ae_ss_cat hs2]; show _ + _ ≤ 40 * (d + 1); omega) (Nat.zero_le _) (Nat.zero_le _) hd (k p e s m args below meth c H locs d0 ls _ σ0 hX hl ⟨rfl, hs2⟩ hσ hP hS hd0)
theorem ae_mmin {idx : Nat} {x y : Int32} (hd : decode M.2.1 pc = .ok (.invokestatic idx, 3)) (hlk : Cond.methodLink M.1 idx Lib.Math.min.name ∈ lw_g) (h1 : Cond.static Lib.Math.min.name ∈ lw_g) (h2 : Cond.initialized "java/lang/Math" ∈ lw_g) (h3 : Cond.code Lib.Math.min.name Lib.Math.min.code 2 (some .int) ∈ lw_g) (hrm : (st.map ae_cat).sum ≤ 8) (k : ae_T l G (d + 1) M Po (pc + 3) lv (ae_i (if y < x then y else x) :: st) σ) : ae_T l G (d + 1) M Po pc lv (ae_i y :: ae_i x :: st) σ := by
  intro p e s m args below meth c H locs d0 ls st0 σ0 hX hl hs hσ hP hS hd0
  obtain ⟨r1, rfl, hs1⟩ := ae_ss_i hs
  obtain ⟨r2, rfl, hs2⟩ := ae_ss_i hs1
  have hts := dr_words hX.2.2.2.2.1 d0
  exact va_mmin (s := s.setDrawn d0) (R := ae_rm (d + 1)) hX.1 hX.2.1 (hX.2.2.1.trans hl.1.symm) hX.2.2.2.1 (hts _ hlk) (hts _ h1) (hts _ h2) (hts _ h3) (Nat.le_add_left 1 d) (by rw [ae_ss_cat hs2]; show _ + _ ≤ 40 * (d + 1); omega) (Nat.zero_le _) (Nat.zero_le _) hd (k p e s m args below meth c H locs d0 ls _ σ0 hX hl ⟨rfl, hs2⟩ hσ hP hS hd0)
end AEC
