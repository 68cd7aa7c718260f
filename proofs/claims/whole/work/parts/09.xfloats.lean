/-! doubles and floats: which bits a NaN has doesn't matter -/
theorem ae_alN {x0 x : UInt64} (h : alike64 x0 x = true) : x0 = x ∨ (isNaN64 x0 = true ∧ isNaN64 x = true) := by
  unfold alike64 at h
  simpa using h
theorem ae_alF {x0 x : UInt32} (h : alike32 x0 x = true) : x0 = x ∨ (isNaN32 x0 = true ∧ isNaN32 x = true) := by
  unfold alike32 at h
  simpa using h
theorem ae_isN (x : UInt64) : isNaN64 x = FP.Core.dIsNaN x := by
  rw [Bool.eq_iff_iff, isNaN64_iff, FP.Core.isNaN_bits]
  rw [show (0x7fffffffffffffff : Nat) = 2 ^ 63 - 1 from rfl, Nat.and_two_pow_sub_one_eq_mod]
theorem ae_dec {x0 x : UInt64} (h : alike64 x0 x = true) : FP.Core.decode FP.Core.b64 x0.toNat = FP.Core.decode FP.Core.b64 x.toNat := by
  rcases ae_alN h with rfl | ⟨h1, h2⟩
  · rfl
  · rw [ae_isN, FP.Core.dIsNaN_iff] at h1 h2
    exact h1.trans h2.symm
theorem ae_alT {a b c : UInt64} (h1 : alike64 a b = true) (h2 : b = c) : alike64 a c = true := h2 ▸ h1
theorem ae_alTF {a b c : UInt32} (h1 : alike32 a b = true) (h2 : alike32 b c = true) : alike32 a c = true := by
  rcases ae_alF h1 with rfl | ⟨h3, h4⟩
  · exact h2
  · rcases ae_alF h2 with rfl | ⟨h5, h6⟩
    · exact h1
    · unfold alike32; simp [h3, h6]
theorem ae_alTD {a b c : UInt64} (h1 : alike64 a b = true) (h2 : alike64 b c = true) : alike64 a c = true := by
  rcases ae_alN h1 with rfl | ⟨h3, h4⟩
  · exact h2
  · rcases ae_alN h2 with rfl | ⟨h5, h6⟩
    · exact h1
    · unfold alike64; simp [h3, h6]
theorem ae_alD2F {x0 x : UInt64} (h : alike64 x0 x = true) : alike32 (FP.d2f x0) (FP.d2f x) = true := by
  rcases ae_alN h with rfl | ⟨h1, h2⟩
  · exact alike32_refl _
  · have q : ∀ z : UInt64, isNaN64 z = true → isNaN32 (FP.d2f z) = true := fun z hz => by
      rw [ae_isN] at hz
      have h3 : FP.d2f z = FP.nanD2F z := if_pos hz
      rw [h3]
      unfold FP.nanD2F
      exact isNaN32_or_left (isNaN32_or_right (by decide))
    unfold alike32
    simp [q x0 h1, q x h2]
theorem ae_alF2D {x0 x : UInt32} (h : alike32 x0 x = true) : alike64 (FP.f2d x0) (FP.f2d x) = true := by
  rcases ae_alF h with rfl | ⟨h1, h2⟩
  · exact alike64_refl _
  · have e : ∀ z : UInt32, isNaN32 z = FP.Core.fIsNaN z := fun z => by
      rw [Bool.eq_iff_iff, isNaN32_iff, FP.Core.isNaN_bits32]
      rw [show (0x7fffffff : Nat) = 2 ^ 31 - 1 from rfl, Nat.and_two_pow_sub_one_eq_mod]
    have q : ∀ z : UInt32, isNaN32 z = true → isNaN64 (FP.f2d z) = true := fun z hz => by
      rw [e] at hz
      have h3 : FP.f2d z = FP.nanF2D z := if_pos hz
      rw [h3]
      unfold FP.nanF2D
      exact isNaN64_or_left (isNaN64_or_right (by decide))
    unfold alike64
    simp [q x0 h1, q x h2]
theorem ae_alNeg {x0 x : UInt64} (h : alike64 x0 x = true) : alike64 (FP.dneg x0) (FP.dneg x) = true := by
  rcases ae_alN h with rfl | ⟨h1, h2⟩
  · exact alike64_refl _
  · rw [ae_isN] at h1 h2
    have q : ∀ z : UInt64, FP.Core.dIsNaN z = true → isNaN64 (FP.dneg z) = true := fun z hz => by
      rw [ae_isN]; exact (FP.dneg_nan z).trans hz
    unfold alike64
    simp [q x0 h1, q x h2]
section AED
variable {l : Launch} {G : ae_G} {d : Nat} {M : ae_M} {Po : Option ae_V → ae_S → Prop} {pc : Nat} {lv : List (Nat × ae_V)} {st : List ae_V} {σ : ae_S}
theorem ae_dadd {x y : UInt64} (hd : decode M.2.1 pc = .ok (.dadd, 1)) (k : ae_T l G d M Po (pc + 1) lv (ae_d (FP.dadd x y) :: st) σ) : ae_T l G d M Po pc lv (ae_d y :: ae_d x :: st) σ := by
  intro p e s m args below meth c H locs d0 ls st0 σ0 hX hl hs hσ hP hS hd0
  obtain ⟨w1, r1, rfl, ⟨y0, rfl, hy⟩, hs1⟩ := ae_ss_c hs
  obtain ⟨w2, r2, rfl, ⟨x0, rfl, hx⟩, hs2⟩ := ae_ss_c hs1
  have ec : FP.dadd x0 y0 = FP.dadd x y := by
    show FP.Core.dadd x0 y0 = FP.Core.dadd x y
    unfold FP.Core.dadd FP.Core.add
    rw [ae_dec hx, ae_dec hy]
  exact lv_dadd_any hd0 lw_bits hX.1 hX.2.1 hd (fun r d1 hal hd1 => k p e s m args below meth c H locs d1 ls (.double r :: r2) σ0 hX hl ⟨⟨r, rfl, ae_alT hal ec⟩, hs2⟩ hσ hP hS hd1)
theorem ae_dsub {x y : UInt64} (hd : decode M.2.1 pc = .ok (.dsub, 1)) (k : ae_T l G d M Po (pc + 1) lv (ae_d (FP.dsub x y) :: st) σ) : ae_T l G d M Po pc lv (ae_d y :: ae_d x :: st) σ := by
  intro p e s m args below meth c H locs d0 ls st0 σ0 hX hl hs hσ hP hS hd0
  obtain ⟨w1, r1, rfl, ⟨y0, rfl, hy⟩, hs1⟩ := ae_ss_c hs
  obtain ⟨w2, r2, rfl, ⟨x0, rfl, hx⟩, hs2⟩ := ae_ss_c hs1
  have ec : FP.dsub x0 y0 = FP.dsub x y := by
    show FP.Core.dsub x0 y0 = FP.Core.dsub x y
    unfold FP.Core.dsub FP.Core.sub
    rw [ae_dec hx, ae_dec hy]
  exact lv_dsub_any hd0 lw_bits hX.1 hX.2.1 hd (fun r d1 hal hd1 => k p e s m args below meth c H locs d1 ls (.double r :: r2) σ0 hX hl ⟨⟨r, rfl, ae_alT hal ec⟩, hs2⟩ hσ hP hS hd1)
theorem ae_dmul {x y : UInt64} (hd : decode M.2.1 pc = .ok (.dmul, 1)) (k : ae_T l G d M Po (pc + 1) lv (ae_d (FP.dmul x y) :: st) σ) : ae_T l G d M Po pc lv (ae_d y :: ae_d x :: st) σ := by
  intro p e s m args below meth c H locs d0 ls st0 σ0 hX hl hs hσ hP hS hd0
  obtain ⟨w1, r1, rfl, ⟨y0, rfl, hy⟩, hs1⟩ := ae_ss_c hs
  obtain ⟨w2, r2, rfl, ⟨x0, rfl, hx⟩, hs2⟩ := ae_ss_c hs1
  have ec : FP.dmul x0 y0 = FP.dmul x y := by
    show FP.Core.dmul x0 y0 = FP.Core.dmul x y
    unfold FP.Core.dmul FP.Core.mul
    rw [ae_dec hx, ae_dec hy]
  exact lv_dmul_any hd0 lw_bits hX.1 hX.2.1 hd (fun r d1 hal hd1 => k p e s m args below meth c H locs d1 ls (.double r :: r2) σ0 hX hl ⟨⟨r, rfl, ae_alT hal ec⟩, hs2⟩ hσ hP hS hd1)
theorem ae_ddiv {x y : UInt64} (hd : decode M.2.1 pc = .ok (.ddiv, 1)) (k : ae_T l G d M Po (pc + 1) lv (ae_d (FP.ddiv x y) :: st) σ) : ae_T l G d M Po pc lv (ae_d y :: ae_d x :: st) σ := by
  intro p e s m args below meth c H locs d0 ls st0 σ0 hX hl hs hσ hP hS hd0
  obtain ⟨w1, r1, rfl, ⟨y0, rfl, hy⟩, hs1⟩ := ae_ss_c hs
  obtain ⟨w2, r2, rfl, ⟨x0, rfl, hx⟩, hs2⟩ := ae_ss_c hs1
  have ec : FP.ddiv x0 y0 = FP.ddiv x y := by
    show FP.Core.ddiv x0 y0 = FP.Core.ddiv x y
    unfold FP.Core.ddiv FP.Core.div
    rw [ae_dec hx, ae_dec hy]
  exact lv_ddiv_any hd0 lw_bits hX.1 hX.2.1 hd (fun r d1 hal hd1 => k p e s m args below meth c H locs d1 ls (.double r :: r2) σ0 hX hl ⟨⟨r, rfl, ae_alT hal ec⟩, hs2⟩ hσ hP hS hd1)
theorem ae_drem {x y : UInt64} (hd : decode M.2.1 pc = .ok (.drem, 1)) (k : ae_T l G d M Po (pc + 1) lv (ae_d (FP.drem x y) :: st) σ) : ae_T l G d M Po pc lv (ae_d y :: ae_d x :: st) σ := by
  intro p e s m args below meth c H locs d0 ls st0 σ0 hX hl hs hσ hP hS hd0
  obtain ⟨w1, r1, rfl, ⟨y0, rfl, hy⟩, hs1⟩ := ae_ss_c hs
  obtain ⟨w2, r2, rfl, ⟨x0, rfl, hx⟩, hs2⟩ := ae_ss_c hs1
  have ec : FP.drem x0 y0 = FP.drem x y := by
    show FP.Core.drem x0 y0 = FP.Core.drem x y
    unfold FP.Core.drem FP.Core.rem
    rw [ae_dec hx, ae_dec hy]
  exact lv_drem_any hd0 lw_bits hX.1 hX.2.1 hd (fun r d1 hal hd1 => k p e s m args below meth c H locs d1 ls (.double r :: r2) σ0 hX hl ⟨⟨r, rfl, ae_alT hal ec⟩, hs2⟩ hσ hP hS hd1)
theorem ae_dneg {x : UInt64} (hd : decode M.2.1 pc = .ok (.dneg, 1)) (k : ae_T l G d M Po (pc + 1) lv (ae_d (FP.dneg x) :: st) σ) : ae_T l G d M Po pc lv (ae_d x :: st) σ := by
  intro p e s m args below meth c H locs d0 ls st0 σ0 hX hl hs hσ hP hS hd0
  obtain ⟨w1, r1, rfl, ⟨x0, rfl, hx⟩, hs1⟩ := ae_ss_c hs
  exact lv_dneg hX.1 hX.2.1 hd (k p e s m args below meth c H locs d0 ls (.double (FP.dneg x0) :: r1) σ0 hX hl ⟨⟨_, rfl, ae_alNeg hx⟩, hs1⟩ hσ hP hS hd0)
theorem ae_dcmp {x y : UInt64} {op : CmpOp} (hd : decode M.2.1 pc = .ok (.dcmp op, 1)) (k : ae_T l G d M Po (pc + 1) lv (ae_i (Op.cmpValue (FP.dcmp x y) op) :: st) σ) : ae_T l G d M Po pc lv (ae_d y :: ae_d x :: st) σ := by
  intro p e s m args below meth c H locs d0 ls st0 σ0 hX hl hs hσ hP hS hd0
  obtain ⟨w1, r1, rfl, ⟨y0, rfl, hy⟩, hs1⟩ := ae_ss_c hs
  obtain ⟨w2, r2, rfl, ⟨x0, rfl, hx⟩, hs2⟩ := ae_ss_c hs1
  have ec : FP.dcmp x0 y0 = FP.dcmp x y := by
    show FP.Core.dcmp x0 y0 = FP.Core.dcmp x y
    unfold FP.Core.dcmp FP.Core.cmp
    rw [ae_dec hx, ae_dec hy]
  refine lv_dcmp hX.1 hX.2.1 hd ?_
  rw [ec]
  exact k p e s m args below meth c H locs d0 ls _ σ0 hX hl ⟨rfl, hs2⟩ hσ hP hS hd0
theorem ae_l2d {x : Int64} (hd : decode M.2.1 pc = .ok (.l2d, 1)) (k : ae_T l G d M Po (pc + 1) lv (ae_d (FP.l2d x) :: st) σ) : ae_T l G d M Po pc lv (ae_l x :: st) σ := by
  intro p e s m args below meth c H locs d0 ls st0 σ0 hX hl hs hσ hP hS hd0
  obtain ⟨r1, rfl, hs1⟩ := ae_ss_l hs
  exact lv_l2d hX.1 hX.2.1 hd (k p e s m args below meth c H locs d0 ls (.double (FP.l2d x) :: r1) σ0 hX hl ⟨⟨_, rfl, alike64_refl _⟩, hs1⟩ hσ hP hS hd0)
theorem ae_l2f {x : Int64} (hd : decode M.2.1 pc = .ok (.l2f, 1)) (k : ae_T l G d M Po (pc + 1) lv (ae_f (FP.l2f x) :: st) σ) : ae_T l G d M Po pc lv (ae_l x :: st) σ := by
  intro p e s m args below meth c H locs d0 ls st0 σ0 hX hl hs hσ hP hS hd0
  obtain ⟨r1, rfl, hs1⟩ := ae_ss_l hs
  exact lv_l2f hX.1 hX.2.1 hd (k p e s m args below meth c H locs d0 ls (.float (FP.l2f x) :: r1) σ0 hX hl ⟨⟨_, rfl, alike32_refl _⟩, hs1⟩ hσ hP hS hd0)
theorem ae_d2l {x : UInt64} (hd : decode M.2.1 pc = .ok (.d2l, 1)) (k : ae_T l G d M Po (pc + 1) lv (ae_l (FP.d2l x) :: st) σ) : ae_T l G d M Po pc lv (ae_d x :: st) σ := by
  intro p e s m args below meth c H locs d0 ls st0 σ0 hX hl hs hσ hP hS hd0
  obtain ⟨w1, r1, rfl, ⟨x0, rfl, hx⟩, hs1⟩ := ae_ss_c hs
  have ec : FP.d2l x0 = FP.d2l x := by
    show FP.Core.d2l x0 = FP.Core.d2l x
    unfold FP.Core.d2l
    rw [ae_dec hx]
  refine lv_d2l hX.1 hX.2.1 hd ?_
  rw [ec]
  exact k p e s m args below meth c H locs d0 ls _ σ0 hX hl ⟨rfl, hs1⟩ hσ hP hS hd0
theorem ae_d2f {x : UInt64} (hd : decode M.2.1 pc = .ok (.d2f, 1)) (k : ae_T l G d M Po (pc + 1) lv (ae_f (FP.d2f x) :: st) σ) : ae_T l G d M Po pc lv (ae_d x :: st) σ := by
  intro p e s m args below meth c H locs d0 ls st0 σ0 hX hl hs hσ hP hS hd0
  obtain ⟨w1, r1, rfl, ⟨x0, rfl, hx⟩, hs1⟩ := ae_ss_c hs
  exact lv_d2f_any hd0 lw_bits hX.1 hX.2.1 hd (fun r d1 hal hd1 => k p e s m args below meth c H locs d1 ls (.float r :: r1) σ0 hX hl ⟨⟨r, rfl, ae_alTF hal (ae_alD2F hx)⟩, hs1⟩ hσ hP hS hd1)
theorem ae_f2d {x : UInt32} (hd : decode M.2.1 pc = .ok (.f2d, 1)) (k : ae_T l G d M Po (pc + 1) lv (ae_d (FP.f2d x) :: st) σ) : ae_T l G d M Po pc lv (ae_f x :: st) σ := by
  intro p e s m args below meth c H locs d0 ls st0 σ0 hX hl hs hσ hP hS hd0
  obtain ⟨w1, r1, rfl, ⟨x0, rfl, hx⟩, hs1⟩ := ae_ss_c hs
  exact lv_f2d_any hd0 lw_bits hX.1 hX.2.1 hd (fun r d1 hal hd1 => k p e s m args below meth c H locs d1 ls (.double r :: r1) σ0 hX hl ⟨⟨r, rfl, ae_alTD hal (ae_alF2D hx)⟩, hs1⟩ hσ hP hS hd1)
theorem ae_dconst0 (hd : decode M.2.1 pc = .ok (.dconst 0, 1)) (k : ae_T l G d M Po (pc + 1) lv (ae_d FP.dconst0 :: st) σ) : ae_T l G d M Po pc lv st σ := by
  intro p e s m args below meth c H locs d0 ls st0 σ0 hX hl hs hσ hP hS hd0
  exact lv_dconst0 hX.1 hX.2.1 hd (k p e s m args below meth c H locs d0 ls (.double FP.dconst0 :: st0) σ0 hX hl ⟨⟨_, rfl, alike64_refl _⟩, hs⟩ hσ hP hS hd0)
theorem ae_dconst1 (hd : decode M.2.1 pc = .ok (.dconst 1, 1)) (k : ae_T l G d M Po (pc + 1) lv (ae_d FP.dconst1 :: st) σ) : ae_T l G d M Po pc lv st σ := by
  intro p e s m args below meth c H locs d0 ls st0 σ0 hX hl hs hσ hP hS hd0
  exact lv_dconst1 hX.1 hX.2.1 hd (k p e s m args below meth c H locs d0 ls (.double FP.dconst1 :: st0) σ0 hX hl ⟨⟨_, rfl, alike64_refl _⟩, hs⟩ hσ hP hS hd0)
theorem ae_ldc2d {n : Nat} {v : UInt64} (hd : decode M.2.1 pc = .ok (.ldc2_w n, 3)) (hw : Cond.constantDouble M.1 n v ∈ lw_g) (k : ae_T l G d M Po (pc + 3) lv (ae_d v :: st) σ) : ae_T l G d M Po pc lv st σ := by
  intro p e s m args below meth c H locs d0 ls st0 σ0 hX hl hs hσ hP hS hd0
  exact lv_ldc2d hX.1 hX.2.1 hX.2.2.2.1 (dr_words hX.2.2.2.2.1 d0 _ hw) hd (k p e s m args below meth c H locs d0 ls (.double v :: st0) σ0 hX hl ⟨⟨_, rfl, alike64_refl _⟩, hs⟩ hσ hP hS hd0)
theorem ae_fload_n {i : Fin 4} {x : UInt32} (j : Nat) (hd : decode M.2.1 pc = .ok (.fload_n i, 1)) (hj : lv[j]? = some (i.val, ae_f x)) (k : ae_T l G d M Po (pc + 1) lv (ae_f x :: st) σ) : ae_T l G d M Po pc lv st σ := by
  intro p e s m args below meth c H locs d0 ls st0 σ0 hX hl hs hσ hP hS hd0
  obtain ⟨w, h1, y, rfl, h2⟩ := hl.2.2 _ (List.mem_of_getElem? hj)
  exact lv_fload_n hX.1 hX.2.1 hd rfl h1 (k p e s m args below meth c H locs d0 ls _ σ0 hX hl ⟨⟨y, rfl, h2⟩, hs⟩ hσ hP hS hd0)
end AED
