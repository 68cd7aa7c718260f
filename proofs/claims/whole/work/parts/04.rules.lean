/-! the rules: an instruction, a rule over ae_T -/
section AER
variable {l : Launch} {G : ae_G} {d : Nat} {M : ae_M} {Po : Option ae_V → ae_S → Prop} {pc : Nat} {lv : List (Nat × ae_V)} {st : List ae_V} {σ : ae_S}
theorem ae_iadd {x y : Int32} (hd : decode M.2.1 pc = .ok (.iadd, 1)) (k : ae_T l G d M Po (pc + 1) lv (ae_i (x + y) :: st) σ) : ae_T l G d M Po pc lv (ae_i y :: ae_i x :: st) σ := by
  intro p e s m args below meth c H locs d0 ls st0 σ0 hX hl hs hσ hP hS hd0
  obtain ⟨r1, rfl, hs1⟩ := ae_ss_i hs
  obtain ⟨r2, rfl, hs2⟩ := ae_ss_i hs1
  exact lv_iadd hX.1 hX.2.1 hd (k p e s m args below meth c H locs d0 ls _ σ0 hX hl ⟨rfl, hs2⟩ hσ hP hS hd0)
theorem ae_isub {x y : Int32} (hd : decode M.2.1 pc = .ok (.isub, 1)) (k : ae_T l G d M Po (pc + 1) lv (ae_i (x - y) :: st) σ) : ae_T l G d M Po pc lv (ae_i y :: ae_i x :: st) σ := by
  intro p e s m args below meth c H locs d0 ls st0 σ0 hX hl hs hσ hP hS hd0
  obtain ⟨r1, rfl, hs1⟩ := ae_ss_i hs
  obtain ⟨r2, rfl, hs2⟩ := ae_ss_i hs1
  exact lv_isub hX.1 hX.2.1 hd (k p e s m args below meth c H locs d0 ls _ σ0 hX hl ⟨rfl, hs2⟩ hσ hP hS hd0)
theorem ae_imul {x y : Int32} (hd : decode M.2.1 pc = .ok (.imul, 1)) (k : ae_T l G d M Po (pc + 1) lv (ae_i (x * y) :: st) σ) : ae_T l G d M Po pc lv (ae_i y :: ae_i x :: st) σ := by
  intro p e s m args below meth c H locs d0 ls st0 σ0 hX hl hs hσ hP hS hd0
  obtain ⟨r1, rfl, hs1⟩ := ae_ss_i hs
  obtain ⟨r2, rfl, hs2⟩ := ae_ss_i hs1
  exact lv_imul hX.1 hX.2.1 hd (k p e s m args below meth c H locs d0 ls _ σ0 hX hl ⟨rfl, hs2⟩ hσ hP hS hd0)
theorem ae_iand {x y : Int32} (hd : decode M.2.1 pc = .ok (.iand, 1)) (k : ae_T l G d M Po (pc + 1) lv (ae_i (x &&& y) :: st) σ) : ae_T l G d M Po pc lv (ae_i y :: ae_i x :: st) σ := by
  intro p e s m args below meth c H locs d0 ls st0 σ0 hX hl hs hσ hP hS hd0
  obtain ⟨r1, rfl, hs1⟩ := ae_ss_i hs
  obtain ⟨r2, rfl, hs2⟩ := ae_ss_i hs1
  exact lv_iand hX.1 hX.2.1 hd (k p e s m args below meth c H locs d0 ls _ σ0 hX hl ⟨rfl, hs2⟩ hσ hP hS hd0)
theorem ae_ior {x y : Int32} (hd : decode M.2.1 pc = .ok (.ior, 1)) (k : ae_T l G d M Po (pc + 1) lv (ae_i (x ||| y) :: st) σ) : ae_T l G d M Po pc lv (ae_i y :: ae_i x :: st) σ := by
  intro p e s m args below meth c H locs d0 ls st0 σ0 hX hl hs hσ hP hS hd0
  obtain ⟨r1, rfl, hs1⟩ := ae_ss_i hs
  obtain ⟨r2, rfl, hs2⟩ := ae_ss_i hs1
  exact lv_ior hX.1 hX.2.1 hd (k p e s m args below meth c H locs d0 ls _ σ0 hX hl ⟨rfl, hs2⟩ hσ hP hS hd0)
theorem ae_ixor {x y : Int32} (hd : decode M.2.1 pc = .ok (.ixor, 1)) (k : ae_T l G d M Po (pc + 1) lv (ae_i (x ^^^ y) :: st) σ) : ae_T l G d M Po pc lv (ae_i y :: ae_i x :: st) σ := by
  intro p e s m args below meth c H locs d0 ls st0 σ0 hX hl hs hσ hP hS hd0
  obtain ⟨r1, rfl, hs1⟩ := ae_ss_i hs
  obtain ⟨r2, rfl, hs2⟩ := ae_ss_i hs1
  exact lv_ixor hX.1 hX.2.1 hd (k p e s m args below meth c H locs d0 ls _ σ0 hX hl ⟨rfl, hs2⟩ hσ hP hS hd0)
theorem ae_ishl {x y : Int32} (hd : decode M.2.1 pc = .ok (.ishl, 1)) (k : ae_T l G d M Po (pc + 1) lv (ae_i (x <<< (y &&& 31)) :: st) σ) : ae_T l G d M Po pc lv (ae_i y :: ae_i x :: st) σ := by
  intro p e s m args below meth c H locs d0 ls st0 σ0 hX hl hs hσ hP hS hd0
  obtain ⟨r1, rfl, hs1⟩ := ae_ss_i hs
  obtain ⟨r2, rfl, hs2⟩ := ae_ss_i hs1
  exact lv_ishl hX.1 hX.2.1 hd (k p e s m args below meth c H locs d0 ls _ σ0 hX hl ⟨rfl, hs2⟩ hσ hP hS hd0)
theorem ae_ishr {x y : Int32} (hd : decode M.2.1 pc = .ok (.ishr, 1)) (k : ae_T l G d M Po (pc + 1) lv (ae_i (x >>> (y &&& 31)) :: st) σ) : ae_T l G d M Po pc lv (ae_i y :: ae_i x :: st) σ := by
  intro p e s m args below meth c H locs d0 ls st0 σ0 hX hl hs hσ hP hS hd0
  obtain ⟨r1, rfl, hs1⟩ := ae_ss_i hs
  obtain ⟨r2, rfl, hs2⟩ := ae_ss_i hs1
  exact lv_ishr hX.1 hX.2.1 hd (k p e s m args below meth c H locs d0 ls _ σ0 hX hl ⟨rfl, hs2⟩ hσ hP hS hd0)
theorem ae_iushr {x y : Int32} (hd : decode M.2.1 pc = .ok (.iushr, 1)) (k : ae_T l G d M Po (pc + 1) lv (ae_i (x.toUInt32 >>> (y.toUInt32 &&& Int32.toUInt32 31)).toInt32 :: st) σ) : ae_T l G d M Po pc lv (ae_i y :: ae_i x :: st) σ := by
  intro p e s m args below meth c H locs d0 ls st0 σ0 hX hl hs hσ hP hS hd0
  obtain ⟨r1, rfl, hs1⟩ := ae_ss_i hs
  obtain ⟨r2, rfl, hs2⟩ := ae_ss_i hs1
  exact lv_iushr hX.1 hX.2.1 hd rfl (k p e s m args below meth c H locs d0 ls _ σ0 hX hl ⟨rfl, hs2⟩ hσ hP hS hd0)
theorem ae_idiv {x y : Int32} (hd : decode M.2.1 pc = .ok (.idiv, 1)) (hne : ¬ y = 0) (k : ae_T l G d M Po (pc + 1) lv (ae_i (x / y) :: st) σ) : ae_T l G d M Po pc lv (ae_i y :: ae_i x :: st) σ := by
  intro p e s m args below meth c H locs d0 ls st0 σ0 hX hl hs hσ hP hS hd0
  obtain ⟨r1, rfl, hs1⟩ := ae_ss_i hs
  obtain ⟨r2, rfl, hs2⟩ := ae_ss_i hs1
  exact lv_idiv hX.1 hX.2.1 hd hne (k p e s m args below meth c H locs d0 ls _ σ0 hX hl ⟨rfl, hs2⟩ hσ hP hS hd0)
theorem ae_irem {x y : Int32} (hd : decode M.2.1 pc = .ok (.irem, 1)) (hne : ¬ y = 0) (k : ae_T l G d M Po (pc + 1) lv (ae_i (x - x / y * y) :: st) σ) : ae_T l G d M Po pc lv (ae_i y :: ae_i x :: st) σ := by
  intro p e s m args below meth c H locs d0 ls st0 σ0 hX hl hs hσ hP hS hd0
  obtain ⟨r1, rfl, hs1⟩ := ae_ss_i hs
  obtain ⟨r2, rfl, hs2⟩ := ae_ss_i hs1
  exact lv_irem hX.1 hX.2.1 hd hne (k p e s m args below meth c H locs d0 ls _ σ0 hX hl ⟨rfl, hs2⟩ hσ hP hS hd0)
theorem ae_ladd {x y : Int64} (hd : decode M.2.1 pc = .ok (.ladd, 1)) (k : ae_T l G d M Po (pc + 1) lv (ae_l (x + y) :: st) σ) : ae_T l G d M Po pc lv (ae_l y :: ae_l x :: st) σ := by
  intro p e s m args below meth c H locs d0 ls st0 σ0 hX hl hs hσ hP hS hd0
  obtain ⟨r1, rfl, hs1⟩ := ae_ss_l hs
  obtain ⟨r2, rfl, hs2⟩ := ae_ss_l hs1
  exact lv_ladd hX.1 hX.2.1 hd (k p e s m args below meth c H locs d0 ls _ σ0 hX hl ⟨rfl, hs2⟩ hσ hP hS hd0)
theorem ae_lsub {x y : Int64} (hd : decode M.2.1 pc = .ok (.lsub, 1)) (k : ae_T l G d M Po (pc + 1) lv (ae_l (x - y) :: st) σ) : ae_T l G d M Po pc lv (ae_l y :: ae_l x :: st) σ := by
  intro p e s m args below meth c H locs d0 ls st0 σ0 hX hl hs hσ hP hS hd0
  obtain ⟨r1, rfl, hs1⟩ := ae_ss_l hs
  obtain ⟨r2, rfl, hs2⟩ := ae_ss_l hs1
  exact lv_lsub hX.1 hX.2.1 hd (k p e s m args below meth c H locs d0 ls _ σ0 hX hl ⟨rfl, hs2⟩ hσ hP hS hd0)
theorem ae_lmul {x y : Int64} (hd : decode M.2.1 pc = .ok (.lmul, 1)) (k : ae_T l G d M Po (pc + 1) lv (ae_l (x * y) :: st) σ) : ae_T l G d M Po pc lv (ae_l y :: ae_l x :: st) σ := by
  intro p e s m args below meth c H locs d0 ls st0 σ0 hX hl hs hσ hP hS hd0
  obtain ⟨r1, rfl, hs1⟩ := ae_ss_l hs
  obtain ⟨r2, rfl, hs2⟩ := ae_ss_l hs1
  exact lv_lmul hX.1 hX.2.1 hd (k p e s m args below meth c H locs d0 ls _ σ0 hX hl ⟨rfl, hs2⟩ hσ hP hS hd0)
theorem ae_land {x y : Int64} (hd : decode M.2.1 pc = .ok (.land, 1)) (k : ae_T l G d M Po (pc + 1) lv (ae_l (x &&& y) :: st) σ) : ae_T l G d M Po pc lv (ae_l y :: ae_l x :: st) σ := by
  intro p e s m args below meth c H locs d0 ls st0 σ0 hX hl hs hσ hP hS hd0
  obtain ⟨r1, rfl, hs1⟩ := ae_ss_l hs
  obtain ⟨r2, rfl, hs2⟩ := ae_ss_l hs1
  exact lv_land hX.1 hX.2.1 hd (k p e s m args below meth c H locs d0 ls _ σ0 hX hl ⟨rfl, hs2⟩ hσ hP hS hd0)
theorem ae_lor {x y : Int64} (hd : decode M.2.1 pc = .ok (.lor, 1)) (k : ae_T l G d M Po (pc + 1) lv (ae_l (x ||| y) :: st) σ) : ae_T l G d M Po pc lv (ae_l y :: ae_l x :: st) σ := by
  intro p e s m args below meth c H locs d0 ls st0 σ0 hX hl hs hσ hP hS hd0
  obtain ⟨r1, rfl, hs1⟩ := ae_ss_l hs
  obtain ⟨r2, rfl, hs2⟩ := ae_ss_l hs1
  exact lv_lor hX.1 hX.2.1 hd (k p e s m args below meth c H locs d0 ls _ σ0 hX hl ⟨rfl, hs2⟩ hσ hP hS hd0)
theorem ae_lxor {x y : Int64} (hd : decode M.2.1 pc = .ok (.lxor, 1)) (k : ae_T l G d M Po (pc + 1) lv (ae_l (x ^^^ y) :: st) σ) : ae_T l G d M Po pc lv (ae_l y :: ae_l x :: st) σ := by
  intro p e s m args below meth c H locs d0 ls st0 σ0 hX hl hs hσ hP hS hd0
  obtain ⟨r1, rfl, hs1⟩ := ae_ss_l hs
  obtain ⟨r2, rfl, hs2⟩ := ae_ss_l hs1
  exact lv_lxor hX.1 hX.2.1 hd (k p e s m args below meth c H locs d0 ls _ σ0 hX hl ⟨rfl, hs2⟩ hσ hP hS hd0)
theorem ae_ldiv {x y : Int64} (hd : decode M.2.1 pc = .ok (.ldiv, 1)) (hne : ¬ y = 0) (k : ae_T l G d M Po (pc + 1) lv (ae_l (x / y) :: st) σ) : ae_T l G d M Po pc lv (ae_l y :: ae_l x :: st) σ := by
  intro p e s m args below meth c H locs d0 ls st0 σ0 hX hl hs hσ hP hS hd0
  obtain ⟨r1, rfl, hs1⟩ := ae_ss_l hs
  obtain ⟨r2, rfl, hs2⟩ := ae_ss_l hs1
  exact lv_ldiv hX.1 hX.2.1 hd hne (k p e s m args below meth c H locs d0 ls _ σ0 hX hl ⟨rfl, hs2⟩ hσ hP hS hd0)
theorem ae_lrem {x y : Int64} (hd : decode M.2.1 pc = .ok (.lrem, 1)) (hne : ¬ y = 0) (k : ae_T l G d M Po (pc + 1) lv (ae_l (x - x / y * y) :: st) σ) : ae_T l G d M Po pc lv (ae_l y :: ae_l x :: st) σ := by
  intro p e s m args below meth c H locs d0 ls st0 σ0 hX hl hs hσ hP hS hd0
  obtain ⟨r1, rfl, hs1⟩ := ae_ss_l hs
  obtain ⟨r2, rfl, hs2⟩ := ae_ss_l hs1
  exact lv_lrem hX.1 hX.2.1 hd hne (k p e s m args below meth c H locs d0 ls _ σ0 hX hl ⟨rfl, hs2⟩ hσ hP hS hd0)
theorem ae_lshl {x : Int64} {y : Int32} (hd : decode M.2.1 pc = .ok (.lshl, 1)) (k : ae_T l G d M Po (pc + 1) lv (ae_l (x <<< (y.toInt64 &&& 63)) :: st) σ) : ae_T l G d M Po pc lv (ae_i y :: ae_l x :: st) σ := by
  intro p e s m args below meth c H locs d0 ls st0 σ0 hX hl hs hσ hP hS hd0
  obtain ⟨r1, rfl, hs1⟩ := ae_ss_i hs
  obtain ⟨r2, rfl, hs2⟩ := ae_ss_l hs1
  exact lv_lshl hX.1 hX.2.1 hd rfl (k p e s m args below meth c H locs d0 ls _ σ0 hX hl ⟨rfl, hs2⟩ hσ hP hS hd0)
theorem ae_lshr {x : Int64} {y : Int32} (hd : decode M.2.1 pc = .ok (.lshr, 1)) (k : ae_T l G d M Po (pc + 1) lv (ae_l (x >>> (y.toInt64 &&& 63)) :: st) σ) : ae_T l G d M Po pc lv (ae_i y :: ae_l x :: st) σ := by
  intro p e s m args below meth c H locs d0 ls st0 σ0 hX hl hs hσ hP hS hd0
  obtain ⟨r1, rfl, hs1⟩ := ae_ss_i hs
  obtain ⟨r2, rfl, hs2⟩ := ae_ss_l hs1
  exact lv_lshr hX.1 hX.2.1 hd rfl (k p e s m args below meth c H locs d0 ls _ σ0 hX hl ⟨rfl, hs2⟩ hσ hP hS hd0)
theorem ae_lushr {x : Int64} {y : Int32} (hd : decode M.2.1 pc = .ok (.lushr, 1)) (k : ae_T l G d M Po (pc + 1) lv (ae_l ((x.toUInt64 >>> (y.toInt64.toUInt64 &&& Int64.toUInt64 63)).toInt64) :: st) σ) : ae_T l G d M Po pc lv (ae_i y :: ae_l x :: st) σ := by
  intro p e s m args below meth c H locs d0 ls st0 σ0 hX hl hs hσ hP hS hd0
  obtain ⟨r1, rfl, hs1⟩ := ae_ss_i hs
  obtain ⟨r2, rfl, hs2⟩ := ae_ss_l hs1
  exact lv_lushr hX.1 hX.2.1 hd rfl (k p e s m args below meth c H locs d0 ls _ σ0 hX hl ⟨rfl, hs2⟩ hσ hP hS hd0)
theorem ae_lcmp {x y : Int64} (hd : decode M.2.1 pc = .ok (.lcmp, 1)) (k : ae_T l G d M Po (pc + 1) lv (ae_i (lg_cmp x y) :: st) σ) : ae_T l G d M Po pc lv (ae_l y :: ae_l x :: st) σ := by
  intro p e s m args below meth c H locs d0 ls st0 σ0 hX hl hs hσ hP hS hd0
  obtain ⟨r1, rfl, hs1⟩ := ae_ss_l hs
  obtain ⟨r2, rfl, hs2⟩ := ae_ss_l hs1
  exact W.lcmp hX.1 hX.2.1 hd (k p e s m args below meth c H locs d0 ls _ σ0 hX hl ⟨rfl, hs2⟩ hσ hP hS hd0)
theorem ae_ineg {x : Int32} (hd : decode M.2.1 pc = .ok (.ineg, 1)) (k : ae_T l G d M Po (pc + 1) lv (ae_i (-x) :: st) σ) : ae_T l G d M Po pc lv (ae_i x :: st) σ := by
  intro p e s m args below meth c H locs d0 ls st0 σ0 hX hl hs hσ hP hS hd0
  obtain ⟨r1, rfl, hs1⟩ := ae_ss_i hs
  exact lv_ineg hX.1 hX.2.1 hd (k p e s m args below meth c H locs d0 ls _ σ0 hX hl ⟨rfl, hs1⟩ hσ hP hS hd0)
theorem ae_lneg {x : Int64} (hd : decode M.2.1 pc = .ok (.lneg, 1)) (k : ae_T l G d M Po (pc + 1) lv (ae_l (-x) :: st) σ) : ae_T l G d M Po pc lv (ae_l x :: st) σ := by
  intro p e s m args below meth c H locs d0 ls st0 σ0 hX hl hs hσ hP hS hd0
  obtain ⟨r1, rfl, hs1⟩ := ae_ss_l hs
  exact lv_lneg hX.1 hX.2.1 hd (k p e s m args below meth c H locs d0 ls _ σ0 hX hl ⟨rfl, hs1⟩ hσ hP hS hd0)
theorem ae_i2l {x : Int32} (hd : decode M.2.1 pc = .ok (.i2l, 1)) (k : ae_T l G d M Po (pc + 1) lv (ae_l x.toInt64 :: st) σ) : ae_T l G d M Po pc lv (ae_i x :: st) σ := by
  intro p e s m args below meth c H locs d0 ls st0 σ0 hX hl hs hσ hP hS hd0
  obtain ⟨r1, rfl, hs1⟩ := ae_ss_i hs
  exact lv_i2l hX.1 hX.2.1 hd rfl (k p e s m args below meth c H locs d0 ls _ σ0 hX hl ⟨rfl, hs1⟩ hσ hP hS hd0)
theorem ae_l2i {x : Int64} (hd : decode M.2.1 pc = .ok (.l2i, 1)) (k : ae_T l G d M Po (pc + 1) lv (ae_i x.toInt32 :: st) σ) : ae_T l G d M Po pc lv (ae_l x :: st) σ := by
  intro p e s m args below meth c H locs d0 ls st0 σ0 hX hl hs hσ hP hS hd0
  obtain ⟨r1, rfl, hs1⟩ := ae_ss_l hs
  exact lv_l2i hX.1 hX.2.1 hd rfl (k p e s m args below meth c H locs d0 ls _ σ0 hX hl ⟨rfl, hs1⟩ hσ hP hS hd0)
theorem ae_i2b {x : Int32} (hd : decode M.2.1 pc = .ok (.i2b, 1)) (k : ae_T l G d M Po (pc + 1) lv (ae_i x.toInt8.toInt32 :: st) σ) : ae_T l G d M Po pc lv (ae_i x :: st) σ := by
  intro p e s m args below meth c H locs d0 ls st0 σ0 hX hl hs hσ hP hS hd0
  obtain ⟨r1, rfl, hs1⟩ := ae_ss_i hs
  exact lv_i2b hX.1 hX.2.1 hd rfl (k p e s m args below meth c H locs d0 ls _ σ0 hX hl ⟨rfl, hs1⟩ hσ hP hS hd0)
theorem ae_i2s {x : Int32} (hd : decode M.2.1 pc = .ok (.i2s, 1)) (k : ae_T l G d M Po (pc + 1) lv (ae_i x.toInt16.toInt32 :: st) σ) : ae_T l G d M Po pc lv (ae_i x :: st) σ := by
  intro p e s m args below meth c H locs d0 ls st0 σ0 hX hl hs hσ hP hS hd0
  obtain ⟨r1, rfl, hs1⟩ := ae_ss_i hs
  exact lv_i2s hX.1 hX.2.1 hd rfl (k p e s m args below meth c H locs d0 ls _ σ0 hX hl ⟨rfl, hs1⟩ hσ hP hS hd0)
theorem ae_iconst {n : Int} (v : Int32) (hd : decode M.2.1 pc = .ok (.iconst n, 1)) (hv : Int32.ofInt n = v) (k : ae_T l G d M Po (pc + 1) lv (ae_i v :: st) σ) : ae_T l G d M Po pc lv (st) σ := by
  intro p e s m args below meth c H locs d0 ls st0 σ0 hX hl hs hσ hP hS hd0
  exact lv_iconst hX.1 hX.2.1 hd hv (k p e s m args below meth c H locs d0 ls _ σ0 hX hl ⟨rfl, hs⟩ hσ hP hS hd0)
theorem ae_bipush {n : Int} (v : Int32) (hd : decode M.2.1 pc = .ok (.bipush n, 2)) (hv : (Int8.ofInt n).toInt32 = v) (k : ae_T l G d M Po (pc + 2) lv (ae_i v :: st) σ) : ae_T l G d M Po pc lv (st) σ := by
  intro p e s m args below meth c H locs d0 ls st0 σ0 hX hl hs hσ hP hS hd0
  exact lv_bipush hX.1 hX.2.1 hd hv (k p e s m args below meth c H locs d0 ls _ σ0 hX hl ⟨rfl, hs⟩ hσ hP hS hd0)
theorem ae_sipush {n : Int} (v : Int32) (hd : decode M.2.1 pc = .ok (.sipush n, 3)) (hv : (Int16.ofInt n).toInt32 = v) (k : ae_T l G d M Po (pc + 3) lv (ae_i v :: st) σ) : ae_T l G d M Po pc lv (st) σ := by
  intro p e s m args below meth c H locs d0 ls st0 σ0 hX hl hs hσ hP hS hd0
  exact lv_sipush hX.1 hX.2.1 hd hv (k p e s m args below meth c H locs d0 ls _ σ0 hX hl ⟨rfl, hs⟩ hσ hP hS hd0)
theorem ae_lconst {n : Fin 2} (v : Int64) (hd : decode M.2.1 pc = .ok (.lconst n, 1)) (hv : Int64.ofNat (n : Nat) = v) (k : ae_T l G d M Po (pc + 1) lv (ae_l v :: st) σ) : ae_T l G d M Po pc lv (st) σ := by
  intro p e s m args below meth c H locs d0 ls st0 σ0 hX hl hs hσ hP hS hd0
  exact lv_lconst hX.1 hX.2.1 hd hv (k p e s m args below meth c H locs d0 ls _ σ0 hX hl ⟨rfl, hs⟩ hσ hP hS hd0)
theorem ae_ldc {n : Nat} {v : Int32} (hd : decode M.2.1 pc = .ok (.ldc n, 2)) (hw : Cond.constant M.1 n v ∈ lw_g) (k : ae_T l G d M Po (pc + 2) lv (ae_i v :: st) σ) : ae_T l G d M Po pc lv (st) σ := by
  intro p e s m args below meth c H locs d0 ls st0 σ0 hX hl hs hσ hP hS hd0
  exact lv_ldc hX.1 hX.2.1 hX.2.2.2.1 (dr_words hX.2.2.2.2.1 d0 _ hw) hd (k p e s m args below meth c H locs d0 ls _ σ0 hX hl ⟨rfl, hs⟩ hσ hP hS hd0)
theorem ae_ldcw {n : Nat} {v : Int32} (hd : decode M.2.1 pc = .ok (.ldc_w n, 3)) (hw : Cond.constant M.1 n v ∈ lw_g) (k : ae_T l G d M Po (pc + 3) lv (ae_i v :: st) σ) : ae_T l G d M Po pc lv (st) σ := by
  intro p e s m args below meth c H locs d0 ls st0 σ0 hX hl hs hσ hP hS hd0
  exact lv_ldcw hX.1 hX.2.1 hX.2.2.2.1 (dr_words hX.2.2.2.2.1 d0 _ hw) hd (k p e s m args below meth c H locs d0 ls _ σ0 hX hl ⟨rfl, hs⟩ hσ hP hS hd0)
theorem ae_ldc2 {n : Nat} {v : Int64} (hd : decode M.2.1 pc = .ok (.ldc2_w n, 3)) (hw : Cond.constantLong M.1 n v ∈ lw_g) (k : ae_T l G d M Po (pc + 3) lv (ae_l v :: st) σ) : ae_T l G d M Po pc lv (st) σ := by
  intro p e s m args below meth c H locs d0 ls st0 σ0 hX hl hs hσ hP hS hd0
  exact lv_ldc2 hX.1 hX.2.1 hX.2.2.2.1 (dr_words hX.2.2.2.2.1 d0 _ hw) hd (k p e s m args below meth c H locs d0 ls _ σ0 hX hl ⟨rfl, hs⟩ hσ hP hS hd0)
theorem ae_iload_n {i : Fin 4} {x : Int32} (j : Nat) (hd : decode M.2.1 pc = .ok (.iload_n i, 1)) (hj : lv[j]? = some (i.val, ae_i x)) (k : ae_T l G d M Po (pc + 1) lv (ae_i x :: st) σ) : ae_T l G d M Po pc lv st σ := by
  intro p e s m args below meth c H locs d0 ls st0 σ0 hX hl hs hσ hP hS hd0
  obtain ⟨w, h1, h2⟩ := hl.2.2 _ (List.mem_of_getElem? hj)
  have h2 : w = .int x := h2
  subst h2
  exact lv_iload_n hX.1 hX.2.1 hd rfl h1 (k p e s m args below meth c H locs d0 ls _ σ0 hX hl ⟨rfl, hs⟩ hσ hP hS hd0)
theorem ae_iload {i : Nat} {x : Int32} (j : Nat) (hd : decode M.2.1 pc = .ok (.iload i, 2)) (hj : lv[j]? = some (i, ae_i x)) (k : ae_T l G d M Po (pc + 2) lv (ae_i x :: st) σ) : ae_T l G d M Po pc lv st σ := by
  intro p e s m args below meth c H locs d0 ls st0 σ0 hX hl hs hσ hP hS hd0
  obtain ⟨w, h1, h2⟩ := hl.2.2 _ (List.mem_of_getElem? hj)
  have h2 : w = .int x := h2
  subst h2
  exact lv_iload hX.1 hX.2.1 hd h1 (k p e s m args below meth c H locs d0 ls _ σ0 hX hl ⟨rfl, hs⟩ hσ hP hS hd0)
theorem ae_lload_n {i : Fin 4} {x : Int64} (j : Nat) (hd : decode M.2.1 pc = .ok (.lload_n i, 1)) (hj : lv[j]? = some (i.val, ae_l x)) (k : ae_T l G d M Po (pc + 1) lv (ae_l x :: st) σ) : ae_T l G d M Po pc lv st σ := by
  intro p e s m args below meth c H locs d0 ls st0 σ0 hX hl hs hσ hP hS hd0
  obtain ⟨w, h1, h2⟩ := hl.2.2 _ (List.mem_of_getElem? hj)
  have h2 : w = .long x := h2
  subst h2
  exact lv_lload_n hX.1 hX.2.1 hd rfl h1 (k p e s m args below meth c H locs d0 ls _ σ0 hX hl ⟨rfl, hs⟩ hσ hP hS hd0)
theorem ae_lload {i : Nat} {x : Int64} (j : Nat) (hd : decode M.2.1 pc = .ok (.lload i, 2)) (hj : lv[j]? = some (i, ae_l x)) (k : ae_T l G d M Po (pc + 2) lv (ae_l x :: st) σ) : ae_T l G d M Po pc lv st σ := by
  intro p e s m args below meth c H locs d0 ls st0 σ0 hX hl hs hσ hP hS hd0
  obtain ⟨w, h1, h2⟩ := hl.2.2 _ (List.mem_of_getElem? hj)
  have h2 : w = .long x := h2
  subst h2
  exact lv_lload hX.1 hX.2.1 hd h1 (k p e s m args below meth c H locs d0 ls _ σ0 hX hl ⟨rfl, hs⟩ hσ hP hS hd0)
theorem ae_dload_n {i : Fin 4} {x : UInt64} (j : Nat) (hd : decode M.2.1 pc = .ok (.dload_n i, 1)) (hj : lv[j]? = some (i.val, ae_d x)) (k : ae_T l G d M Po (pc + 1) lv (ae_d x :: st) σ) : ae_T l G d M Po pc lv st σ := by
  intro p e s m args below meth c H locs d0 ls st0 σ0 hX hl hs hσ hP hS hd0
  obtain ⟨w, h1, y, rfl, h2⟩ := hl.2.2 _ (List.mem_of_getElem? hj)
  exact lv_dload_n hX.1 hX.2.1 hd rfl h1 (k p e s m args below meth c H locs d0 ls _ σ0 hX hl ⟨⟨y, rfl, h2⟩, hs⟩ hσ hP hS hd0)
theorem ae_dload {i : Nat} {x : UInt64} (j : Nat) (hd : decode M.2.1 pc = .ok (.dload i, 2)) (hj : lv[j]? = some (i, ae_d x)) (k : ae_T l G d M Po (pc + 2) lv (ae_d x :: st) σ) : ae_T l G d M Po pc lv st σ := by
  intro p e s m args below meth c H locs d0 ls st0 σ0 hX hl hs hσ hP hS hd0
  obtain ⟨w, h1, y, rfl, h2⟩ := hl.2.2 _ (List.mem_of_getElem? hj)
  exact lv_dload hX.1 hX.2.1 hd h1 (k p e s m args below meth c H locs d0 ls _ σ0 hX hl ⟨⟨y, rfl, h2⟩, hs⟩ hσ hP hS hd0)
theorem ae_aload_n {i : Fin 4} {x : Option ae_R} (j : Nat) (hd : decode M.2.1 pc = .ok (.aload_n i, 1)) (hj : lv[j]? = some (i.val, ae_r x)) (k : ae_T l G d M Po (pc + 1) lv (ae_r x :: st) σ) : ae_T l G d M Po pc lv st σ := by
  intro p e s m args below meth c H locs d0 ls st0 σ0 hX hl hs hσ hP hS hd0
  obtain ⟨w, h1, h2⟩ := hl.2.2 _ (List.mem_of_getElem? hj)
  have h2 : w = va_rf (ae_ar G x) := h2
  subst h2
  cases x with
  | none => exact lv_aload_nN hX.1 hX.2.1 hd rfl h1 (k p e s m args below meth c H locs d0 ls _ σ0 hX hl ⟨rfl, hs⟩ hσ hP hS hd0)
  | some q => exact lv_aload_n hX.1 hX.2.1 hd rfl h1 (k p e s m args below meth c H locs d0 ls _ σ0 hX hl ⟨rfl, hs⟩ hσ hP hS hd0)
theorem ae_aload {i : Nat} {x : Option ae_R} (j : Nat) (hd : decode M.2.1 pc = .ok (.aload i, 2)) (hj : lv[j]? = some (i, ae_r x)) (k : ae_T l G d M Po (pc + 2) lv (ae_r x :: st) σ) : ae_T l G d M Po pc lv st σ := by
  intro p e s m args below meth c H locs d0 ls st0 σ0 hX hl hs hσ hP hS hd0
  obtain ⟨w, h1, h2⟩ := hl.2.2 _ (List.mem_of_getElem? hj)
  have h2 : w = va_rf (ae_ar G x) := h2
  subst h2
  cases x with
  | none => exact lv_aloadN hX.1 hX.2.1 hd h1 (k p e s m args below meth c H locs d0 ls _ σ0 hX hl ⟨rfl, hs⟩ hσ hP hS hd0)
  | some q => exact lv_aload hX.1 hX.2.1 hd h1 (k p e s m args below meth c H locs d0 ls _ σ0 hX hl ⟨rfl, hs⟩ hσ hP hS hd0)
/-- all values that the locals hold -/
def ae_l0 (ls : Array Slot) : List (Nat × Value) := (List.range ls.size).filterMap fun i => match ls[i]? with
  | some (Slot.val w) => some (i, w)
  | _ => none
theorem ae_l0_in {ls : Array Slot} {i : Nat} {w : Value} (h : ls[i]? = some (.val w)) : (i, w) ∈ ae_l0 ls :=
  List.mem_filterMap.mpr ⟨i, List.mem_range.mpr (Array.getElem?_eq_some_iff.mp h).1, by rw [h]⟩
theorem ae_l0_has {ls : Array Slot} {n : Nat} (h1 : ls.size = n) (h2 : lv_wf ls) : lv_has ls n (ae_l0 ls) := ⟨h1, h2, fun q hq => by
  obtain ⟨i, -, h⟩ := List.mem_filterMap.mp hq
  split at h
  · next w hw => cases h; exact hw
  · cases h⟩
theorem ae_kk1 {ls ls' : Array Slot} {n i : Nat} {v : ae_V} {w : Value} (h : ae_hl G ls n lv) (hv : ae_sv G v w) (h' : lv_has ls' n ((i, w) :: (ae_l0 ls).filter (fun q => !(q.1 == i) && !(q.1 + 1 == i && q.2.category == 2)))) : ae_hl G ls' n (ae_st1 i v lv) := by
  refine ⟨h'.1, h'.2.1, fun q hq => ?_⟩
  rcases List.mem_cons.mp hq with rfl | hq
  · exact ⟨w, h'.2.2 (i, w) List.mem_cons_self, hv⟩
  · obtain ⟨hm, hp⟩ := List.mem_filter.mp hq
    obtain ⟨w2, h2, h3⟩ := h.2.2 q hm
    refine ⟨w2, h'.2.2 (q.1, w2) (List.mem_cons_of_mem _ (List.mem_filter.mpr ⟨ae_l0_in h2, ?_⟩)), h3⟩
    rw [← ae_sv_cat h3] at hp
    exact hp
theorem ae_kk2 {ls ls' : Array Slot} {n i : Nat} {v : ae_V} {w : Value} (h : ae_hl G ls n lv) (hv : ae_sv G v w) (h' : lv_has ls' n ((i, w) :: (ae_l0 ls).filter (fun q => !(q.1 == i) && (!(q.1 == i + 1) && !(q.1 + 1 == i && q.2.category == 2))))) : ae_hl G ls' n (ae_st2 i v lv) := by
  refine ⟨h'.1, h'.2.1, fun q hq => ?_⟩
  rcases List.mem_cons.mp hq with rfl | hq
  · exact ⟨w, h'.2.2 (i, w) List.mem_cons_self, hv⟩
  · obtain ⟨hm, hp⟩ := List.mem_filter.mp hq
    obtain ⟨w2, h2, h3⟩ := h.2.2 q hm
    refine ⟨w2, h'.2.2 (q.1, w2) (List.mem_cons_of_mem _ (List.mem_filter.mpr ⟨ae_l0_in h2, ?_⟩)), h3⟩
    rw [← ae_sv_cat h3] at hp
    exact hp
theorem ae_istore_n {i : Fin 4} {x : Int32} {lv' : List (Nat × ae_V)} (hd : decode M.2.1 pc = .ok (.istore_n i, 1)) (hn : i.val < M.2.2.1) (hv : ae_st1 i.val (ae_i x) lv = lv') (k : ae_T l G d M Po (pc + 1) lv' st σ) : ae_T l G d M Po pc lv (ae_i x :: st) σ := by
  intro p e s m args below meth c H locs d0 ls st0 σ0 hX hl hs hσ hP hS hd0
  obtain ⟨r, rfl, hs1⟩ := ae_ss_i hs
  subst hv
  exact lv_istore_n hX.1 hX.2.1 hd rfl (ae_l0_has hl.1 hl.2.1) hn rfl (fun ls' h' => k p e s m args below meth c H locs d0 ls' _ σ0 hX (ae_kk1 (v := ae_i x) hl rfl h') hs1 hσ hP hS hd0)
theorem ae_istore {i : Nat} {x : Int32} {lv' : List (Nat × ae_V)} (hd : decode M.2.1 pc = .ok (.istore i, 2)) (hn : i < M.2.2.1) (hv : ae_st1 i (ae_i x) lv = lv') (k : ae_T l G d M Po (pc + 2) lv' st σ) : ae_T l G d M Po pc lv (ae_i x :: st) σ := by
  intro p e s m args below meth c H locs d0 ls st0 σ0 hX hl hs hσ hP hS hd0
  obtain ⟨r, rfl, hs1⟩ := ae_ss_i hs
  subst hv
  exact lv_istore hX.1 hX.2.1 hd (ae_l0_has hl.1 hl.2.1) hn rfl (fun ls' h' => k p e s m args below meth c H locs d0 ls' _ σ0 hX (ae_kk1 (v := ae_i x) hl rfl h') hs1 hσ hP hS hd0)
theorem ae_lstore_n {i : Fin 4} {x : Int64} {lv' : List (Nat × ae_V)} (hd : decode M.2.1 pc = .ok (.lstore_n i, 1)) (hn : i.val + 1 < M.2.2.1) (hv : ae_st2 i.val (ae_l x) lv = lv') (k : ae_T l G d M Po (pc + 1) lv' st σ) : ae_T l G d M Po pc lv (ae_l x :: st) σ := by
  intro p e s m args below meth c H locs d0 ls st0 σ0 hX hl hs hσ hP hS hd0
  obtain ⟨r, rfl, hs1⟩ := ae_ss_l hs
  subst hv
  exact lv_lstore_n hX.1 hX.2.1 hd rfl (ae_l0_has hl.1 hl.2.1) hn rfl (fun ls' h' => k p e s m args below meth c H locs d0 ls' _ σ0 hX (ae_kk2 (v := ae_l x) hl rfl h') hs1 hσ hP hS hd0)
theorem ae_lstore {i : Nat} {x : Int64} {lv' : List (Nat × ae_V)} (hd : decode M.2.1 pc = .ok (.lstore i, 2)) (hn : i + 1 < M.2.2.1) (hv : ae_st2 i (ae_l x) lv = lv') (k : ae_T l G d M Po (pc + 2) lv' st σ) : ae_T l G d M Po pc lv (ae_l x :: st) σ := by
  intro p e s m args below meth c H locs d0 ls st0 σ0 hX hl hs hσ hP hS hd0
  obtain ⟨r, rfl, hs1⟩ := ae_ss_l hs
  subst hv
  exact lv_lstore hX.1 hX.2.1 hd (ae_l0_has hl.1 hl.2.1) hn rfl (fun ls' h' => k p e s m args below meth c H locs d0 ls' _ σ0 hX (ae_kk2 (v := ae_l x) hl rfl h') hs1 hσ hP hS hd0)
theorem ae_dstore_n {i : Fin 4} {x : UInt64} {lv' : List (Nat × ae_V)} (hd : decode M.2.1 pc = .ok (.dstore_n i, 1)) (hn : i.val + 1 < M.2.2.1) (hv : ae_st2 i.val (ae_d x) lv = lv') (k : ae_T l G d M Po (pc + 1) lv' st σ) : ae_T l G d M Po pc lv (ae_d x :: st) σ := by
  intro p e s m args below meth c H locs d0 ls st0 σ0 hX hl hs hσ hP hS hd0
  obtain ⟨w, r, rfl, ⟨y, rfl, hy⟩, hs1⟩ := ae_ss_c hs
  subst hv
  exact lv_dstore_n hX.1 hX.2.1 hd rfl (ae_l0_has hl.1 hl.2.1) hn rfl (fun ls' h' => k p e s m args below meth c H locs d0 ls' _ σ0 hX (ae_kk2 (v := ae_d x) hl ⟨y, rfl, hy⟩ h') hs1 hσ hP hS hd0)
theorem ae_dstore {i : Nat} {x : UInt64} {lv' : List (Nat × ae_V)} (hd : decode M.2.1 pc = .ok (.dstore i, 2)) (hn : i + 1 < M.2.2.1) (hv : ae_st2 i (ae_d x) lv = lv') (k : ae_T l G d M Po (pc + 2) lv' st σ) : ae_T l G d M Po pc lv (ae_d x :: st) σ := by
  intro p e s m args below meth c H locs d0 ls st0 σ0 hX hl hs hσ hP hS hd0
  obtain ⟨w, r, rfl, ⟨y, rfl, hy⟩, hs1⟩ := ae_ss_c hs
  subst hv
  exact lv_dstore hX.1 hX.2.1 hd (ae_l0_has hl.1 hl.2.1) hn rfl (fun ls' h' => k p e s m args below meth c H locs d0 ls' _ σ0 hX (ae_kk2 (v := ae_d x) hl ⟨y, rfl, hy⟩ h') hs1 hσ hP hS hd0)
theorem ae_astore_n {i : Fin 4} {x : Option ae_R} {lv' : List (Nat × ae_V)} (hd : decode M.2.1 pc = .ok (.astore_n i, 1)) (hn : i.val < M.2.2.1) (hv : ae_st1 i.val (ae_r x) lv = lv') (k : ae_T l G d M Po (pc + 1) lv' st σ) : ae_T l G d M Po pc lv (ae_r x :: st) σ := by
  intro p e s m args below meth c H locs d0 ls st0 σ0 hX hl hs hσ hP hS hd0
  obtain ⟨w, r, rfl, hw, hs1⟩ := ae_ss_c hs
  have hw : w = va_rf (ae_ar G x) := hw
  subst hv
  subst hw
  cases x with
  | none => exact lv_astore_nN hX.1 hX.2.1 hd rfl (ae_l0_has hl.1 hl.2.1) hn rfl (fun ls' h' => k p e s m args below meth c H locs d0 ls' _ σ0 hX (ae_kk1 (v := ae_r none) hl rfl h') hs1 hσ hP hS hd0)
  | some q => exact lv_astore_n hX.1 hX.2.1 hd rfl (ae_l0_has hl.1 hl.2.1) hn rfl (fun ls' h' => k p e s m args below meth c H locs d0 ls' _ σ0 hX (ae_kk1 (v := ae_r (some q)) hl rfl h') hs1 hσ hP hS hd0)
theorem ae_astore {i : Nat} {x : Option ae_R} {lv' : List (Nat × ae_V)} (hd : decode M.2.1 pc = .ok (.astore i, 2)) (hn : i < M.2.2.1) (hv : ae_st1 i (ae_r x) lv = lv') (k : ae_T l G d M Po (pc + 2) lv' st σ) : ae_T l G d M Po pc lv (ae_r x :: st) σ := by
  intro p e s m args below meth c H locs d0 ls st0 σ0 hX hl hs hσ hP hS hd0
  obtain ⟨w, r, rfl, hw, hs1⟩ := ae_ss_c hs
  have hw : w = va_rf (ae_ar G x) := hw
  subst hv
  subst hw
  cases x with
  | none => exact lv_astoreN hX.1 hX.2.1 hd (ae_l0_has hl.1 hl.2.1) hn rfl (fun ls' h' => k p e s m args below meth c H locs d0 ls' _ σ0 hX (ae_kk1 (v := ae_r none) hl rfl h') hs1 hσ hP hS hd0)
  | some q => exact lv_astore hX.1 hX.2.1 hd (ae_l0_has hl.1 hl.2.1) hn rfl (fun ls' h' => k p e s m args below meth c H locs d0 ls' _ σ0 hX (ae_kk1 (v := ae_r (some q)) hl rfl h') hs1 hσ hP hS hd0)
theorem ae_iinc {i : Nat} {n : Int} {x : Int32} {lv' : List (Nat × ae_V)} (j : Nat) (v : Int32) (hd : decode M.2.1 pc = .ok (.iinc i n, 3)) (hj : lv[j]? = some (i, ae_i x)) (hn : i < M.2.2.1) (hw : Int32.ofInt n = v) (hv : ae_st1 i (ae_i (x + v)) lv = lv') (k : ae_T l G d M Po (pc + 3) lv' st σ) : ae_T l G d M Po pc lv st σ := by
  intro p e s m args below meth c H locs d0 ls st0 σ0 hX hl hs hσ hP hS hd0
  obtain ⟨w, h1, h2⟩ := hl.2.2 _ (List.mem_of_getElem? hj)
  have h2 : w = .int x := h2
  subst h2
  subst hv
  subst hw
  obtain ⟨k0, hk0⟩ := List.getElem?_of_mem (ae_l0_in h1)
  exact lv_iinc hX.1 hX.2.1 hd (ae_l0_has hl.1 hl.2.1) hk0 rfl hn rfl (fun ls' h' => k p e s m args below meth c H locs d0 ls' _ σ0 hX (ae_kk1 (v := ae_i (x + Int32.ofInt n)) hl rfl h') hs hσ hP hS hd0)
/-- fewer locals, by their places -/
theorem ae_pick {lv' : List (Nat × ae_V)} (ks : List Nat) (h : ks.filterMap (fun k => lv[k]?) = lv') (k : ae_T l G d M Po pc lv' st σ) : ae_T l G d M Po pc lv st σ := by
  intro p e s m args below meth c H locs d0 ls st0 σ0 hX hl hs hσ hP hS hd0
  refine k p e s m args below meth c H locs d0 ls _ σ0 hX ⟨hl.1, hl.2.1, fun q hq => hl.2.2 q ?_⟩ hs hσ hP hS hd0
  rw [← h] at hq
  obtain ⟨i, -, hi⟩ := List.mem_filterMap.mp hq
  exact List.mem_of_getElem? hi
theorem ae_dup {v : ae_V} (hd : decode M.2.1 pc = .ok (.dup, 1)) (hc : ae_cat v = 1) (k : ae_T l G d M Po (pc + 1) lv (v :: v :: st) σ) : ae_T l G d M Po pc lv (v :: st) σ := by
  intro p e s m args below meth c H locs d0 ls st0 σ0 hX hl hs hσ hP hS hd0
  obtain ⟨w, r, rfl, hw, hs1⟩ := ae_ss_c hs
  exact lv_dup hX.1 hX.2.1 hd ((ae_sv_cat hw).trans hc) (k p e s m args below meth c H locs d0 ls _ σ0 hX hl ⟨hw, hw, hs1⟩ hσ hP hS hd0)
theorem ae_dup2 {u v : ae_V} (hd : decode M.2.1 pc = .ok (.dup2, 1)) (hc : ae_cat v = 1) (hc2 : ae_cat u = 1) (k : ae_T l G d M Po (pc + 1) lv (v :: u :: v :: u :: st) σ) : ae_T l G d M Po pc lv (v :: u :: st) σ := by
  intro p e s m args below meth c H locs d0 ls st0 σ0 hX hl hs hσ hP hS hd0
  obtain ⟨w, r, rfl, hw, hs1⟩ := ae_ss_c hs
  obtain ⟨w2, r, rfl, hw2, hs2⟩ := ae_ss_c hs1
  exact lv_dup2_11 hX.1 hX.2.1 hd ((ae_sv_cat hw).trans hc) ((ae_sv_cat hw2).trans hc2) (k p e s m args below meth c H locs d0 ls _ σ0 hX hl ⟨hw, hw2, hw, hw2, hs2⟩ hσ hP hS hd0)
theorem ae_pop {v : ae_V} (hd : decode M.2.1 pc = .ok (.pop, 1)) (hc : ae_cat v = 1) (k : ae_T l G d M Po (pc + 1) lv st σ) : ae_T l G d M Po pc lv (v :: st) σ := by
  intro p e s m args below meth c H locs d0 ls st0 σ0 hX hl hs hσ hP hS hd0
  obtain ⟨w, r, rfl, hw, hs1⟩ := ae_ss_c hs
  exact lv_pop hX.1 hX.2.1 hd ((ae_sv_cat hw).trans hc) (k p e s m args below meth c H locs d0 ls _ σ0 hX hl hs1 hσ hP hS hd0)
theorem ae_null (hd : decode M.2.1 pc = .ok (.aconst_null, 1)) (k : ae_T l G d M Po (pc + 1) lv (ae_r none :: st) σ) : ae_T l G d M Po pc lv st σ := by
  intro p e s m args below meth c H locs d0 ls st0 σ0 hX hl hs hσ hP hS hd0
  exact lv_null hX.1 hX.2.1 hd (k p e s m args below meth c H locs d0 ls _ σ0 hX hl ⟨rfl, hs⟩ hσ hP hS hd0)
theorem ae_if_eq {x : Int32} {off : Int} (tgt : Nat) (hd : decode M.2.1 pc = .ok (.ifCond .eq off, 3)) (ht : (pc : Int) + off = (tgt : Int)) (kt : x = 0 → ae_T l G d M Po tgt lv st σ) (kf : ¬ x = 0 → ae_T l G d M Po (pc + 3) lv st σ) : ae_T l G d M Po pc lv (ae_i x :: st) σ := by
  intro p e s m args below meth c H locs d0 ls st0 σ0 hX hl hs hσ hP hS hd0
  obtain ⟨r1, rfl, hs1⟩ := ae_ss_i hs
  exact lv_if_eq hX.1 hX.2.1 hd ht (fun h => kt h p e s m args below meth c H locs d0 ls _ σ0 hX hl hs1 hσ hP hS hd0) (fun h => kf h p e s m args below meth c H locs d0 ls _ σ0 hX hl hs1 hσ hP hS hd0)
theorem ae_icmp_eq {x y : Int32} {off : Int} (tgt : Nat) (hd : decode M.2.1 pc = .ok (.if_icmp .eq off, 3)) (ht : (pc : Int) + off = (tgt : Int)) (kt : x = y → ae_T l G d M Po tgt lv st σ) (kf : ¬ x = y → ae_T l G d M Po (pc + 3) lv st σ) : ae_T l G d M Po pc lv (ae_i y :: ae_i x :: st) σ := by
  intro p e s m args below meth c H locs d0 ls st0 σ0 hX hl hs hσ hP hS hd0
  obtain ⟨r1, rfl, hs1⟩ := ae_ss_i hs
  obtain ⟨r2, rfl, hs2⟩ := ae_ss_i hs1
  exact lv_icmp_eq hX.1 hX.2.1 hd ht (fun h => kt h p e s m args below meth c H locs d0 ls _ σ0 hX hl hs2 hσ hP hS hd0) (fun h => kf h p e s m args below meth c H locs d0 ls _ σ0 hX hl hs2 hσ hP hS hd0)
theorem ae_if_ne {x : Int32} {off : Int} (tgt : Nat) (hd : decode M.2.1 pc = .ok (.ifCond .ne off, 3)) (ht : (pc : Int) + off = (tgt : Int)) (kt : ¬ x = 0 → ae_T l G d M Po tgt lv st σ) (kf : x = 0 → ae_T l G d M Po (pc + 3) lv st σ) : ae_T l G d M Po pc lv (ae_i x :: st) σ := by
  intro p e s m args below meth c H locs d0 ls st0 σ0 hX hl hs hσ hP hS hd0
  obtain ⟨r1, rfl, hs1⟩ := ae_ss_i hs
  exact lv_if_ne hX.1 hX.2.1 hd ht (fun h => kt h p e s m args below meth c H locs d0 ls _ σ0 hX hl hs1 hσ hP hS hd0) (fun h => kf h p e s m args below meth c H locs d0 ls _ σ0 hX hl hs1 hσ hP hS hd0)
theorem ae_icmp_ne {x y : Int32} {off : Int} (tgt : Nat) (hd : decode M.2.1 pc = .ok (.if_icmp .ne off, 3)) (ht : (pc : Int) + off = (tgt : Int)) (kt : ¬ x = y → ae_T l G d M Po tgt lv st σ) (kf : x = y → ae_T l G d M Po (pc + 3) lv st σ) : ae_T l G d M Po pc lv (ae_i y :: ae_i x :: st) σ := by
  intro p e s m args below meth c H locs d0 ls st0 σ0 hX hl hs hσ hP hS hd0
  obtain ⟨r1, rfl, hs1⟩ := ae_ss_i hs
  obtain ⟨r2, rfl, hs2⟩ := ae_ss_i hs1
  exact lv_icmp_ne hX.1 hX.2.1 hd ht (fun h => kt h p e s m args below meth c H locs d0 ls _ σ0 hX hl hs2 hσ hP hS hd0) (fun h => kf h p e s m args below meth c H locs d0 ls _ σ0 hX hl hs2 hσ hP hS hd0)
theorem ae_if_lt {x : Int32} {off : Int} (tgt : Nat) (hd : decode M.2.1 pc = .ok (.ifCond .lt off, 3)) (ht : (pc : Int) + off = (tgt : Int)) (kt : x < 0 → ae_T l G d M Po tgt lv st σ) (kf : ¬ x < 0 → ae_T l G d M Po (pc + 3) lv st σ) : ae_T l G d M Po pc lv (ae_i x :: st) σ := by
  intro p e s m args below meth c H locs d0 ls st0 σ0 hX hl hs hσ hP hS hd0
  obtain ⟨r1, rfl, hs1⟩ := ae_ss_i hs
  exact lv_if_lt hX.1 hX.2.1 hd ht (fun h => kt h p e s m args below meth c H locs d0 ls _ σ0 hX hl hs1 hσ hP hS hd0) (fun h => kf h p e s m args below meth c H locs d0 ls _ σ0 hX hl hs1 hσ hP hS hd0)
theorem ae_icmp_lt {x y : Int32} {off : Int} (tgt : Nat) (hd : decode M.2.1 pc = .ok (.if_icmp .lt off, 3)) (ht : (pc : Int) + off = (tgt : Int)) (kt : x < y → ae_T l G d M Po tgt lv st σ) (kf : ¬ x < y → ae_T l G d M Po (pc + 3) lv st σ) : ae_T l G d M Po pc lv (ae_i y :: ae_i x :: st) σ := by
  intro p e s m args below meth c H locs d0 ls st0 σ0 hX hl hs hσ hP hS hd0
  obtain ⟨r1, rfl, hs1⟩ := ae_ss_i hs
  obtain ⟨r2, rfl, hs2⟩ := ae_ss_i hs1
  exact lv_icmp_lt hX.1 hX.2.1 hd ht (fun h => kt h p e s m args below meth c H locs d0 ls _ σ0 hX hl hs2 hσ hP hS hd0) (fun h => kf h p e s m args below meth c H locs d0 ls _ σ0 hX hl hs2 hσ hP hS hd0)
theorem ae_if_ge {x : Int32} {off : Int} (tgt : Nat) (hd : decode M.2.1 pc = .ok (.ifCond .ge off, 3)) (ht : (pc : Int) + off = (tgt : Int)) (kt : 0 ≤ x → ae_T l G d M Po tgt lv st σ) (kf : ¬ 0 ≤ x → ae_T l G d M Po (pc + 3) lv st σ) : ae_T l G d M Po pc lv (ae_i x :: st) σ := by
  intro p e s m args below meth c H locs d0 ls st0 σ0 hX hl hs hσ hP hS hd0
  obtain ⟨r1, rfl, hs1⟩ := ae_ss_i hs
  exact lv_if_ge hX.1 hX.2.1 hd ht (fun h => kt h p e s m args below meth c H locs d0 ls _ σ0 hX hl hs1 hσ hP hS hd0) (fun h => kf h p e s m args below meth c H locs d0 ls _ σ0 hX hl hs1 hσ hP hS hd0)
theorem ae_icmp_ge {x y : Int32} {off : Int} (tgt : Nat) (hd : decode M.2.1 pc = .ok (.if_icmp .ge off, 3)) (ht : (pc : Int) + off = (tgt : Int)) (kt : y ≤ x → ae_T l G d M Po tgt lv st σ) (kf : ¬ y ≤ x → ae_T l G d M Po (pc + 3) lv st σ) : ae_T l G d M Po pc lv (ae_i y :: ae_i x :: st) σ := by
  intro p e s m args below meth c H locs d0 ls st0 σ0 hX hl hs hσ hP hS hd0
  obtain ⟨r1, rfl, hs1⟩ := ae_ss_i hs
  obtain ⟨r2, rfl, hs2⟩ := ae_ss_i hs1
  exact lv_icmp_ge hX.1 hX.2.1 hd ht (fun h => kt h p e s m args below meth c H locs d0 ls _ σ0 hX hl hs2 hσ hP hS hd0) (fun h => kf h p e s m args below meth c H locs d0 ls _ σ0 hX hl hs2 hσ hP hS hd0)
theorem ae_if_gt {x : Int32} {off : Int} (tgt : Nat) (hd : decode M.2.1 pc = .ok (.ifCond .gt off, 3)) (ht : (pc : Int) + off = (tgt : Int)) (kt : 0 < x → ae_T l G d M Po tgt lv st σ) (kf : ¬ 0 < x → ae_T l G d M Po (pc + 3) lv st σ) : ae_T l G d M Po pc lv (ae_i x :: st) σ := by
  intro p e s m args below meth c H locs d0 ls st0 σ0 hX hl hs hσ hP hS hd0
  obtain ⟨r1, rfl, hs1⟩ := ae_ss_i hs
  exact lv_if_gt hX.1 hX.2.1 hd ht (fun h => kt h p e s m args below meth c H locs d0 ls _ σ0 hX hl hs1 hσ hP hS hd0) (fun h => kf h p e s m args below meth c H locs d0 ls _ σ0 hX hl hs1 hσ hP hS hd0)
theorem ae_icmp_gt {x y : Int32} {off : Int} (tgt : Nat) (hd : decode M.2.1 pc = .ok (.if_icmp .gt off, 3)) (ht : (pc : Int) + off = (tgt : Int)) (kt : y < x → ae_T l G d M Po tgt lv st σ) (kf : ¬ y < x → ae_T l G d M Po (pc + 3) lv st σ) : ae_T l G d M Po pc lv (ae_i y :: ae_i x :: st) σ := by
  intro p e s m args below meth c H locs d0 ls st0 σ0 hX hl hs hσ hP hS hd0
  obtain ⟨r1, rfl, hs1⟩ := ae_ss_i hs
  obtain ⟨r2, rfl, hs2⟩ := ae_ss_i hs1
  exact lv_icmp_gt hX.1 hX.2.1 hd ht (fun h => kt h p e s m args below meth c H locs d0 ls _ σ0 hX hl hs2 hσ hP hS hd0) (fun h => kf h p e s m args below meth c H locs d0 ls _ σ0 hX hl hs2 hσ hP hS hd0)
theorem ae_if_le {x : Int32} {off : Int} (tgt : Nat) (hd : decode M.2.1 pc = .ok (.ifCond .le off, 3)) (ht : (pc : Int) + off = (tgt : Int)) (kt : x ≤ 0 → ae_T l G d M Po tgt lv st σ) (kf : ¬ x ≤ 0 → ae_T l G d M Po (pc + 3) lv st σ) : ae_T l G d M Po pc lv (ae_i x :: st) σ := by
  intro p e s m args below meth c H locs d0 ls st0 σ0 hX hl hs hσ hP hS hd0
  obtain ⟨r1, rfl, hs1⟩ := ae_ss_i hs
  exact lv_if_le hX.1 hX.2.1 hd ht (fun h => kt h p e s m args below meth c H locs d0 ls _ σ0 hX hl hs1 hσ hP hS hd0) (fun h => kf h p e s m args below meth c H locs d0 ls _ σ0 hX hl hs1 hσ hP hS hd0)
theorem ae_icmp_le {x y : Int32} {off : Int} (tgt : Nat) (hd : decode M.2.1 pc = .ok (.if_icmp .le off, 3)) (ht : (pc : Int) + off = (tgt : Int)) (kt : x ≤ y → ae_T l G d M Po tgt lv st σ) (kf : ¬ x ≤ y → ae_T l G d M Po (pc + 3) lv st σ) : ae_T l G d M Po pc lv (ae_i y :: ae_i x :: st) σ := by
  intro p e s m args below meth c H locs d0 ls st0 σ0 hX hl hs hσ hP hS hd0
  obtain ⟨r1, rfl, hs1⟩ := ae_ss_i hs
  obtain ⟨r2, rfl, hs2⟩ := ae_ss_i hs1
  exact lv_icmp_le hX.1 hX.2.1 hd ht (fun h => kt h p e s m args below meth c H locs d0 ls _ σ0 hX hl hs2 hσ hP hS hd0) (fun h => kf h p e s m args below meth c H locs d0 ls _ σ0 hX hl hs2 hσ hP hS hd0)
theorem ae_goto {off : Int} (tgt : Nat) (hd : decode M.2.1 pc = .ok (.goto off, 3)) (ht : (pc : Int) + off = (tgt : Int)) (k : ae_T l G d M Po tgt lv st σ) : ae_T l G d M Po pc lv st σ := by
  intro p e s m args below meth c H locs d0 ls st0 σ0 hX hl hs hσ hP hS hd0
  exact lv_goto hX.1 hX.2.1 hd ht (k p e s m args below meth c H locs d0 ls _ σ0 hX hl hs hσ hP hS hd0)
theorem ae_ifnull {x : Option ae_R} {off : Int} (tgt : Nat) (hd : decode M.2.1 pc = .ok (.ifnull off, 3)) (ht : (pc : Int) + off = (tgt : Int)) (kt : x = none → ae_T l G d M Po tgt lv st σ) (kf : ¬ x = none → ae_T l G d M Po (pc + 3) lv st σ) : ae_T l G d M Po pc lv (ae_r x :: st) σ := by
  intro p e s m args below meth c H locs d0 ls st0 σ0 hX hl hs hσ hP hS hd0
  obtain ⟨w, r, rfl, hw, hs1⟩ := ae_ss_c hs
  have hw : w = va_rf (ae_ar G x) := hw
  subst hw
  cases x with
  | none => exact lv_ifnullN hX.1 hX.2.1 hd ht (kt rfl p e s m args below meth c H locs d0 ls _ σ0 hX hl hs1 hσ hP hS hd0)
  | some q => exact lv_ifnull hX.1 hX.2.1 hd (kf (by simp) p e s m args below meth c H locs d0 ls _ σ0 hX hl hs1 hσ hP hS hd0)
theorem ae_ifnonnull {x : Option ae_R} {off : Int} (tgt : Nat) (hd : decode M.2.1 pc = .ok (.ifnonnull off, 3)) (ht : (pc : Int) + off = (tgt : Int)) (kt : ¬ x = none → ae_T l G d M Po tgt lv st σ) (kf : x = none → ae_T l G d M Po (pc + 3) lv st σ) : ae_T l G d M Po pc lv (ae_r x :: st) σ := by
  intro p e s m args below meth c H locs d0 ls st0 σ0 hX hl hs hσ hP hS hd0
  obtain ⟨w, r, rfl, hw, hs1⟩ := ae_ss_c hs
  have hw : w = va_rf (ae_ar G x) := hw
  subst hw
  cases x with
  | none => exact lv_ifnonnullN hX.1 hX.2.1 hd (kf rfl p e s m args below meth c H locs d0 ls _ σ0 hX hl hs1 hσ hP hS hd0)
  | some q => exact lv_ifnonnull hX.1 hX.2.1 hd ht (kt (by simp) p e s m args below meth c H locs d0 ls _ σ0 hX hl hs1 hσ hP hS hd0)
theorem ae_tabOut {dflt lo hi : Int} {offs : Array Int} {len : Nat} {x : Int32} (tgt : Nat) (hd : decode M.2.1 pc = .ok (.tableswitch dflt lo hi offs, len)) (h : x.toInt < lo ∨ hi < x.toInt) (ht : (pc : Int) + dflt = (tgt : Int)) (k : ae_T l G d M Po tgt lv st σ) : ae_T l G d M Po pc lv (ae_i x :: st) σ := by
  intro p e s m args below meth c H locs d0 ls st0 σ0 hX hl hs hσ hP hS hd0
  obtain ⟨r, rfl, hs1⟩ := ae_ss_i hs
  exact lv_tableOut hX.1 hX.2.1 hd h ht (k p e s m args below meth c H locs d0 ls _ σ0 hX hl hs1 hσ hP hS hd0)
theorem ae_tabIn {dflt lo hi : Int} {offs : Array Int} {len : Nat} {x : Int32} {off : Int} (tgt : Nat) (hd : decode M.2.1 pc = .ok (.tableswitch dflt lo hi offs, len)) (h1 : ¬ x.toInt < lo) (h2 : ¬ hi < x.toInt) (ho : offs[(x.toInt - lo).toNat]? = some off) (ht : (pc : Int) + off = (tgt : Int)) (k : ae_T l G d M Po tgt lv st σ) : ae_T l G d M Po pc lv (ae_i x :: st) σ := by
  intro p e s m args below meth c H locs d0 ls st0 σ0 hX hl hs hσ hP hS hd0
  obtain ⟨r, rfl, hs1⟩ := ae_ss_i hs
  exact lv_tableIn hX.1 hX.2.1 hd h1 h2 ho ht (k p e s m args below meth c H locs d0 ls _ σ0 hX hl hs1 hσ hP hS hd0)
theorem ae_lookup {dflt : Int} {ps : Array (Int × Int)} {len : Nat} {x : Int32} {off : Int} (tgt : Nat) (hd : decode M.2.1 pc = .ok (.lookupswitch dflt ps, len)) (hp : (ps.toList.zip (ps.toList.drop 1)).all (fun (a, next) => a.1 < next.1) = true) (ho : Op.lookupswitch.offset ps.toList dflt x.toInt = off) (ht : (pc : Int) + off = (tgt : Int)) (k : ae_T l G d M Po tgt lv st σ) : ae_T l G d M Po pc lv (ae_i x :: st) σ := by
  intro p e s m args below meth c H locs d0 ls st0 σ0 hX hl hs hσ hP hS hd0
  obtain ⟨r, rfl, hs1⟩ := ae_ss_i hs
  exact lv_lookup hX.1 hX.2.1 hd hp ho ht (k p e s m args below meth c H locs d0 ls _ σ0 hX hl hs1 hσ hP hS hd0)
theorem ae_iret {x : Int32} {ty : FieldType} (hd : decode M.2.1 pc = .ok (.ireturn, 1)) (hr : M.2.2.2 = some ty) (hn : narrow ty (.int x) = .int x) (k : Po (some (ae_i x)) σ) : ae_T l G d M Po pc lv [ae_i x] σ := by
  intro p e s m args below meth c H locs d0 ls st0 σ0 hX hl hs hσ hP hS hd0
  obtain ⟨r, rfl, hs1⟩ := ae_ss_i hs
  obtain rfl := ae_ss_n hs1
  exact W.endD hd0 (W.zret hX.1 hX.2.1 (hX.2.2.2.2.2.1.trans hr) hn (fun t ht hW => ⟨some (ae_i x), some (.int x), σ, σ0, rfl, rfl, k, hσ, by rw [ht]; exact hP, hS.F ht⟩) hS.2.2 hd hX.2.2.2.2.2.2.1)
theorem ae_lret {x : Int64} (hd : decode M.2.1 pc = .ok (.lreturn, 1)) (hr : M.2.2.2 = some .long) (k : Po (some (ae_l x)) σ) : ae_T l G d M Po pc lv [ae_l x] σ := by
  intro p e s m args below meth c H locs d0 ls st0 σ0 hX hl hs hσ hP hS hd0
  obtain ⟨r, rfl, hs1⟩ := ae_ss_l hs
  obtain rfl := ae_ss_n hs1
  exact W.endD hd0 (W.lret hX.1 hX.2.1 (hX.2.2.2.2.2.1.trans hr) (fun t ht hW => ⟨some (ae_l x), some (.long x), σ, σ0, rfl, rfl, k, hσ, by rw [ht]; exact hP, hS.F ht⟩) hS.2.2 hd hX.2.2.2.2.2.2.1)
theorem ae_dret {x : UInt64} (hd : decode M.2.1 pc = .ok (.dreturn, 1)) (hr : M.2.2.2 = some .double) (k : Po (some (ae_d x)) σ) : ae_T l G d M Po pc lv [ae_d x] σ := by
  intro p e s m args below meth c H locs d0 ls st0 σ0 hX hl hs hσ hP hS hd0
  obtain ⟨w, r, rfl, ⟨y, rfl, hy⟩, hs1⟩ := ae_ss_c hs
  obtain rfl := ae_ss_n hs1
  exact W.endD hd0 (W.dret hX.1 hX.2.1 (hX.2.2.2.2.2.1.trans hr) (fun t ht hW => ⟨some (ae_d x), some (.double y), σ, σ0, rfl, ⟨y, rfl, hy⟩, k, hσ, by rw [ht]; exact hP, hS.F ht⟩) hS.2.2 hd hX.2.2.2.2.2.2.1)
theorem ae_vret (hd : decode M.2.1 pc = .ok (.return_, 1)) (hr : M.2.2.2 = none) (k : Po none σ) : ae_T l G d M Po pc lv [] σ := by
  intro p e s m args below meth c H locs d0 ls st0 σ0 hX hl hs hσ hP hS hd0
  obtain rfl := ae_ss_n hs
  exact W.endD hd0 (W.vret hX.1 hX.2.1 (hX.2.2.2.2.2.1.trans hr) (fun t ht hW => ⟨none, none, σ, σ0, rfl, trivial, k, hσ, by rw [ht]; exact hP, hS.F ht⟩) hS.2.2 hd hX.2.2.2.2.2.2.1)
theorem ae_aret {x : Option ae_R} {rt : FieldType} (hd : decode M.2.1 pc = .ok (.areturn, 1)) (hr : M.2.2.2 = some rt) (hrt : (∃ n, rt = .object n) ∨ ∃ t, rt = .array t) (k : Po (some (ae_r x)) σ) : ae_T l G d M Po pc lv [ae_r x] σ := by
  intro p e s m args below meth c H locs d0 ls st0 σ0 hX hl hs hσ hP hS hd0
  obtain ⟨w, r, rfl, hw, hs1⟩ := ae_ss_c hs
  obtain rfl := ae_ss_n hs1
  have hw : w = va_rf (ae_ar G x) := hw
  subst hw
  exact W.endD hd0 (W.aret hX.1 hX.2.1 (hX.2.2.2.2.2.1.trans hr) hrt (va_rf_or _) (fun t ht hW => ⟨some (ae_r x), some (va_rf (ae_ar G x)), σ, σ0, rfl, rfl, k, hσ, by rw [ht]; exact hP, hS.F ht⟩) hS.2.2 hd hX.2.2.2.2.2.2.1)
end AER
