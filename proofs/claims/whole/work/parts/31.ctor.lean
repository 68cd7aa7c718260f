/-! constructors: the world grows; an object under construction among any others -/
abbrev uc_A (b : Nat) : Nat → Prop := fun q => b ≤ q
def uc_K (D : va_G) (gc : FieldType → ClassId) (b u8 : Nat) (U : State) : Prop :=
  va_K D vwCl [] U ∧ (∀ ty ∈ ae_at, ArrOfT U (gc ty) ty ∧ va_RA U (gc ty) ty) ∧ va_AO "ByteViews$View" U ∧ va_AOA .int U ∧ va_Z "ByteViews$Kind" "U8" "LByteViews$Kind;" (.ref u8) (uc_A b) U U.heap ∧ b ≤ U.heap.size
theorem uc_K.step {D : va_G} {gc : FieldType → ClassId} {b u8 : Nat} {u v : State} (h : uc_K D gc b u8 u) (hvm : u.vm.Alike v.vm) (hz : u.heap.size ≤ v.heap.size) (hk : ∀ a : Nat, a < u.heap.size → ¬ uc_A b a → v.heap[a]? = u.heap[a]?) : uc_K D gc b u8 v :=
  ⟨va_K.moved hvm h.1, fun ty ht => ⟨arrOfT_moved hvm (h.2.1 ty ht).1, (h.2.1 ty ht).2.moved hvm⟩, va_AO.moved hvm h.2.2.1, over_moved hvm h.2.2.2.1, (va_Z.moved hvm h.2.2.2.2.1).kept hk, Nat.le_trans h.2.2.2.2.2 hz⟩
def uc_X (D : va_G) (gc : FieldType → ClassId) (b u8 : Nat) (M : ae_M) (p : Program) (s : State) (m : MethodId) (args : Array Value) (meth : Method) (c : Code) : Prop :=
  p.tables.exec = Jvm.exec ∧ c.code = M.2.1 ∧ c.maxLocals = M.2.2.1 ∧ s.vm.findClass M.1 = some m.cls ∧ (∀ w ∈ lw_g, w.before args s = true) ∧ meth.sig.returnType = none ∧ meth.locks = false ∧ meth.name = "<init>" ∧ uc_K D gc b u8 s
def uc_Q (D : va_G) (b : Nat) (Pw : va_W → Prop) : Array Value → State → Outcome → State → Prop := fun _ st oc t =>
  oc = .returned none ∧ (∃ w, Pw w ∧ va_P D vwCl w t.heap ∧ va_D (uc_A b) w) ∧ va_F (uc_A b) st t
def uc_rm (d mc ms : Nat) : Room := { frames := d, cells := mc, slots := ms, locals := 40 * d }
def uc_T (l : Launch) (D : va_G) (gc : FieldType → ClassId) (b u8 d MC MS : Nat) (M : ae_M) (Pw : va_W → Prop) (pc : Nat) (lv : List (Nat × Value)) (st : List Value) (ws : va_W) (cells slots : Nat) : Prop :=
  ∀ (p : Program) (e : Env) (s : State) (m : MethodId) (args : Array Value) (below : List Frame) (meth : Method) (c : Code) (H : Heap) (locs : List Loc) (ls : Array Slot),
    uc_X D gc b u8 M p s m args meth c → lv_has ls M.2.2.1 lv → va_P D vwCl ws H → va_D (uc_A b) ws → va_S (uc_A b) s.heap H locs →
    W p l e (uc_rm d MC MS) s m args below meth c H locs cells slots (MQ below (uc_Q D b Pw) args s MC MS (uc_A b)) (F0 m pc ls st)
def uc_M (l : Launch) (D : va_G) (gc : FieldType → ClassId) (b u8 : Nat) (y : MethodName) (M : ae_M) (As : List Value) (ws : va_W) (Pw : va_W → Prop) (d mc ms : Nat) : Prop :=
  Met l y (Cond.code y M.2.1 M.2.2.1 M.2.2.2 :: lw_g) (uc_rm d mc ms) (va_Pc As (fun U => va_P D vwCl ws U.heap ∧ va_D (uc_A b) ws ∧ uc_K D gc b u8 U)) (uc_Q D b Pw) mc ms (uc_A b)
theorem uc_enter {l : Launch} {D : va_G} {gc : FieldType → ClassId} {b u8 : Nat} {y : MethodName} {M : ae_M} {As : List Value} {ws : va_W} {Pw : va_W → Prop} {d mc ms : Nat} (hy : plainName y.cls = true) (hM : y.cls = M.1) (hr : M.2.2.2 = none) (hi : y.name = "<init>") (hn : (As.map fun v => v.category).sum ≤ M.2.2.1) (k : uc_T l D gc b u8 d mc ms M Pw 0 (lv_args 0 As) [] ws 0 0) : uc_M l D gc b u8 y M As ws Pw d mc ms := by
  refine Met.ofW (cc := M.2.1) (maxL := M.2.2.1) (ret := M.2.2.2) hy rfl ?_
  intro p e s m args below meth c s₁ B hml hv
  obtain ⟨rfl, hP, hD, hK⟩ := hv
  have hts := atoms_spec (ws := Cond.code y M.2.1 M.2.2.1 M.2.2.2 :: lw_g) B.pre
  have hown : s.vm.findClass M.1 = some m.cls := by rw [← hM]; exact findClass_of_methodNamed B.named
  have hin : meth.name = "<init>" := (name_of_methodNamed B.named B.method).1.trans hi
  have hle : (lg_sl As).length ≤ M.2.2.1 := by rw [ae_sl_len]; exact hn
  have hl := lv_entry As hle
  rw [lg_entry_eq]
  exact k p e s m _ below meth c s.heap [] _ ⟨B.exec, B.bytes, hml, hown, fun w h => hts w (List.mem_cons_of_mem _ h), B.returns.trans hr, B.notSynchronized, hin, hK⟩ hl hP hD va_S.rf
section UCR
variable {l : Launch} {D : va_G} {gc : FieldType → ClassId} {b u8 d MC MS : Nat} {M : ae_M} {Pw : va_W → Prop} {pc : Nat} {lv : List (Nat × Value)} {st : List Value} {ws : va_W} {cells slots : Nat}
theorem uc_aload_n {i : Fin 4} {x : Nat} (j : Nat) (hd : decode M.2.1 pc = .ok (.aload_n i, 1)) (hj : lv[j]? = some (i.val, .ref x)) (k : uc_T l D gc b u8 d MC MS M Pw (pc + 1) lv (.ref x :: st) ws cells slots) : uc_T l D gc b u8 d MC MS M Pw pc lv st ws cells slots := by
  intro p e s m args below meth c H locs ls hX hl hP hD hS
  exact lv_aload_n hX.1 hX.2.1 hd rfl (lv_at hl j hj) (k p e s m args below meth c H locs ls hX hl hP hD hS)
theorem uc_iload_n {i : Fin 4} {x : Int32} (j : Nat) (hd : decode M.2.1 pc = .ok (.iload_n i, 1)) (hj : lv[j]? = some (i.val, .int x)) (k : uc_T l D gc b u8 d MC MS M Pw (pc + 1) lv (.int x :: st) ws cells slots) : uc_T l D gc b u8 d MC MS M Pw pc lv st ws cells slots := by
  intro p e s m args below meth c H locs ls hX hl hP hD hS
  exact lv_iload_n hX.1 hX.2.1 hd rfl (lv_at hl j hj) (k p e s m args below meth c H locs ls hX hl hP hD hS)
theorem uc_iconst {n : Int} (v : Int32) (hd : decode M.2.1 pc = .ok (.iconst n, 1)) (hv : Int32.ofInt n = v) (k : uc_T l D gc b u8 d MC MS M Pw (pc + 1) lv (.int v :: st) ws cells slots) : uc_T l D gc b u8 d MC MS M Pw pc lv st ws cells slots := by
  intro p e s m args below meth c H locs ls hX hl hP hD hS
  exact lv_iconst hX.1 hX.2.1 hd hv (k p e s m args below meth c H locs ls hX hl hP hD hS)
theorem uc_bipush {n : Int} (v : Int32) (hd : decode M.2.1 pc = .ok (.bipush n, 2)) (hv : (Int8.ofInt n).toInt32 = v) (k : uc_T l D gc b u8 d MC MS M Pw (pc + 2) lv (.int v :: st) ws cells slots) : uc_T l D gc b u8 d MC MS M Pw pc lv st ws cells slots := by
  intro p e s m args below meth c H locs ls hX hl hP hD hS
  exact lv_bipush hX.1 hX.2.1 hd hv (k p e s m args below meth c H locs ls hX hl hP hD hS)
theorem uc_sipush {n : Int} (v : Int32) (hd : decode M.2.1 pc = .ok (.sipush n, 3)) (hv : (Int16.ofInt n).toInt32 = v) (k : uc_T l D gc b u8 d MC MS M Pw (pc + 3) lv (.int v :: st) ws cells slots) : uc_T l D gc b u8 d MC MS M Pw pc lv st ws cells slots := by
  intro p e s m args below meth c H locs ls hX hl hP hD hS
  exact lv_sipush hX.1 hX.2.1 hd hv (k p e s m args below meth c H locs ls hX hl hP hD hS)
theorem uc_dup {v : Value} (hd : decode M.2.1 pc = .ok (.dup, 1)) (hc : v.category = 1) (k : uc_T l D gc b u8 d MC MS M Pw (pc + 1) lv (v :: v :: st) ws cells slots) : uc_T l D gc b u8 d MC MS M Pw pc lv (v :: st) ws cells slots := by
  intro p e s m args below meth c H locs ls hX hl hP hD hS
  exact lv_dup hX.1 hX.2.1 hd hc (k p e s m args below meth c H locs ls hX hl hP hD hS)
theorem uc_goto {off : Int} (tgt : Nat) (hd : decode M.2.1 pc = .ok (.goto off, 3)) (ht : (pc : Int) + off = (tgt : Int)) (k : uc_T l D gc b u8 d MC MS M Pw tgt lv st ws cells slots) : uc_T l D gc b u8 d MC MS M Pw pc lv st ws cells slots := by
  intro p e s m args below meth c H locs ls hX hl hP hD hS
  exact lv_goto hX.1 hX.2.1 hd ht (k p e s m args below meth c H locs ls hX hl hP hD hS)
theorem uc_icmp_ge {x y : Int32} {off : Int} (tgt : Nat) (hd : decode M.2.1 pc = .ok (.if_icmp .ge off, 3)) (ht : (pc : Int) + off = (tgt : Int)) (kt : y ≤ x → uc_T l D gc b u8 d MC MS M Pw tgt lv st ws cells slots) (kf : ¬ y ≤ x → uc_T l D gc b u8 d MC MS M Pw (pc + 3) lv st ws cells slots) : uc_T l D gc b u8 d MC MS M Pw pc lv (.int y :: .int x :: st) ws cells slots := by
  intro p e s m args below meth c H locs ls hX hl hP hD hS
  exact lv_icmp_ge hX.1 hX.2.1 hd ht (fun h => kt h p e s m args below meth c H locs ls hX hl hP hD hS) (fun h => kf h p e s m args below meth c H locs ls hX hl hP hD hS)
theorem uc_istore_n {i : Fin 4} {x : Int32} {lv' : List (Nat × Value)} (hd : decode M.2.1 pc = .ok (.istore_n i, 1)) (hn : i.val < M.2.2.1) (hv : (i.val, Value.int x) :: lv.filter (fun q => !(q.1 == i.val) && !(q.1 + 1 == i.val && q.2.category == 2)) = lv') (k : uc_T l D gc b u8 d MC MS M Pw (pc + 1) lv' st ws cells slots) : uc_T l D gc b u8 d MC MS M Pw pc lv (.int x :: st) ws cells slots := by
  intro p e s m args below meth c H locs ls hX hl hP hD hS
  exact lv_istore_n hX.1 hX.2.1 hd rfl hl hn hv (fun ls' hl' => k p e s m args below meth c H locs ls' hX hl' hP hD hS)
theorem uc_astore_n {i : Fin 4} {x : Nat} {lv' : List (Nat × Value)} (hd : decode M.2.1 pc = .ok (.astore_n i, 1)) (hn : i.val < M.2.2.1) (hv : (i.val, Value.ref x) :: lv.filter (fun q => !(q.1 == i.val) && !(q.1 + 1 == i.val && q.2.category == 2)) = lv') (k : uc_T l D gc b u8 d MC MS M Pw (pc + 1) lv' st ws cells slots) : uc_T l D gc b u8 d MC MS M Pw pc lv (.ref x :: st) ws cells slots := by
  intro p e s m args below meth c H locs ls hX hl hP hD hS
  exact lv_astore_n hX.1 hX.2.1 hd rfl hl hn hv (fun ls' hl' => k p e s m args below meth c H locs ls' hX hl' hP hD hS)
theorem uc_iinc {i : Nat} {n : Int} {x v : Int32} {lv' : List (Nat × Value)} (j : Nat) (hd : decode M.2.1 pc = .ok (.iinc i n, 3)) (hj : lv[j]? = some (i, .int x)) (hx : x + Int32.ofInt n = v) (hn : i < M.2.2.1) (hv : (i, Value.int v) :: lv.filter (fun q => !(q.1 == i) && !(q.1 + 1 == i && q.2.category == 2)) = lv') (k : uc_T l D gc b u8 d MC MS M Pw (pc + 3) lv' st ws cells slots) : uc_T l D gc b u8 d MC MS M Pw pc lv st ws cells slots := by
  intro p e s m args below meth c H locs ls hX hl hP hD hS
  exact lv_iinc hX.1 hX.2.1 hd hl hj hx hn hv (fun ls' hl' => k p e s m args below meth c H locs ls' hX hl' hP hD hS)
theorem uc_sub {lv' : List (Nat × Value)} (ks : List Nat) (h : lv_pick lv ks = lv') (k : uc_T l D gc b u8 d MC MS M Pw pc lv' st ws cells slots) : uc_T l D gc b u8 d MC MS M Pw pc lv st ws cells slots := by
  intro p e s m args below meth c H locs ls hX hl hP hD hS
  exact k p e s m args below meth c H locs ls hX (lv_sub hl ks h) hP hD hS
theorem uc_nw {ws' : va_W} (h : ws = ws') (k : uc_T l D gc b u8 d MC MS M Pw pc lv st ws' cells slots) : uc_T l D gc b u8 d MC MS M Pw pc lv st ws cells slots := h ▸ k
theorem uc_objInit {idx x : Nat} (hd : decode M.2.1 pc = .ok (.invokespecial idx, 3)) (h1 : Cond.methodLink M.1 idx Lib.objectInit ∈ lw_g) (h2 : Cond.instanceMethod Lib.objectInit ∈ lw_g) (h3 : Cond.code Lib.objectInit ⟨#[0xb1]⟩ 1 none ∈ lw_g) (hdd : 1 ≤ d) (hrm : (st.map fun v => v.category).sum ≤ 8) (k : uc_T l D gc b u8 d MC MS M Pw (pc + 3) lv st ws cells slots) : uc_T l D gc b u8 d MC MS M Pw pc lv (.ref x :: st) ws cells slots := by
  intro p e s m args below meth c H locs ls hX hl hP hD hS
  exact W.objInit (R := uc_rm d MC MS) hX.1 hX.2.1 hX.2.2.2.1 (hX.2.2.2.2.1 _ h1) (hX.2.2.2.2.1 _ h2) (hX.2.2.2.2.1 _ h3) rfl (by rw [hX.2.2.1]; exact hl.1) rfl hd hdd (by show 2 * 0 + _ + 12 ≤ 40 * d; omega) (k p e s m args below meth c H locs ls hX hl hP hD hS)
theorem uc_vret (hd : decode M.2.1 pc = .ok (.return_, 1)) (hc : cells = MC) (hsl : slots = MS) (k : Pw ws) : uc_T l D gc b u8 d MC MS M Pw pc lv [] ws cells slots := by
  intro p e s m args below meth c H locs ls hX hl hP hD hS
  subst hc
  subst hsl
  exact W.vret hX.1 hX.2.1 hX.2.2.2.2.2.1 (fun t ht hW => ⟨rfl, ⟨ws, k, by rw [ht]; exact hP, hD⟩, hS.F ht⟩) hS.2.2 hd hX.2.2.2.2.2.2.1
theorem uc_hA {s : State} (h : b ≤ s.heap.size) : ∀ q : Nat, s.heap.size ≤ q → uc_A b q := fun _ hq => Nat.le_trans h hq
theorem uc_newa {atype : ArrayType} {ty : FieldType} {n : Int32} (N : Nat) (a0 : vp_A) (hd : decode M.2.1 pc = .ok (.newarray atype, 2)) (hty : newarray.typeOf atype = ty) (hw : Cond.arrayClass (newarray.typeOf atype) ∈ lw_g) (hat : ty ∈ ae_at) (hob : ∀ C, ty ≠ .object C) (ha : ∀ cA : ClassId, vp_cell cA a0 = arrV cA N (fun _ => defaultValue ty)) (hn : ¬ n < 0) (hN : n.toNatClampNeg = N) (hb : N * componentBytes ty ≤ 536870912) (hc : cells + 1 ≤ MC) (hsl : slots + N ≤ MS) (k : ∀ q : Nat, uc_T l D gc b u8 d MC MS M Pw (pc + 2) lv (.ref q :: st) (ws ++ [(q, .inl (gc ty, a0))]) (cells + 1) (slots + N)) : uc_T l D gc b u8 d MC MS M Pw pc lv (.int n :: st) ws cells slots := by
  intro p e s m args below meth c H locs ls hX hl hP hD hS
  have hK := hX.2.2.2.2.2.2.2.2
  refine va_newa (R := uc_rm d MC MS) (tys := []) hX.1 hX.2.1 (hX.2.2.2.2.1 _ hw) hty hK.1 hP hD hS (uc_hA hK.2.2.2.2.2) ha hn hN hb hc hsl hd (fun q cA H1 hK1 hP1 hD1 hS1 => ?_)
  have e1 := (hK1.2 0 (cA, ty) rfl).2
  have e2 := (hK.2.1 ty hat).2
  have ecA : cA = gc ty := by
    cases ty <;> first | exact absurd rfl (hob _) | exact Option.some.inj (e1.symm.trans e2)
  subst ecA
  exact k q p e s m args below meth c H1 locs ls hX hl hP1 hD1 hS1
theorem uc_new {idx ci N : Nat} {C : String} {T : u_T} {fs : List Value} (hd : decode M.2.1 pc = .ok (.new idx, 3)) (hcl : vwCl[ci]? = some (C, T, N)) (h1 : Cond.classLink M.1 idx C ∈ lw_g) (h2 : Cond.instantiable C N ∈ lw_g) (h3 : Cond.initialized C ∈ lw_g) (hfs : ∀ j, j < N → defaultValue (ae_ty ci j) = vp_V fs j) (hc : cells + 1 ≤ MC) (hsl : slots + N ≤ MS) (k : ∀ q : Nat, uc_T l D gc b u8 d MC MS M Pw (pc + 3) lv (.ref q :: st) (ws ++ [(q, .inr (ci, fs))]) (cells + 1) (slots + N)) : uc_T l D gc b u8 d MC MS M Pw pc lv st ws cells slots := by
  intro p e s m args below meth c H locs ls hX hl hP hD hS
  have hK := hX.2.2.2.2.2.2.2.2
  obtain ⟨g1, g2, -⟩ := ae_cw hcl
  exact va_new (R := uc_rm d MC MS) (Ts := lw_g) hX.1 hX.2.1 hX.2.2.2.2.1 g1 (ae_ty ci) g2 hX.2.2.2.1 (hX.2.2.2.2.1 _ h1) (hX.2.2.2.2.1 _ h2) (hX.2.2.2.2.1 _ h3) hK.1 hP hD hS (uc_hA hK.2.2.2.2.2) hcl hfs hc hsl hd (fun q H1 hP1 hD1 hS1 => k q p e s m args below meth c H1 locs ls hX hl hP1 hD1 hS1)
theorem uc_putF {idx ci j k0 h0 : Nat} {ty : FieldType} {v : Value} {fs : List Value} (hd : decode M.2.1 pc = .ok (.putfield idx, 3)) (hf : ae_FL M.1 idx ci j ty true) (hMC : ∀ C T N, vwCl[ci]? = some (C, T, N) → C = M.1) (he : ws[k0]? = some (h0, .inr (ci, fs))) (hn : narrow ty v = v) (hfit : fits ty v = true) (hlen : j < fs.length) (k : uc_T l D gc b u8 d MC MS M Pw (pc + 3) lv st (ws.set k0 (h0, .inr (ci, fs.set j v))) cells slots) : uc_T l D gc b u8 d MC MS M Pw pc lv (v :: .ref h0 :: st) ws cells slots := by
  intro p e s m args below meth c H locs ls hX hl hP hD hS
  have hK := hX.2.2.2.2.2.2.2.2
  obtain ⟨C, T, N, hcl, hk, hw, hT, hty, hfin⟩ := hf
  obtain ⟨g1, g2, g3⟩ := ae_cw hcl
  subst hty
  exact va_putF (Ts := lw_g) (own := M.1) (ref := C) (ty := ae_ty ci j) hX.1 hX.2.1 hX.2.2.2.2.1 g1 (ae_ty ci) g2 g3 hX.2.2.2.1 hK.1 hP hD hS k0 he hcl j hk (hX.2.2.2.2.1 _ hw) (fun x hx => by rw [hT] at hx; exact hx) hfin hX.2.2.2.2.2.2.2.1 (hT.trans (hMC C T N hcl)) (g2 j hk) hn hfit hlen hd (fun H1 locs1 hP1 hD1 hS1 => k p e s m args below meth c H1 locs1 ls hX hl hP1 hD1 hS1)
theorem uc_put {idx ci j k0 h0 : Nat} {ty : FieldType} {v : Value} {fs : List Value} (hd : decode M.2.1 pc = .ok (.putfield idx, 3)) (hf : ae_FL M.1 idx ci j ty false) (he : ws[k0]? = some (h0, .inr (ci, fs))) (hn : narrow ty v = v) (hfit : fits ty v = true) (hlen : j < fs.length) (k : uc_T l D gc b u8 d MC MS M Pw (pc + 3) lv st (ws.set k0 (h0, .inr (ci, fs.set j v))) cells slots) : uc_T l D gc b u8 d MC MS M Pw pc lv (v :: .ref h0 :: st) ws cells slots := by
  intro p e s m args below meth c H locs ls hX hl hP hD hS
  have hK := hX.2.2.2.2.2.2.2.2
  obtain ⟨C, T, N, hcl, hk, hw, hT, hty, hfin⟩ := hf
  obtain ⟨g1, g2, g3⟩ := ae_cw hcl
  subst hty
  exact va_put (Ts := lw_g) (own := M.1) (ref := C) (ty := ae_ty ci j) hX.1 hX.2.1 hX.2.2.2.2.1 g1 (ae_ty ci) g2 g3 hX.2.2.2.1 hK.1 hP hD hS k0 he hcl j hk (hX.2.2.2.2.1 _ hw) (fun x hx => by rw [hT] at hx; exact hx) hfin (g2 j hk) hn hfit hlen hd (fun H1 locs1 hP1 hD1 hS1 => k p e s m args below meth c H1 locs1 ls hX hl hP1 hD1 hS1)
theorem uc_get {idx ci j k0 h0 : Nat} {ty : FieldType} {fin : Bool} {v : Value} {fs : List Value} (hd : decode M.2.1 pc = .ok (.getfield idx, 3)) (hf : ae_FL M.1 idx ci j ty fin) (he : ws[k0]? = some (h0, .inr (ci, fs))) (hv : fs[j]? = some v) (k : uc_T l D gc b u8 d MC MS M Pw (pc + 3) lv (v :: st) ws cells slots) : uc_T l D gc b u8 d MC MS M Pw pc lv (.ref h0 :: st) ws cells slots := by
  intro p e s m args below meth c H locs ls hX hl hP hD hS
  have hK := hX.2.2.2.2.2.2.2.2
  obtain ⟨C, T, N, hcl, hk, hw, hT, hty, -⟩ := hf
  obtain ⟨g1, -, -⟩ := ae_cw hcl
  exact va_get (Ts := lw_g) (own := M.1) (ref := C) hX.1 hX.2.1 hX.2.2.2.2.1 g1 hX.2.2.2.1 hK.1 hP k0 he hcl j hk (hX.2.2.2.2.1 _ hw) (fun x hx => by rw [hT] at hx; exact hx) hv hd (k p e s m args below meth c H locs ls hX hl hP hD hS)
theorem uc_getU8 {idx : Nat} (hd : decode M.2.1 pc = .ok (.getstatic idx, 3)) (hlk : Cond.fieldLink M.1 idx "ByteViews$Kind" "U8" "LByteViews$Kind;" ∈ lw_g) (k : uc_T l D gc b u8 d MC MS M Pw (pc + 3) lv (.ref u8 :: st) ws cells slots) : uc_T l D gc b u8 d MC MS M Pw pc lv st ws cells slots := by
  intro p e s m args below meth c H locs ls hX hl hP hD hS
  exact va_gets (own := M.1) (ref := "ByteViews$Kind") hX.1 hX.2.1 hX.2.2.2.2.2.2.2.2.2.2.2.2.1 hS hX.2.2.2.1 (hX.2.2.2.2.1 _ hlk) (fun x hx => hx) hd (k p e s m args below meth c H locs ls hX hl hP hD hS)
theorem uc_newq {idx : Nat} {n : Int32} (N : Nat) (hd : decode M.2.1 pc = .ok (.anewarray idx, 3)) (h1 : Cond.classLink M.1 idx "ByteViews$View" ∈ lw_g) (hn : ¬ n < 0) (hN : n.toNatClampNeg = N) (hb : N * 4 ≤ 536870912) (hc : cells + 1 ≤ MC) (hsl : slots + N ≤ MS) (k : ∀ q : Nat, uc_T l D gc b u8 d MC MS M Pw (pc + 3) lv (.ref q :: st) (ws ++ [(q, .inl (gc (.object "ByteViews$View"), N, .inr (.inr (.inr (.inr (fun _ => none))))))]) (cells + 1) (slots + N)) : uc_T l D gc b u8 d MC MS M Pw pc lv (.int n :: st) ws cells slots := by
  intro p e s m args below meth c H locs ls hX hl hP hD hS
  have hK := hX.2.2.2.2.2.2.2.2
  refine va_newq (R := uc_rm d MC MS) (tys := []) hX.1 hX.2.1 hX.2.2.2.1 (hX.2.2.2.2.1 _ h1) hK.2.2.1 hK.1 hP hD hS (uc_hA hK.2.2.2.2.2) hn hN hb hc hsl hd (fun q cA H1 hK1 hP1 hD1 hS1 => ?_)
  obtain ⟨kA, comp, e0, e3, e4, e1⟩ := (hK1.2 0 (cA, .object "ByteViews$View") rfl).2
  obtain ⟨kA', comp', e0', e3', e4', e2⟩ := (hK.2.1 (.object "ByteViews$View") (by simp [ae_at])).2
  have ecA : cA = gc (.object "ByteViews$View") := Option.some.inj (e1.symm.trans e2)
  subst ecA
  exact k q p e s m args below meth c H1 locs ls hX hl hP1 hD1 hS1
theorem uc_mna {idx : Nat} {n n2 : Int32} (N K : Nat) (hd : decode M.2.1 pc = .ok (.multianewarray idx 2, 4)) (h1 : Cond.classLink M.1 idx "[[I" ∈ lw_g) (h2 : Cond.arrayClass .int ∈ lw_g) (hn : ¬ n < 0) (hk : ¬ n2 < 0) (hN : n.toNatClampNeg = N) (hK' : n2.toNatClampNeg = K) (hb1 : N * 4 ≤ 536870912) (hb2 : K * 4 ≤ 536870912) (hc : cells + (1 + N) ≤ MC) (hsl : slots + (N + N * K) ≤ MS) (k : ∀ (q : Nat) (r : Nat → Nat), uc_T l D gc b u8 d MC MS M Pw (pc + 4) lv (.ref q :: st) (ws ++ ((q, .inl (gc (.array .int), N, .inr (.inr (.inr (.inr (fun i => if i < N then some (r i) else none)))))) :: (List.range N).map (fun i => (r i, .inl (gc .int, K, .inl (fun _ => 0)))))) (cells + 1 + N) (slots + N + N * K)) : uc_T l D gc b u8 d MC MS M Pw pc lv (.int n2 :: .int n :: st) ws cells slots := by
  intro p e s m args below meth c H locs ls hX hl hP hD hS
  have hK := hX.2.2.2.2.2.2.2.2
  have hP0 : va_P D vwCl (ws ++ va_pl [] (fun _ => .inr (0, []))) H := by simpa [va_pl] using hP
  have hD0 : va_D (uc_A b) (ws ++ va_pl [] (fun _ => .inr (0, []))) := by simpa [va_pl] using hD
  have hcy : s.vm.findClass (FieldType.array .int).toString = some (gc .int) := (hK.2.1 .int (by simp [ae_at])).2
  refine va_mna (R := uc_rm d MC MS) (tys := []) (ty := .int) (cy := gc .int) (z := (K, .inl (fun _ => 0))) hX.1 hX.2.1 hX.2.2.2.1 (hX.2.2.2.2.1 _ h1) hK.2.2.2.1 (hX.2.2.2.2.1 _ h2) hcy hK.1 hP0 hD0 hS (uc_hA hK.2.2.2.2.2) hn hk hN hK' hb1 hb2 (by omega) rfl rfl hc hsl (fun c => ?_) hd (fun q r cA H1 hinj hfr hK1 hP1 hD1 hS1 => ?_)
  · show ({ cls := c, slots := Array.replicate K (.int 0), vm := .none } : Cell) = vp_cell c (K, .inl (fun _ => 0))
    rw [vp_cell_i, ← arrV_new]
  · have e1 := (hK1.2 0 (cA, .array .int) rfl).2
    have e2 := (hK.2.1 (.array .int) (by simp [ae_at])).2
    have ecA : cA = gc (.array .int) := Option.some.inj (e1.symm.trans e2)
    subst ecA
    have ew : (ws ++ [(q, .inl (gc (.array .int), N, .inr (.inr (.inr (.inr (fun i => if i < N then some (r i) else none))))))]) ++ va_pl ([] ++ (List.range N).map r) (vr_up (fun _ => .inr (0, [])) ((List.range N).map r) (.inl (gc .int, K, .inl (fun _ => 0)))) = ws ++ ((q, .inl (gc (.array .int), N, .inr (.inr (.inr (.inr (fun i => if i < N then some (r i) else none)))))) :: (List.range N).map (fun i => (r i, .inl (gc .int, K, .inl (fun _ => 0))))) := by
      rw [List.append_assoc, List.singleton_append, List.nil_append]
      congr 2
      unfold va_pl
      rw [List.map_map]
      apply List.map_congr_left
      intro i hi
      show (r i, vr_up _ _ _ (r i)) = _
      rw [vr_up_in (List.mem_map.mpr ⟨i, hi, rfl⟩)]
    rw [ew] at hP1 hD1
    exact k q r p e s m args below meth c H1 locs ls hX hl hP1 hD1 hS1
theorem uc_ast {q0 qk a v n : Nat} {vs : List Value} {f : Nat → Option Nat} {i : Int32} (hd : decode M.2.1 pc = .ok (.aastore, 1)) (ha : ws[q0]? = some (a, .inl (gc (.object "ByteViews$View"), n, .inr (.inr (.inr (.inr f)))))) (hv : ws[qk]? = some (v, .inr (7, vs))) (hin : vp_in i n) (k : uc_T l D gc b u8 d MC MS M Pw (pc + 1) lv st (ws.set q0 (a, .inl (gc (.object "ByteViews$View"), n, .inr (.inr (.inr (.inr (va_up f i.toNatClampNeg (some v)))))))) cells slots) : uc_T l D gc b u8 d MC MS M Pw pc lv (.ref v :: .int i :: .ref a :: st) ws cells slots := by
  intro p e s m args below meth c H locs ls hX hl hP hD hS
  have hK := hX.2.2.2.2.2.2.2.2
  have hKa : va_K D vwCl [(gc (.object "ByteViews$View"), .object "ByteViews$View")] s := ⟨hK.1.1, fun k q hk => by
    have h0 : k < 1 := (List.getElem?_eq_some_iff.mp hk).1
    rw [show k = 0 by omega] at hk
    cases hk
    exact hK.2.1 _ (by simp [ae_at])⟩
  exact va_astq (r := (RX9, TX9, 11)) hX.1 hX.2.1 hKa hP hD hS q0 0 qk 7 ha rfl hv rfl hin hd (fun H1 locs1 hP1 hD1 hS1 => k p e s m args below meth c H1 locs1 ls hX hl hP1 hD1 hS1)
/-- a constructor of ours: its words -/
def uc_IY (y : MethodName) (M' : ae_M) (n : Nat) : Prop := Cond.instanceMethod y ∈ lw_g ∧ Cond.initialized y.cls ∈ lw_g ∧ Cond.code y M'.2.1 M'.2.2.1 none ∈ lw_g ∧ M'.2.2.2 = none ∧ y.name = "<init>" ∧ (y.cls ≠ "java/lang/invoke/MethodHandle" ∧ y.cls ≠ "java/lang/invoke/VarHandle" ∧ (parseMethodDescriptor y.desc).map (fun d => d.parameters.length) = some n) ∧ M'.2.2.1 ≤ 21
theorem uc_blind {As : List Value} : FrameBlind (va_Pc As (fun U => va_P D vwCl ws U.heap ∧ va_D (uc_A b) ws ∧ uc_K D gc b u8 U)) := by
  intro a U g mk h
  obtain ⟨h1, h2, h3, h4⟩ := h
  exact ⟨h1, h2, h3, uc_K.step h4 (Vm.Alike.refl U.vm) (Nat.le_refl _) (fun _ _ _ => rfl)⟩
theorem uc_call {idx n x d1 mc ms : Nat} {y : MethodName} {M' : ae_M} {As sk : List Value} {Pw1 : va_W → Prop} (hd : decode M.2.1 pc = .ok (.invokespecial idx, 3)) (hlk : Cond.methodLink M.1 idx y ∈ lw_g) (hy : uc_IY y M' n) (hst : sk = As.reverse ++ (.ref x :: st)) (hn : As.length = n) (hrm : (st.map fun v => v.category).sum ≤ 8) (hdd : d1 + 1 ≤ d) (hc : cells + mc ≤ MC) (hsl : slots + ms ≤ MS)
    (hM : uc_M l D gc b u8 y M' (.ref x :: As) ws Pw1 d1 mc ms) (k : ∀ w, Pw1 w → uc_T l D gc b u8 d MC MS M Pw (pc + 3) lv st w (cells + mc) (slots + ms)) : uc_T l D gc b u8 d MC MS M Pw pc lv sk ws cells slots := by
  intro p e s m args below meth c H locs ls hX hl hP hD hS
  subst hst
  obtain ⟨y1, y3, y4, y5, y6, y7, y8⟩ := hy
  have hts := hX.2.2.2.2.1
  have hK := hX.2.2.2.2.2.2.2.2
  have hM2 : Met l y (Cond.code y M'.2.1 M'.2.2.1 none :: lw_g) (uc_rm d1 mc ms) (va_Pc (.ref x :: As) (fun U => va_P D vwCl ws U.heap ∧ va_D (uc_A b) ws ∧ uc_K D gc b u8 U)) (uc_Q D b Pw1) mc ms (uc_A b) := by
    have h0 := hM
    unfold uc_M at h0
    rw [y5] at h0
    exact h0
  have hr := va_runI (R := uc_rm d MC MS) (cells := cells) (slots := slots) (locs := locs) (below := below) (meth := meth) (e := e) (H := H) (g := F0 m pc ls (As.reverse ++ (.ref x :: st))) (As := As) (rest := st) (b := x) (Ts := lw_g) (own := M.1) (index := idx) (nL := M.2.2.1) ⟨hX.1, hX.2.1, hX.2.2.1, hX.2.2.2.1, hts⟩ hM2 (cwI n hts (lw_gin (fun w hw => by
    rcases List.mem_cons.mp hw with rfl | h
    · exact y4
    · exact h)) rfl rfl rfl (hts _ y3) (hts _ hlk) (hts _ y1) y6 y7 ⟨hdd, by show 8 + (M'.2.2.1 + 11) + 40 * d1 ≤ 40 * d; omega⟩) ⟨uc_blind, fun U hU hW => ⟨rfl, by rw [hU]; exact hP, hD, uc_K.step hK hW.alike (by rw [hU]; exact hS.1) (fun a h1 h2 => by rw [hU]; exact hS.2.1 a h1 h2)⟩⟩ rfl hn hl.1 rfl (lv_room hrm) hd ⟨hc, hsl⟩
  intro T hT X
  obtain ⟨v, st₀, t, T', L, h0, X', hL, e1, e2, ⟨hv, ⟨w, hw, hP1, hD1⟩, hz, hk⟩, stp⟩ := hr T hT X
  cases hv
  rw [h0] at hz hk
  obtain ⟨t2, a1, b1⟩ := k w hw p e s m args below meth c T'.heap (locs ++ L) ls hX hl (by rw [e1]; exact hP1) hD1 ⟨Nat.le_trans hS.1 (by rw [e1]; exact hz), fun q h1 h2 => by rw [e1, hk q (Nat.lt_of_lt_of_le h1 hS.1) h2]; exact hS.2.1 q h1 h2, fun q hq => by
    rcases List.mem_append.mp hq with h | h
    · exact hS.2.2 q h
    · exact hL q h⟩ T' rfl X'
  exact ⟨t2, stp t2 a1, b1⟩
end UCR
