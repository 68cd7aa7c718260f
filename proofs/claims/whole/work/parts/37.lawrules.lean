/-! THE LAW'S WALK: the two objects stand as the world ae_wl G σ; the script is the cell (59, 0) -/
abbrev mL : ae_M := (RL, cL_law, 4, ret)
def zl_Y (G : ae_G) (b L : Nat) (xs : Nat → Int32) (s : State) (args : Array Value) : Prop := args = #[Value.ref b] ∧ va_X b L xs s s.heap ∧ b < s.heap.size ∧ ae_gA G = (fun q => s.heap.size ≤ q) ∧ ae_ga G 59 0 = b
def zl_T (l : Launch) (G : ae_G) (b L : Nat) (xs : Nat → Int32) (pc : Nat) (lv : List (Nat × ae_V)) (st : List ae_V) (σ : ae_S) : Prop :=
  ∀ (p : Program) (e : Env) (s : State) (m : MethodId) (args : Array Value) (below : List Frame) (meth : Method) (c : Code) (H : Heap) (locs : List Loc) (d0 : Drawn) (ls : Array Slot) (st0 : List Value) (σ0 : ae_S),
    ae_X G mL p s m args meth c → ae_hl G ls mL.2.2.1 lv → ae_ss G st st0 → ae_sS σ σ0 → va_P (ae_gD G) vwCl (ae_wl G σ0) H → va_S (ae_gA G) s.heap H locs → s.drawn.sameBut d0 lw_cs → zl_Y G b L xs s args →
    W p l e room_1 (s.setDrawn d0) m args below meth c H locs 600000 7302250 (lw_Z below args s) (F0 m pc ls st0)
section ZL
variable {l : Launch} {G : ae_G} {b L : Nat} {xs : Nat → Int32} {pc : Nat} {lv : List (Nat × ae_V)} {st : List ae_V} {σ : ae_S}
theorem zl_aload_n {i : Fin 4} {x : Option ae_R} (j : Nat) (hd : decode mL.2.1 pc = .ok (.aload_n i, 1)) (hj : lv[j]? = some (i.val, ae_r x)) (k : zl_T l G b L xs (pc + 1) lv (ae_r x :: st) σ) : zl_T l G b L xs pc lv st σ := by
  intro p e s m args below meth c H locs d0 ls st0 σ0 hX hl hs hσ hP hS hd0 hY
  obtain ⟨w, h1, h2⟩ := hl.2.2 _ (List.mem_of_getElem? hj)
  have h2 : w = va_rf (ae_ar G x) := h2
  subst h2
  cases x with
  | none => exact lv_aload_nN hX.1 hX.2.1 hd rfl h1 (k p e s m args below meth c H locs d0 ls _ σ0 hX hl ⟨rfl, hs⟩ hσ hP hS hd0 hY)
  | some q => exact lv_aload_n hX.1 hX.2.1 hd rfl h1 (k p e s m args below meth c H locs d0 ls _ σ0 hX hl ⟨rfl, hs⟩ hσ hP hS hd0 hY)
theorem zl_iload_n {i : Fin 4} {x : Int32} (j : Nat) (hd : decode mL.2.1 pc = .ok (.iload_n i, 1)) (hj : lv[j]? = some (i.val, ae_i x)) (k : zl_T l G b L xs (pc + 1) lv (ae_i x :: st) σ) : zl_T l G b L xs pc lv st σ := by
  intro p e s m args below meth c H locs d0 ls st0 σ0 hX hl hs hσ hP hS hd0 hY
  obtain ⟨w, h1, h2⟩ := hl.2.2 _ (List.mem_of_getElem? hj)
  have h2 : w = .int x := h2
  subst h2
  exact lv_iload_n hX.1 hX.2.1 hd rfl h1 (k p e s m args below meth c H locs d0 ls _ σ0 hX hl ⟨rfl, hs⟩ hσ hP hS hd0 hY)
theorem zl_iconst {n : Int} (v : Int32) (hd : decode mL.2.1 pc = .ok (.iconst n, 1)) (hv : Int32.ofInt n = v) (k : zl_T l G b L xs (pc + 1) lv (ae_i v :: st) σ) : zl_T l G b L xs pc lv (st) σ := by
  intro p e s m args below meth c H locs d0 ls st0 σ0 hX hl hs hσ hP hS hd0 hY
  exact lv_iconst hX.1 hX.2.1 hd hv (k p e s m args below meth c H locs d0 ls _ σ0 hX hl ⟨rfl, hs⟩ hσ hP hS hd0 hY)
theorem zl_bipush {n : Int} (v : Int32) (hd : decode mL.2.1 pc = .ok (.bipush n, 2)) (hv : (Int8.ofInt n).toInt32 = v) (k : zl_T l G b L xs (pc + 2) lv (ae_i v :: st) σ) : zl_T l G b L xs pc lv (st) σ := by
  intro p e s m args below meth c H locs d0 ls st0 σ0 hX hl hs hσ hP hS hd0 hY
  exact lv_bipush hX.1 hX.2.1 hd hv (k p e s m args below meth c H locs d0 ls _ σ0 hX hl ⟨rfl, hs⟩ hσ hP hS hd0 hY)
theorem zl_iadd {x y : Int32} (hd : decode mL.2.1 pc = .ok (.iadd, 1)) (k : zl_T l G b L xs (pc + 1) lv (ae_i (x + y) :: st) σ) : zl_T l G b L xs pc lv (ae_i y :: ae_i x :: st) σ := by
  intro p e s m args below meth c H locs d0 ls st0 σ0 hX hl hs hσ hP hS hd0 hY
  obtain ⟨r1, rfl, hs1⟩ := ae_ss_i hs
  obtain ⟨r2, rfl, hs2⟩ := ae_ss_i hs1
  exact lv_iadd hX.1 hX.2.1 hd (k p e s m args below meth c H locs d0 ls _ σ0 hX hl ⟨rfl, hs2⟩ hσ hP hS hd0 hY)
theorem zl_isub {x y : Int32} (hd : decode mL.2.1 pc = .ok (.isub, 1)) (k : zl_T l G b L xs (pc + 1) lv (ae_i (x - y) :: st) σ) : zl_T l G b L xs pc lv (ae_i y :: ae_i x :: st) σ := by
  intro p e s m args below meth c H locs d0 ls st0 σ0 hX hl hs hσ hP hS hd0 hY
  obtain ⟨r1, rfl, hs1⟩ := ae_ss_i hs
  obtain ⟨r2, rfl, hs2⟩ := ae_ss_i hs1
  exact lv_isub hX.1 hX.2.1 hd (k p e s m args below meth c H locs d0 ls _ σ0 hX hl ⟨rfl, hs2⟩ hσ hP hS hd0 hY)
theorem zl_iand {x y : Int32} (hd : decode mL.2.1 pc = .ok (.iand, 1)) (k : zl_T l G b L xs (pc + 1) lv (ae_i (x &&& y) :: st) σ) : zl_T l G b L xs pc lv (ae_i y :: ae_i x :: st) σ := by
  intro p e s m args below meth c H locs d0 ls st0 σ0 hX hl hs hσ hP hS hd0 hY
  obtain ⟨r1, rfl, hs1⟩ := ae_ss_i hs
  obtain ⟨r2, rfl, hs2⟩ := ae_ss_i hs1
  exact lv_iand hX.1 hX.2.1 hd (k p e s m args below meth c H locs d0 ls _ σ0 hX hl ⟨rfl, hs2⟩ hσ hP hS hd0 hY)
theorem zl_i2l {x : Int32} (hd : decode mL.2.1 pc = .ok (.i2l, 1)) (k : zl_T l G b L xs (pc + 1) lv (ae_l x.toInt64 :: st) σ) : zl_T l G b L xs pc lv (ae_i x :: st) σ := by
  intro p e s m args below meth c H locs d0 ls st0 σ0 hX hl hs hσ hP hS hd0 hY
  obtain ⟨r1, rfl, hs1⟩ := ae_ss_i hs
  exact lv_i2l hX.1 hX.2.1 hd rfl (k p e s m args below meth c H locs d0 ls _ σ0 hX hl ⟨rfl, hs1⟩ hσ hP hS hd0 hY)
theorem zl_lshl {x : Int64} {y : Int32} (hd : decode mL.2.1 pc = .ok (.lshl, 1)) (k : zl_T l G b L xs (pc + 1) lv (ae_l (x <<< (y.toInt64 &&& 63)) :: st) σ) : zl_T l G b L xs pc lv (ae_i y :: ae_l x :: st) σ := by
  intro p e s m args below meth c H locs d0 ls st0 σ0 hX hl hs hσ hP hS hd0 hY
  obtain ⟨r1, rfl, hs1⟩ := ae_ss_i hs
  obtain ⟨r2, rfl, hs2⟩ := ae_ss_l hs1
  exact lv_lshl hX.1 hX.2.1 hd rfl (k p e s m args below meth c H locs d0 ls _ σ0 hX hl ⟨rfl, hs2⟩ hσ hP hS hd0 hY)
theorem zl_ldc2 {n : Nat} {v : Int64} (hd : decode mL.2.1 pc = .ok (.ldc2_w n, 3)) (hw : Cond.constantLong mL.1 n v ∈ lw_g) (k : zl_T l G b L xs (pc + 3) lv (ae_l v :: st) σ) : zl_T l G b L xs pc lv (st) σ := by
  intro p e s m args below meth c H locs d0 ls st0 σ0 hX hl hs hσ hP hS hd0 hY
  exact lv_ldc2 hX.1 hX.2.1 hX.2.2.2.1 (dr_words hX.2.2.2.2.1 d0 _ hw) hd (k p e s m args below meth c H locs d0 ls _ σ0 hX hl ⟨rfl, hs⟩ hσ hP hS hd0 hY)
theorem zl_land {x y : Int64} (hd : decode mL.2.1 pc = .ok (.land, 1)) (k : zl_T l G b L xs (pc + 1) lv (ae_l (x &&& y) :: st) σ) : zl_T l G b L xs pc lv (ae_l y :: ae_l x :: st) σ := by
  intro p e s m args below meth c H locs d0 ls st0 σ0 hX hl hs hσ hP hS hd0 hY
  obtain ⟨r1, rfl, hs1⟩ := ae_ss_l hs
  obtain ⟨r2, rfl, hs2⟩ := ae_ss_l hs1
  exact lv_land hX.1 hX.2.1 hd (k p e s m args below meth c H locs d0 ls _ σ0 hX hl ⟨rfl, hs2⟩ hσ hP hS hd0 hY)
theorem zl_lor {x y : Int64} (hd : decode mL.2.1 pc = .ok (.lor, 1)) (k : zl_T l G b L xs (pc + 1) lv (ae_l (x ||| y) :: st) σ) : zl_T l G b L xs pc lv (ae_l y :: ae_l x :: st) σ := by
  intro p e s m args below meth c H locs d0 ls st0 σ0 hX hl hs hσ hP hS hd0 hY
  obtain ⟨r1, rfl, hs1⟩ := ae_ss_l hs
  obtain ⟨r2, rfl, hs2⟩ := ae_ss_l hs1
  exact lv_lor hX.1 hX.2.1 hd (k p e s m args below meth c H locs d0 ls _ σ0 hX hl ⟨rfl, hs2⟩ hσ hP hS hd0 hY)
theorem zl_lcmp {x y : Int64} (hd : decode mL.2.1 pc = .ok (.lcmp, 1)) (k : zl_T l G b L xs (pc + 1) lv (ae_i (lg_cmp x y) :: st) σ) : zl_T l G b L xs pc lv (ae_l y :: ae_l x :: st) σ := by
  intro p e s m args below meth c H locs d0 ls st0 σ0 hX hl hs hσ hP hS hd0 hY
  obtain ⟨r1, rfl, hs1⟩ := ae_ss_l hs
  obtain ⟨r2, rfl, hs2⟩ := ae_ss_l hs1
  exact W.lcmp hX.1 hX.2.1 hd (k p e s m args below meth c H locs d0 ls _ σ0 hX hl ⟨rfl, hs2⟩ hσ hP hS hd0 hY)
theorem zl_if_eq {x : Int32} {off : Int} (tgt : Nat) (hd : decode mL.2.1 pc = .ok (.ifCond .eq off, 3)) (ht : (pc : Int) + off = (tgt : Int)) (kt : x = 0 → zl_T l G b L xs tgt lv st σ) (kf : ¬ x = 0 → zl_T l G b L xs (pc + 3) lv st σ) : zl_T l G b L xs pc lv (ae_i x :: st) σ := by
  intro p e s m args below meth c H locs d0 ls st0 σ0 hX hl hs hσ hP hS hd0 hY
  obtain ⟨r1, rfl, hs1⟩ := ae_ss_i hs
  exact lv_if_eq hX.1 hX.2.1 hd ht (fun h => kt h p e s m args below meth c H locs d0 ls _ σ0 hX hl hs1 hσ hP hS hd0 hY) (fun h => kf h p e s m args below meth c H locs d0 ls _ σ0 hX hl hs1 hσ hP hS hd0 hY)
theorem zl_icmp_eq {x y : Int32} {off : Int} (tgt : Nat) (hd : decode mL.2.1 pc = .ok (.if_icmp .eq off, 3)) (ht : (pc : Int) + off = (tgt : Int)) (kt : x = y → zl_T l G b L xs tgt lv st σ) (kf : ¬ x = y → zl_T l G b L xs (pc + 3) lv st σ) : zl_T l G b L xs pc lv (ae_i y :: ae_i x :: st) σ := by
  intro p e s m args below meth c H locs d0 ls st0 σ0 hX hl hs hσ hP hS hd0 hY
  obtain ⟨r1, rfl, hs1⟩ := ae_ss_i hs
  obtain ⟨r2, rfl, hs2⟩ := ae_ss_i hs1
  exact lv_icmp_eq hX.1 hX.2.1 hd ht (fun h => kt h p e s m args below meth c H locs d0 ls _ σ0 hX hl hs2 hσ hP hS hd0 hY) (fun h => kf h p e s m args below meth c H locs d0 ls _ σ0 hX hl hs2 hσ hP hS hd0 hY)
theorem zl_icmp_gt {x y : Int32} {off : Int} (tgt : Nat) (hd : decode mL.2.1 pc = .ok (.if_icmp .gt off, 3)) (ht : (pc : Int) + off = (tgt : Int)) (kt : y < x → zl_T l G b L xs tgt lv st σ) (kf : ¬ y < x → zl_T l G b L xs (pc + 3) lv st σ) : zl_T l G b L xs pc lv (ae_i y :: ae_i x :: st) σ := by
  intro p e s m args below meth c H locs d0 ls st0 σ0 hX hl hs hσ hP hS hd0 hY
  obtain ⟨r1, rfl, hs1⟩ := ae_ss_i hs
  obtain ⟨r2, rfl, hs2⟩ := ae_ss_i hs1
  exact lv_icmp_gt hX.1 hX.2.1 hd ht (fun h => kt h p e s m args below meth c H locs d0 ls _ σ0 hX hl hs2 hσ hP hS hd0 hY) (fun h => kf h p e s m args below meth c H locs d0 ls _ σ0 hX hl hs2 hσ hP hS hd0 hY)
theorem zl_iinc {i : Nat} {n : Int} {x : Int32} {lv' : List (Nat × ae_V)} (j : Nat) (v : Int32) (hd : decode mL.2.1 pc = .ok (.iinc i n, 3)) (hj : lv[j]? = some (i, ae_i x)) (hn : i < mL.2.2.1) (hw : Int32.ofInt n = v) (hv : ae_st1 i (ae_i (x + v)) lv = lv') (k : zl_T l G b L xs (pc + 3) lv' st σ) : zl_T l G b L xs pc lv st σ := by
  intro p e s m args below meth c H locs d0 ls st0 σ0 hX hl hs hσ hP hS hd0 hY
  obtain ⟨w, h1, h2⟩ := hl.2.2 _ (List.mem_of_getElem? hj)
  have h2 : w = .int x := h2
  subst h2
  subst hv
  subst hw
  obtain ⟨k0, hk0⟩ := List.getElem?_of_mem (ae_l0_in h1)
  exact lv_iinc hX.1 hX.2.1 hd (ae_l0_has hl.1 hl.2.1) hk0 rfl hn rfl (fun ls' h' => k p e s m args below meth c H locs d0 ls' _ σ0 hX (ae_kk1 (v := ae_i (x + Int32.ofInt n)) hl rfl h') hs hσ hP hS hd0 hY)
/-- fewer locals, by their places -/
theorem zl_goto {off : Int} (tgt : Nat) (hd : decode mL.2.1 pc = .ok (.goto off, 3)) (ht : (pc : Int) + off = (tgt : Int)) (k : zl_T l G b L xs tgt lv st σ) : zl_T l G b L xs pc lv st σ := by
  intro p e s m args below meth c H locs d0 ls st0 σ0 hX hl hs hσ hP hS hd0 hY
  exact lv_goto hX.1 hX.2.1 hd ht (k p e s m args below meth c H locs d0 ls _ σ0 hX hl hs hσ hP hS hd0 hY)
theorem zl_tabIn {dflt lo hi : Int} {offs : Array Int} {len : Nat} {x : Int32} {off : Int} (tgt : Nat) (hd : decode mL.2.1 pc = .ok (.tableswitch dflt lo hi offs, len)) (h1 : ¬ x.toInt < lo) (h2 : ¬ hi < x.toInt) (ho : offs[(x.toInt - lo).toNat]? = some off) (ht : (pc : Int) + off = (tgt : Int)) (k : zl_T l G b L xs tgt lv st σ) : zl_T l G b L xs pc lv (ae_i x :: st) σ := by
  intro p e s m args below meth c H locs d0 ls st0 σ0 hX hl hs hσ hP hS hd0 hY
  obtain ⟨r, rfl, hs1⟩ := ae_ss_i hs
  exact lv_tableIn hX.1 hX.2.1 hd h1 h2 ho ht (k p e s m args below meth c H locs d0 ls _ σ0 hX hl hs1 hσ hP hS hd0 hY)
theorem zl_tabOut {dflt lo hi : Int} {offs : Array Int} {len : Nat} {x : Int32} (tgt : Nat) (hd : decode mL.2.1 pc = .ok (.tableswitch dflt lo hi offs, len)) (h : x.toInt < lo ∨ hi < x.toInt) (ht : (pc : Int) + dflt = (tgt : Int)) (k : zl_T l G b L xs tgt lv st σ) : zl_T l G b L xs pc lv (ae_i x :: st) σ := by
  intro p e s m args below meth c H locs d0 ls st0 σ0 hX hl hs hσ hP hS hd0 hY
  obtain ⟨r, rfl, hs1⟩ := ae_ss_i hs
  exact lv_tableOut hX.1 hX.2.1 hd h ht (k p e s m args below meth c H locs d0 ls _ σ0 hX hl hs1 hσ hP hS hd0 hY)
theorem zl_pick {lv' : List (Nat × ae_V)} (ks : List Nat) (h : ks.filterMap (fun k => lv[k]?) = lv') (k : zl_T l G b L xs pc lv' st σ) : zl_T l G b L xs pc lv st σ := by
  intro p e s m args below meth c H locs d0 ls st0 σ0 hX hl hs hσ hP hS hd0 hY
  refine k p e s m args below meth c H locs d0 ls _ σ0 hX ⟨hl.1, hl.2.1, fun q hq => hl.2.2 q ?_⟩ hs hσ hP hS hd0 hY
  rw [← h] at hq
  obtain ⟨i, -, hi⟩ := List.mem_filterMap.mp hq
  exact List.mem_of_getElem? hi
theorem zl_sld {i : Int32} (hd : decode mL.2.1 pc = .ok (.iaload, 1)) (hin : vp_in i L) (k : zl_T l G b L xs (pc + 1) lv (ae_i (xs i.toNatClampNeg) :: st) σ) : zl_T l G b L xs pc lv (ae_i i :: ae_r (some (59, 0)) :: st) σ := by
  intro p e s m args below meth c H locs d0 ls st0 σ0 hX hl hs hσ hP hS hd0 hY
  obtain ⟨r1, rfl, hs1⟩ := ae_ss_i hs
  obtain ⟨r2, rfl, hs2⟩ := ae_ss_r hs1
  obtain ⟨y1, y2, y3, y4, y5⟩ := id hY
  have hbA : ¬ ae_gA G b := by rw [y4]; exact Nat.not_le.mpr y3
  rw [show ae_ga G ((59, 0) : ae_R).1 ((59, 0) : ae_R).2 = b from y5]
  exact va_sld (s := s.setDrawn d0) (H0 := s.heap) hX.1 hX.2.1 y2 y3 hbA hS hin hd (k p e s m args below meth c H locs d0 ls _ σ0 hX hl ⟨rfl, hs2⟩ hσ hP hS hd0 hY)
theorem zl_slen (hd : decode mL.2.1 pc = .ok (.arraylength, 1)) (k : zl_T l G b L xs (pc + 1) lv (ae_i (Int32.ofNat L) :: st) σ) : zl_T l G b L xs pc lv (ae_r (some (59, 0)) :: st) σ := by
  intro p e s m args below meth c H locs d0 ls st0 σ0 hX hl hs hσ hP hS hd0 hY
  obtain ⟨r2, rfl, hs2⟩ := ae_ss_r hs
  obtain ⟨y1, y2, y3, y4, y5⟩ := id hY
  have hbA : ¬ ae_gA G b := by rw [y4]; exact Nat.not_le.mpr y3
  rw [show ae_ga G ((59, 0) : ae_R).1 ((59, 0) : ae_R).2 = b from y5]
  exact va_slen (s := s.setDrawn d0) (H0 := s.heap) hX.1 hX.2.1 y2 y3 hbA hS hd (k p e s m args below meth c H locs d0 ls _ σ0 hX hl ⟨rfl, hs2⟩ hσ hP hS hd0 hY)
theorem zl_ret (hd : decode mL.2.1 pc = .ok (.ireturn, 1)) : zl_T l G b L xs pc lv [ae_i 1] σ := by
  intro p e s m args below meth c H locs d0 ls st0 σ0 hX hl hs hσ hP hS hd0 hY
  obtain ⟨r1, rfl, hs1⟩ := ae_ss_i hs
  obtain rfl := ae_ss_n hs1
  obtain ⟨y1, y2, y3, y4, y5⟩ := id hY
  subst y1
  refine va_forget (fun q hq => ?_) (lw_ret hd0 hX.1 hX.2.1 hX.2.2.2.2.2.1 hX.2.2.2.2.2.2.1 hd)
  have h9 := hS.2.2 q hq
  rw [y4] at h9
  exact h9
theorem zl_call {idx n ci d1 : Nat} {y : MethodName} {M' : ae_M} {q : ae_R} {As sk : List ae_V} {T : u_T} {N : Nat} {v : ae_V} {τ : ae_S} (hd : decode mL.2.1 pc = .ok (.invokevirtual idx, 3)) (hlk : Cond.methodLink mL.1 idx y ∈ lw_g) (hy : ae_VY y M' n) (hq : ae_ok q = true) (hc : (ae_sh q.1).2 = .inl ci) (hcl : vwCl[ci]? = some (y.cls, T, N)) (hst : sk = As.reverse ++ (ae_r (some q) :: st)) (hn : As.length = n) (hrm : (st.map ae_cat).sum ≤ 8) (hdd : d1 ≤ 2040)
    (hM : ae_Met l G d1 y M' (ae_r (some q) :: As) σ (ae_Po (some v) τ)) (k : zl_T l G b L xs (pc + 3) lv (v :: st) τ) : zl_T l G b L xs pc lv sk σ := by
  intro p e s m args below meth c H locs d0 ls st0 σ0 hX hl hs hσ hP hS hd0 hY
  subst hst
  obtain ⟨us, vs, rfl, ha, hb⟩ := ae_ss_app hs
  obtain ⟨r, rfl, hr⟩ := ae_ss_r hb
  have ha2 := ae_ss_rev ha
  rw [List.reverse_reverse] at ha2
  obtain ⟨q0, hq0, -⟩ := ae_place (G := G) (σ := σ0) hq
  have he : (ae_wl G σ0)[q0]? = some (ae_ga G q.1 q.2, .inr (ci, ae_fs G σ0 q.1 q.2 ci)) := by rw [hq0]; simp only [ae_ce, hc]
  obtain ⟨y1, y2, y3, y4, y5, y6⟩ := hy
  have hts := dr_words hX.2.2.2.2.1 d0
  have hgin : GoodIn lw_g ([Cond.methodLink mL.1 idx y, Cond.instanceMethod y, Cond.selects y.cls y y, Cond.initialized y.cls] ++ (Cond.code y M'.2.1 M'.2.2.1 M'.2.2.2 :: lw_g)) := lw_gin (fun w hw => by
    rcases List.mem_append.mp hw with h | h
    · rcases List.mem_cons.mp h with rfl | h
      · exact hlk
      rcases List.mem_cons.mp h with rfl | h
      · exact y1
      rcases List.mem_cons.mp h with rfl | h
      · exact y2
      rcases List.mem_cons.mp h with rfl | h
      · exact y3
      cases h
    · rcases List.mem_cons.mp h with rfl | h
      · exact y4
      · exact h)
  have hrun := va_runV_D (s := s.setDrawn d0) (args := args) (R := room_1) (cells := 600000) (slots := 7302250) (locs := locs) (below := below) (meth := meth) (e := e) (H := H) (g := F0 m pc ls (us ++ .ref (ae_ga G q.1 q.2) :: r)) (rest := r) (C := y.cls) (As := us.reverse) (b := ae_ga G q.1 q.2) (Ts := lw_g) (own := mL.1) (index := idx) (nL := mL.2.2.1) ⟨hX.1, hX.2.1, hX.2.2.1, hX.2.2.2.1, hts⟩ (hM (.ref (ae_ga G q.1 q.2) :: us.reverse) ⟨rfl, ha2⟩) (cwV n hts hgin rfl rfl rfl ⟨rfl, y5⟩ ⟨show d1 + 1 ≤ 2048 by omega, show 8 + (M'.2.2.1 + 11) + 40 * d1 ≤ 84000 by omega⟩) ⟨ae_blind, va_recv hX.2.2.2.2.2.2.2.1 hP hcl he, fun U hU hW => ⟨rfl, ⟨σ0, hσ, by rw [hU]; exact hP⟩, ae_K.step hX.2.2.2.2.2.2.2 hW (by rw [hU]; exact hS.1) (fun a h1 h2 => by rw [hU]; exact hS.2.1 a h1 h2)⟩⟩ rfl (by rw [List.length_reverse, ae_ss_len ha, List.length_reverse]; exact hn) hl.1 (by rw [List.reverse_reverse]) (lv_room (by rw [ae_ss_cat hr]; exact hrm)) hd ⟨Nat.le_refl _, Nat.le_refl _⟩
  intro T9 hT X
  obtain ⟨v9, st₀, t, T', L9, d', hd', h0, X', hL, e1, e2, hq9, stp⟩ := hrun T9 hT X
  obtain ⟨ro, wo, σ', σ1, hov, hso, ⟨rfl, rfl⟩, hσ', hP', hz, hk⟩ := hq9
  cases hov
  rw [h0] at hz hk
  obtain ⟨t2, a1, b1⟩ := k p e s m args below meth c T'.heap (locs ++ L9) d' ls (v9.toList ++ r) σ1 hX hl (ae_so_list hso hr) hσ' (by rw [e1]; exact hP') ⟨Nat.le_trans hS.1 (by rw [e1]; exact hz), fun q h1 h2 => by rw [e1, hk q (Nat.lt_of_lt_of_le h1 hS.1) h2]; exact hS.2.1 q h1 h2, fun q hq => by
    rcases List.mem_append.mp hq with h | h
    · exact hS.2.2 q h
    · exact hL q h⟩ (hd0.trans hd') hY T' rfl X'
  exact ⟨t2, stp t2 a1, b1⟩
end ZL
