/-! methods as functions: X1_clear X1_add X1_leadHere X1_length X1_operation X1_first X1_second -/
theorem fl_RX1_22 : ae_FL RX1 22 1 3 (.int) false := ⟨_, _, _, rfl, by decide, ww_194, rfl, rfl, rfl⟩
theorem fl_RX1_11 : ae_FL RX1 11 1 0 (.array .int) true := ⟨_, _, _, rfl, by decide, ww_191, rfl, rfl, rfl⟩
theorem fl_RX1_15 : ae_FL RX1 15 1 1 (.array .long) true := ⟨_, _, _, rfl, by decide, ww_192, rfl, rfl, rfl⟩
theorem fl_RX1_19 : ae_FL RX1 19 1 2 (.array .int) true := ⟨_, _, _, rfl, by decide, ww_193, rfl, rfl, rfl⟩
abbrev mX1_clear : ae_M := (RX1, cX1_clear, 1, none)
theorem vy_X1_clear : ae_VY yX1_clear mX1_clear 0 := ⟨ww_634, ww_635, ww_9, ww_636, ⟨by decide, by decide, by decide +kernel⟩, by decide⟩
theorem dX1_clear_0 : decode cX1_clear 0 = .ok (.aload_n 0, 1) := by decide +kernel
theorem dX1_clear_1 : decode cX1_clear 1 = .ok (.iconst 0, 1) := by decide +kernel
theorem dX1_clear_2 : decode cX1_clear 2 = .ok (.putfield 22, 3) := by decide +kernel
theorem dX1_clear_5 : decode cX1_clear 5 = .ok (.return_, 1) := by decide +kernel
def F_X1_clear (s0 : ae_S) : Option (Unit × ae_S) := ae_lt (ae_wI s0 15 0 3 (0 : Int32)) (fun s1 => some ((), s1))
set_option maxHeartbeats 4000000 in
set_option maxRecDepth 100000 in
theorem c_X1_clear {l : Launch} {G : ae_G} (d : Nat) {s0 ss : ae_S} {rr : Unit} (hF : F_X1_clear s0 = some (rr, ss)) : ae_Met l G d yX1_clear mX1_clear [ae_r (some (15, 0))] s0 (ae_Po none ss) := by
  refine ae_enter (by decide) rfl (Nat.le_of_ble_eq_true rfl) ?_
  show ae_T l G d mX1_clear (ae_Po none ss) 0 [(0, ae_r (some (15, 0)))] [] s0
  unfold F_X1_clear at hF
  refine ae_aload_n 0 dX1_clear_0 rfl ?_
  refine ae_iconst (0 : Int32) dX1_clear_1 (by decide) ?_
  obtain ⟨s1, hs1, hF2⟩ := ae_ltI hF
  refine ae_putI (q := (15, 0)) dX1_clear_2 fl_RX1_22 rfl rfl (ae_nmS hs1 ?_)
  obtain ⟨rfl, rfl⟩ := ae_retI hF2
  exact ae_vret dX1_clear_5 rfl ⟨rfl, rfl⟩
abbrev mX1_add : ae_M := (RX1, cX1_add, 6, some .int)
theorem vy_X1_add : ae_VY yX1_add mX1_add 3 := ⟨ww_643, ww_644, ww_9, ww_645, ⟨by decide, by decide, by decide +kernel⟩, by decide⟩
theorem dX1_add_0 : decode cX1_add 0 = .ok (.aload_n 0, 1) := by decide +kernel
theorem dX1_add_1 : decode cX1_add 1 = .ok (.getfield 22, 3) := by decide +kernel
theorem dX1_add_4 : decode cX1_add 4 = .ok (.istore 5, 2) := by decide +kernel
theorem dX1_add_6 : decode cX1_add 6 = .ok (.iload 5, 2) := by decide +kernel
theorem dX1_add_8 : decode cX1_add 8 = .ok (.sipush 1002, 3) := by decide +kernel
theorem dX1_add_11 : decode cX1_add 11 = .ok (.if_icmp .ge 38, 3) := by decide +kernel
theorem dX1_add_14 : decode cX1_add 14 = .ok (.aload_n 0, 1) := by decide +kernel
theorem dX1_add_15 : decode cX1_add 15 = .ok (.getfield 11, 3) := by decide +kernel
theorem dX1_add_18 : decode cX1_add 18 = .ok (.iload 5, 2) := by decide +kernel
theorem dX1_add_20 : decode cX1_add 20 = .ok (.iload_n 1, 1) := by decide +kernel
theorem dX1_add_21 : decode cX1_add 21 = .ok (.iastore, 1) := by decide +kernel
theorem dX1_add_22 : decode cX1_add 22 = .ok (.aload_n 0, 1) := by decide +kernel
theorem dX1_add_23 : decode cX1_add 23 = .ok (.getfield 15, 3) := by decide +kernel
theorem dX1_add_26 : decode cX1_add 26 = .ok (.iload 5, 2) := by decide +kernel
theorem dX1_add_28 : decode cX1_add 28 = .ok (.lload_n 2, 1) := by decide +kernel
theorem dX1_add_29 : decode cX1_add 29 = .ok (.lastore, 1) := by decide +kernel
theorem dX1_add_30 : decode cX1_add 30 = .ok (.aload_n 0, 1) := by decide +kernel
theorem dX1_add_31 : decode cX1_add 31 = .ok (.getfield 19, 3) := by decide +kernel
theorem dX1_add_34 : decode cX1_add 34 = .ok (.iload 5, 2) := by decide +kernel
theorem dX1_add_36 : decode cX1_add 36 = .ok (.iload 4, 2) := by decide +kernel
theorem dX1_add_38 : decode cX1_add 38 = .ok (.iastore, 1) := by decide +kernel
theorem dX1_add_39 : decode cX1_add 39 = .ok (.aload_n 0, 1) := by decide +kernel
theorem dX1_add_40 : decode cX1_add 40 = .ok (.dup, 1) := by decide +kernel
theorem dX1_add_41 : decode cX1_add 41 = .ok (.getfield 22, 3) := by decide +kernel
theorem dX1_add_44 : decode cX1_add 44 = .ok (.iconst 1, 1) := by decide +kernel
theorem dX1_add_45 : decode cX1_add 45 = .ok (.iadd, 1) := by decide +kernel
theorem dX1_add_46 : decode cX1_add 46 = .ok (.putfield 22, 3) := by decide +kernel
theorem dX1_add_49 : decode cX1_add 49 = .ok (.iload 5, 2) := by decide +kernel
theorem dX1_add_51 : decode cX1_add 51 = .ok (.ireturn, 1) := by decide +kernel
def F_X1_add_49 (v5 : Int32) (s0 : ae_S) : Option (Int32 × ae_S) := some (v5, s0)
set_option maxHeartbeats 4000000 in
set_option maxRecDepth 100000 in
theorem t_X1_add_49 {l : Launch} {G : ae_G} (d : Nat) {rr : Int32} {ss : ae_S} (v5 : Int32) (s0 : ae_S) (hF : F_X1_add_49 v5 s0 = some (rr, ss)) : ae_T l G d mX1_add (ae_Po (some (ae_i rr)) ss) 49 [(5, ae_i v5)] [] s0 := by
  unfold F_X1_add_49 at hF
  refine ae_iload 0 dX1_add_49 rfl ?_
  obtain ⟨rfl, rfl⟩ := ae_retI hF
  exact ae_iret dX1_add_51 rfl rfl ⟨rfl, rfl⟩
def F_X1_add (v1 : Int32) (v2 : Int64) (v4 : Int32) (s0 : ae_S) : Option (Int32 × ae_S) := ae_lt (s0.1 15 0 3) (fun x1 => if (1002 : Int32) ≤ x1 then (F_X1_add_49 x1 s0) else (ae_gd (ae_ib x1 1002) (ae_lt (ae_wI s0 16 0 x1.toNatClampNeg v1) (fun s7 => ae_gd (ae_ib x1 1002) (ae_lt (ae_wL s7 17 0 x1.toNatClampNeg v2) (fun s11 => ae_gd (ae_ib x1 1002) (ae_lt (ae_wI s11 16 1 x1.toNatClampNeg v4) (fun s15 => ae_lt (ae_wI s15 15 0 3 ((s15.1 15 0 3) + (1 : Int32))) (fun s17 => F_X1_add_49 x1 s17)))))))))
set_option maxHeartbeats 4000000 in
set_option maxRecDepth 100000 in
theorem c_X1_add {l : Launch} {G : ae_G} (d : Nat) {v1 : Int32} {v2 : Int64} {v4 : Int32} {s0 ss : ae_S} {rr : Int32} (hF : F_X1_add v1 v2 v4 s0 = some (rr, ss)) : ae_Met l G d yX1_add mX1_add [ae_r (some (15, 0)), ae_i v1, ae_l v2, ae_i v4] s0 (ae_Po (some (ae_i rr)) ss) := by
  refine ae_enter (by decide) rfl (Nat.le_of_ble_eq_true rfl) ?_
  show ae_T l G d mX1_add (ae_Po (some (ae_i rr)) ss) 0 [(0, ae_r (some (15, 0))), (1, ae_i v1), (2, ae_l v2), (4, ae_i v4)] [] s0
  unfold F_X1_add at hF
  refine ae_aload_n 0 dX1_add_0 rfl ?_
  refine ae_getI (q := (15, 0)) dX1_add_1 fl_RX1_22 rfl rfl ?_
  obtain ⟨x1, hx1, hF2⟩ := ae_ltI hF
  refine ae_nmI hx1 ?_
  refine ae_istore (lv' := [(5, ae_i x1), (0, ae_r (some (15, 0))), (1, ae_i v1), (2, ae_l v2), (4, ae_i v4)]) dX1_add_4 (by decide) rfl ?_
  refine ae_iload 0 dX1_add_6 rfl ?_
  refine ae_sipush (1002 : Int32) dX1_add_8 (by decide) ?_
  refine ae_icmp_ge 49 dX1_add_11 rfl (fun hb3 => ?_) (fun hb3 => ?_)
  · have hF4 := ae_ifT hb3 hF2
    refine ae_pick (lv' := [(5, ae_i x1)]) [0] rfl ?_
    exact t_X1_add_49 d x1 s0 hF4
  · have hF4 := ae_ifF hb3 hF2
    refine ae_aload_n 1 dX1_add_14 rfl ?_
    refine ae_getA (q := (15, 0)) (some (16, 0)) dX1_add_15 fl_RX1_11 rfl rfl rfl ?_
    refine ae_iload 0 dX1_add_18 rfl ?_
    refine ae_iload_n 2 dX1_add_20 rfl ?_
    obtain ⟨hg5, hF6⟩ := ae_gdI hF4
    obtain ⟨s7, hs7, hF8⟩ := ae_ltI hF6
    refine ae_iast (q := (16, 0)) dX1_add_21 rfl rfl (ae_ibI hg5) (ae_nmS hs7 ?_)
    refine ae_aload_n 1 dX1_add_22 rfl ?_
    refine ae_getA (q := (15, 0)) (some (17, 0)) dX1_add_23 fl_RX1_15 rfl rfl rfl ?_
    refine ae_iload 0 dX1_add_26 rfl ?_
    refine ae_lload_n 3 dX1_add_28 rfl ?_
    obtain ⟨hg9, hF10⟩ := ae_gdI hF8
    obtain ⟨s11, hs11, hF12⟩ := ae_ltI hF10
    refine ae_last (q := (17, 0)) dX1_add_29 rfl rfl (ae_ibI hg9) (ae_nmS hs11 ?_)
    refine ae_aload_n 1 dX1_add_30 rfl ?_
    refine ae_getA (q := (15, 0)) (some (16, 1)) dX1_add_31 fl_RX1_19 rfl rfl rfl ?_
    refine ae_iload 0 dX1_add_34 rfl ?_
    refine ae_iload 4 dX1_add_36 rfl ?_
    obtain ⟨hg13, hF14⟩ := ae_gdI hF12
    obtain ⟨s15, hs15, hF16⟩ := ae_ltI hF14
    refine ae_iast (q := (16, 1)) dX1_add_38 rfl rfl (ae_ibI hg13) (ae_nmS hs15 ?_)
    refine ae_aload_n 1 dX1_add_39 rfl ?_
    refine ae_dup dX1_add_40 rfl ?_
    refine ae_getI (q := (15, 0)) dX1_add_41 fl_RX1_22 rfl rfl ?_
    refine ae_iconst (1 : Int32) dX1_add_44 (by decide) ?_
    refine ae_iadd dX1_add_45 ?_
    obtain ⟨s17, hs17, hF18⟩ := ae_ltI hF16
    refine ae_putI (q := (15, 0)) dX1_add_46 fl_RX1_22 rfl rfl (ae_nmS hs17 ?_)
    refine ae_pick (lv' := [(5, ae_i x1)]) [0] rfl ?_
    exact t_X1_add_49 d x1 s17 hF18
abbrev mX1_leadHere : ae_M := (RX1, cX1_leadHere, 2, none)
theorem vy_X1_leadHere : ae_VY yX1_leadHere mX1_leadHere 1 := ⟨ww_667, ww_668, ww_9, ww_669, ⟨by decide, by decide, by decide +kernel⟩, by decide⟩
theorem dX1_leadHere_0 : decode cX1_leadHere 0 = .ok (.iload_n 1, 1) := by decide +kernel
theorem dX1_leadHere_1 : decode cX1_leadHere 1 = .ok (.ifCond .lt 21, 3) := by decide +kernel
theorem dX1_leadHere_4 : decode cX1_leadHere 4 = .ok (.iload_n 1, 1) := by decide +kernel
theorem dX1_leadHere_5 : decode cX1_leadHere 5 = .ok (.sipush 1002, 3) := by decide +kernel
theorem dX1_leadHere_8 : decode cX1_leadHere 8 = .ok (.if_icmp .ge 14, 3) := by decide +kernel
theorem dX1_leadHere_11 : decode cX1_leadHere 11 = .ok (.aload_n 0, 1) := by decide +kernel
theorem dX1_leadHere_12 : decode cX1_leadHere 12 = .ok (.getfield 15, 3) := by decide +kernel
theorem dX1_leadHere_15 : decode cX1_leadHere 15 = .ok (.iload_n 1, 1) := by decide +kernel
theorem dX1_leadHere_16 : decode cX1_leadHere 16 = .ok (.aload_n 0, 1) := by decide +kernel
theorem dX1_leadHere_17 : decode cX1_leadHere 17 = .ok (.getfield 22, 3) := by decide +kernel
theorem dX1_leadHere_20 : decode cX1_leadHere 20 = .ok (.i2l, 1) := by decide +kernel
theorem dX1_leadHere_21 : decode cX1_leadHere 21 = .ok (.lastore, 1) := by decide +kernel
theorem dX1_leadHere_22 : decode cX1_leadHere 22 = .ok (.return_, 1) := by decide +kernel
def F_X1_leadHere_22 (s0 : ae_S) : Option (Unit × ae_S) := some ((), s0)
set_option maxHeartbeats 4000000 in
set_option maxRecDepth 100000 in
theorem t_X1_leadHere_22 {l : Launch} {G : ae_G} (d : Nat) {rr : Unit} {ss : ae_S} (s0 : ae_S) (hF : F_X1_leadHere_22 s0 = some (rr, ss)) : ae_T l G d mX1_leadHere (ae_Po none ss) 22 [] [] s0 := by
  unfold F_X1_leadHere_22 at hF
  obtain ⟨rfl, rfl⟩ := ae_retI hF
  exact ae_vret dX1_leadHere_22 rfl ⟨rfl, rfl⟩
def F_X1_leadHere (v1 : Int32) (s0 : ae_S) : Option (Unit × ae_S) := if v1 < 0 then (F_X1_leadHere_22 s0) else (if (1002 : Int32) ≤ v1 then (F_X1_leadHere_22 s0) else (ae_gd (ae_ib v1 1002) (ae_lt (ae_wL s0 17 0 v1.toNatClampNeg ((s0.1 15 0 3).toInt64)) (fun s7 => F_X1_leadHere_22 s7))))
set_option maxHeartbeats 4000000 in
set_option maxRecDepth 100000 in
theorem c_X1_leadHere {l : Launch} {G : ae_G} (d : Nat) {v1 : Int32} {s0 ss : ae_S} {rr : Unit} (hF : F_X1_leadHere v1 s0 = some (rr, ss)) : ae_Met l G d yX1_leadHere mX1_leadHere [ae_r (some (15, 0)), ae_i v1] s0 (ae_Po none ss) := by
  refine ae_enter (by decide) rfl (Nat.le_of_ble_eq_true rfl) ?_
  show ae_T l G d mX1_leadHere (ae_Po none ss) 0 [(0, ae_r (some (15, 0))), (1, ae_i v1)] [] s0
  unfold F_X1_leadHere at hF
  refine ae_iload_n 1 dX1_leadHere_0 rfl ?_
  refine ae_if_lt 22 dX1_leadHere_1 rfl (fun hb1 => ?_) (fun hb1 => ?_)
  · have hF2 := ae_ifT hb1 hF
    refine ae_pick (lv' := []) [] rfl ?_
    exact t_X1_leadHere_22 d s0 hF2
  · have hF2 := ae_ifF hb1 hF
    refine ae_iload_n 1 dX1_leadHere_4 rfl ?_
    refine ae_sipush (1002 : Int32) dX1_leadHere_5 (by decide) ?_
    refine ae_icmp_ge 22 dX1_leadHere_8 rfl (fun hb3 => ?_) (fun hb3 => ?_)
    · have hF4 := ae_ifT hb3 hF2
      refine ae_pick (lv' := []) [] rfl ?_
      exact t_X1_leadHere_22 d s0 hF4
    · have hF4 := ae_ifF hb3 hF2
      refine ae_aload_n 0 dX1_leadHere_11 rfl ?_
      refine ae_getA (q := (15, 0)) (some (17, 0)) dX1_leadHere_12 fl_RX1_15 rfl rfl rfl ?_
      refine ae_iload_n 1 dX1_leadHere_15 rfl ?_
      refine ae_aload_n 0 dX1_leadHere_16 rfl ?_
      refine ae_getI (q := (15, 0)) dX1_leadHere_17 fl_RX1_22 rfl rfl ?_
      refine ae_i2l dX1_leadHere_20 ?_
      obtain ⟨hg5, hF6⟩ := ae_gdI hF4
      obtain ⟨s7, hs7, hF8⟩ := ae_ltI hF6
      refine ae_last (q := (17, 0)) dX1_leadHere_21 rfl rfl (ae_ibI hg5) (ae_nmS hs7 ?_)
      refine ae_pick (lv' := []) [] rfl ?_
      exact t_X1_leadHere_22 d s7 hF8
abbrev mX1_length : ae_M := (RX1, cX1_length, 1, some .int)
theorem vy_X1_length : ae_VY yX1_length mX1_length 0 := ⟨ww_821, ww_822, ww_9, ww_823, ⟨by decide, by decide, by decide +kernel⟩, by decide⟩
theorem dX1_length_0 : decode cX1_length 0 = .ok (.aload_n 0, 1) := by decide +kernel
theorem dX1_length_1 : decode cX1_length 1 = .ok (.getfield 22, 3) := by decide +kernel
theorem dX1_length_4 : decode cX1_length 4 = .ok (.ireturn, 1) := by decide +kernel
def F_X1_length (s0 : ae_S) : Option (Int32 × ae_S) := some (s0.1 15 0 3, s0)
set_option maxHeartbeats 4000000 in
set_option maxRecDepth 100000 in
theorem c_X1_length {l : Launch} {G : ae_G} (d : Nat) {s0 ss : ae_S} {rr : Int32} (hF : F_X1_length s0 = some (rr, ss)) : ae_Met l G d yX1_length mX1_length [ae_r (some (15, 0))] s0 (ae_Po (some (ae_i rr)) ss) := by
  refine ae_enter (by decide) rfl (Nat.le_of_ble_eq_true rfl) ?_
  show ae_T l G d mX1_length (ae_Po (some (ae_i rr)) ss) 0 [(0, ae_r (some (15, 0)))] [] s0
  unfold F_X1_length at hF
  refine ae_aload_n 0 dX1_length_0 rfl ?_
  refine ae_getI (q := (15, 0)) dX1_length_1 fl_RX1_22 rfl rfl ?_
  obtain ⟨rfl, rfl⟩ := ae_retI hF
  exact ae_iret dX1_length_4 rfl rfl ⟨rfl, rfl⟩
abbrev mX1_operation : ae_M := (RX1, cX1_operation, 2, some .int)
theorem vy_X1_operation : ae_VY yX1_operation mX1_operation 1 := ⟨ww_825, ww_826, ww_9, ww_827, ⟨by decide, by decide, by decide +kernel⟩, by decide⟩
theorem dX1_operation_0 : decode cX1_operation 0 = .ok (.iload_n 1, 1) := by decide +kernel
theorem dX1_operation_1 : decode cX1_operation 1 = .ok (.ifCond .lt 20, 3) := by decide +kernel
theorem dX1_operation_4 : decode cX1_operation 4 = .ok (.iload_n 1, 1) := by decide +kernel
theorem dX1_operation_5 : decode cX1_operation 5 = .ok (.aload_n 0, 1) := by decide +kernel
theorem dX1_operation_6 : decode cX1_operation 6 = .ok (.getfield 22, 3) := by decide +kernel
theorem dX1_operation_9 : decode cX1_operation 9 = .ok (.if_icmp .ge 12, 3) := by decide +kernel
theorem dX1_operation_12 : decode cX1_operation 12 = .ok (.aload_n 0, 1) := by decide +kernel
theorem dX1_operation_13 : decode cX1_operation 13 = .ok (.getfield 11, 3) := by decide +kernel
theorem dX1_operation_16 : decode cX1_operation 16 = .ok (.iload_n 1, 1) := by decide +kernel
theorem dX1_operation_17 : decode cX1_operation 17 = .ok (.iaload, 1) := by decide +kernel
theorem dX1_operation_18 : decode cX1_operation 18 = .ok (.goto 4, 3) := by decide +kernel
theorem dX1_operation_21 : decode cX1_operation 21 = .ok (.iconst 0, 1) := by decide +kernel
theorem dX1_operation_22 : decode cX1_operation 22 = .ok (.ireturn, 1) := by decide +kernel
def F_X1_operation_22 (t0 : Int32) (s0 : ae_S) : Option (Int32 × ae_S) := some (t0, s0)
set_option maxHeartbeats 4000000 in
set_option maxRecDepth 100000 in
theorem t_X1_operation_22 {l : Launch} {G : ae_G} (d : Nat) {rr : Int32} {ss : ae_S} (t0 : Int32) (s0 : ae_S) (hF : F_X1_operation_22 t0 s0 = some (rr, ss)) : ae_T l G d mX1_operation (ae_Po (some (ae_i rr)) ss) 22 [] [ae_i t0] s0 := by
  unfold F_X1_operation_22 at hF
  obtain ⟨rfl, rfl⟩ := ae_retI hF
  exact ae_iret dX1_operation_22 rfl rfl ⟨rfl, rfl⟩
def F_X1_operation_21 (s0 : ae_S) : Option (Int32 × ae_S) := F_X1_operation_22 (0 : Int32) s0
set_option maxHeartbeats 4000000 in
set_option maxRecDepth 100000 in
theorem t_X1_operation_21 {l : Launch} {G : ae_G} (d : Nat) {rr : Int32} {ss : ae_S} (s0 : ae_S) (hF : F_X1_operation_21 s0 = some (rr, ss)) : ae_T l G d mX1_operation (ae_Po (some (ae_i rr)) ss) 21 [] [] s0 := by
  unfold F_X1_operation_21 at hF
  refine ae_iconst (0 : Int32) dX1_operation_21 (by decide) ?_
  refine ae_pick (lv' := []) [] rfl ?_
  exact t_X1_operation_22 d (0 : Int32) s0 hF
def F_X1_operation (v1 : Int32) (s0 : ae_S) : Option (Int32 × ae_S) := if v1 < 0 then (F_X1_operation_21 s0) else (if (s0.1 15 0 3) ≤ v1 then (F_X1_operation_21 s0) else (ae_gd (ae_ib v1 1002) (F_X1_operation_22 (s0.1 16 0 v1.toNatClampNeg) s0)))
set_option maxHeartbeats 4000000 in
set_option maxRecDepth 100000 in
theorem c_X1_operation {l : Launch} {G : ae_G} (d : Nat) {v1 : Int32} {s0 ss : ae_S} {rr : Int32} (hF : F_X1_operation v1 s0 = some (rr, ss)) : ae_Met l G d yX1_operation mX1_operation [ae_r (some (15, 0)), ae_i v1] s0 (ae_Po (some (ae_i rr)) ss) := by
  refine ae_enter (by decide) rfl (Nat.le_of_ble_eq_true rfl) ?_
  show ae_T l G d mX1_operation (ae_Po (some (ae_i rr)) ss) 0 [(0, ae_r (some (15, 0))), (1, ae_i v1)] [] s0
  unfold F_X1_operation at hF
  refine ae_iload_n 1 dX1_operation_0 rfl ?_
  refine ae_if_lt 21 dX1_operation_1 rfl (fun hb1 => ?_) (fun hb1 => ?_)
  · have hF2 := ae_ifT hb1 hF
    refine ae_pick (lv' := []) [] rfl ?_
    exact t_X1_operation_21 d s0 hF2
  · have hF2 := ae_ifF hb1 hF
    refine ae_iload_n 1 dX1_operation_4 rfl ?_
    refine ae_aload_n 0 dX1_operation_5 rfl ?_
    refine ae_getI (q := (15, 0)) dX1_operation_6 fl_RX1_22 rfl rfl ?_
    refine ae_icmp_ge 21 dX1_operation_9 rfl (fun hb3 => ?_) (fun hb3 => ?_)
    · have hF4 := ae_ifT hb3 hF2
      refine ae_pick (lv' := []) [] rfl ?_
      exact t_X1_operation_21 d s0 hF4
    · have hF4 := ae_ifF hb3 hF2
      refine ae_aload_n 0 dX1_operation_12 rfl ?_
      refine ae_getA (q := (15, 0)) (some (16, 0)) dX1_operation_13 fl_RX1_11 rfl rfl rfl ?_
      refine ae_iload_n 1 dX1_operation_16 rfl ?_
      obtain ⟨hg5, hF6⟩ := ae_gdI hF4
      refine ae_iald (q := (16, 0)) dX1_operation_17 rfl rfl (ae_ibI hg5) ?_
      refine ae_goto 22 dX1_operation_18 rfl ?_
      refine ae_pick (lv' := []) [] rfl ?_
      exact t_X1_operation_22 d (s0.1 16 0 v1.toNatClampNeg) s0 hF6
abbrev mX1_first : ae_M := (RX1, cX1_first, 2, some .long)
theorem vy_X1_first : ae_VY yX1_first mX1_first 1 := ⟨ww_829, ww_830, ww_9, ww_831, ⟨by decide, by decide, by decide +kernel⟩, by decide⟩
theorem dX1_first_0 : decode cX1_first 0 = .ok (.iload_n 1, 1) := by decide +kernel
theorem dX1_first_1 : decode cX1_first 1 = .ok (.ifCond .lt 20, 3) := by decide +kernel
theorem dX1_first_4 : decode cX1_first 4 = .ok (.iload_n 1, 1) := by decide +kernel
theorem dX1_first_5 : decode cX1_first 5 = .ok (.aload_n 0, 1) := by decide +kernel
theorem dX1_first_6 : decode cX1_first 6 = .ok (.getfield 22, 3) := by decide +kernel
theorem dX1_first_9 : decode cX1_first 9 = .ok (.if_icmp .ge 12, 3) := by decide +kernel
theorem dX1_first_12 : decode cX1_first 12 = .ok (.aload_n 0, 1) := by decide +kernel
theorem dX1_first_13 : decode cX1_first 13 = .ok (.getfield 15, 3) := by decide +kernel
theorem dX1_first_16 : decode cX1_first 16 = .ok (.iload_n 1, 1) := by decide +kernel
theorem dX1_first_17 : decode cX1_first 17 = .ok (.laload, 1) := by decide +kernel
theorem dX1_first_18 : decode cX1_first 18 = .ok (.goto 4, 3) := by decide +kernel
theorem dX1_first_21 : decode cX1_first 21 = .ok (.lconst 0, 1) := by decide +kernel
theorem dX1_first_22 : decode cX1_first 22 = .ok (.lreturn, 1) := by decide +kernel
def F_X1_first_22 (t0 : Int64) (s0 : ae_S) : Option (Int64 × ae_S) := some (t0, s0)
set_option maxHeartbeats 4000000 in
set_option maxRecDepth 100000 in
theorem t_X1_first_22 {l : Launch} {G : ae_G} (d : Nat) {rr : Int64} {ss : ae_S} (t0 : Int64) (s0 : ae_S) (hF : F_X1_first_22 t0 s0 = some (rr, ss)) : ae_T l G d mX1_first (ae_Po (some (ae_l rr)) ss) 22 [] [ae_l t0] s0 := by
  unfold F_X1_first_22 at hF
  obtain ⟨rfl, rfl⟩ := ae_retI hF
  exact ae_lret dX1_first_22 rfl ⟨rfl, rfl⟩
def F_X1_first_21 (s0 : ae_S) : Option (Int64 × ae_S) := F_X1_first_22 (0 : Int64) s0
set_option maxHeartbeats 4000000 in
set_option maxRecDepth 100000 in
theorem t_X1_first_21 {l : Launch} {G : ae_G} (d : Nat) {rr : Int64} {ss : ae_S} (s0 : ae_S) (hF : F_X1_first_21 s0 = some (rr, ss)) : ae_T l G d mX1_first (ae_Po (some (ae_l rr)) ss) 21 [] [] s0 := by
  unfold F_X1_first_21 at hF
  refine ae_lconst (0 : Int64) dX1_first_21 (by decide) ?_
  refine ae_pick (lv' := []) [] rfl ?_
  exact t_X1_first_22 d (0 : Int64) s0 hF
def F_X1_first (v1 : Int32) (s0 : ae_S) : Option (Int64 × ae_S) := if v1 < 0 then (F_X1_first_21 s0) else (if (s0.1 15 0 3) ≤ v1 then (F_X1_first_21 s0) else (ae_gd (ae_ib v1 1002) (F_X1_first_22 (s0.2.1 17 0 v1.toNatClampNeg) s0)))
set_option maxHeartbeats 4000000 in
set_option maxRecDepth 100000 in
theorem c_X1_first {l : Launch} {G : ae_G} (d : Nat) {v1 : Int32} {s0 ss : ae_S} {rr : Int64} (hF : F_X1_first v1 s0 = some (rr, ss)) : ae_Met l G d yX1_first mX1_first [ae_r (some (15, 0)), ae_i v1] s0 (ae_Po (some (ae_l rr)) ss) := by
  refine ae_enter (by decide) rfl (Nat.le_of_ble_eq_true rfl) ?_
  show ae_T l G d mX1_first (ae_Po (some (ae_l rr)) ss) 0 [(0, ae_r (some (15, 0))), (1, ae_i v1)] [] s0
  unfold F_X1_first at hF
  refine ae_iload_n 1 dX1_first_0 rfl ?_
  refine ae_if_lt 21 dX1_first_1 rfl (fun hb1 => ?_) (fun hb1 => ?_)
  · have hF2 := ae_ifT hb1 hF
    refine ae_pick (lv' := []) [] rfl ?_
    exact t_X1_first_21 d s0 hF2
  · have hF2 := ae_ifF hb1 hF
    refine ae_iload_n 1 dX1_first_4 rfl ?_
    refine ae_aload_n 0 dX1_first_5 rfl ?_
    refine ae_getI (q := (15, 0)) dX1_first_6 fl_RX1_22 rfl rfl ?_
    refine ae_icmp_ge 21 dX1_first_9 rfl (fun hb3 => ?_) (fun hb3 => ?_)
    · have hF4 := ae_ifT hb3 hF2
      refine ae_pick (lv' := []) [] rfl ?_
      exact t_X1_first_21 d s0 hF4
    · have hF4 := ae_ifF hb3 hF2
      refine ae_aload_n 0 dX1_first_12 rfl ?_
      refine ae_getA (q := (15, 0)) (some (17, 0)) dX1_first_13 fl_RX1_15 rfl rfl rfl ?_
      refine ae_iload_n 1 dX1_first_16 rfl ?_
      obtain ⟨hg5, hF6⟩ := ae_gdI hF4
      refine ae_lald (q := (17, 0)) dX1_first_17 rfl rfl (ae_ibI hg5) ?_
      refine ae_goto 22 dX1_first_18 rfl ?_
      refine ae_pick (lv' := []) [] rfl ?_
      exact t_X1_first_22 d (s0.2.1 17 0 v1.toNatClampNeg) s0 hF6
abbrev mX1_second : ae_M := (RX1, cX1_second, 2, some .int)
theorem vy_X1_second : ae_VY yX1_second mX1_second 1 := ⟨ww_866, ww_867, ww_9, ww_868, ⟨by decide, by decide, by decide +kernel⟩, by decide⟩
theorem dX1_second_0 : decode cX1_second 0 = .ok (.iload_n 1, 1) := by decide +kernel
theorem dX1_second_1 : decode cX1_second 1 = .ok (.ifCond .lt 20, 3) := by decide +kernel
theorem dX1_second_4 : decode cX1_second 4 = .ok (.iload_n 1, 1) := by decide +kernel
theorem dX1_second_5 : decode cX1_second 5 = .ok (.aload_n 0, 1) := by decide +kernel
theorem dX1_second_6 : decode cX1_second 6 = .ok (.getfield 22, 3) := by decide +kernel
theorem dX1_second_9 : decode cX1_second 9 = .ok (.if_icmp .ge 12, 3) := by decide +kernel
theorem dX1_second_12 : decode cX1_second 12 = .ok (.aload_n 0, 1) := by decide +kernel
theorem dX1_second_13 : decode cX1_second 13 = .ok (.getfield 19, 3) := by decide +kernel
theorem dX1_second_16 : decode cX1_second 16 = .ok (.iload_n 1, 1) := by decide +kernel
theorem dX1_second_17 : decode cX1_second 17 = .ok (.iaload, 1) := by decide +kernel
theorem dX1_second_18 : decode cX1_second 18 = .ok (.goto 4, 3) := by decide +kernel
theorem dX1_second_21 : decode cX1_second 21 = .ok (.iconst 0, 1) := by decide +kernel
theorem dX1_second_22 : decode cX1_second 22 = .ok (.ireturn, 1) := by decide +kernel
def F_X1_second_22 (t0 : Int32) (s0 : ae_S) : Option (Int32 × ae_S) := some (t0, s0)
set_option maxHeartbeats 4000000 in
set_option maxRecDepth 100000 in
theorem t_X1_second_22 {l : Launch} {G : ae_G} (d : Nat) {rr : Int32} {ss : ae_S} (t0 : Int32) (s0 : ae_S) (hF : F_X1_second_22 t0 s0 = some (rr, ss)) : ae_T l G d mX1_second (ae_Po (some (ae_i rr)) ss) 22 [] [ae_i t0] s0 := by
  unfold F_X1_second_22 at hF
  obtain ⟨rfl, rfl⟩ := ae_retI hF
  exact ae_iret dX1_second_22 rfl rfl ⟨rfl, rfl⟩
def F_X1_second_21 (s0 : ae_S) : Option (Int32 × ae_S) := F_X1_second_22 (0 : Int32) s0
set_option maxHeartbeats 4000000 in
set_option maxRecDepth 100000 in
theorem t_X1_second_21 {l : Launch} {G : ae_G} (d : Nat) {rr : Int32} {ss : ae_S} (s0 : ae_S) (hF : F_X1_second_21 s0 = some (rr, ss)) : ae_T l G d mX1_second (ae_Po (some (ae_i rr)) ss) 21 [] [] s0 := by
  unfold F_X1_second_21 at hF
  refine ae_iconst (0 : Int32) dX1_second_21 (by decide) ?_
  refine ae_pick (lv' := []) [] rfl ?_
  exact t_X1_second_22 d (0 : Int32) s0 hF
def F_X1_second (v1 : Int32) (s0 : ae_S) : Option (Int32 × ae_S) := if v1 < 0 then (F_X1_second_21 s0) else (if (s0.1 15 0 3) ≤ v1 then (F_X1_second_21 s0) else (ae_gd (ae_ib v1 1002) (F_X1_second_22 (s0.1 16 1 v1.toNatClampNeg) s0)))
set_option maxHeartbeats 4000000 in
set_option maxRecDepth 100000 in
theorem c_X1_second {l : Launch} {G : ae_G} (d : Nat) {v1 : Int32} {s0 ss : ae_S} {rr : Int32} (hF : F_X1_second v1 s0 = some (rr, ss)) : ae_Met l G d yX1_second mX1_second [ae_r (some (15, 0)), ae_i v1] s0 (ae_Po (some (ae_i rr)) ss) := by
  refine ae_enter (by decide) rfl (Nat.le_of_ble_eq_true rfl) ?_
  show ae_T l G d mX1_second (ae_Po (some (ae_i rr)) ss) 0 [(0, ae_r (some (15, 0))), (1, ae_i v1)] [] s0
  unfold F_X1_second at hF
  refine ae_iload_n 1 dX1_second_0 rfl ?_
  refine ae_if_lt 21 dX1_second_1 rfl (fun hb1 => ?_) (fun hb1 => ?_)
  · have hF2 := ae_ifT hb1 hF
    refine ae_pick (lv' := []) [] rfl ?_
    exact t_X1_second_21 d s0 hF2
  · have hF2 := ae_ifF hb1 hF
    refine ae_iload_n 1 dX1_second_4 rfl ?_
    refine ae_aload_n 0 dX1_second_5 rfl ?_
    refine ae_getI (q := (15, 0)) dX1_second_6 fl_RX1_22 rfl rfl ?_
    refine ae_icmp_ge 21 dX1_second_9 rfl (fun hb3 => ?_) (fun hb3 => ?_)
    · have hF4 := ae_ifT hb3 hF2
      refine ae_pick (lv' := []) [] rfl ?_
      exact t_X1_second_21 d s0 hF4
    · have hF4 := ae_ifF hb3 hF2
      refine ae_aload_n 0 dX1_second_12 rfl ?_
      refine ae_getA (q := (15, 0)) (some (16, 1)) dX1_second_13 fl_RX1_19 rfl rfl rfl ?_
      refine ae_iload_n 1 dX1_second_16 rfl ?_
      obtain ⟨hg5, hF6⟩ := ae_gdI hF4
      refine ae_iald (q := (16, 1)) dX1_second_17 rfl rfl (ae_ibI hg5) ?_
      refine ae_goto 22 dX1_second_18 rfl ?_
      refine ae_pick (lv' := []) [] rfl ?_
      exact t_X1_second_22 d (s0.1 16 1 v1.toNatClampNeg) s0 hF6
