/-! methods as functions: X12_fault X12_named X12_isView X12_isElement X12_lays X12_bitsOf X12_floatOf X12_isFloating X12_wholeOf X12_toldOf X12_read -/
abbrev mX12_fault : ae_M := (RX12, cX12_fault, 2, some .int)
theorem vy_X12_fault : ae_VY yX12_fault mX12_fault 1 := ⟨ww_1620, ww_1621, ww_13, ww_1622, ⟨by decide, by decide, by decide +kernel⟩, by decide⟩
theorem dX12_fault_0 : decode cX12_fault 0 = .ok (.iload_n 1, 1) := by decide +kernel
theorem dX12_fault_1 : decode cX12_fault 1 = .ok (.ifCond .ne 10, 3) := by decide +kernel
theorem dX12_fault_4 : decode cX12_fault 4 = .ok (.aload_n 0, 1) := by decide +kernel
theorem dX12_fault_5 : decode cX12_fault 5 = .ok (.getfield 286, 3) := by decide +kernel
theorem dX12_fault_8 : decode cX12_fault 8 = .ok (.goto 16, 3) := by decide +kernel
theorem dX12_fault_11 : decode cX12_fault 11 = .ok (.iload_n 1, 1) := by decide +kernel
theorem dX12_fault_12 : decode cX12_fault 12 = .ok (.iconst 1, 1) := by decide +kernel
theorem dX12_fault_13 : decode cX12_fault 13 = .ok (.if_icmp .ne 10, 3) := by decide +kernel
theorem dX12_fault_16 : decode cX12_fault 16 = .ok (.aload_n 0, 1) := by decide +kernel
theorem dX12_fault_17 : decode cX12_fault 17 = .ok (.getfield 62, 3) := by decide +kernel
theorem dX12_fault_20 : decode cX12_fault 20 = .ok (.goto 4, 3) := by decide +kernel
theorem dX12_fault_23 : decode cX12_fault 23 = .ok (.iconst (-1), 1) := by decide +kernel
theorem dX12_fault_24 : decode cX12_fault 24 = .ok (.ireturn, 1) := by decide +kernel
def F_X12_fault_24 (t0 : Int32) (s0 : ae_S) : Option (Int32 × ae_S) := some (t0, s0)
set_option maxHeartbeats 4000000 in
set_option maxRecDepth 100000 in
theorem t_X12_fault_24 {l : Launch} {G : ae_G} (d : Nat) {rr : Int32} {ss : ae_S} (t0 : Int32) (s0 : ae_S) (hF : F_X12_fault_24 t0 s0 = some (rr, ss)) : ae_T l G d mX12_fault (ae_Po (some (ae_i rr)) ss) 24 [] [ae_i t0] s0 := by
  unfold F_X12_fault_24 at hF
  obtain ⟨rfl, rfl⟩ := ae_retI hF
  exact ae_iret dX12_fault_24 rfl rfl ⟨rfl, rfl⟩
def F_X12_fault (v1 : Int32) (s0 : ae_S) : Option (Int32 × ae_S) := if v1 = 0 then (F_X12_fault_24 (s0.1 30 0 21) s0) else (if v1 = (1 : Int32) then (F_X12_fault_24 (s0.1 30 0 22) s0) else (F_X12_fault_24 (-1 : Int32) s0))
set_option maxHeartbeats 4000000 in
set_option maxRecDepth 100000 in
theorem c_X12_fault {l : Launch} {G : ae_G} (d : Nat) {v1 : Int32} {s0 ss : ae_S} {rr : Int32} (hF : F_X12_fault v1 s0 = some (rr, ss)) : ae_Met l G d yX12_fault mX12_fault [ae_r (some (30, 0)), ae_i v1] s0 (ae_Po (some (ae_i rr)) ss) := by
  refine ae_enter (by decide) rfl (Nat.le_of_ble_eq_true rfl) ?_
  show ae_T l G d mX12_fault (ae_Po (some (ae_i rr)) ss) 0 [(0, ae_r (some (30, 0))), (1, ae_i v1)] [] s0
  unfold F_X12_fault at hF
  refine ae_iload_n 1 dX12_fault_0 rfl ?_
  refine ae_if_ne 11 dX12_fault_1 rfl (fun hb1 => ?_) (fun hb1 => ?_)
  · have hF2 := ae_ifF hb1 hF
    refine ae_iload_n 1 dX12_fault_11 rfl ?_
    refine ae_iconst (1 : Int32) dX12_fault_12 (by decide) ?_
    refine ae_icmp_ne 23 dX12_fault_13 rfl (fun hb3 => ?_) (fun hb3 => ?_)
    · have hF4 := ae_ifF hb3 hF2
      refine ae_iconst (-1 : Int32) dX12_fault_23 (by decide) ?_
      refine ae_pick (lv' := []) [] rfl ?_
      exact t_X12_fault_24 d (-1 : Int32) s0 hF4
    · have hF4 := ae_ifT hb3 hF2
      refine ae_aload_n 0 dX12_fault_16 rfl ?_
      refine ae_getI (q := (30, 0)) dX12_fault_17 fl_RX12_62 rfl rfl ?_
      refine ae_goto 24 dX12_fault_20 rfl ?_
      refine ae_pick (lv' := []) [] rfl ?_
      exact t_X12_fault_24 d (s0.1 30 0 22) s0 hF4
  · have hF2 := ae_ifT hb1 hF
    refine ae_aload_n 0 dX12_fault_4 rfl ?_
    refine ae_getI (q := (30, 0)) dX12_fault_5 fl_RX12_286 rfl rfl ?_
    refine ae_goto 24 dX12_fault_8 rfl ?_
    refine ae_pick (lv' := []) [] rfl ?_
    exact t_X12_fault_24 d (s0.1 30 0 21) s0 hF2
abbrev mX12_named : ae_M := (RX12, cX12_named, 3, some .int)
theorem vy_X12_named : ae_VY yX12_named mX12_named 0 := ⟨ww_1624, ww_1625, ww_13, ww_1626, ⟨by decide, by decide, by decide +kernel⟩, by decide⟩
theorem dX12_named_0 : decode cX12_named 0 = .ok (.aload_n 0, 1) := by decide +kernel
theorem dX12_named_1 : decode cX12_named 1 = .ok (.invokevirtual 289, 3) := by decide +kernel
theorem dX12_named_4 : decode cX12_named 4 = .ok (.aload_n 0, 1) := by decide +kernel
theorem dX12_named_5 : decode cX12_named 5 = .ok (.invokevirtual 253, 3) := by decide +kernel
theorem dX12_named_8 : decode cX12_named 8 = .ok (.ifCond .eq 19, 3) := by decide +kernel
theorem dX12_named_11 : decode cX12_named 11 = .ok (.aload_n 0, 1) := by decide +kernel
theorem dX12_named_12 : decode cX12_named 12 = .ok (.aload_n 0, 1) := by decide +kernel
theorem dX12_named_13 : decode cX12_named 13 = .ok (.getfield 149, 3) := by decide +kernel
theorem dX12_named_16 : decode cX12_named 16 = .ok (.iconst 0, 1) := by decide +kernel
theorem dX12_named_17 : decode cX12_named 17 = .ok (.aload_n 0, 1) := by decide +kernel
theorem dX12_named_18 : decode cX12_named 18 = .ok (.getfield 109, 3) := by decide +kernel
theorem dX12_named_21 : decode cX12_named 21 = .ok (.invokevirtual 256, 3) := by decide +kernel
theorem dX12_named_24 : decode cX12_named 24 = .ok (.goto 4, 3) := by decide +kernel
theorem dX12_named_27 : decode cX12_named 27 = .ok (.iconst (-1), 1) := by decide +kernel
theorem dX12_named_28 : decode cX12_named 28 = .ok (.istore_n 1, 1) := by decide +kernel
theorem dX12_named_29 : decode cX12_named 29 = .ok (.aload_n 0, 1) := by decide +kernel
theorem dX12_named_30 : decode cX12_named 30 = .ok (.invokevirtual 200, 3) := by decide +kernel
theorem dX12_named_33 : decode cX12_named 33 = .ok (.aload_n 0, 1) := by decide +kernel
theorem dX12_named_34 : decode cX12_named 34 = .ok (.getfield 143, 3) := by decide +kernel
theorem dX12_named_37 : decode cX12_named 37 = .ok (.ifCond .ne 7, 3) := by decide +kernel
theorem dX12_named_40 : decode cX12_named 40 = .ok (.iconst 1, 1) := by decide +kernel
theorem dX12_named_41 : decode cX12_named 41 = .ok (.goto 4, 3) := by decide +kernel
theorem dX12_named_44 : decode cX12_named 44 = .ok (.iconst 0, 1) := by decide +kernel
theorem dX12_named_45 : decode cX12_named 45 = .ok (.istore_n 2, 1) := by decide +kernel
theorem dX12_named_46 : decode cX12_named 46 = .ok (.aload_n 0, 1) := by decide +kernel
theorem dX12_named_47 : decode cX12_named 47 = .ok (.iconst 0, 1) := by decide +kernel
theorem dX12_named_48 : decode cX12_named 48 = .ok (.putfield 126, 3) := by decide +kernel
theorem dX12_named_51 : decode cX12_named 51 = .ok (.iload_n 2, 1) := by decide +kernel
theorem dX12_named_52 : decode cX12_named 52 = .ok (.ifCond .eq 7, 3) := by decide +kernel
theorem dX12_named_55 : decode cX12_named 55 = .ok (.iload_n 1, 1) := by decide +kernel
theorem dX12_named_56 : decode cX12_named 56 = .ok (.goto 4, 3) := by decide +kernel
theorem dX12_named_59 : decode cX12_named 59 = .ok (.iconst (-1), 1) := by decide +kernel
theorem dX12_named_60 : decode cX12_named 60 = .ok (.ireturn, 1) := by decide +kernel
def F_X12_named_60 (t0 : Int32) (s0 : ae_S) : Option (Int32 × ae_S) := some (t0, s0)
set_option maxHeartbeats 4000000 in
set_option maxRecDepth 100000 in
theorem t_X12_named_60 {l : Launch} {G : ae_G} (d : Nat) {rr : Int32} {ss : ae_S} (t0 : Int32) (s0 : ae_S) (hF : F_X12_named_60 t0 s0 = some (rr, ss)) : ae_T l G (d + 9) mX12_named (ae_Po (some (ae_i rr)) ss) 60 [] [ae_i t0] s0 := by
  unfold F_X12_named_60 at hF
  obtain ⟨rfl, rfl⟩ := ae_retI hF
  exact ae_iret dX12_named_60 rfl rfl ⟨rfl, rfl⟩
def F_X12_named_45 (v1 : Int32) (t0 : Int32) (s0 : ae_S) : Option (Int32 × ae_S) := ae_lt (ae_wI s0 30 0 20 (0 : Int32)) (fun s1 => if t0 = 0 then (F_X12_named_60 (-1 : Int32) s1) else (F_X12_named_60 v1 s1))
set_option maxHeartbeats 4000000 in
set_option maxRecDepth 100000 in
theorem t_X12_named_45 {l : Launch} {G : ae_G} (d : Nat) {rr : Int32} {ss : ae_S} (v1 : Int32) (t0 : Int32) (s0 : ae_S) (hF : F_X12_named_45 v1 t0 s0 = some (rr, ss)) : ae_T l G (d + 9) mX12_named (ae_Po (some (ae_i rr)) ss) 45 [(0, ae_r (some (30, 0))), (1, ae_i v1)] [ae_i t0] s0 := by
  unfold F_X12_named_45 at hF
  refine ae_istore_n (lv' := [(2, ae_i t0), (0, ae_r (some (30, 0))), (1, ae_i v1)]) dX12_named_45 (by decide) rfl ?_
  refine ae_aload_n 1 dX12_named_46 rfl ?_
  refine ae_iconst (0 : Int32) dX12_named_47 (by decide) ?_
  obtain ⟨s1, hs1, hF2⟩ := ae_ltI hF
  refine ae_putI (q := (30, 0)) dX12_named_48 fl_RX12_126 rfl rfl (ae_nmS hs1 ?_)
  refine ae_iload_n 0 dX12_named_51 rfl ?_
  refine ae_if_eq 59 dX12_named_52 rfl (fun hb3 => ?_) (fun hb3 => ?_)
  · have hF4 := ae_ifT hb3 hF2
    refine ae_iconst (-1 : Int32) dX12_named_59 (by decide) ?_
    refine ae_pick (lv' := []) [] rfl ?_
    exact t_X12_named_60 d (-1 : Int32) s1 hF4
  · have hF4 := ae_ifF hb3 hF2
    refine ae_iload_n 2 dX12_named_55 rfl ?_
    refine ae_goto 60 dX12_named_56 rfl ?_
    refine ae_pick (lv' := []) [] rfl ?_
    exact t_X12_named_60 d v1 s1 hF4
def F_X12_named_28 (t0 : Int32) (s0 : ae_S) : Option (Int32 × ae_S) := ae_bd (F_X12_next s0) (fun (r5 : Unit) s6 => if (s6.1 30 0 25) = 0 then (F_X12_named_45 t0 (1 : Int32) s6) else (F_X12_named_45 t0 (0 : Int32) s6))
set_option maxHeartbeats 4000000 in
set_option maxRecDepth 100000 in
theorem t_X12_named_28 {l : Launch} {G : ae_G} (d : Nat) {rr : Int32} {ss : ae_S} (t0 : Int32) (s0 : ae_S) (hF : F_X12_named_28 t0 s0 = some (rr, ss)) : ae_T l G (d + 9) mX12_named (ae_Po (some (ae_i rr)) ss) 28 [(0, ae_r (some (30, 0)))] [ae_i t0] s0 := by
  unfold F_X12_named_28 at hF
  refine ae_istore_n (lv' := [(1, ae_i t0), (0, ae_r (some (30, 0)))]) dX12_named_28 (by decide) rfl ?_
  refine ae_aload_n 1 dX12_named_29 rfl ?_
  obtain ⟨r5, s6, hc7, hF8⟩ := ae_bdI hF
  refine ae_cV0 (q := (30, 0)) (As := []) dX12_named_30 ww_1508 vy_X12_next rfl rfl rfl rfl rfl (Nat.le_of_ble_eq_true rfl) (c_X12_next (d + 7) hc7) ?_
  refine ae_aload_n 1 dX12_named_33 rfl ?_
  refine ae_getI (q := (30, 0)) dX12_named_34 fl_RX12_143 rfl rfl ?_
  refine ae_if_ne 44 dX12_named_37 rfl (fun hb9 => ?_) (fun hb9 => ?_)
  · have hF10 := ae_ifF hb9 hF8
    refine ae_iconst (0 : Int32) dX12_named_44 (by decide) ?_
    refine ae_pick (lv' := [(0, ae_r (some (30, 0))), (1, ae_i t0)]) [1, 0] rfl ?_
    exact t_X12_named_45 d t0 (0 : Int32) s6 hF10
  · have hF10 := ae_ifT hb9 hF8
    refine ae_iconst (1 : Int32) dX12_named_40 (by decide) ?_
    refine ae_goto 45 dX12_named_41 rfl ?_
    refine ae_pick (lv' := [(0, ae_r (some (30, 0))), (1, ae_i t0)]) [1, 0] rfl ?_
    exact t_X12_named_45 d t0 (1 : Int32) s6 hF10
def F_X12_named (s0 : ae_S) : Option (Int32 × ae_S) := ae_bd (F_X12_starts s0) (fun (r11 : Unit) s12 => ae_bd (F_X12_isName s12) (fun (r15 : Int32) s16 => if r15 = 0 then (F_X12_named_28 (-1 : Int32) s16) else (ae_bd (F_X12_placeOf (s16.2.1 30 0 28) (0 : Int32) (s16.1 30 0 17) s16) (fun (r21 : Int32) s22 => F_X12_named_28 r21 s22))))
set_option maxHeartbeats 4000000 in
set_option maxRecDepth 100000 in
theorem c_X12_named {l : Launch} {G : ae_G} (d : Nat) {s0 ss : ae_S} {rr : Int32} (hF : F_X12_named s0 = some (rr, ss)) : ae_Met l G (d + 9) yX12_named mX12_named [ae_r (some (30, 0))] s0 (ae_Po (some (ae_i rr)) ss) := by
  refine ae_enter (by decide) rfl (Nat.le_of_ble_eq_true rfl) ?_
  show ae_T l G (d + 9) mX12_named (ae_Po (some (ae_i rr)) ss) 0 [(0, ae_r (some (30, 0)))] [] s0
  unfold F_X12_named at hF
  refine ae_aload_n 0 dX12_named_0 rfl ?_
  obtain ⟨r11, s12, hc13, hF14⟩ := ae_bdI hF
  refine ae_cV0 (q := (30, 0)) (As := []) dX12_named_1 ww_1504 vy_X12_starts rfl rfl rfl rfl rfl (Nat.le_of_ble_eq_true rfl) (c_X12_starts (d + 6) hc13) ?_
  refine ae_aload_n 0 dX12_named_4 rfl ?_
  obtain ⟨r15, s16, hc17, hF18⟩ := ae_bdI hF14
  refine ae_cV1 (q := (30, 0)) (As := []) dX12_named_5 ww_1528 vy_X12_isName rfl rfl rfl rfl rfl (Nat.le_of_ble_eq_true rfl) (c_X12_isName d hc17) ?_
  refine ae_if_eq 27 dX12_named_8 rfl (fun hb19 => ?_) (fun hb19 => ?_)
  · have hF20 := ae_ifT hb19 hF18
    refine ae_iconst (-1 : Int32) dX12_named_27 (by decide) ?_
    refine ae_pick (lv' := [(0, ae_r (some (30, 0)))]) [0] rfl ?_
    exact t_X12_named_28 d (-1 : Int32) s16 hF20
  · have hF20 := ae_ifF hb19 hF18
    refine ae_aload_n 0 dX12_named_11 rfl ?_
    refine ae_aload_n 0 dX12_named_12 rfl ?_
    refine ae_getL (q := (30, 0)) dX12_named_13 fl_RX12_149 rfl rfl ?_
    refine ae_iconst (0 : Int32) dX12_named_16 (by decide) ?_
    refine ae_aload_n 0 dX12_named_17 rfl ?_
    refine ae_getI (q := (30, 0)) dX12_named_18 fl_RX12_109 rfl rfl ?_
    obtain ⟨r21, s22, hc23, hF24⟩ := ae_bdI hF20
    refine ae_cV1 (q := (30, 0)) (As := [ae_l (s16.2.1 30 0 28), ae_i (0 : Int32), ae_i (s16.1 30 0 17)]) dX12_named_21 ww_1575 vy_X12_placeOf rfl rfl rfl rfl rfl (Nat.le_of_ble_eq_true rfl) (c_X12_placeOf (d + 8) hc23) ?_
    refine ae_goto 28 dX12_named_24 rfl ?_
    refine ae_pick (lv' := [(0, ae_r (some (30, 0)))]) [0] rfl ?_
    exact t_X12_named_28 d r21 s22 hF24
abbrev mX12_isView : ae_M := (RX12, cX12_isView, 2, some .boolean)
theorem vy_X12_isView : ae_VY yX12_isView mX12_isView 1 := ⟨ww_1637, wq_75, ww_13, ww_1638, ⟨by decide, by decide, by decide +kernel⟩, by decide⟩
theorem dX12_isView_0 : decode cX12_isView 0 = .ok (.iload_n 1, 1) := by decide +kernel
theorem dX12_isView_1 : decode cX12_isView 1 = .ok (.i2l, 1) := by decide +kernel
theorem dX12_isView_2 : decode cX12_isView 2 = .ok (.lconst 0, 1) := by decide +kernel
theorem dX12_isView_3 : decode cX12_isView 3 = .ok (.aload_n 0, 1) := by decide +kernel
theorem dX12_isView_4 : decode cX12_isView 4 = .ok (.getfield 109, 3) := by decide +kernel
theorem dX12_isView_7 : decode cX12_isView 7 = .ok (.iconst 1, 1) := by decide +kernel
theorem dX12_isView_8 : decode cX12_isView 8 = .ok (.isub, 1) := by decide +kernel
theorem dX12_isView_9 : decode cX12_isView 9 = .ok (.i2l, 1) := by decide +kernel
theorem dX12_isView_10 : decode cX12_isView 10 = .ok (.invokestatic 105, 3) := by decide +kernel
theorem dX12_isView_13 : decode cX12_isView 13 = .ok (.ireturn, 1) := by decide +kernel
def F_X12_isView (v1 : Int32) (s0 : ae_S) : Option (Int32 × ae_S) := ae_bd (F_X12_isIn v1.toInt64 (0 : Int64) (((s0.1 30 0 17) - (1 : Int32)).toInt64) s0) (fun (r1 : Int32) s2 => ae_gd (ae_zz r1) (some (r1, s2)))
set_option maxHeartbeats 4000000 in
set_option maxRecDepth 100000 in
theorem c_X12_isView {l : Launch} {G : ae_G} (d : Nat) {v1 : Int32} {s0 ss : ae_S} {rr : Int32} (hF : F_X12_isView v1 s0 = some (rr, ss)) : ae_Met l G (d + 1) yX12_isView mX12_isView [ae_r (some (30, 0)), ae_i v1] s0 (ae_Po (some (ae_i rr)) ss) := by
  refine ae_enter (by decide) rfl (Nat.le_of_ble_eq_true rfl) ?_
  show ae_T l G (d + 1) mX12_isView (ae_Po (some (ae_i rr)) ss) 0 [(0, ae_r (some (30, 0))), (1, ae_i v1)] [] s0
  unfold F_X12_isView at hF
  refine ae_iload_n 1 dX12_isView_0 rfl ?_
  refine ae_i2l dX12_isView_1 ?_
  refine ae_lconst (0 : Int64) dX12_isView_2 (by decide) ?_
  refine ae_aload_n 0 dX12_isView_3 rfl ?_
  refine ae_getI (q := (30, 0)) dX12_isView_4 fl_RX12_109 rfl rfl ?_
  refine ae_iconst (1 : Int32) dX12_isView_7 (by decide) ?_
  refine ae_isub dX12_isView_8 ?_
  refine ae_i2l dX12_isView_9 ?_
  obtain ⟨r1, s2, hc3, hF4⟩ := ae_bdI hF
  refine ae_cS1 (As := [ae_l v1.toInt64, ae_l (0 : Int64), ae_l (((s0.1 30 0 17) - (1 : Int32)).toInt64)]) dX12_isView_10 ww_1461 vy_X12_isIn rfl rfl (Nat.le_of_ble_eq_true rfl) (c_X12_isIn d hc3) ?_
  obtain ⟨hg5, hF6⟩ := ae_gdI hF4
  obtain ⟨rfl, rfl⟩ := ae_retI hF6
  exact ae_iret dX12_isView_13 rfl (ae_zzN (ae_zzI hg5)) ⟨rfl, rfl⟩
abbrev mX12_isElement : ae_M := (RX12, cX12_isElement, 4, some .boolean)
theorem vy_X12_isElement : ae_VY yX12_isElement mX12_isElement 2 := ⟨ww_1633, wq_74, ww_13, ww_1634, ⟨by decide, by decide, by decide +kernel⟩, by decide⟩
theorem dX12_isElement_0 : decode cX12_isElement 0 = .ok (.aload_n 0, 1) := by decide +kernel
theorem dX12_isElement_1 : decode cX12_isElement 1 = .ok (.iload_n 1, 1) := by decide +kernel
theorem dX12_isElement_2 : decode cX12_isElement 2 = .ok (.invokevirtual 122, 3) := by decide +kernel
theorem dX12_isElement_5 : decode cX12_isElement 5 = .ok (.ifCond .eq 24, 3) := by decide +kernel
theorem dX12_isElement_8 : decode cX12_isElement 8 = .ok (.lload_n 2, 1) := by decide +kernel
theorem dX12_isElement_9 : decode cX12_isElement 9 = .ok (.lconst 0, 1) := by decide +kernel
theorem dX12_isElement_10 : decode cX12_isElement 10 = .ok (.aload_n 0, 1) := by decide +kernel
theorem dX12_isElement_11 : decode cX12_isElement 11 = .ok (.getfield 38, 3) := by decide +kernel
theorem dX12_isElement_14 : decode cX12_isElement 14 = .ok (.iload_n 1, 1) := by decide +kernel
theorem dX12_isElement_15 : decode cX12_isElement 15 = .ok (.iaload, 1) := by decide +kernel
theorem dX12_isElement_16 : decode cX12_isElement 16 = .ok (.i2l, 1) := by decide +kernel
theorem dX12_isElement_17 : decode cX12_isElement 17 = .ok (.lconst 1, 1) := by decide +kernel
theorem dX12_isElement_18 : decode cX12_isElement 18 = .ok (.lsub, 1) := by decide +kernel
theorem dX12_isElement_19 : decode cX12_isElement 19 = .ok (.invokestatic 105, 3) := by decide +kernel
theorem dX12_isElement_22 : decode cX12_isElement 22 = .ok (.ifCond .eq 7, 3) := by decide +kernel
theorem dX12_isElement_25 : decode cX12_isElement 25 = .ok (.iconst 1, 1) := by decide +kernel
theorem dX12_isElement_26 : decode cX12_isElement 26 = .ok (.goto 4, 3) := by decide +kernel
theorem dX12_isElement_29 : decode cX12_isElement 29 = .ok (.iconst 0, 1) := by decide +kernel
theorem dX12_isElement_30 : decode cX12_isElement 30 = .ok (.ireturn, 1) := by decide +kernel
def F_X12_isElement_30 (t0 : Int32) (s0 : ae_S) : Option (Int32 × ae_S) := ae_gd (ae_zz t0) (some (t0, s0))
set_option maxHeartbeats 4000000 in
set_option maxRecDepth 100000 in
theorem t_X12_isElement_30 {l : Launch} {G : ae_G} (d : Nat) {rr : Int32} {ss : ae_S} (t0 : Int32) (s0 : ae_S) (hF : F_X12_isElement_30 t0 s0 = some (rr, ss)) : ae_T l G (d + 2) mX12_isElement (ae_Po (some (ae_i rr)) ss) 30 [] [ae_i t0] s0 := by
  unfold F_X12_isElement_30 at hF
  obtain ⟨hg1, hF2⟩ := ae_gdI hF
  obtain ⟨rfl, rfl⟩ := ae_retI hF2
  exact ae_iret dX12_isElement_30 rfl (ae_zzN (ae_zzI hg1)) ⟨rfl, rfl⟩
def F_X12_isElement_29 (s0 : ae_S) : Option (Int32 × ae_S) := F_X12_isElement_30 (0 : Int32) s0
set_option maxHeartbeats 4000000 in
set_option maxRecDepth 100000 in
theorem t_X12_isElement_29 {l : Launch} {G : ae_G} (d : Nat) {rr : Int32} {ss : ae_S} (s0 : ae_S) (hF : F_X12_isElement_29 s0 = some (rr, ss)) : ae_T l G (d + 2) mX12_isElement (ae_Po (some (ae_i rr)) ss) 29 [] [] s0 := by
  unfold F_X12_isElement_29 at hF
  refine ae_iconst (0 : Int32) dX12_isElement_29 (by decide) ?_
  refine ae_pick (lv' := []) [] rfl ?_
  exact t_X12_isElement_30 d (0 : Int32) s0 hF
def F_X12_isElement (v1 : Int32) (v2 : Int64) (s0 : ae_S) : Option (Int32 × ae_S) := ae_bd (F_X12_isView v1 s0) (fun (r3 : Int32) s4 => if r3 = 0 then (F_X12_isElement_29 s4) else (ae_gd (ae_ib v1 32) (ae_bd (F_X12_isIn v2 (0 : Int64) (((s4.1 39 0 v1.toNatClampNeg).toInt64) - (1 : Int64)) s4) (fun (r11 : Int32) s12 => if r11 = 0 then (F_X12_isElement_29 s12) else (F_X12_isElement_30 (1 : Int32) s12)))))
set_option maxHeartbeats 4000000 in
set_option maxRecDepth 100000 in
theorem c_X12_isElement {l : Launch} {G : ae_G} (d : Nat) {v1 : Int32} {v2 : Int64} {s0 ss : ae_S} {rr : Int32} (hF : F_X12_isElement v1 v2 s0 = some (rr, ss)) : ae_Met l G (d + 2) yX12_isElement mX12_isElement [ae_r (some (30, 0)), ae_i v1, ae_l v2] s0 (ae_Po (some (ae_i rr)) ss) := by
  refine ae_enter (by decide) rfl (Nat.le_of_ble_eq_true rfl) ?_
  show ae_T l G (d + 2) mX12_isElement (ae_Po (some (ae_i rr)) ss) 0 [(0, ae_r (some (30, 0))), (1, ae_i v1), (2, ae_l v2)] [] s0
  unfold F_X12_isElement at hF
  refine ae_aload_n 0 dX12_isElement_0 rfl ?_
  refine ae_iload_n 1 dX12_isElement_1 rfl ?_
  obtain ⟨r3, s4, hc5, hF6⟩ := ae_bdI hF
  refine ae_cV1 (q := (30, 0)) (As := [ae_i v1]) dX12_isElement_2 ww_1635 vy_X12_isView rfl rfl rfl rfl rfl (Nat.le_of_ble_eq_true rfl) (c_X12_isView d hc5) ?_
  refine ae_if_eq 29 dX12_isElement_5 rfl (fun hb7 => ?_) (fun hb7 => ?_)
  · have hF8 := ae_ifT hb7 hF6
    refine ae_pick (lv' := []) [] rfl ?_
    exact t_X12_isElement_29 d s4 hF8
  · have hF8 := ae_ifF hb7 hF6
    refine ae_lload_n 2 dX12_isElement_8 rfl ?_
    refine ae_lconst (0 : Int64) dX12_isElement_9 (by decide) ?_
    refine ae_aload_n 0 dX12_isElement_10 rfl ?_
    refine ae_getA (q := (30, 0)) (some (39, 0)) dX12_isElement_11 fl_RX12_38 rfl rfl rfl ?_
    refine ae_iload_n 1 dX12_isElement_14 rfl ?_
    obtain ⟨hg9, hF10⟩ := ae_gdI hF8
    refine ae_iald (q := (39, 0)) dX12_isElement_15 rfl rfl (ae_ibI hg9) ?_
    refine ae_i2l dX12_isElement_16 ?_
    refine ae_lconst (1 : Int64) dX12_isElement_17 (by decide) ?_
    refine ae_lsub dX12_isElement_18 ?_
    obtain ⟨r11, s12, hc13, hF14⟩ := ae_bdI hF10
    refine ae_cS1 (As := [ae_l v2, ae_l (0 : Int64), ae_l (((s4.1 39 0 v1.toNatClampNeg).toInt64) - (1 : Int64))]) dX12_isElement_19 ww_1461 vy_X12_isIn rfl rfl (Nat.le_of_ble_eq_true rfl) (c_X12_isIn (d + 1) hc13) ?_
    refine ae_if_eq 29 dX12_isElement_22 rfl (fun hb15 => ?_) (fun hb15 => ?_)
    · have hF16 := ae_ifT hb15 hF14
      refine ae_pick (lv' := []) [] rfl ?_
      exact t_X12_isElement_29 d s12 hF16
    · have hF16 := ae_ifF hb15 hF14
      refine ae_iconst (1 : Int32) dX12_isElement_25 (by decide) ?_
      refine ae_goto 30 dX12_isElement_26 rfl ?_
      refine ae_pick (lv' := []) [] rfl ?_
      exact t_X12_isElement_30 d (1 : Int32) s12 hF16
abbrev mX12_lays : ae_M := (RX12, cX12_lays, 7, none)
theorem vy_X12_lays : ae_VY yX12_lays mX12_lays 3 := ⟨ww_1688, wq_81, ww_13, ww_1689, ⟨by decide, by decide, by decide +kernel⟩, by decide⟩
theorem dX12_lays_0 : decode cX12_lays 0 = .ok (.aload_n 0, 1) := by decide +kernel
theorem dX12_lays_1 : decode cX12_lays 1 = .ok (.getfield 29, 3) := by decide +kernel
theorem dX12_lays_4 : decode cX12_lays 4 = .ok (.iload_n 1, 1) := by decide +kernel
theorem dX12_lays_5 : decode cX12_lays 5 = .ok (.iaload, 1) := by decide +kernel
theorem dX12_lays_6 : decode cX12_lays 6 = .ok (.invokestatic 267, 3) := by decide +kernel
theorem dX12_lays_9 : decode cX12_lays 9 = .ok (.istore 5, 2) := by decide +kernel
theorem dX12_lays_11 : decode cX12_lays 11 = .ok (.iconst 0, 1) := by decide +kernel
theorem dX12_lays_12 : decode cX12_lays 12 = .ok (.istore 6, 2) := by decide +kernel
theorem dX12_lays_14 : decode cX12_lays 14 = .ok (.iload 6, 2) := by decide +kernel
theorem dX12_lays_16 : decode cX12_lays 16 = .ok (.iload 5, 2) := by decide +kernel
theorem dX12_lays_18 : decode cX12_lays 18 = .ok (.if_icmp .ge 64, 3) := by decide +kernel
theorem dX12_lays_21 : decode cX12_lays 21 = .ok (.aload_n 0, 1) := by decide +kernel
theorem dX12_lays_22 : decode cX12_lays 22 = .ok (.getfield 9, 3) := by decide +kernel
theorem dX12_lays_25 : decode cX12_lays 25 = .ok (.aload_n 0, 1) := by decide +kernel
theorem dX12_lays_26 : decode cX12_lays 26 = .ok (.getfield 35, 3) := by decide +kernel
theorem dX12_lays_29 : decode cX12_lays 29 = .ok (.iload_n 1, 1) := by decide +kernel
theorem dX12_lays_30 : decode cX12_lays 30 = .ok (.iaload, 1) := by decide +kernel
theorem dX12_lays_31 : decode cX12_lays 31 = .ok (.aload_n 0, 1) := by decide +kernel
theorem dX12_lays_32 : decode cX12_lays 32 = .ok (.getfield 41, 3) := by decide +kernel
theorem dX12_lays_35 : decode cX12_lays 35 = .ok (.iload_n 1, 1) := by decide +kernel
theorem dX12_lays_36 : decode cX12_lays 36 = .ok (.iaload, 1) := by decide +kernel
theorem dX12_lays_37 : decode cX12_lays 37 = .ok (.iload_n 2, 1) := by decide +kernel
theorem dX12_lays_38 : decode cX12_lays 38 = .ok (.imul, 1) := by decide +kernel
theorem dX12_lays_39 : decode cX12_lays 39 = .ok (.iadd, 1) := by decide +kernel
theorem dX12_lays_40 : decode cX12_lays 40 = .ok (.aload_n 0, 1) := by decide +kernel
theorem dX12_lays_41 : decode cX12_lays 41 = .ok (.getfield 32, 3) := by decide +kernel
theorem dX12_lays_44 : decode cX12_lays 44 = .ok (.iload_n 1, 1) := by decide +kernel
theorem dX12_lays_45 : decode cX12_lays 45 = .ok (.iaload, 1) := by decide +kernel
theorem dX12_lays_46 : decode cX12_lays 46 = .ok (.iconst 1, 1) := by decide +kernel
theorem dX12_lays_47 : decode cX12_lays 47 = .ok (.if_icmp .ne 13, 3) := by decide +kernel
theorem dX12_lays_50 : decode cX12_lays 50 = .ok (.iload 5, 2) := by decide +kernel
theorem dX12_lays_52 : decode cX12_lays 52 = .ok (.iconst 1, 1) := by decide +kernel
theorem dX12_lays_53 : decode cX12_lays 53 = .ok (.isub, 1) := by decide +kernel
theorem dX12_lays_54 : decode cX12_lays 54 = .ok (.iload 6, 2) := by decide +kernel
theorem dX12_lays_56 : decode cX12_lays 56 = .ok (.isub, 1) := by decide +kernel
theorem dX12_lays_57 : decode cX12_lays 57 = .ok (.goto 5, 3) := by decide +kernel
theorem dX12_lays_60 : decode cX12_lays 60 = .ok (.iload 6, 2) := by decide +kernel
theorem dX12_lays_62 : decode cX12_lays 62 = .ok (.iadd, 1) := by decide +kernel
theorem dX12_lays_63 : decode cX12_lays 63 = .ok (.lload_n 3, 1) := by decide +kernel
theorem dX12_lays_64 : decode cX12_lays 64 = .ok (.bipush 8, 2) := by decide +kernel
theorem dX12_lays_66 : decode cX12_lays 66 = .ok (.iload 6, 2) := by decide +kernel
theorem dX12_lays_68 : decode cX12_lays 68 = .ok (.imul, 1) := by decide +kernel
theorem dX12_lays_69 : decode cX12_lays 69 = .ok (.lshr, 1) := by decide +kernel
theorem dX12_lays_70 : decode cX12_lays 70 = .ok (.ldc2_w 298, 3) := by decide +kernel
theorem dX12_lays_73 : decode cX12_lays 73 = .ok (.land, 1) := by decide +kernel
theorem dX12_lays_74 : decode cX12_lays 74 = .ok (.l2i, 1) := by decide +kernel
theorem dX12_lays_75 : decode cX12_lays 75 = .ok (.iastore, 1) := by decide +kernel
theorem dX12_lays_76 : decode cX12_lays 76 = .ok (.iinc 6 1, 3) := by decide +kernel
theorem dX12_lays_79 : decode cX12_lays 79 = .ok (.goto (-65), 3) := by decide +kernel
theorem dX12_lays_82 : decode cX12_lays 82 = .ok (.return_, 1) := by decide +kernel
def F_X12_lays_62 (k14 : Int32 → Int32 → Int64 → Int32 → Int32 → ae_S → Option (Unit × ae_S)) (v1 : Int32) (v2 : Int32) (v3 : Int64) (v5 : Int32) (v6 : Int32) (t0 : Int32) (t1 : Int32) (s0 : ae_S) : Option (Unit × ae_S) := ae_gd (ae_ib (t1 + t0) 256) (ae_lt (ae_wI s0 31 0 (t1 + t0).toNatClampNeg (((v3 >>> (((8 : Int32) * v6).toInt64 &&& 63)) &&& (255 : Int64)).toInt32)) (fun s3 => ae_lt (v6 + (1 : Int32)) (fun x5 => k14 v1 v2 v3 v5 x5 s3)))
set_option maxHeartbeats 4000000 in
set_option maxRecDepth 100000 in
theorem t_X12_lays_62 {l : Launch} {G : ae_G} (d : Nat) (k14 : Int32 → Int32 → Int64 → Int32 → Int32 → ae_S → Option (Unit × ae_S)) {rr : Unit} {ss : ae_S} (hk14 : ∀ (v1 : Int32) (v2 : Int32) (v3 : Int64) (v5 : Int32) (v6 : Int32) (s0 : ae_S), k14 v1 v2 v3 v5 v6 s0 = some (rr, ss) → ae_T l G (d + 1) mX12_lays (ae_Po none ss) 14 [(0, ae_r (some (30, 0))), (1, ae_i v1), (2, ae_i v2), (3, ae_l v3), (5, ae_i v5), (6, ae_i v6)] [] s0) (v1 : Int32) (v2 : Int32) (v3 : Int64) (v5 : Int32) (v6 : Int32) (t0 : Int32) (t1 : Int32) (s0 : ae_S) (hF : F_X12_lays_62 k14 v1 v2 v3 v5 v6 t0 t1 s0 = some (rr, ss)) : ae_T l G (d + 1) mX12_lays (ae_Po none ss) 62 [(0, ae_r (some (30, 0))), (1, ae_i v1), (2, ae_i v2), (3, ae_l v3), (5, ae_i v5), (6, ae_i v6)] [ae_i t0, ae_i t1, ae_r (some (31, 0))] s0 := by
  unfold F_X12_lays_62 at hF
  refine ae_iadd dX12_lays_62 ?_
  refine ae_lload_n 3 dX12_lays_63 rfl ?_
  refine ae_bipush (8 : Int32) dX12_lays_64 (by decide) ?_
  refine ae_iload 5 dX12_lays_66 rfl ?_
  refine ae_imul dX12_lays_68 ?_
  refine ae_lshr dX12_lays_69 ?_
  refine ae_ldc2 dX12_lays_70 ww_1690 ?_
  refine ae_land dX12_lays_73 ?_
  refine ae_l2i dX12_lays_74 ?_
  obtain ⟨hg1, hF2⟩ := ae_gdI hF
  obtain ⟨s3, hs3, hF4⟩ := ae_ltI hF2
  refine ae_iast (q := (31, 0)) dX12_lays_75 rfl rfl (ae_ibI hg1) (ae_nmS hs3 ?_)
  obtain ⟨x5, hx5, hF6⟩ := ae_ltI hF4
  refine ae_iinc (lv' := [(6, ae_i x5), (0, ae_r (some (30, 0))), (1, ae_i v1), (2, ae_i v2), (3, ae_l v3), (5, ae_i v5)]) 5 (1 : Int32) dX12_lays_76 rfl (by decide) (by decide) (by rw [hx5]; rfl) ?_
  refine ae_goto 14 dX12_lays_79 rfl ?_
  refine ae_pick (lv' := [(0, ae_r (some (30, 0))), (1, ae_i v1), (2, ae_i v2), (3, ae_l v3), (5, ae_i v5), (6, ae_i x5)]) [1, 2, 3, 4, 5, 0] rfl ?_
  exact hk14 v1 v2 v3 v5 x5 s3 hF6
def F_X12_lays_14 : Nat → Int32 → Int32 → Int64 → Int32 → Int32 → ae_S → Option (Unit × ae_S)
  | 0, _, _, _, _, _, _ => none
  | n + 1, v1, v2, v3, v5, v6, s0 => if v5 ≤ v6 then (some ((), s0)) else (ae_gd (ae_ib v1 32) (ae_gd (ae_ib v1 32) (ae_gd (ae_ib v1 32) (if (s0.1 37 0 v1.toNatClampNeg) = (1 : Int32) then (F_X12_lays_62 (F_X12_lays_14 n) v1 v2 v3 v5 v6 ((v5 - (1 : Int32)) - v6) ((s0.1 38 0 v1.toNatClampNeg) + ((s0.1 40 0 v1.toNatClampNeg) * v2)) s0) else (F_X12_lays_62 (F_X12_lays_14 n) v1 v2 v3 v5 v6 v6 ((s0.1 38 0 v1.toNatClampNeg) + ((s0.1 40 0 v1.toNatClampNeg) * v2)) s0)))))
set_option maxHeartbeats 4000000 in
set_option maxRecDepth 100000 in
theorem t_X12_lays_14 {l : Launch} {G : ae_G} (d : Nat) {rr : Unit} {ss : ae_S} : ∀ (n : Nat) (v1 : Int32) (v2 : Int32) (v3 : Int64) (v5 : Int32) (v6 : Int32) (s0 : ae_S), F_X12_lays_14 n v1 v2 v3 v5 v6 s0 = some (rr, ss) → ae_T l G (d + 1) mX12_lays (ae_Po none ss) 14 [(0, ae_r (some (30, 0))), (1, ae_i v1), (2, ae_i v2), (3, ae_l v3), (5, ae_i v5), (6, ae_i v6)] [] s0 := by
  intro n
  induction n with
  | zero =>
    intro v1 v2 v3 v5 v6 s0 hF
    exact absurd (show (none : Option (Unit × ae_S)) = some (rr, ss) from hF) (by simp)
  | succ n ih =>
    intro v1 v2 v3 v5 v6 s0 hF
    unfold F_X12_lays_14 at hF
    refine ae_iload 5 dX12_lays_14 rfl ?_
    refine ae_iload 4 dX12_lays_16 rfl ?_
    refine ae_icmp_ge 82 dX12_lays_18 rfl (fun hb7 => ?_) (fun hb7 => ?_)
    · have hF8 := ae_ifT hb7 hF
      obtain ⟨rfl, rfl⟩ := ae_retI hF8
      exact ae_vret dX12_lays_82 rfl ⟨rfl, rfl⟩
    · have hF8 := ae_ifF hb7 hF
      refine ae_aload_n 0 dX12_lays_21 rfl ?_
      refine ae_getA (q := (30, 0)) (some (31, 0)) dX12_lays_22 fl_RX12_9 rfl rfl rfl ?_
      refine ae_aload_n 0 dX12_lays_25 rfl ?_
      refine ae_getA (q := (30, 0)) (some (38, 0)) dX12_lays_26 fl_RX12_35 rfl rfl rfl ?_
      refine ae_iload_n 1 dX12_lays_29 rfl ?_
      obtain ⟨hg9, hF10⟩ := ae_gdI hF8
      refine ae_iald (q := (38, 0)) dX12_lays_30 rfl rfl (ae_ibI hg9) ?_
      refine ae_aload_n 0 dX12_lays_31 rfl ?_
      refine ae_getA (q := (30, 0)) (some (40, 0)) dX12_lays_32 fl_RX12_41 rfl rfl rfl ?_
      refine ae_iload_n 1 dX12_lays_35 rfl ?_
      obtain ⟨hg11, hF12⟩ := ae_gdI hF10
      refine ae_iald (q := (40, 0)) dX12_lays_36 rfl rfl (ae_ibI hg11) ?_
      refine ae_iload_n 2 dX12_lays_37 rfl ?_
      refine ae_imul dX12_lays_38 ?_
      refine ae_iadd dX12_lays_39 ?_
      refine ae_aload_n 0 dX12_lays_40 rfl ?_
      refine ae_getA (q := (30, 0)) (some (37, 0)) dX12_lays_41 fl_RX12_32 rfl rfl rfl ?_
      refine ae_iload_n 1 dX12_lays_44 rfl ?_
      obtain ⟨hg13, hF14⟩ := ae_gdI hF12
      refine ae_iald (q := (37, 0)) dX12_lays_45 rfl rfl (ae_ibI hg13) ?_
      refine ae_iconst (1 : Int32) dX12_lays_46 (by decide) ?_
      refine ae_icmp_ne 60 dX12_lays_47 rfl (fun hb15 => ?_) (fun hb15 => ?_)
      · have hF16 := ae_ifF hb15 hF14
        refine ae_iload 5 dX12_lays_60 rfl ?_
        refine ae_pick (lv' := [(0, ae_r (some (30, 0))), (1, ae_i v1), (2, ae_i v2), (3, ae_l v3), (5, ae_i v5), (6, ae_i v6)]) [0, 1, 2, 3, 4, 5] rfl ?_
        exact t_X12_lays_62 d (F_X12_lays_14 n) ih v1 v2 v3 v5 v6 v6 ((s0.1 38 0 v1.toNatClampNeg) + ((s0.1 40 0 v1.toNatClampNeg) * v2)) s0 hF16
      · have hF16 := ae_ifT hb15 hF14
        refine ae_iload 4 dX12_lays_50 rfl ?_
        refine ae_iconst (1 : Int32) dX12_lays_52 (by decide) ?_
        refine ae_isub dX12_lays_53 ?_
        refine ae_iload 5 dX12_lays_54 rfl ?_
        refine ae_isub dX12_lays_56 ?_
        refine ae_goto 62 dX12_lays_57 rfl ?_
        refine ae_pick (lv' := [(0, ae_r (some (30, 0))), (1, ae_i v1), (2, ae_i v2), (3, ae_l v3), (5, ae_i v5), (6, ae_i v6)]) [0, 1, 2, 3, 4, 5] rfl ?_
        exact t_X12_lays_62 d (F_X12_lays_14 n) ih v1 v2 v3 v5 v6 ((v5 - (1 : Int32)) - v6) ((s0.1 38 0 v1.toNatClampNeg) + ((s0.1 40 0 v1.toNatClampNeg) * v2)) s0 hF16
def F_X12_lays (v1 : Int32) (v2 : Int32) (v3 : Int64) (s0 : ae_S) : Option (Unit × ae_S) := ae_gd (ae_ib v1 32) (ae_bd (F_X12_bytesOf (s0.1 36 0 v1.toNatClampNeg) s0) (fun (r19 : Int32) s20 => F_X12_lays_14 ae_fu v1 v2 v3 r19 (0 : Int32) s20))
set_option maxHeartbeats 4000000 in
set_option maxRecDepth 100000 in
theorem c_X12_lays {l : Launch} {G : ae_G} (d : Nat) {v1 : Int32} {v2 : Int32} {v3 : Int64} {s0 ss : ae_S} {rr : Unit} (hF : F_X12_lays v1 v2 v3 s0 = some (rr, ss)) : ae_Met l G (d + 1) yX12_lays mX12_lays [ae_r (some (30, 0)), ae_i v1, ae_i v2, ae_l v3] s0 (ae_Po none ss) := by
  refine ae_enter (by decide) rfl (Nat.le_of_ble_eq_true rfl) ?_
  show ae_T l G (d + 1) mX12_lays (ae_Po none ss) 0 [(0, ae_r (some (30, 0))), (1, ae_i v1), (2, ae_i v2), (3, ae_l v3)] [] s0
  unfold F_X12_lays at hF
  refine ae_aload_n 0 dX12_lays_0 rfl ?_
  refine ae_getA (q := (30, 0)) (some (36, 0)) dX12_lays_1 fl_RX12_29 rfl rfl rfl ?_
  refine ae_iload_n 1 dX12_lays_4 rfl ?_
  obtain ⟨hg17, hF18⟩ := ae_gdI hF
  refine ae_iald (q := (36, 0)) dX12_lays_5 rfl rfl (ae_ibI hg17) ?_
  obtain ⟨r19, s20, hc21, hF22⟩ := ae_bdI hF18
  refine ae_cS1 (As := [ae_i (s0.1 36 0 v1.toNatClampNeg)]) dX12_lays_6 ww_1590 vy_X12_bytesOf rfl rfl (Nat.le_of_ble_eq_true rfl) (c_X12_bytesOf d hc21) ?_
  refine ae_istore (lv' := [(5, ae_i r19), (0, ae_r (some (30, 0))), (1, ae_i v1), (2, ae_i v2), (3, ae_l v3)]) dX12_lays_9 (by decide) rfl ?_
  refine ae_iconst (0 : Int32) dX12_lays_11 (by decide) ?_
  refine ae_istore (lv' := [(6, ae_i (0 : Int32)), (5, ae_i r19), (0, ae_r (some (30, 0))), (1, ae_i v1), (2, ae_i v2), (3, ae_l v3)]) dX12_lays_12 (by decide) rfl ?_
  refine ae_pick (lv' := [(0, ae_r (some (30, 0))), (1, ae_i v1), (2, ae_i v2), (3, ae_l v3), (5, ae_i r19), (6, ae_i (0 : Int32))]) [2, 3, 4, 5, 1, 0] rfl ?_
  exact t_X12_lays_14 d ae_fu v1 v2 v3 r19 (0 : Int32) s20 hF22
abbrev mX12_bitsOf : ae_M := (RX12, cX12_bitsOf, 7, some .long)
theorem vy_X12_bitsOf : ae_VY yX12_bitsOf mX12_bitsOf 2 := ⟨ww_1654, wq_79, ww_13, ww_1655, ⟨by decide, by decide, by decide +kernel⟩, by decide⟩
theorem dX12_bitsOf_0 : decode cX12_bitsOf 0 = .ok (.aload_n 0, 1) := by decide +kernel
theorem dX12_bitsOf_1 : decode cX12_bitsOf 1 = .ok (.getfield 29, 3) := by decide +kernel
theorem dX12_bitsOf_4 : decode cX12_bitsOf 4 = .ok (.iload_n 1, 1) := by decide +kernel
theorem dX12_bitsOf_5 : decode cX12_bitsOf 5 = .ok (.iaload, 1) := by decide +kernel
theorem dX12_bitsOf_6 : decode cX12_bitsOf 6 = .ok (.invokestatic 267, 3) := by decide +kernel
theorem dX12_bitsOf_9 : decode cX12_bitsOf 9 = .ok (.istore_n 3, 1) := by decide +kernel
theorem dX12_bitsOf_10 : decode cX12_bitsOf 10 = .ok (.lconst 0, 1) := by decide +kernel
theorem dX12_bitsOf_11 : decode cX12_bitsOf 11 = .ok (.lstore 4, 2) := by decide +kernel
theorem dX12_bitsOf_13 : decode cX12_bitsOf 13 = .ok (.iconst 0, 1) := by decide +kernel
theorem dX12_bitsOf_14 : decode cX12_bitsOf 14 = .ok (.istore 6, 2) := by decide +kernel
theorem dX12_bitsOf_16 : decode cX12_bitsOf 16 = .ok (.iload 6, 2) := by decide +kernel
theorem dX12_bitsOf_18 : decode cX12_bitsOf 18 = .ok (.iload_n 3, 1) := by decide +kernel
theorem dX12_bitsOf_19 : decode cX12_bitsOf 19 = .ok (.if_icmp .ge 60, 3) := by decide +kernel
theorem dX12_bitsOf_22 : decode cX12_bitsOf 22 = .ok (.lload 4, 2) := by decide +kernel
theorem dX12_bitsOf_24 : decode cX12_bitsOf 24 = .ok (.bipush 8, 2) := by decide +kernel
theorem dX12_bitsOf_26 : decode cX12_bitsOf 26 = .ok (.lshl, 1) := by decide +kernel
theorem dX12_bitsOf_27 : decode cX12_bitsOf 27 = .ok (.aload_n 0, 1) := by decide +kernel
theorem dX12_bitsOf_28 : decode cX12_bitsOf 28 = .ok (.getfield 9, 3) := by decide +kernel
theorem dX12_bitsOf_31 : decode cX12_bitsOf 31 = .ok (.aload_n 0, 1) := by decide +kernel
theorem dX12_bitsOf_32 : decode cX12_bitsOf 32 = .ok (.getfield 35, 3) := by decide +kernel
theorem dX12_bitsOf_35 : decode cX12_bitsOf 35 = .ok (.iload_n 1, 1) := by decide +kernel
theorem dX12_bitsOf_36 : decode cX12_bitsOf 36 = .ok (.iaload, 1) := by decide +kernel
theorem dX12_bitsOf_37 : decode cX12_bitsOf 37 = .ok (.aload_n 0, 1) := by decide +kernel
theorem dX12_bitsOf_38 : decode cX12_bitsOf 38 = .ok (.getfield 41, 3) := by decide +kernel
theorem dX12_bitsOf_41 : decode cX12_bitsOf 41 = .ok (.iload_n 1, 1) := by decide +kernel
theorem dX12_bitsOf_42 : decode cX12_bitsOf 42 = .ok (.iaload, 1) := by decide +kernel
theorem dX12_bitsOf_43 : decode cX12_bitsOf 43 = .ok (.iload_n 2, 1) := by decide +kernel
theorem dX12_bitsOf_44 : decode cX12_bitsOf 44 = .ok (.imul, 1) := by decide +kernel
theorem dX12_bitsOf_45 : decode cX12_bitsOf 45 = .ok (.iadd, 1) := by decide +kernel
theorem dX12_bitsOf_46 : decode cX12_bitsOf 46 = .ok (.aload_n 0, 1) := by decide +kernel
theorem dX12_bitsOf_47 : decode cX12_bitsOf 47 = .ok (.getfield 32, 3) := by decide +kernel
theorem dX12_bitsOf_50 : decode cX12_bitsOf 50 = .ok (.iload_n 1, 1) := by decide +kernel
theorem dX12_bitsOf_51 : decode cX12_bitsOf 51 = .ok (.iaload, 1) := by decide +kernel
theorem dX12_bitsOf_52 : decode cX12_bitsOf 52 = .ok (.iconst 1, 1) := by decide +kernel
theorem dX12_bitsOf_53 : decode cX12_bitsOf 53 = .ok (.if_icmp .ne 8, 3) := by decide +kernel
theorem dX12_bitsOf_56 : decode cX12_bitsOf 56 = .ok (.iload 6, 2) := by decide +kernel
theorem dX12_bitsOf_58 : decode cX12_bitsOf 58 = .ok (.goto 9, 3) := by decide +kernel
theorem dX12_bitsOf_61 : decode cX12_bitsOf 61 = .ok (.iload_n 3, 1) := by decide +kernel
theorem dX12_bitsOf_62 : decode cX12_bitsOf 62 = .ok (.iconst 1, 1) := by decide +kernel
theorem dX12_bitsOf_63 : decode cX12_bitsOf 63 = .ok (.isub, 1) := by decide +kernel
theorem dX12_bitsOf_64 : decode cX12_bitsOf 64 = .ok (.iload 6, 2) := by decide +kernel
theorem dX12_bitsOf_66 : decode cX12_bitsOf 66 = .ok (.isub, 1) := by decide +kernel
theorem dX12_bitsOf_67 : decode cX12_bitsOf 67 = .ok (.iadd, 1) := by decide +kernel
theorem dX12_bitsOf_68 : decode cX12_bitsOf 68 = .ok (.iaload, 1) := by decide +kernel
theorem dX12_bitsOf_69 : decode cX12_bitsOf 69 = .ok (.i2l, 1) := by decide +kernel
theorem dX12_bitsOf_70 : decode cX12_bitsOf 70 = .ok (.lor, 1) := by decide +kernel
theorem dX12_bitsOf_71 : decode cX12_bitsOf 71 = .ok (.lstore 4, 2) := by decide +kernel
theorem dX12_bitsOf_73 : decode cX12_bitsOf 73 = .ok (.iinc 6 1, 3) := by decide +kernel
theorem dX12_bitsOf_76 : decode cX12_bitsOf 76 = .ok (.goto (-60), 3) := by decide +kernel
theorem dX12_bitsOf_79 : decode cX12_bitsOf 79 = .ok (.lload 4, 2) := by decide +kernel
theorem dX12_bitsOf_81 : decode cX12_bitsOf 81 = .ok (.lreturn, 1) := by decide +kernel
def F_X12_bitsOf_67 (k16 : Int32 → Int32 → Int32 → Int64 → Int32 → ae_S → Option (Int64 × ae_S)) (v1 : Int32) (v2 : Int32) (v3 : Int32) (v6 : Int32) (t0 : Int32) (t1 : Int32) (t3 : Int64) (s0 : ae_S) : Option (Int64 × ae_S) := ae_gd (ae_ib (t1 + t0) 256) (ae_lt (t3 ||| ((s0.1 31 0 (t1 + t0).toNatClampNeg).toInt64)) (fun x3 => ae_lt (v6 + (1 : Int32)) (fun x5 => k16 v1 v2 v3 x3 x5 s0)))
set_option maxHeartbeats 4000000 in
set_option maxRecDepth 100000 in
theorem t_X12_bitsOf_67 {l : Launch} {G : ae_G} (d : Nat) (k16 : Int32 → Int32 → Int32 → Int64 → Int32 → ae_S → Option (Int64 × ae_S)) {rr : Int64} {ss : ae_S} (hk16 : ∀ (v1 : Int32) (v2 : Int32) (v3 : Int32) (v4 : Int64) (v6 : Int32) (s0 : ae_S), k16 v1 v2 v3 v4 v6 s0 = some (rr, ss) → ae_T l G (d + 1) mX12_bitsOf (ae_Po (some (ae_l rr)) ss) 16 [(0, ae_r (some (30, 0))), (1, ae_i v1), (2, ae_i v2), (3, ae_i v3), (4, ae_l v4), (6, ae_i v6)] [] s0) (v1 : Int32) (v2 : Int32) (v3 : Int32) (v6 : Int32) (t0 : Int32) (t1 : Int32) (t3 : Int64) (s0 : ae_S) (hF : F_X12_bitsOf_67 k16 v1 v2 v3 v6 t0 t1 t3 s0 = some (rr, ss)) : ae_T l G (d + 1) mX12_bitsOf (ae_Po (some (ae_l rr)) ss) 67 [(0, ae_r (some (30, 0))), (1, ae_i v1), (2, ae_i v2), (3, ae_i v3), (6, ae_i v6)] [ae_i t0, ae_i t1, ae_r (some (31, 0)), ae_l t3] s0 := by
  unfold F_X12_bitsOf_67 at hF
  refine ae_iadd dX12_bitsOf_67 ?_
  obtain ⟨hg1, hF2⟩ := ae_gdI hF
  refine ae_iald (q := (31, 0)) dX12_bitsOf_68 rfl rfl (ae_ibI hg1) ?_
  refine ae_i2l dX12_bitsOf_69 ?_
  refine ae_lor dX12_bitsOf_70 ?_
  obtain ⟨x3, hx3, hF4⟩ := ae_ltI hF2
  refine ae_nmL hx3 ?_
  refine ae_lstore (lv' := [(4, ae_l x3), (0, ae_r (some (30, 0))), (1, ae_i v1), (2, ae_i v2), (3, ae_i v3), (6, ae_i v6)]) dX12_bitsOf_71 (by decide) rfl ?_
  obtain ⟨x5, hx5, hF6⟩ := ae_ltI hF4
  refine ae_iinc (lv' := [(6, ae_i x5), (4, ae_l x3), (0, ae_r (some (30, 0))), (1, ae_i v1), (2, ae_i v2), (3, ae_i v3)]) 5 (1 : Int32) dX12_bitsOf_73 rfl (by decide) (by decide) (by rw [hx5]; rfl) ?_
  refine ae_goto 16 dX12_bitsOf_76 rfl ?_
  refine ae_pick (lv' := [(0, ae_r (some (30, 0))), (1, ae_i v1), (2, ae_i v2), (3, ae_i v3), (4, ae_l x3), (6, ae_i x5)]) [2, 3, 4, 5, 1, 0] rfl ?_
  exact hk16 v1 v2 v3 x3 x5 s0 hF6
def F_X12_bitsOf_16 : Nat → Int32 → Int32 → Int32 → Int64 → Int32 → ae_S → Option (Int64 × ae_S)
  | 0, _, _, _, _, _, _ => none
  | n + 1, v1, v2, v3, v4, v6, s0 => if v3 ≤ v6 then (some (v4, s0)) else (ae_gd (ae_ib v1 32) (ae_gd (ae_ib v1 32) (ae_gd (ae_ib v1 32) (if (s0.1 37 0 v1.toNatClampNeg) = (1 : Int32) then (F_X12_bitsOf_67 (F_X12_bitsOf_16 n) v1 v2 v3 v6 v6 ((s0.1 38 0 v1.toNatClampNeg) + ((s0.1 40 0 v1.toNatClampNeg) * v2)) (v4 <<< ((8 : Int32).toInt64 &&& 63)) s0) else (F_X12_bitsOf_67 (F_X12_bitsOf_16 n) v1 v2 v3 v6 ((v3 - (1 : Int32)) - v6) ((s0.1 38 0 v1.toNatClampNeg) + ((s0.1 40 0 v1.toNatClampNeg) * v2)) (v4 <<< ((8 : Int32).toInt64 &&& 63)) s0)))))
set_option maxHeartbeats 4000000 in
set_option maxRecDepth 100000 in
theorem t_X12_bitsOf_16 {l : Launch} {G : ae_G} (d : Nat) {rr : Int64} {ss : ae_S} : ∀ (n : Nat) (v1 : Int32) (v2 : Int32) (v3 : Int32) (v4 : Int64) (v6 : Int32) (s0 : ae_S), F_X12_bitsOf_16 n v1 v2 v3 v4 v6 s0 = some (rr, ss) → ae_T l G (d + 1) mX12_bitsOf (ae_Po (some (ae_l rr)) ss) 16 [(0, ae_r (some (30, 0))), (1, ae_i v1), (2, ae_i v2), (3, ae_i v3), (4, ae_l v4), (6, ae_i v6)] [] s0 := by
  intro n
  induction n with
  | zero =>
    intro v1 v2 v3 v4 v6 s0 hF
    exact absurd (show (none : Option (Int64 × ae_S)) = some (rr, ss) from hF) (by simp)
  | succ n ih =>
    intro v1 v2 v3 v4 v6 s0 hF
    unfold F_X12_bitsOf_16 at hF
    refine ae_iload 5 dX12_bitsOf_16 rfl ?_
    refine ae_iload_n 3 dX12_bitsOf_18 rfl ?_
    refine ae_icmp_ge 79 dX12_bitsOf_19 rfl (fun hb7 => ?_) (fun hb7 => ?_)
    · have hF8 := ae_ifT hb7 hF
      refine ae_lload 4 dX12_bitsOf_79 rfl ?_
      obtain ⟨rfl, rfl⟩ := ae_retI hF8
      exact ae_lret dX12_bitsOf_81 rfl ⟨rfl, rfl⟩
    · have hF8 := ae_ifF hb7 hF
      refine ae_lload 4 dX12_bitsOf_22 rfl ?_
      refine ae_bipush (8 : Int32) dX12_bitsOf_24 (by decide) ?_
      refine ae_lshl dX12_bitsOf_26 ?_
      refine ae_aload_n 0 dX12_bitsOf_27 rfl ?_
      refine ae_getA (q := (30, 0)) (some (31, 0)) dX12_bitsOf_28 fl_RX12_9 rfl rfl rfl ?_
      refine ae_aload_n 0 dX12_bitsOf_31 rfl ?_
      refine ae_getA (q := (30, 0)) (some (38, 0)) dX12_bitsOf_32 fl_RX12_35 rfl rfl rfl ?_
      refine ae_iload_n 1 dX12_bitsOf_35 rfl ?_
      obtain ⟨hg9, hF10⟩ := ae_gdI hF8
      refine ae_iald (q := (38, 0)) dX12_bitsOf_36 rfl rfl (ae_ibI hg9) ?_
      refine ae_aload_n 0 dX12_bitsOf_37 rfl ?_
      refine ae_getA (q := (30, 0)) (some (40, 0)) dX12_bitsOf_38 fl_RX12_41 rfl rfl rfl ?_
      refine ae_iload_n 1 dX12_bitsOf_41 rfl ?_
      obtain ⟨hg11, hF12⟩ := ae_gdI hF10
      refine ae_iald (q := (40, 0)) dX12_bitsOf_42 rfl rfl (ae_ibI hg11) ?_
      refine ae_iload_n 2 dX12_bitsOf_43 rfl ?_
      refine ae_imul dX12_bitsOf_44 ?_
      refine ae_iadd dX12_bitsOf_45 ?_
      refine ae_aload_n 0 dX12_bitsOf_46 rfl ?_
      refine ae_getA (q := (30, 0)) (some (37, 0)) dX12_bitsOf_47 fl_RX12_32 rfl rfl rfl ?_
      refine ae_iload_n 1 dX12_bitsOf_50 rfl ?_
      obtain ⟨hg13, hF14⟩ := ae_gdI hF12
      refine ae_iald (q := (37, 0)) dX12_bitsOf_51 rfl rfl (ae_ibI hg13) ?_
      refine ae_iconst (1 : Int32) dX12_bitsOf_52 (by decide) ?_
      refine ae_icmp_ne 61 dX12_bitsOf_53 rfl (fun hb15 => ?_) (fun hb15 => ?_)
      · have hF16 := ae_ifF hb15 hF14
        refine ae_iload_n 3 dX12_bitsOf_61 rfl ?_
        refine ae_iconst (1 : Int32) dX12_bitsOf_62 (by decide) ?_
        refine ae_isub dX12_bitsOf_63 ?_
        refine ae_iload 5 dX12_bitsOf_64 rfl ?_
        refine ae_isub dX12_bitsOf_66 ?_
        refine ae_pick (lv' := [(0, ae_r (some (30, 0))), (1, ae_i v1), (2, ae_i v2), (3, ae_i v3), (6, ae_i v6)]) [0, 1, 2, 3, 5] rfl ?_
        exact t_X12_bitsOf_67 d (F_X12_bitsOf_16 n) ih v1 v2 v3 v6 ((v3 - (1 : Int32)) - v6) ((s0.1 38 0 v1.toNatClampNeg) + ((s0.1 40 0 v1.toNatClampNeg) * v2)) (v4 <<< ((8 : Int32).toInt64 &&& 63)) s0 hF16
      · have hF16 := ae_ifT hb15 hF14
        refine ae_iload 5 dX12_bitsOf_56 rfl ?_
        refine ae_goto 67 dX12_bitsOf_58 rfl ?_
        refine ae_pick (lv' := [(0, ae_r (some (30, 0))), (1, ae_i v1), (2, ae_i v2), (3, ae_i v3), (6, ae_i v6)]) [0, 1, 2, 3, 5] rfl ?_
        exact t_X12_bitsOf_67 d (F_X12_bitsOf_16 n) ih v1 v2 v3 v6 v6 ((s0.1 38 0 v1.toNatClampNeg) + ((s0.1 40 0 v1.toNatClampNeg) * v2)) (v4 <<< ((8 : Int32).toInt64 &&& 63)) s0 hF16
def F_X12_bitsOf (v1 : Int32) (v2 : Int32) (s0 : ae_S) : Option (Int64 × ae_S) := ae_gd (ae_ib v1 32) (ae_bd (F_X12_bytesOf (s0.1 36 0 v1.toNatClampNeg) s0) (fun (r19 : Int32) s20 => F_X12_bitsOf_16 ae_fu v1 v2 r19 (0 : Int64) (0 : Int32) s20))
set_option maxHeartbeats 4000000 in
set_option maxRecDepth 100000 in
theorem c_X12_bitsOf {l : Launch} {G : ae_G} (d : Nat) {v1 : Int32} {v2 : Int32} {s0 ss : ae_S} {rr : Int64} (hF : F_X12_bitsOf v1 v2 s0 = some (rr, ss)) : ae_Met l G (d + 1) yX12_bitsOf mX12_bitsOf [ae_r (some (30, 0)), ae_i v1, ae_i v2] s0 (ae_Po (some (ae_l rr)) ss) := by
  refine ae_enter (by decide) rfl (Nat.le_of_ble_eq_true rfl) ?_
  show ae_T l G (d + 1) mX12_bitsOf (ae_Po (some (ae_l rr)) ss) 0 [(0, ae_r (some (30, 0))), (1, ae_i v1), (2, ae_i v2)] [] s0
  unfold F_X12_bitsOf at hF
  refine ae_aload_n 0 dX12_bitsOf_0 rfl ?_
  refine ae_getA (q := (30, 0)) (some (36, 0)) dX12_bitsOf_1 fl_RX12_29 rfl rfl rfl ?_
  refine ae_iload_n 1 dX12_bitsOf_4 rfl ?_
  obtain ⟨hg17, hF18⟩ := ae_gdI hF
  refine ae_iald (q := (36, 0)) dX12_bitsOf_5 rfl rfl (ae_ibI hg17) ?_
  obtain ⟨r19, s20, hc21, hF22⟩ := ae_bdI hF18
  refine ae_cS1 (As := [ae_i (s0.1 36 0 v1.toNatClampNeg)]) dX12_bitsOf_6 ww_1590 vy_X12_bytesOf rfl rfl (Nat.le_of_ble_eq_true rfl) (c_X12_bytesOf d hc21) ?_
  refine ae_istore_n (lv' := [(3, ae_i r19), (0, ae_r (some (30, 0))), (1, ae_i v1), (2, ae_i v2)]) dX12_bitsOf_9 (by decide) rfl ?_
  refine ae_lconst (0 : Int64) dX12_bitsOf_10 (by decide) ?_
  refine ae_lstore (lv' := [(4, ae_l (0 : Int64)), (3, ae_i r19), (0, ae_r (some (30, 0))), (1, ae_i v1), (2, ae_i v2)]) dX12_bitsOf_11 (by decide) rfl ?_
  refine ae_iconst (0 : Int32) dX12_bitsOf_13 (by decide) ?_
  refine ae_istore (lv' := [(6, ae_i (0 : Int32)), (4, ae_l (0 : Int64)), (3, ae_i r19), (0, ae_r (some (30, 0))), (1, ae_i v1), (2, ae_i v2)]) dX12_bitsOf_14 (by decide) rfl ?_
  refine ae_pick (lv' := [(0, ae_r (some (30, 0))), (1, ae_i v1), (2, ae_i v2), (3, ae_i r19), (4, ae_l (0 : Int64)), (6, ae_i (0 : Int32))]) [3, 4, 5, 2, 1, 0] rfl ?_
  exact t_X12_bitsOf_16 d ae_fu v1 v2 r19 (0 : Int64) (0 : Int32) s20 hF22
abbrev mX12_floatOf : ae_M := (RX12, cX12_floatOf, 5, some .double)
theorem vy_X12_floatOf : ae_VY yX12_floatOf mX12_floatOf 2 := ⟨ww_1658, wq_80, ww_13, ww_1659, ⟨by decide, by decide, by decide +kernel⟩, by decide⟩
theorem dX12_floatOf_0 : decode cX12_floatOf 0 = .ok (.aload_n 0, 1) := by decide +kernel
theorem dX12_floatOf_1 : decode cX12_floatOf 1 = .ok (.iload_n 1, 1) := by decide +kernel
theorem dX12_floatOf_2 : decode cX12_floatOf 2 = .ok (.iload_n 2, 1) := by decide +kernel
theorem dX12_floatOf_3 : decode cX12_floatOf 3 = .ok (.invokevirtual 300, 3) := by decide +kernel
theorem dX12_floatOf_6 : decode cX12_floatOf 6 = .ok (.lstore_n 3, 1) := by decide +kernel
theorem dX12_floatOf_7 : decode cX12_floatOf 7 = .ok (.aload_n 0, 1) := by decide +kernel
theorem dX12_floatOf_8 : decode cX12_floatOf 8 = .ok (.getfield 29, 3) := by decide +kernel
theorem dX12_floatOf_11 : decode cX12_floatOf 11 = .ok (.iload_n 1, 1) := by decide +kernel
theorem dX12_floatOf_12 : decode cX12_floatOf 12 = .ok (.iaload, 1) := by decide +kernel
theorem dX12_floatOf_13 : decode cX12_floatOf 13 = .ok (.bipush 7, 2) := by decide +kernel
theorem dX12_floatOf_15 : decode cX12_floatOf 15 = .ok (.if_icmp .ne 12, 3) := by decide +kernel
theorem dX12_floatOf_18 : decode cX12_floatOf 18 = .ok (.lload_n 3, 1) := by decide +kernel
theorem dX12_floatOf_19 : decode cX12_floatOf 19 = .ok (.l2i, 1) := by decide +kernel
theorem dX12_floatOf_20 : decode cX12_floatOf 20 = .ok (.invokestatic 304, 3) := by decide +kernel
theorem dX12_floatOf_23 : decode cX12_floatOf 23 = .ok (.f2d, 1) := by decide +kernel
theorem dX12_floatOf_24 : decode cX12_floatOf 24 = .ok (.goto 7, 3) := by decide +kernel
theorem dX12_floatOf_27 : decode cX12_floatOf 27 = .ok (.lload_n 3, 1) := by decide +kernel
theorem dX12_floatOf_28 : decode cX12_floatOf 28 = .ok (.invokestatic 310, 3) := by decide +kernel
theorem dX12_floatOf_31 : decode cX12_floatOf 31 = .ok (.dreturn, 1) := by decide +kernel
def F_X12_floatOf_31 (t0 : UInt64) (s0 : ae_S) : Option (UInt64 × ae_S) := some (t0, s0)
set_option maxHeartbeats 4000000 in
set_option maxRecDepth 100000 in
theorem t_X12_floatOf_31 {l : Launch} {G : ae_G} (d : Nat) {rr : UInt64} {ss : ae_S} (t0 : UInt64) (s0 : ae_S) (hF : F_X12_floatOf_31 t0 s0 = some (rr, ss)) : ae_T l G (d + 2) mX12_floatOf (ae_Po (some (ae_d rr)) ss) 31 [] [ae_d t0] s0 := by
  unfold F_X12_floatOf_31 at hF
  obtain ⟨rfl, rfl⟩ := ae_retI hF
  exact ae_dret dX12_floatOf_31 rfl ⟨rfl, rfl⟩
def F_X12_floatOf (v1 : Int32) (v2 : Int32) (s0 : ae_S) : Option (UInt64 × ae_S) := ae_bd (F_X12_bitsOf v1 v2 s0) (fun (r1 : Int64) s2 => ae_gd (ae_ib v1 32) (if (s2.1 36 0 v1.toNatClampNeg) = (7 : Int32) then (F_X12_floatOf_31 (FP.f2d r1.toInt32.toUInt32) s2) else (F_X12_floatOf_31 r1.toUInt64 s2)))
set_option maxHeartbeats 4000000 in
set_option maxRecDepth 100000 in
theorem c_X12_floatOf {l : Launch} {G : ae_G} (d : Nat) {v1 : Int32} {v2 : Int32} {s0 ss : ae_S} {rr : UInt64} (hF : F_X12_floatOf v1 v2 s0 = some (rr, ss)) : ae_Met l G (d + 2) yX12_floatOf mX12_floatOf [ae_r (some (30, 0)), ae_i v1, ae_i v2] s0 (ae_Po (some (ae_d rr)) ss) := by
  refine ae_enter (by decide) rfl (Nat.le_of_ble_eq_true rfl) ?_
  show ae_T l G (d + 2) mX12_floatOf (ae_Po (some (ae_d rr)) ss) 0 [(0, ae_r (some (30, 0))), (1, ae_i v1), (2, ae_i v2)] [] s0
  unfold F_X12_floatOf at hF
  refine ae_aload_n 0 dX12_floatOf_0 rfl ?_
  refine ae_iload_n 1 dX12_floatOf_1 rfl ?_
  refine ae_iload_n 2 dX12_floatOf_2 rfl ?_
  obtain ⟨r1, s2, hc3, hF4⟩ := ae_bdI hF
  refine ae_cV1 (q := (30, 0)) (As := [ae_i v1, ae_i v2]) dX12_floatOf_3 ww_1652 vy_X12_bitsOf rfl rfl rfl rfl rfl (Nat.le_of_ble_eq_true rfl) (c_X12_bitsOf d hc3) ?_
  refine ae_lstore_n (lv' := [(3, ae_l r1), (0, ae_r (some (30, 0))), (1, ae_i v1), (2, ae_i v2)]) dX12_floatOf_6 (by decide) rfl ?_
  refine ae_aload_n 1 dX12_floatOf_7 rfl ?_
  refine ae_getA (q := (30, 0)) (some (36, 0)) dX12_floatOf_8 fl_RX12_29 rfl rfl rfl ?_
  refine ae_iload_n 2 dX12_floatOf_11 rfl ?_
  obtain ⟨hg5, hF6⟩ := ae_gdI hF4
  refine ae_iald (q := (36, 0)) dX12_floatOf_12 rfl rfl (ae_ibI hg5) ?_
  refine ae_bipush (7 : Int32) dX12_floatOf_13 (by decide) ?_
  refine ae_icmp_ne 27 dX12_floatOf_15 rfl (fun hb7 => ?_) (fun hb7 => ?_)
  · have hF8 := ae_ifF hb7 hF6
    refine ae_lload_n 0 dX12_floatOf_27 rfl ?_
    refine ae_lbd dX12_floatOf_28 ww_1663 ww_1665 ww_1664 ww_24 (Nat.le_of_ble_eq_true rfl) ?_
    refine ae_pick (lv' := []) [] rfl ?_
    exact t_X12_floatOf_31 d r1.toUInt64 s2 hF8
  · have hF8 := ae_ifT hb7 hF6
    refine ae_lload_n 0 dX12_floatOf_18 rfl ?_
    refine ae_l2i dX12_floatOf_19 ?_
    refine ae_ibf dX12_floatOf_20 ww_1660 ww_1662 ww_1661 ww_23 (Nat.le_of_ble_eq_true rfl) ?_
    refine ae_f2d dX12_floatOf_23 ?_
    refine ae_goto 31 dX12_floatOf_24 rfl ?_
    refine ae_pick (lv' := []) [] rfl ?_
    exact t_X12_floatOf_31 d (FP.f2d r1.toInt32.toUInt32) s2 hF8
abbrev mX12_isFloating : ae_M := (RX12, cX12_isFloating, 2, some .boolean)
theorem vy_X12_isFloating : ae_VY yX12_isFloating mX12_isFloating 1 := ⟨ww_1646, wq_77, ww_13, ww_1647, ⟨by decide, by decide, by decide +kernel⟩, by decide⟩
theorem dX12_isFloating_0 : decode cX12_isFloating 0 = .ok (.aload_n 0, 1) := by decide +kernel
theorem dX12_isFloating_1 : decode cX12_isFloating 1 = .ok (.getfield 29, 3) := by decide +kernel
theorem dX12_isFloating_4 : decode cX12_isFloating 4 = .ok (.iload_n 1, 1) := by decide +kernel
theorem dX12_isFloating_5 : decode cX12_isFloating 5 = .ok (.iaload, 1) := by decide +kernel
theorem dX12_isFloating_6 : decode cX12_isFloating 6 = .ok (.bipush 7, 2) := by decide +kernel
theorem dX12_isFloating_8 : decode cX12_isFloating 8 = .ok (.if_icmp .lt 7, 3) := by decide +kernel
theorem dX12_isFloating_11 : decode cX12_isFloating 11 = .ok (.iconst 1, 1) := by decide +kernel
theorem dX12_isFloating_12 : decode cX12_isFloating 12 = .ok (.goto 4, 3) := by decide +kernel
theorem dX12_isFloating_15 : decode cX12_isFloating 15 = .ok (.iconst 0, 1) := by decide +kernel
theorem dX12_isFloating_16 : decode cX12_isFloating 16 = .ok (.ireturn, 1) := by decide +kernel
def F_X12_isFloating_16 (t0 : Int32) (s0 : ae_S) : Option (Int32 × ae_S) := ae_gd (ae_zz t0) (some (t0, s0))
set_option maxHeartbeats 4000000 in
set_option maxRecDepth 100000 in
theorem t_X12_isFloating_16 {l : Launch} {G : ae_G} (d : Nat) {rr : Int32} {ss : ae_S} (t0 : Int32) (s0 : ae_S) (hF : F_X12_isFloating_16 t0 s0 = some (rr, ss)) : ae_T l G d mX12_isFloating (ae_Po (some (ae_i rr)) ss) 16 [] [ae_i t0] s0 := by
  unfold F_X12_isFloating_16 at hF
  obtain ⟨hg1, hF2⟩ := ae_gdI hF
  obtain ⟨rfl, rfl⟩ := ae_retI hF2
  exact ae_iret dX12_isFloating_16 rfl (ae_zzN (ae_zzI hg1)) ⟨rfl, rfl⟩
def F_X12_isFloating (v1 : Int32) (s0 : ae_S) : Option (Int32 × ae_S) := ae_gd (ae_ib v1 32) (if (s0.1 36 0 v1.toNatClampNeg) < (7 : Int32) then (F_X12_isFloating_16 (0 : Int32) s0) else (F_X12_isFloating_16 (1 : Int32) s0))
set_option maxHeartbeats 4000000 in
set_option maxRecDepth 100000 in
theorem c_X12_isFloating {l : Launch} {G : ae_G} (d : Nat) {v1 : Int32} {s0 ss : ae_S} {rr : Int32} (hF : F_X12_isFloating v1 s0 = some (rr, ss)) : ae_Met l G d yX12_isFloating mX12_isFloating [ae_r (some (30, 0)), ae_i v1] s0 (ae_Po (some (ae_i rr)) ss) := by
  refine ae_enter (by decide) rfl (Nat.le_of_ble_eq_true rfl) ?_
  show ae_T l G d mX12_isFloating (ae_Po (some (ae_i rr)) ss) 0 [(0, ae_r (some (30, 0))), (1, ae_i v1)] [] s0
  unfold F_X12_isFloating at hF
  refine ae_aload_n 0 dX12_isFloating_0 rfl ?_
  refine ae_getA (q := (30, 0)) (some (36, 0)) dX12_isFloating_1 fl_RX12_29 rfl rfl rfl ?_
  refine ae_iload_n 1 dX12_isFloating_4 rfl ?_
  obtain ⟨hg3, hF4⟩ := ae_gdI hF
  refine ae_iald (q := (36, 0)) dX12_isFloating_5 rfl rfl (ae_ibI hg3) ?_
  refine ae_bipush (7 : Int32) dX12_isFloating_6 (by decide) ?_
  refine ae_icmp_lt 15 dX12_isFloating_8 rfl (fun hb5 => ?_) (fun hb5 => ?_)
  · have hF6 := ae_ifT hb5 hF4
    refine ae_iconst (0 : Int32) dX12_isFloating_15 (by decide) ?_
    refine ae_pick (lv' := []) [] rfl ?_
    exact t_X12_isFloating_16 d (0 : Int32) s0 hF6
  · have hF6 := ae_ifF hb5 hF4
    refine ae_iconst (1 : Int32) dX12_isFloating_11 (by decide) ?_
    refine ae_goto 16 dX12_isFloating_12 rfl ?_
    refine ae_pick (lv' := []) [] rfl ?_
    exact t_X12_isFloating_16 d (1 : Int32) s0 hF6
abbrev mX12_wholeOf : ae_M := (RX12, cX12_wholeOf, 5, some .long)
theorem vy_X12_wholeOf : ae_VY yX12_wholeOf mX12_wholeOf 2 := ⟨ww_1650, wq_78, ww_13, ww_1651, ⟨by decide, by decide, by decide +kernel⟩, by decide⟩
theorem dX12_wholeOf_0 : decode cX12_wholeOf 0 = .ok (.aload_n 0, 1) := by decide +kernel
theorem dX12_wholeOf_1 : decode cX12_wholeOf 1 = .ok (.iload_n 1, 1) := by decide +kernel
theorem dX12_wholeOf_2 : decode cX12_wholeOf 2 = .ok (.iload_n 2, 1) := by decide +kernel
theorem dX12_wholeOf_3 : decode cX12_wholeOf 3 = .ok (.invokevirtual 300, 3) := by decide +kernel
theorem dX12_wholeOf_6 : decode cX12_wholeOf 6 = .ok (.lstore_n 3, 1) := by decide +kernel
theorem dX12_wholeOf_7 : decode cX12_wholeOf 7 = .ok (.aload_n 0, 1) := by decide +kernel
theorem dX12_wholeOf_8 : decode cX12_wholeOf 8 = .ok (.getfield 29, 3) := by decide +kernel
theorem dX12_wholeOf_11 : decode cX12_wholeOf 11 = .ok (.iload_n 1, 1) := by decide +kernel
theorem dX12_wholeOf_12 : decode cX12_wholeOf 12 = .ok (.iaload, 1) := by decide +kernel
theorem dX12_wholeOf_13 : decode cX12_wholeOf 13 = .ok (.tableswitch 49 1 5 #[35, 49, 40, 49, 45], 35) := by decide +kernel
theorem dX12_wholeOf_48 : decode cX12_wholeOf 48 = .ok (.lload_n 3, 1) := by decide +kernel
theorem dX12_wholeOf_49 : decode cX12_wholeOf 49 = .ok (.l2i, 1) := by decide +kernel
theorem dX12_wholeOf_50 : decode cX12_wholeOf 50 = .ok (.i2b, 1) := by decide +kernel
theorem dX12_wholeOf_51 : decode cX12_wholeOf 51 = .ok (.i2l, 1) := by decide +kernel
theorem dX12_wholeOf_52 : decode cX12_wholeOf 52 = .ok (.lreturn, 1) := by decide +kernel
theorem dX12_wholeOf_53 : decode cX12_wholeOf 53 = .ok (.lload_n 3, 1) := by decide +kernel
theorem dX12_wholeOf_54 : decode cX12_wholeOf 54 = .ok (.l2i, 1) := by decide +kernel
theorem dX12_wholeOf_55 : decode cX12_wholeOf 55 = .ok (.i2s, 1) := by decide +kernel
theorem dX12_wholeOf_56 : decode cX12_wholeOf 56 = .ok (.i2l, 1) := by decide +kernel
theorem dX12_wholeOf_57 : decode cX12_wholeOf 57 = .ok (.lreturn, 1) := by decide +kernel
theorem dX12_wholeOf_58 : decode cX12_wholeOf 58 = .ok (.lload_n 3, 1) := by decide +kernel
theorem dX12_wholeOf_59 : decode cX12_wholeOf 59 = .ok (.l2i, 1) := by decide +kernel
theorem dX12_wholeOf_60 : decode cX12_wholeOf 60 = .ok (.i2l, 1) := by decide +kernel
theorem dX12_wholeOf_61 : decode cX12_wholeOf 61 = .ok (.lreturn, 1) := by decide +kernel
theorem dX12_wholeOf_62 : decode cX12_wholeOf 62 = .ok (.lload_n 3, 1) := by decide +kernel
theorem dX12_wholeOf_63 : decode cX12_wholeOf 63 = .ok (.lreturn, 1) := by decide +kernel
def F_X12_wholeOf (v1 : Int32) (v2 : Int32) (s0 : ae_S) : Option (Int64 × ae_S) := ae_bd (F_X12_bitsOf v1 v2 s0) (fun (r1 : Int64) s2 => ae_gd (ae_ib v1 32) (ae_lt (s2.1 36 0 v1.toNatClampNeg) (fun x7 => if x7 = (1 : Int32) then (some (r1.toInt32.toInt8.toInt32.toInt64, s2)) else (if x7 = (3 : Int32) then (some (r1.toInt32.toInt16.toInt32.toInt64, s2)) else (if x7 = (5 : Int32) then (some (r1.toInt32.toInt64, s2)) else (some (r1, s2)))))))
set_option maxHeartbeats 4000000 in
set_option maxRecDepth 100000 in
theorem c_X12_wholeOf {l : Launch} {G : ae_G} (d : Nat) {v1 : Int32} {v2 : Int32} {s0 ss : ae_S} {rr : Int64} (hF : F_X12_wholeOf v1 v2 s0 = some (rr, ss)) : ae_Met l G (d + 2) yX12_wholeOf mX12_wholeOf [ae_r (some (30, 0)), ae_i v1, ae_i v2] s0 (ae_Po (some (ae_l rr)) ss) := by
  refine ae_enter (by decide) rfl (Nat.le_of_ble_eq_true rfl) ?_
  show ae_T l G (d + 2) mX12_wholeOf (ae_Po (some (ae_l rr)) ss) 0 [(0, ae_r (some (30, 0))), (1, ae_i v1), (2, ae_i v2)] [] s0
  unfold F_X12_wholeOf at hF
  refine ae_aload_n 0 dX12_wholeOf_0 rfl ?_
  refine ae_iload_n 1 dX12_wholeOf_1 rfl ?_
  refine ae_iload_n 2 dX12_wholeOf_2 rfl ?_
  obtain ⟨r1, s2, hc3, hF4⟩ := ae_bdI hF
  refine ae_cV1 (q := (30, 0)) (As := [ae_i v1, ae_i v2]) dX12_wholeOf_3 ww_1652 vy_X12_bitsOf rfl rfl rfl rfl rfl (Nat.le_of_ble_eq_true rfl) (c_X12_bitsOf d hc3) ?_
  refine ae_lstore_n (lv' := [(3, ae_l r1), (0, ae_r (some (30, 0))), (1, ae_i v1), (2, ae_i v2)]) dX12_wholeOf_6 (by decide) rfl ?_
  refine ae_aload_n 1 dX12_wholeOf_7 rfl ?_
  refine ae_getA (q := (30, 0)) (some (36, 0)) dX12_wholeOf_8 fl_RX12_29 rfl rfl rfl ?_
  refine ae_iload_n 2 dX12_wholeOf_11 rfl ?_
  obtain ⟨hg5, hF6⟩ := ae_gdI hF4
  refine ae_iald (q := (36, 0)) dX12_wholeOf_12 rfl rfl (ae_ibI hg5) ?_
  obtain ⟨x7, hx7, hF8⟩ := ae_ltI hF6
  refine ae_nmI hx7 ?_
  by_cases hb9 : x7 = (1 : Int32)
  · have hF10 := ae_ifT hb9 hF8
    refine ae_tabIn 48 dX12_wholeOf_13 (by rw [hb9]; decide) (by rw [hb9]; decide) (by rw [hb9]; rfl) rfl ?_
    refine ae_lload_n 0 dX12_wholeOf_48 rfl ?_
    refine ae_l2i dX12_wholeOf_49 ?_
    refine ae_i2b dX12_wholeOf_50 ?_
    refine ae_i2l dX12_wholeOf_51 ?_
    obtain ⟨rfl, rfl⟩ := ae_retI hF10
    exact ae_lret dX12_wholeOf_52 rfl ⟨rfl, rfl⟩
  · have hF11 := ae_ifF hb9 hF8
    by_cases hb12 : x7 = (3 : Int32)
    · have hF13 := ae_ifT hb12 hF11
      refine ae_tabIn 53 dX12_wholeOf_13 (by rw [hb12]; decide) (by rw [hb12]; decide) (by rw [hb12]; rfl) rfl ?_
      refine ae_lload_n 0 dX12_wholeOf_53 rfl ?_
      refine ae_l2i dX12_wholeOf_54 ?_
      refine ae_i2s dX12_wholeOf_55 ?_
      refine ae_i2l dX12_wholeOf_56 ?_
      obtain ⟨rfl, rfl⟩ := ae_retI hF13
      exact ae_lret dX12_wholeOf_57 rfl ⟨rfl, rfl⟩
    · have hF14 := ae_ifF hb12 hF11
      by_cases hb15 : x7 = (5 : Int32)
      · have hF16 := ae_ifT hb15 hF14
        refine ae_tabIn 58 dX12_wholeOf_13 (by rw [hb15]; decide) (by rw [hb15]; decide) (by rw [hb15]; rfl) rfl ?_
        refine ae_lload_n 0 dX12_wholeOf_58 rfl ?_
        refine ae_l2i dX12_wholeOf_59 ?_
        refine ae_i2l dX12_wholeOf_60 ?_
        obtain ⟨rfl, rfl⟩ := ae_retI hF16
        exact ae_lret dX12_wholeOf_61 rfl ⟨rfl, rfl⟩
      · have hF17 := ae_ifF hb15 hF14
        have hn18 : ¬ (x7).toInt = 1 := lv_neT hb9 (by decide)
        have hn19 : ¬ (x7).toInt = 3 := lv_neT hb12 (by decide)
        have hn20 : ¬ (x7).toInt = 5 := lv_neT hb15 (by decide)
        by_cases hb21 : x7 = (2 : Int32)
        · refine ae_tabIn 62 dX12_wholeOf_13 (by rw [hb21]; decide) (by rw [hb21]; decide) (by rw [hb21]; rfl) rfl ?_
          refine ae_lload_n 0 dX12_wholeOf_62 rfl ?_
          obtain ⟨rfl, rfl⟩ := ae_retI hF17
          exact ae_lret dX12_wholeOf_63 rfl ⟨rfl, rfl⟩
        · have hn22 : ¬ (x7).toInt = 2 := lv_neT hb21 (by decide)
          by_cases hb23 : x7 = (4 : Int32)
          · refine ae_tabIn 62 dX12_wholeOf_13 (by rw [hb23]; decide) (by rw [hb23]; decide) (by rw [hb23]; rfl) rfl ?_
            refine ae_lload_n 0 dX12_wholeOf_62 rfl ?_
            obtain ⟨rfl, rfl⟩ := ae_retI hF17
            exact ae_lret dX12_wholeOf_63 rfl ⟨rfl, rfl⟩
          · have hn24 : ¬ (x7).toInt = 4 := lv_neT hb23 (by decide)
            refine ae_tabOut 62 dX12_wholeOf_13 (by omega) rfl ?_
            refine ae_lload_n 0 dX12_wholeOf_62 rfl ?_
            obtain ⟨rfl, rfl⟩ := ae_retI hF17
            exact ae_lret dX12_wholeOf_63 rfl ⟨rfl, rfl⟩
abbrev mX12_toldOf : ae_M := (RX12, cX12_toldOf, 5, some .long)
theorem vy_X12_toldOf : ae_VY yX12_toldOf mX12_toldOf 2 := ⟨ww_1642, wq_76, ww_13, ww_1643, ⟨by decide, by decide, by decide +kernel⟩, by decide⟩
theorem dX12_toldOf_0 : decode cX12_toldOf 0 = .ok (.aload_n 0, 1) := by decide +kernel
theorem dX12_toldOf_1 : decode cX12_toldOf 1 = .ok (.iload_n 1, 1) := by decide +kernel
theorem dX12_toldOf_2 : decode cX12_toldOf 2 = .ok (.invokevirtual 316, 3) := by decide +kernel
theorem dX12_toldOf_5 : decode cX12_toldOf 5 = .ok (.ifCond .ne 10, 3) := by decide +kernel
theorem dX12_toldOf_8 : decode cX12_toldOf 8 = .ok (.aload_n 0, 1) := by decide +kernel
theorem dX12_toldOf_9 : decode cX12_toldOf 9 = .ok (.iload_n 1, 1) := by decide +kernel
theorem dX12_toldOf_10 : decode cX12_toldOf 10 = .ok (.iload_n 2, 1) := by decide +kernel
theorem dX12_toldOf_11 : decode cX12_toldOf 11 = .ok (.invokevirtual 319, 3) := by decide +kernel
theorem dX12_toldOf_14 : decode cX12_toldOf 14 = .ok (.lreturn, 1) := by decide +kernel
theorem dX12_toldOf_15 : decode cX12_toldOf 15 = .ok (.aload_n 0, 1) := by decide +kernel
theorem dX12_toldOf_16 : decode cX12_toldOf 16 = .ok (.iload_n 1, 1) := by decide +kernel
theorem dX12_toldOf_17 : decode cX12_toldOf 17 = .ok (.iload_n 2, 1) := by decide +kernel
theorem dX12_toldOf_18 : decode cX12_toldOf 18 = .ok (.invokevirtual 322, 3) := by decide +kernel
theorem dX12_toldOf_21 : decode cX12_toldOf 21 = .ok (.dstore_n 3, 1) := by decide +kernel
theorem dX12_toldOf_22 : decode cX12_toldOf 22 = .ok (.aload_n 0, 1) := by decide +kernel
theorem dX12_toldOf_23 : decode cX12_toldOf 23 = .ok (.getfield 29, 3) := by decide +kernel
theorem dX12_toldOf_26 : decode cX12_toldOf 26 = .ok (.iload_n 1, 1) := by decide +kernel
theorem dX12_toldOf_27 : decode cX12_toldOf 27 = .ok (.iaload, 1) := by decide +kernel
theorem dX12_toldOf_28 : decode cX12_toldOf 28 = .ok (.bipush 7, 2) := by decide +kernel
theorem dX12_toldOf_30 : decode cX12_toldOf 30 = .ok (.if_icmp .ne 12, 3) := by decide +kernel
theorem dX12_toldOf_33 : decode cX12_toldOf 33 = .ok (.dload_n 3, 1) := by decide +kernel
theorem dX12_toldOf_34 : decode cX12_toldOf 34 = .ok (.d2f, 1) := by decide +kernel
theorem dX12_toldOf_35 : decode cX12_toldOf 35 = .ok (.invokestatic 326, 3) := by decide +kernel
theorem dX12_toldOf_38 : decode cX12_toldOf 38 = .ok (.i2l, 1) := by decide +kernel
theorem dX12_toldOf_39 : decode cX12_toldOf 39 = .ok (.goto 7, 3) := by decide +kernel
theorem dX12_toldOf_42 : decode cX12_toldOf 42 = .ok (.dload_n 3, 1) := by decide +kernel
theorem dX12_toldOf_43 : decode cX12_toldOf 43 = .ok (.invokestatic 330, 3) := by decide +kernel
theorem dX12_toldOf_46 : decode cX12_toldOf 46 = .ok (.lreturn, 1) := by decide +kernel
def F_X12_toldOf_46 (t0 : Int64) (s0 : ae_S) : Option (Int64 × ae_S) := some (t0, s0)
set_option maxHeartbeats 4000000 in
set_option maxRecDepth 100000 in
theorem t_X12_toldOf_46 {l : Launch} {G : ae_G} (d : Nat) {rr : Int64} {ss : ae_S} (t0 : Int64) (s0 : ae_S) (hF : F_X12_toldOf_46 t0 s0 = some (rr, ss)) : ae_T l G (d + 3) mX12_toldOf (ae_Po (some (ae_l rr)) ss) 46 [] [ae_l t0] s0 := by
  unfold F_X12_toldOf_46 at hF
  obtain ⟨rfl, rfl⟩ := ae_retI hF
  exact ae_lret dX12_toldOf_46 rfl ⟨rfl, rfl⟩
def F_X12_toldOf (v1 : Int32) (v2 : Int32) (s0 : ae_S) : Option (Int64 × ae_S) := ae_bd (F_X12_isFloating v1 s0) (fun (r1 : Int32) s2 => if r1 = 0 then (ae_bd (F_X12_wholeOf v1 v2 s2) (fun (r15 : Int64) s16 => some (r15, s16))) else (ae_bd (F_X12_floatOf v1 v2 s2) (fun (r7 : UInt64) s8 => ae_gd (ae_ib v1 32) (if (s8.1 36 0 v1.toNatClampNeg) = (7 : Int32) then (F_X12_toldOf_46 ((ae_fb (FP.d2f r7)).toInt64) s8) else (F_X12_toldOf_46 (ae_db r7) s8)))))
set_option maxHeartbeats 4000000 in
set_option maxRecDepth 100000 in
theorem c_X12_toldOf {l : Launch} {G : ae_G} (d : Nat) {v1 : Int32} {v2 : Int32} {s0 ss : ae_S} {rr : Int64} (hF : F_X12_toldOf v1 v2 s0 = some (rr, ss)) : ae_Met l G (d + 3) yX12_toldOf mX12_toldOf [ae_r (some (30, 0)), ae_i v1, ae_i v2] s0 (ae_Po (some (ae_l rr)) ss) := by
  refine ae_enter (by decide) rfl (Nat.le_of_ble_eq_true rfl) ?_
  show ae_T l G (d + 3) mX12_toldOf (ae_Po (some (ae_l rr)) ss) 0 [(0, ae_r (some (30, 0))), (1, ae_i v1), (2, ae_i v2)] [] s0
  unfold F_X12_toldOf at hF
  refine ae_aload_n 0 dX12_toldOf_0 rfl ?_
  refine ae_iload_n 1 dX12_toldOf_1 rfl ?_
  obtain ⟨r1, s2, hc3, hF4⟩ := ae_bdI hF
  refine ae_cV1 (q := (30, 0)) (As := [ae_i v1]) dX12_toldOf_2 ww_1644 vy_X12_isFloating rfl rfl rfl rfl rfl (Nat.le_of_ble_eq_true rfl) (c_X12_isFloating (d + 2) hc3) ?_
  refine ae_if_ne 15 dX12_toldOf_5 rfl (fun hb5 => ?_) (fun hb5 => ?_)
  · have hF6 := ae_ifF hb5 hF4
    refine ae_aload_n 0 dX12_toldOf_15 rfl ?_
    refine ae_iload_n 1 dX12_toldOf_16 rfl ?_
    refine ae_iload_n 2 dX12_toldOf_17 rfl ?_
    obtain ⟨r7, s8, hc9, hF10⟩ := ae_bdI hF6
    refine ae_cV1 (q := (30, 0)) (As := [ae_i v1, ae_i v2]) dX12_toldOf_18 ww_1656 vy_X12_floatOf rfl rfl rfl rfl rfl (Nat.le_of_ble_eq_true rfl) (c_X12_floatOf d hc9) ?_
    refine ae_dstore_n (lv' := [(3, ae_d r7), (0, ae_r (some (30, 0))), (1, ae_i v1), (2, ae_i v2)]) dX12_toldOf_21 (by decide) rfl ?_
    refine ae_aload_n 1 dX12_toldOf_22 rfl ?_
    refine ae_getA (q := (30, 0)) (some (36, 0)) dX12_toldOf_23 fl_RX12_29 rfl rfl rfl ?_
    refine ae_iload_n 2 dX12_toldOf_26 rfl ?_
    obtain ⟨hg11, hF12⟩ := ae_gdI hF10
    refine ae_iald (q := (36, 0)) dX12_toldOf_27 rfl rfl (ae_ibI hg11) ?_
    refine ae_bipush (7 : Int32) dX12_toldOf_28 (by decide) ?_
    refine ae_icmp_ne 42 dX12_toldOf_30 rfl (fun hb13 => ?_) (fun hb13 => ?_)
    · have hF14 := ae_ifF hb13 hF12
      refine ae_dload_n 0 dX12_toldOf_42 rfl ?_
      refine ae_dtl dX12_toldOf_43 ww_1676 (Nat.le_of_ble_eq_true rfl) ?_
      refine ae_pick (lv' := []) [] rfl ?_
      exact t_X12_toldOf_46 d (ae_db r7) s8 hF14
    · have hF14 := ae_ifT hb13 hF12
      refine ae_dload_n 0 dX12_toldOf_33 rfl ?_
      refine ae_d2f dX12_toldOf_34 ?_
      refine ae_fti dX12_toldOf_35 ww_1666 (Nat.le_of_ble_eq_true rfl) ?_
      refine ae_i2l dX12_toldOf_38 ?_
      refine ae_goto 46 dX12_toldOf_39 rfl ?_
      refine ae_pick (lv' := []) [] rfl ?_
      exact t_X12_toldOf_46 d ((ae_fb (FP.d2f r7)).toInt64) s8 hF14
  · have hF6 := ae_ifT hb5 hF4
    refine ae_aload_n 0 dX12_toldOf_8 rfl ?_
    refine ae_iload_n 1 dX12_toldOf_9 rfl ?_
    refine ae_iload_n 2 dX12_toldOf_10 rfl ?_
    obtain ⟨r15, s16, hc17, hF18⟩ := ae_bdI hF6
    refine ae_cV1 (q := (30, 0)) (As := [ae_i v1, ae_i v2]) dX12_toldOf_11 ww_1648 vy_X12_wholeOf rfl rfl rfl rfl rfl (Nat.le_of_ble_eq_true rfl) (c_X12_wholeOf d hc17) ?_
    obtain ⟨rfl, rfl⟩ := ae_retI hF18
    exact ae_lret dX12_toldOf_14 rfl ⟨rfl, rfl⟩
abbrev mX12_read : ae_M := (RX12, cX12_read, 5, some .long)
theorem vy_X12_read : ae_VY yX12_read mX12_read 2 := ⟨ww_1628, ww_1629, ww_13, ww_1630, ⟨by decide, by decide, by decide +kernel⟩, by decide⟩
theorem dX12_read_0 : decode cX12_read 0 = .ok (.aload_n 0, 1) := by decide +kernel
theorem dX12_read_1 : decode cX12_read 1 = .ok (.iload_n 1, 1) := by decide +kernel
theorem dX12_read_2 : decode cX12_read 2 = .ok (.iload_n 2, 1) := by decide +kernel
theorem dX12_read_3 : decode cX12_read 3 = .ok (.i2l, 1) := by decide +kernel
theorem dX12_read_4 : decode cX12_read 4 = .ok (.invokevirtual 343, 3) := by decide +kernel
theorem dX12_read_7 : decode cX12_read 7 = .ok (.ifCond .ne 7, 3) := by decide +kernel
theorem dX12_read_10 : decode cX12_read 10 = .ok (.ldc2_w 347, 3) := by decide +kernel
theorem dX12_read_13 : decode cX12_read 13 = .ok (.lreturn, 1) := by decide +kernel
theorem dX12_read_14 : decode cX12_read 14 = .ok (.aload_n 0, 1) := by decide +kernel
theorem dX12_read_15 : decode cX12_read 15 = .ok (.invokevirtual 115, 3) := by decide +kernel
theorem dX12_read_18 : decode cX12_read 18 = .ok (.aload_n 0, 1) := by decide +kernel
theorem dX12_read_19 : decode cX12_read 19 = .ok (.iload_n 1, 1) := by decide +kernel
theorem dX12_read_20 : decode cX12_read 20 = .ok (.iload_n 2, 1) := by decide +kernel
theorem dX12_read_21 : decode cX12_read 21 = .ok (.invokevirtual 349, 3) := by decide +kernel
theorem dX12_read_24 : decode cX12_read 24 = .ok (.lstore_n 3, 1) := by decide +kernel
theorem dX12_read_25 : decode cX12_read 25 = .ok (.aload_n 0, 1) := by decide +kernel
theorem dX12_read_26 : decode cX12_read 26 = .ok (.getfield 44, 3) := by decide +kernel
theorem dX12_read_29 : decode cX12_read 29 = .ok (.iload_n 1, 1) := by decide +kernel
theorem dX12_read_30 : decode cX12_read 30 = .ok (.iaload, 1) := by decide +kernel
theorem dX12_read_31 : decode cX12_read 31 = .ok (.iconst 3, 1) := by decide +kernel
theorem dX12_read_32 : decode cX12_read 32 = .ok (.if_icmp .ne 10, 3) := by decide +kernel
theorem dX12_read_35 : decode cX12_read 35 = .ok (.aload_n 0, 1) := by decide +kernel
theorem dX12_read_36 : decode cX12_read 36 = .ok (.iload_n 1, 1) := by decide +kernel
theorem dX12_read_37 : decode cX12_read 37 = .ok (.iload_n 2, 1) := by decide +kernel
theorem dX12_read_38 : decode cX12_read 38 = .ok (.lconst 0, 1) := by decide +kernel
theorem dX12_read_39 : decode cX12_read 39 = .ok (.invokevirtual 336, 3) := by decide +kernel
theorem dX12_read_42 : decode cX12_read 42 = .ok (.aload_n 0, 1) := by decide +kernel
theorem dX12_read_43 : decode cX12_read 43 = .ok (.iconst 1, 1) := by decide +kernel
theorem dX12_read_44 : decode cX12_read 44 = .ok (.invokevirtual 118, 3) := by decide +kernel
theorem dX12_read_47 : decode cX12_read 47 = .ok (.lload_n 3, 1) := by decide +kernel
theorem dX12_read_48 : decode cX12_read 48 = .ok (.lreturn, 1) := by decide +kernel
def F_X12_read_42 (v3 : Int64) (s0 : ae_S) : Option (Int64 × ae_S) := ae_bd (F_X12_ends (1 : Int32) s0) (fun (r1 : Unit) s2 => some (v3, s2))
set_option maxHeartbeats 4000000 in
set_option maxRecDepth 100000 in
theorem t_X12_read_42 {l : Launch} {G : ae_G} (d : Nat) {rr : Int64} {ss : ae_S} (v3 : Int64) (s0 : ae_S) (hF : F_X12_read_42 v3 s0 = some (rr, ss)) : ae_T l G (d + 4) mX12_read (ae_Po (some (ae_l rr)) ss) 42 [(0, ae_r (some (30, 0))), (3, ae_l v3)] [] s0 := by
  unfold F_X12_read_42 at hF
  refine ae_aload_n 0 dX12_read_42 rfl ?_
  refine ae_iconst (1 : Int32) dX12_read_43 (by decide) ?_
  obtain ⟨r1, s2, hc3, hF4⟩ := ae_bdI hF
  refine ae_cV0 (q := (30, 0)) (As := [ae_i (1 : Int32)]) dX12_read_44 ww_1472 vy_X12_ends rfl rfl rfl rfl rfl (Nat.le_of_ble_eq_true rfl) (c_X12_ends (d + 3) hc3) ?_
  refine ae_lload_n 1 dX12_read_47 rfl ?_
  obtain ⟨rfl, rfl⟩ := ae_retI hF4
  exact ae_lret dX12_read_48 rfl ⟨rfl, rfl⟩
def F_X12_read (v1 : Int32) (v2 : Int32) (s0 : ae_S) : Option (Int64 × ae_S) := ae_bd (F_X12_isElement v1 v2.toInt64 s0) (fun (r5 : Int32) s6 => if r5 = 0 then (some ((-9223372036854775801 : Int64), s6)) else (ae_bd (F_X12_begins s6) (fun (r11 : Unit) s12 => ae_bd (F_X12_toldOf v1 v2 s12) (fun (r15 : Int64) s16 => ae_gd (ae_ib v1 32) (if (s16.1 41 0 v1.toNatClampNeg) = (3 : Int32) then (ae_bd (F_X12_lays v1 v2 (0 : Int64) s16) (fun (r23 : Unit) s24 => F_X12_read_42 r15 s24)) else (F_X12_read_42 r15 s16))))))
set_option maxHeartbeats 4000000 in
set_option maxRecDepth 100000 in
theorem c_X12_read {l : Launch} {G : ae_G} (d : Nat) {v1 : Int32} {v2 : Int32} {s0 ss : ae_S} {rr : Int64} (hF : F_X12_read v1 v2 s0 = some (rr, ss)) : ae_Met l G (d + 4) yX12_read mX12_read [ae_r (some (30, 0)), ae_i v1, ae_i v2] s0 (ae_Po (some (ae_l rr)) ss) := by
  refine ae_enter (by decide) rfl (Nat.le_of_ble_eq_true rfl) ?_
  show ae_T l G (d + 4) mX12_read (ae_Po (some (ae_l rr)) ss) 0 [(0, ae_r (some (30, 0))), (1, ae_i v1), (2, ae_i v2)] [] s0
  unfold F_X12_read at hF
  refine ae_aload_n 0 dX12_read_0 rfl ?_
  refine ae_iload_n 1 dX12_read_1 rfl ?_
  refine ae_iload_n 2 dX12_read_2 rfl ?_
  refine ae_i2l dX12_read_3 ?_
  obtain ⟨r5, s6, hc7, hF8⟩ := ae_bdI hF
  refine ae_cV1 (q := (30, 0)) (As := [ae_i v1, ae_l v2.toInt64]) dX12_read_4 ww_1631 vy_X12_isElement rfl rfl rfl rfl rfl (Nat.le_of_ble_eq_true rfl) (c_X12_isElement (d + 1) hc7) ?_
  refine ae_if_ne 14 dX12_read_7 rfl (fun hb9 => ?_) (fun hb9 => ?_)
  · have hF10 := ae_ifF hb9 hF8
    refine ae_aload_n 0 dX12_read_14 rfl ?_
    obtain ⟨r11, s12, hc13, hF14⟩ := ae_bdI hF10
    refine ae_cV0 (q := (30, 0)) (As := []) dX12_read_15 ww_1468 vy_X12_begins rfl rfl rfl rfl rfl (Nat.le_of_ble_eq_true rfl) (c_X12_begins (d + 3) hc13) ?_
    refine ae_aload_n 0 dX12_read_18 rfl ?_
    refine ae_iload_n 1 dX12_read_19 rfl ?_
    refine ae_iload_n 2 dX12_read_20 rfl ?_
    obtain ⟨r15, s16, hc17, hF18⟩ := ae_bdI hF14
    refine ae_cV1 (q := (30, 0)) (As := [ae_i v1, ae_i v2]) dX12_read_21 ww_1640 vy_X12_toldOf rfl rfl rfl rfl rfl (Nat.le_of_ble_eq_true rfl) (c_X12_toldOf d hc17) ?_
    refine ae_lstore_n (lv' := [(3, ae_l r15), (0, ae_r (some (30, 0))), (1, ae_i v1), (2, ae_i v2)]) dX12_read_24 (by decide) rfl ?_
    refine ae_aload_n 1 dX12_read_25 rfl ?_
    refine ae_getA (q := (30, 0)) (some (41, 0)) dX12_read_26 fl_RX12_44 rfl rfl rfl ?_
    refine ae_iload_n 2 dX12_read_29 rfl ?_
    obtain ⟨hg19, hF20⟩ := ae_gdI hF18
    refine ae_iald (q := (41, 0)) dX12_read_30 rfl rfl (ae_ibI hg19) ?_
    refine ae_iconst (3 : Int32) dX12_read_31 (by decide) ?_
    refine ae_icmp_ne 42 dX12_read_32 rfl (fun hb21 => ?_) (fun hb21 => ?_)
    · have hF22 := ae_ifF hb21 hF20
      refine ae_pick (lv' := [(0, ae_r (some (30, 0))), (3, ae_l r15)]) [1, 0] rfl ?_
      exact t_X12_read_42 d r15 s16 hF22
    · have hF22 := ae_ifT hb21 hF20
      refine ae_aload_n 1 dX12_read_35 rfl ?_
      refine ae_iload_n 2 dX12_read_36 rfl ?_
      refine ae_iload_n 3 dX12_read_37 rfl ?_
      refine ae_lconst (0 : Int64) dX12_read_38 (by decide) ?_
      obtain ⟨r23, s24, hc25, hF26⟩ := ae_bdI hF22
      refine ae_cV0 (q := (30, 0)) (As := [ae_i v1, ae_i v2, ae_l (0 : Int64)]) dX12_read_39 ww_1686 vy_X12_lays rfl rfl rfl rfl rfl (Nat.le_of_ble_eq_true rfl) (c_X12_lays (d + 2) hc25) ?_
      refine ae_pick (lv' := [(0, ae_r (some (30, 0))), (3, ae_l r15)]) [1, 0] rfl ?_
      exact t_X12_read_42 d r15 s24 hF26
  · have hF10 := ae_ifT hb9 hF8
    refine ae_ldc2 dX12_read_10 ww_1639 ?_
    obtain ⟨rfl, rfl⟩ := ae_retI hF10
    exact ae_lret dX12_read_13 rfl ⟨rfl, rfl⟩
