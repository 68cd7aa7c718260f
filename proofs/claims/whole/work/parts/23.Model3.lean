/-! methods as functions: X12_peek X12_mask X12_fieldOf X12_field X12_bitsBy X12_writes X12_write X12_writeFloat X12_comesBack X12_comes X12_isNought X12_keeps X12_asFloat X12_tells X12_floats X12_wholes X12_works X12_reads X12_elementOf X12_sets X12_does X12_node X12_opens X12_readNumber X12_readAll X12_readSum X12_readTerm X12_readFactor X12_readPlace X12_readStatement X12_readGroup X12_script -/
theorem fl_RX12_88 : ae_FL RX12 88 10 44 (.array .int) true := ⟨_, _, _, rfl, by decide, ww_1342, rfl, rfl, rfl⟩
theorem fl_RX12_85 : ae_FL RX12 85 10 42 (.array .int) true := ⟨_, _, _, rfl, by decide, ww_1340, rfl, rfl, rfl⟩
theorem fl_RX12_402 : ae_FL RX12 402 10 40 (.int) false := ⟨_, _, _, rfl, by decide, ww_1338, rfl, rfl, rfl⟩
theorem fl_RX12_405 : ae_FL RX12 405 10 41 (.int) false := ⟨_, _, _, rfl, by decide, ww_1339, rfl, rfl, rfl⟩
theorem fl_RX12_408 : ae_FL RX12 408 10 45 (.boolean) false := ⟨_, _, _, rfl, by decide, ww_1343, rfl, rfl, rfl⟩
theorem fl_RX12_412 : ae_FL RX12 412 10 46 (.long) false := ⟨_, _, _, rfl, by decide, ww_1344, rfl, rfl, rfl⟩
theorem fl_RX12_415 : ae_FL RX12 415 10 47 (.double) false := ⟨_, _, _, rfl, by decide, ww_1345, rfl, rfl, rfl⟩
theorem fl_RX12_66 : ae_FL RX12 66 10 32 (.array .int) true := ⟨_, _, _, rfl, by decide, ww_1330, rfl, rfl, rfl⟩
theorem fl_RX12_69 : ae_FL RX12 69 10 33 (.array .int) true := ⟨_, _, _, rfl, by decide, ww_1331, rfl, rfl, rfl⟩
theorem fl_RX12_72 : ae_FL RX12 72 10 34 (.array .int) true := ⟨_, _, _, rfl, by decide, ww_1332, rfl, rfl, rfl⟩
theorem fl_RX12_78 : ae_FL RX12 78 10 36 (.array .long) true := ⟨_, _, _, rfl, by decide, ww_1334, rfl, rfl, rfl⟩
theorem fl_RX12_81 : ae_FL RX12 81 10 37 (.array .double) true := ⟨_, _, _, rfl, by decide, ww_1335, rfl, rfl, rfl⟩
theorem fl_RX12_446 : ae_FL RX12 446 10 43 (.int) false := ⟨_, _, _, rfl, by decide, ww_1341, rfl, rfl, rfl⟩
theorem fl_RX12_75 : ae_FL RX12 75 10 35 (.array .int) true := ⟨_, _, _, rfl, by decide, ww_1333, rfl, rfl, rfl⟩
theorem fl_RX12_363 : ae_FL RX12 363 10 38 (.int) false := ⟨_, _, _, rfl, by decide, ww_1336, rfl, rfl, rfl⟩
theorem fl_RX12_366 : ae_FL RX12 366 10 39 (.int) false := ⟨_, _, _, rfl, by decide, ww_1337, rfl, rfl, rfl⟩
abbrev mX12_peek : ae_M := (RX12, cX12_peek, 3, some .long)
theorem vy_X12_peek : ae_VY yX12_peek mX12_peek 2 := ⟨ww_1692, ww_1693, ww_13, ww_1694, ⟨by decide, by decide, by decide +kernel⟩, by decide⟩
theorem dX12_peek_0 : decode cX12_peek 0 = .ok (.aload_n 0, 1) := by decide +kernel
theorem dX12_peek_1 : decode cX12_peek 1 = .ok (.iload_n 1, 1) := by decide +kernel
theorem dX12_peek_2 : decode cX12_peek 2 = .ok (.iload_n 2, 1) := by decide +kernel
theorem dX12_peek_3 : decode cX12_peek 3 = .ok (.i2l, 1) := by decide +kernel
theorem dX12_peek_4 : decode cX12_peek 4 = .ok (.invokevirtual 343, 3) := by decide +kernel
theorem dX12_peek_7 : decode cX12_peek 7 = .ok (.ifCond .eq 12, 3) := by decide +kernel
theorem dX12_peek_10 : decode cX12_peek 10 = .ok (.aload_n 0, 1) := by decide +kernel
theorem dX12_peek_11 : decode cX12_peek 11 = .ok (.iload_n 1, 1) := by decide +kernel
theorem dX12_peek_12 : decode cX12_peek 12 = .ok (.iload_n 2, 1) := by decide +kernel
theorem dX12_peek_13 : decode cX12_peek 13 = .ok (.invokevirtual 349, 3) := by decide +kernel
theorem dX12_peek_16 : decode cX12_peek 16 = .ok (.goto 6, 3) := by decide +kernel
theorem dX12_peek_19 : decode cX12_peek 19 = .ok (.ldc2_w 347, 3) := by decide +kernel
theorem dX12_peek_22 : decode cX12_peek 22 = .ok (.lreturn, 1) := by decide +kernel
def F_X12_peek_22 (t0 : Int64) (s0 : ae_S) : Option (Int64 × ae_S) := some (t0, s0)
set_option maxHeartbeats 4000000 in
set_option maxRecDepth 100000 in
theorem t_X12_peek_22 {l : Launch} {G : ae_G} (d : Nat) {rr : Int64} {ss : ae_S} (t0 : Int64) (s0 : ae_S) (hF : F_X12_peek_22 t0 s0 = some (rr, ss)) : ae_T l G (d + 4) mX12_peek (ae_Po (some (ae_l rr)) ss) 22 [] [ae_l t0] s0 := by
  unfold F_X12_peek_22 at hF
  obtain ⟨rfl, rfl⟩ := ae_retI hF
  exact ae_lret dX12_peek_22 rfl ⟨rfl, rfl⟩
def F_X12_peek (v1 : Int32) (v2 : Int32) (s0 : ae_S) : Option (Int64 × ae_S) := ae_bd (F_X12_isElement v1 v2.toInt64 s0) (fun (r1 : Int32) s2 => if r1 = 0 then (F_X12_peek_22 (-9223372036854775801 : Int64) s2) else (ae_bd (F_X12_toldOf v1 v2 s2) (fun (r7 : Int64) s8 => F_X12_peek_22 r7 s8)))
set_option maxHeartbeats 4000000 in
set_option maxRecDepth 100000 in
theorem c_X12_peek {l : Launch} {G : ae_G} (d : Nat) {v1 : Int32} {v2 : Int32} {s0 ss : ae_S} {rr : Int64} (hF : F_X12_peek v1 v2 s0 = some (rr, ss)) : ae_Met l G (d + 4) yX12_peek mX12_peek [ae_r (some (30, 0)), ae_i v1, ae_i v2] s0 (ae_Po (some (ae_l rr)) ss) := by
  refine ae_enter (by decide) rfl (Nat.le_of_ble_eq_true rfl) ?_
  show ae_T l G (d + 4) mX12_peek (ae_Po (some (ae_l rr)) ss) 0 [(0, ae_r (some (30, 0))), (1, ae_i v1), (2, ae_i v2)] [] s0
  unfold F_X12_peek at hF
  refine ae_aload_n 0 dX12_peek_0 rfl ?_
  refine ae_iload_n 1 dX12_peek_1 rfl ?_
  refine ae_iload_n 2 dX12_peek_2 rfl ?_
  refine ae_i2l dX12_peek_3 ?_
  obtain ⟨r1, s2, hc3, hF4⟩ := ae_bdI hF
  refine ae_cV1 (q := (30, 0)) (As := [ae_i v1, ae_l v2.toInt64]) dX12_peek_4 ww_1631 vy_X12_isElement rfl rfl rfl rfl rfl (Nat.le_of_ble_eq_true rfl) (c_X12_isElement (d + 1) hc3) ?_
  refine ae_if_eq 19 dX12_peek_7 rfl (fun hb5 => ?_) (fun hb5 => ?_)
  · have hF6 := ae_ifT hb5 hF4
    refine ae_ldc2 dX12_peek_19 ww_1639 ?_
    refine ae_pick (lv' := []) [] rfl ?_
    exact t_X12_peek_22 d (-9223372036854775801 : Int64) s2 hF6
  · have hF6 := ae_ifF hb5 hF4
    refine ae_aload_n 0 dX12_peek_10 rfl ?_
    refine ae_iload_n 1 dX12_peek_11 rfl ?_
    refine ae_iload_n 2 dX12_peek_12 rfl ?_
    obtain ⟨r7, s8, hc9, hF10⟩ := ae_bdI hF6
    refine ae_cV1 (q := (30, 0)) (As := [ae_i v1, ae_i v2]) dX12_peek_13 ww_1640 vy_X12_toldOf rfl rfl rfl rfl rfl (Nat.le_of_ble_eq_true rfl) (c_X12_toldOf d hc9) ?_
    refine ae_goto 22 dX12_peek_16 rfl ?_
    refine ae_pick (lv' := []) [] rfl ?_
    exact t_X12_peek_22 d r7 s8 hF10
abbrev mX12_mask : ae_M := (RX12, cX12_mask, 2, some .long)
theorem vy_X12_mask : ae_SY yX12_mask mX12_mask 2 := ⟨ww_1704, ww_13, ww_1705, ⟨by decide, by decide, by decide +kernel⟩, by decide⟩
theorem dX12_mask_0 : decode cX12_mask 0 = .ok (.lconst 1, 1) := by decide +kernel
theorem dX12_mask_1 : decode cX12_mask 1 = .ok (.iload_n 1, 1) := by decide +kernel
theorem dX12_mask_2 : decode cX12_mask 2 = .ok (.iload_n 0, 1) := by decide +kernel
theorem dX12_mask_3 : decode cX12_mask 3 = .ok (.isub, 1) := by decide +kernel
theorem dX12_mask_4 : decode cX12_mask 4 = .ok (.iconst 1, 1) := by decide +kernel
theorem dX12_mask_5 : decode cX12_mask 5 = .ok (.iadd, 1) := by decide +kernel
theorem dX12_mask_6 : decode cX12_mask 6 = .ok (.lshl, 1) := by decide +kernel
theorem dX12_mask_7 : decode cX12_mask 7 = .ok (.lconst 1, 1) := by decide +kernel
theorem dX12_mask_8 : decode cX12_mask 8 = .ok (.lsub, 1) := by decide +kernel
theorem dX12_mask_9 : decode cX12_mask 9 = .ok (.lreturn, 1) := by decide +kernel
def F_X12_mask (v0 : Int32) (v1 : Int32) (s0 : ae_S) : Option (Int64 × ae_S) := some (((1 : Int64) <<< (((v1 - v0) + (1 : Int32)).toInt64 &&& 63)) - (1 : Int64), s0)
set_option maxHeartbeats 4000000 in
set_option maxRecDepth 100000 in
theorem c_X12_mask {l : Launch} {G : ae_G} (d : Nat) {v0 : Int32} {v1 : Int32} {s0 ss : ae_S} {rr : Int64} (hF : F_X12_mask v0 v1 s0 = some (rr, ss)) : ae_Met l G d yX12_mask mX12_mask [ae_i v0, ae_i v1] s0 (ae_Po (some (ae_l rr)) ss) := by
  refine ae_enter (by decide) rfl (Nat.le_of_ble_eq_true rfl) ?_
  show ae_T l G d mX12_mask (ae_Po (some (ae_l rr)) ss) 0 [(0, ae_i v0), (1, ae_i v1)] [] s0
  unfold F_X12_mask at hF
  refine ae_lconst (1 : Int64) dX12_mask_0 (by decide) ?_
  refine ae_iload_n 1 dX12_mask_1 rfl ?_
  refine ae_iload_n 0 dX12_mask_2 rfl ?_
  refine ae_isub dX12_mask_3 ?_
  refine ae_iconst (1 : Int32) dX12_mask_4 (by decide) ?_
  refine ae_iadd dX12_mask_5 ?_
  refine ae_lshl dX12_mask_6 ?_
  refine ae_lconst (1 : Int64) dX12_mask_7 (by decide) ?_
  refine ae_lsub dX12_mask_8 ?_
  obtain ⟨rfl, rfl⟩ := ae_retI hF
  exact ae_lret dX12_mask_9 rfl ⟨rfl, rfl⟩
abbrev mX12_fieldOf : ae_M := (RX12, cX12_fieldOf, 5, some .long)
theorem vy_X12_fieldOf : ae_VY yX12_fieldOf mX12_fieldOf 3 := ⟨ww_1701, wq_82, ww_13, ww_1702, ⟨by decide, by decide, by decide +kernel⟩, by decide⟩
theorem dX12_fieldOf_0 : decode cX12_fieldOf 0 = .ok (.bipush 8, 2) := by decide +kernel
theorem dX12_fieldOf_2 : decode cX12_fieldOf 2 = .ok (.iload_n 1, 1) := by decide +kernel
theorem dX12_fieldOf_3 : decode cX12_fieldOf 3 = .ok (.imul, 1) := by decide +kernel
theorem dX12_fieldOf_4 : decode cX12_fieldOf 4 = .ok (.iload_n 3, 1) := by decide +kernel
theorem dX12_fieldOf_5 : decode cX12_fieldOf 5 = .ok (.iadd, 1) := by decide +kernel
theorem dX12_fieldOf_6 : decode cX12_fieldOf 6 = .ok (.istore 4, 2) := by decide +kernel
theorem dX12_fieldOf_8 : decode cX12_fieldOf 8 = .ok (.aload_n 0, 1) := by decide +kernel
theorem dX12_fieldOf_9 : decode cX12_fieldOf 9 = .ok (.iload_n 1, 1) := by decide +kernel
theorem dX12_fieldOf_10 : decode cX12_fieldOf 10 = .ok (.iload_n 2, 1) := by decide +kernel
theorem dX12_fieldOf_11 : decode cX12_fieldOf 11 = .ok (.invokevirtual 300, 3) := by decide +kernel
theorem dX12_fieldOf_14 : decode cX12_fieldOf 14 = .ok (.aload_n 0, 1) := by decide +kernel
theorem dX12_fieldOf_15 : decode cX12_fieldOf 15 = .ok (.getfield 53, 3) := by decide +kernel
theorem dX12_fieldOf_18 : decode cX12_fieldOf 18 = .ok (.iload 4, 2) := by decide +kernel
theorem dX12_fieldOf_20 : decode cX12_fieldOf 20 = .ok (.iaload, 1) := by decide +kernel
theorem dX12_fieldOf_21 : decode cX12_fieldOf 21 = .ok (.lshr, 1) := by decide +kernel
theorem dX12_fieldOf_22 : decode cX12_fieldOf 22 = .ok (.aload_n 0, 1) := by decide +kernel
theorem dX12_fieldOf_23 : decode cX12_fieldOf 23 = .ok (.getfield 53, 3) := by decide +kernel
theorem dX12_fieldOf_26 : decode cX12_fieldOf 26 = .ok (.iload 4, 2) := by decide +kernel
theorem dX12_fieldOf_28 : decode cX12_fieldOf 28 = .ok (.iaload, 1) := by decide +kernel
theorem dX12_fieldOf_29 : decode cX12_fieldOf 29 = .ok (.aload_n 0, 1) := by decide +kernel
theorem dX12_fieldOf_30 : decode cX12_fieldOf 30 = .ok (.getfield 56, 3) := by decide +kernel
theorem dX12_fieldOf_33 : decode cX12_fieldOf 33 = .ok (.iload 4, 2) := by decide +kernel
theorem dX12_fieldOf_35 : decode cX12_fieldOf 35 = .ok (.iaload, 1) := by decide +kernel
theorem dX12_fieldOf_36 : decode cX12_fieldOf 36 = .ok (.invokestatic 340, 3) := by decide +kernel
theorem dX12_fieldOf_39 : decode cX12_fieldOf 39 = .ok (.land, 1) := by decide +kernel
theorem dX12_fieldOf_40 : decode cX12_fieldOf 40 = .ok (.lreturn, 1) := by decide +kernel
def F_X12_fieldOf (v1 : Int32) (v2 : Int32) (v3 : Int32) (s0 : ae_S) : Option (Int64 × ae_S) := ae_lt (((8 : Int32) * v1) + v3) (fun x1 => ae_bd (F_X12_bitsOf v1 v2 s0) (fun (r3 : Int64) s4 => ae_gd (ae_ib x1 256) (ae_gd (ae_ib x1 256) (ae_gd (ae_ib x1 256) (ae_bd (F_X12_mask (s4.1 44 0 x1.toNatClampNeg) (s4.1 45 0 x1.toNatClampNeg) s4) (fun (r13 : Int64) s14 => some ((r3 >>> ((s4.1 44 0 x1.toNatClampNeg).toInt64 &&& 63)) &&& r13, s14)))))))
set_option maxHeartbeats 4000000 in
set_option maxRecDepth 100000 in
theorem c_X12_fieldOf {l : Launch} {G : ae_G} (d : Nat) {v1 : Int32} {v2 : Int32} {v3 : Int32} {s0 ss : ae_S} {rr : Int64} (hF : F_X12_fieldOf v1 v2 v3 s0 = some (rr, ss)) : ae_Met l G (d + 2) yX12_fieldOf mX12_fieldOf [ae_r (some (30, 0)), ae_i v1, ae_i v2, ae_i v3] s0 (ae_Po (some (ae_l rr)) ss) := by
  refine ae_enter (by decide) rfl (Nat.le_of_ble_eq_true rfl) ?_
  show ae_T l G (d + 2) mX12_fieldOf (ae_Po (some (ae_l rr)) ss) 0 [(0, ae_r (some (30, 0))), (1, ae_i v1), (2, ae_i v2), (3, ae_i v3)] [] s0
  unfold F_X12_fieldOf at hF
  refine ae_bipush (8 : Int32) dX12_fieldOf_0 (by decide) ?_
  refine ae_iload_n 1 dX12_fieldOf_2 rfl ?_
  refine ae_imul dX12_fieldOf_3 ?_
  refine ae_iload_n 3 dX12_fieldOf_4 rfl ?_
  refine ae_iadd dX12_fieldOf_5 ?_
  obtain ⟨x1, hx1, hF2⟩ := ae_ltI hF
  refine ae_nmI hx1 ?_
  refine ae_istore (lv' := [(4, ae_i x1), (0, ae_r (some (30, 0))), (1, ae_i v1), (2, ae_i v2), (3, ae_i v3)]) dX12_fieldOf_6 (by decide) rfl ?_
  refine ae_aload_n 1 dX12_fieldOf_8 rfl ?_
  refine ae_iload_n 2 dX12_fieldOf_9 rfl ?_
  refine ae_iload_n 3 dX12_fieldOf_10 rfl ?_
  obtain ⟨r3, s4, hc5, hF6⟩ := ae_bdI hF2
  refine ae_cV1 (q := (30, 0)) (As := [ae_i v1, ae_i v2]) dX12_fieldOf_11 ww_1652 vy_X12_bitsOf rfl rfl rfl rfl rfl (Nat.le_of_ble_eq_true rfl) (c_X12_bitsOf d hc5) ?_
  refine ae_aload_n 1 dX12_fieldOf_14 rfl ?_
  refine ae_getA (q := (30, 0)) (some (44, 0)) dX12_fieldOf_15 fl_RX12_53 rfl rfl rfl ?_
  refine ae_iload 0 dX12_fieldOf_18 rfl ?_
  obtain ⟨hg7, hF8⟩ := ae_gdI hF6
  refine ae_iald (q := (44, 0)) dX12_fieldOf_20 rfl rfl (ae_ibI hg7) ?_
  refine ae_lshr dX12_fieldOf_21 ?_
  refine ae_aload_n 1 dX12_fieldOf_22 rfl ?_
  refine ae_getA (q := (30, 0)) (some (44, 0)) dX12_fieldOf_23 fl_RX12_53 rfl rfl rfl ?_
  refine ae_iload 0 dX12_fieldOf_26 rfl ?_
  obtain ⟨hg9, hF10⟩ := ae_gdI hF8
  refine ae_iald (q := (44, 0)) dX12_fieldOf_28 rfl rfl (ae_ibI hg9) ?_
  refine ae_aload_n 1 dX12_fieldOf_29 rfl ?_
  refine ae_getA (q := (30, 0)) (some (45, 0)) dX12_fieldOf_30 fl_RX12_56 rfl rfl rfl ?_
  refine ae_iload 0 dX12_fieldOf_33 rfl ?_
  obtain ⟨hg11, hF12⟩ := ae_gdI hF10
  refine ae_iald (q := (45, 0)) dX12_fieldOf_35 rfl rfl (ae_ibI hg11) ?_
  obtain ⟨r13, s14, hc15, hF16⟩ := ae_bdI hF12
  refine ae_cS1 (As := [ae_i (s4.1 44 0 x1.toNatClampNeg), ae_i (s4.1 45 0 x1.toNatClampNeg)]) dX12_fieldOf_36 ww_1703 vy_X12_mask rfl rfl (Nat.le_of_ble_eq_true rfl) (c_X12_mask (d + 1) hc15) ?_
  refine ae_land dX12_fieldOf_39 ?_
  obtain ⟨rfl, rfl⟩ := ae_retI hF16
  exact ae_lret dX12_fieldOf_40 rfl ⟨rfl, rfl⟩
abbrev mX12_field : ae_M := (RX12, cX12_field, 4, some .long)
theorem vy_X12_field : ae_VY yX12_field mX12_field 3 := ⟨ww_1696, ww_1697, ww_13, ww_1698, ⟨by decide, by decide, by decide +kernel⟩, by decide⟩
theorem dX12_field_0 : decode cX12_field 0 = .ok (.aload_n 0, 1) := by decide +kernel
theorem dX12_field_1 : decode cX12_field 1 = .ok (.iload_n 1, 1) := by decide +kernel
theorem dX12_field_2 : decode cX12_field 2 = .ok (.iload_n 2, 1) := by decide +kernel
theorem dX12_field_3 : decode cX12_field 3 = .ok (.i2l, 1) := by decide +kernel
theorem dX12_field_4 : decode cX12_field 4 = .ok (.invokevirtual 343, 3) := by decide +kernel
theorem dX12_field_7 : decode cX12_field 7 = .ok (.ifCond .eq 31, 3) := by decide +kernel
theorem dX12_field_10 : decode cX12_field 10 = .ok (.iload_n 3, 1) := by decide +kernel
theorem dX12_field_11 : decode cX12_field 11 = .ok (.i2l, 1) := by decide +kernel
theorem dX12_field_12 : decode cX12_field 12 = .ok (.lconst 0, 1) := by decide +kernel
theorem dX12_field_13 : decode cX12_field 13 = .ok (.aload_n 0, 1) := by decide +kernel
theorem dX12_field_14 : decode cX12_field 14 = .ok (.getfield 47, 3) := by decide +kernel
theorem dX12_field_17 : decode cX12_field 17 = .ok (.iload_n 1, 1) := by decide +kernel
theorem dX12_field_18 : decode cX12_field 18 = .ok (.iaload, 1) := by decide +kernel
theorem dX12_field_19 : decode cX12_field 19 = .ok (.iconst 1, 1) := by decide +kernel
theorem dX12_field_20 : decode cX12_field 20 = .ok (.isub, 1) := by decide +kernel
theorem dX12_field_21 : decode cX12_field 21 = .ok (.i2l, 1) := by decide +kernel
theorem dX12_field_22 : decode cX12_field 22 = .ok (.invokestatic 105, 3) := by decide +kernel
theorem dX12_field_25 : decode cX12_field 25 = .ok (.ifCond .eq 13, 3) := by decide +kernel
theorem dX12_field_28 : decode cX12_field 28 = .ok (.aload_n 0, 1) := by decide +kernel
theorem dX12_field_29 : decode cX12_field 29 = .ok (.iload_n 1, 1) := by decide +kernel
theorem dX12_field_30 : decode cX12_field 30 = .ok (.iload_n 2, 1) := by decide +kernel
theorem dX12_field_31 : decode cX12_field 31 = .ok (.iload_n 3, 1) := by decide +kernel
theorem dX12_field_32 : decode cX12_field 32 = .ok (.invokevirtual 352, 3) := by decide +kernel
theorem dX12_field_35 : decode cX12_field 35 = .ok (.goto 6, 3) := by decide +kernel
theorem dX12_field_38 : decode cX12_field 38 = .ok (.ldc2_w 334, 3) := by decide +kernel
theorem dX12_field_41 : decode cX12_field 41 = .ok (.lreturn, 1) := by decide +kernel
def F_X12_field_41 (t0 : Int64) (s0 : ae_S) : Option (Int64 × ae_S) := some (t0, s0)
set_option maxHeartbeats 4000000 in
set_option maxRecDepth 100000 in
theorem t_X12_field_41 {l : Launch} {G : ae_G} (d : Nat) {rr : Int64} {ss : ae_S} (t0 : Int64) (s0 : ae_S) (hF : F_X12_field_41 t0 s0 = some (rr, ss)) : ae_T l G (d + 3) mX12_field (ae_Po (some (ae_l rr)) ss) 41 [] [ae_l t0] s0 := by
  unfold F_X12_field_41 at hF
  obtain ⟨rfl, rfl⟩ := ae_retI hF
  exact ae_lret dX12_field_41 rfl ⟨rfl, rfl⟩
def F_X12_field_38 (s0 : ae_S) : Option (Int64 × ae_S) := F_X12_field_41 (-1 : Int64) s0
set_option maxHeartbeats 4000000 in
set_option maxRecDepth 100000 in
theorem t_X12_field_38 {l : Launch} {G : ae_G} (d : Nat) {rr : Int64} {ss : ae_S} (s0 : ae_S) (hF : F_X12_field_38 s0 = some (rr, ss)) : ae_T l G (d + 3) mX12_field (ae_Po (some (ae_l rr)) ss) 38 [] [] s0 := by
  unfold F_X12_field_38 at hF
  refine ae_ldc2 dX12_field_38 ww_1706 ?_
  refine ae_pick (lv' := []) [] rfl ?_
  exact t_X12_field_41 d (-1 : Int64) s0 hF
def F_X12_field (v1 : Int32) (v2 : Int32) (v3 : Int32) (s0 : ae_S) : Option (Int64 × ae_S) := ae_bd (F_X12_isElement v1 v2.toInt64 s0) (fun (r1 : Int32) s2 => if r1 = 0 then (F_X12_field_38 s2) else (ae_gd (ae_ib v1 32) (ae_bd (F_X12_isIn v3.toInt64 (0 : Int64) (((s2.1 42 0 v1.toNatClampNeg) - (1 : Int32)).toInt64) s2) (fun (r9 : Int32) s10 => if r9 = 0 then (F_X12_field_38 s10) else (ae_bd (F_X12_fieldOf v1 v2 v3 s10) (fun (r15 : Int64) s16 => F_X12_field_41 r15 s16))))))
set_option maxHeartbeats 4000000 in
set_option maxRecDepth 100000 in
theorem c_X12_field {l : Launch} {G : ae_G} (d : Nat) {v1 : Int32} {v2 : Int32} {v3 : Int32} {s0 ss : ae_S} {rr : Int64} (hF : F_X12_field v1 v2 v3 s0 = some (rr, ss)) : ae_Met l G (d + 3) yX12_field mX12_field [ae_r (some (30, 0)), ae_i v1, ae_i v2, ae_i v3] s0 (ae_Po (some (ae_l rr)) ss) := by
  refine ae_enter (by decide) rfl (Nat.le_of_ble_eq_true rfl) ?_
  show ae_T l G (d + 3) mX12_field (ae_Po (some (ae_l rr)) ss) 0 [(0, ae_r (some (30, 0))), (1, ae_i v1), (2, ae_i v2), (3, ae_i v3)] [] s0
  unfold F_X12_field at hF
  refine ae_aload_n 0 dX12_field_0 rfl ?_
  refine ae_iload_n 1 dX12_field_1 rfl ?_
  refine ae_iload_n 2 dX12_field_2 rfl ?_
  refine ae_i2l dX12_field_3 ?_
  obtain ⟨r1, s2, hc3, hF4⟩ := ae_bdI hF
  refine ae_cV1 (q := (30, 0)) (As := [ae_i v1, ae_l v2.toInt64]) dX12_field_4 ww_1631 vy_X12_isElement rfl rfl rfl rfl rfl (Nat.le_of_ble_eq_true rfl) (c_X12_isElement d hc3) ?_
  refine ae_if_eq 38 dX12_field_7 rfl (fun hb5 => ?_) (fun hb5 => ?_)
  · have hF6 := ae_ifT hb5 hF4
    refine ae_pick (lv' := []) [] rfl ?_
    exact t_X12_field_38 d s2 hF6
  · have hF6 := ae_ifF hb5 hF4
    refine ae_iload_n 3 dX12_field_10 rfl ?_
    refine ae_i2l dX12_field_11 ?_
    refine ae_lconst (0 : Int64) dX12_field_12 (by decide) ?_
    refine ae_aload_n 0 dX12_field_13 rfl ?_
    refine ae_getA (q := (30, 0)) (some (42, 0)) dX12_field_14 fl_RX12_47 rfl rfl rfl ?_
    refine ae_iload_n 1 dX12_field_17 rfl ?_
    obtain ⟨hg7, hF8⟩ := ae_gdI hF6
    refine ae_iald (q := (42, 0)) dX12_field_18 rfl rfl (ae_ibI hg7) ?_
    refine ae_iconst (1 : Int32) dX12_field_19 (by decide) ?_
    refine ae_isub dX12_field_20 ?_
    refine ae_i2l dX12_field_21 ?_
    obtain ⟨r9, s10, hc11, hF12⟩ := ae_bdI hF8
    refine ae_cS1 (As := [ae_l v3.toInt64, ae_l (0 : Int64), ae_l (((s2.1 42 0 v1.toNatClampNeg) - (1 : Int32)).toInt64)]) dX12_field_22 ww_1461 vy_X12_isIn rfl rfl (Nat.le_of_ble_eq_true rfl) (c_X12_isIn (d + 2) hc11) ?_
    refine ae_if_eq 38 dX12_field_25 rfl (fun hb13 => ?_) (fun hb13 => ?_)
    · have hF14 := ae_ifT hb13 hF12
      refine ae_pick (lv' := []) [] rfl ?_
      exact t_X12_field_38 d s10 hF14
    · have hF14 := ae_ifF hb13 hF12
      refine ae_aload_n 0 dX12_field_28 rfl ?_
      refine ae_iload_n 1 dX12_field_29 rfl ?_
      refine ae_iload_n 2 dX12_field_30 rfl ?_
      refine ae_iload_n 3 dX12_field_31 rfl ?_
      obtain ⟨r15, s16, hc17, hF18⟩ := ae_bdI hF14
      refine ae_cV1 (q := (30, 0)) (As := [ae_i v1, ae_i v2, ae_i v3]) dX12_field_32 ww_1699 vy_X12_fieldOf rfl rfl rfl rfl rfl (Nat.le_of_ble_eq_true rfl) (c_X12_fieldOf d hc17) ?_
      refine ae_goto 41 dX12_field_35 rfl ?_
      refine ae_pick (lv' := []) [] rfl ?_
      exact t_X12_field_41 d r15 s16 hF18
abbrev mX12_bitsBy : ae_M := (RX12, cX12_bitsBy, 7, some .long)
theorem vy_X12_bitsBy : ae_VY yX12_bitsBy mX12_bitsBy 4 := ⟨ww_1713, wq_83, ww_13, ww_1714, ⟨by decide, by decide, by decide +kernel⟩, by decide⟩
theorem dX12_bitsBy_0 : decode cX12_bitsBy 0 = .ok (.aload_n 0, 1) := by decide +kernel
theorem dX12_bitsBy_1 : decode cX12_bitsBy 1 = .ok (.getfield 29, 3) := by decide +kernel
theorem dX12_bitsBy_4 : decode cX12_bitsBy 4 = .ok (.iload_n 1, 1) := by decide +kernel
theorem dX12_bitsBy_5 : decode cX12_bitsBy 5 = .ok (.iaload, 1) := by decide +kernel
theorem dX12_bitsBy_6 : decode cX12_bitsBy 6 = .ok (.bipush 7, 2) := by decide +kernel
theorem dX12_bitsBy_8 : decode cX12_bitsBy 8 = .ok (.if_icmp .ne 20, 3) := by decide +kernel
theorem dX12_bitsBy_11 : decode cX12_bitsBy 11 = .ok (.iload_n 2, 1) := by decide +kernel
theorem dX12_bitsBy_12 : decode cX12_bitsBy 12 = .ok (.ifCond .eq 9, 3) := by decide +kernel
theorem dX12_bitsBy_15 : decode cX12_bitsBy 15 = .ok (.dload 5, 2) := by decide +kernel
theorem dX12_bitsBy_17 : decode cX12_bitsBy 17 = .ok (.d2f, 1) := by decide +kernel
theorem dX12_bitsBy_18 : decode cX12_bitsBy 18 = .ok (.goto 5, 3) := by decide +kernel
theorem dX12_bitsBy_21 : decode cX12_bitsBy 21 = .ok (.lload_n 3, 1) := by decide +kernel
theorem dX12_bitsBy_22 : decode cX12_bitsBy 22 = .ok (.l2f, 1) := by decide +kernel
theorem dX12_bitsBy_23 : decode cX12_bitsBy 23 = .ok (.invokestatic 326, 3) := by decide +kernel
theorem dX12_bitsBy_26 : decode cX12_bitsBy 26 = .ok (.i2l, 1) := by decide +kernel
theorem dX12_bitsBy_27 : decode cX12_bitsBy 27 = .ok (.lreturn, 1) := by decide +kernel
theorem dX12_bitsBy_28 : decode cX12_bitsBy 28 = .ok (.aload_n 0, 1) := by decide +kernel
theorem dX12_bitsBy_29 : decode cX12_bitsBy 29 = .ok (.getfield 29, 3) := by decide +kernel
theorem dX12_bitsBy_32 : decode cX12_bitsBy 32 = .ok (.iload_n 1, 1) := by decide +kernel
theorem dX12_bitsBy_33 : decode cX12_bitsBy 33 = .ok (.iaload, 1) := by decide +kernel
theorem dX12_bitsBy_34 : decode cX12_bitsBy 34 = .ok (.bipush 8, 2) := by decide +kernel
theorem dX12_bitsBy_36 : decode cX12_bitsBy 36 = .ok (.if_icmp .ne 18, 3) := by decide +kernel
theorem dX12_bitsBy_39 : decode cX12_bitsBy 39 = .ok (.iload_n 2, 1) := by decide +kernel
theorem dX12_bitsBy_40 : decode cX12_bitsBy 40 = .ok (.ifCond .eq 8, 3) := by decide +kernel
theorem dX12_bitsBy_43 : decode cX12_bitsBy 43 = .ok (.dload 5, 2) := by decide +kernel
theorem dX12_bitsBy_45 : decode cX12_bitsBy 45 = .ok (.goto 5, 3) := by decide +kernel
theorem dX12_bitsBy_48 : decode cX12_bitsBy 48 = .ok (.lload_n 3, 1) := by decide +kernel
theorem dX12_bitsBy_49 : decode cX12_bitsBy 49 = .ok (.l2d, 1) := by decide +kernel
theorem dX12_bitsBy_50 : decode cX12_bitsBy 50 = .ok (.invokestatic 330, 3) := by decide +kernel
theorem dX12_bitsBy_53 : decode cX12_bitsBy 53 = .ok (.lreturn, 1) := by decide +kernel
theorem dX12_bitsBy_54 : decode cX12_bitsBy 54 = .ok (.iload_n 2, 1) := by decide +kernel
theorem dX12_bitsBy_55 : decode cX12_bitsBy 55 = .ok (.ifCond .eq 9, 3) := by decide +kernel
theorem dX12_bitsBy_58 : decode cX12_bitsBy 58 = .ok (.dload 5, 2) := by decide +kernel
theorem dX12_bitsBy_60 : decode cX12_bitsBy 60 = .ok (.d2l, 1) := by decide +kernel
theorem dX12_bitsBy_61 : decode cX12_bitsBy 61 = .ok (.goto 4, 3) := by decide +kernel
theorem dX12_bitsBy_64 : decode cX12_bitsBy 64 = .ok (.lload_n 3, 1) := by decide +kernel
theorem dX12_bitsBy_65 : decode cX12_bitsBy 65 = .ok (.lreturn, 1) := by decide +kernel
def F_X12_bitsBy_65 (t0 : Int64) (s0 : ae_S) : Option (Int64 × ae_S) := some (t0, s0)
set_option maxHeartbeats 4000000 in
set_option maxRecDepth 100000 in
theorem t_X12_bitsBy_65 {l : Launch} {G : ae_G} (d : Nat) {rr : Int64} {ss : ae_S} (t0 : Int64) (s0 : ae_S) (hF : F_X12_bitsBy_65 t0 s0 = some (rr, ss)) : ae_T l G (d + 2) mX12_bitsBy (ae_Po (some (ae_l rr)) ss) 65 [] [ae_l t0] s0 := by
  unfold F_X12_bitsBy_65 at hF
  obtain ⟨rfl, rfl⟩ := ae_retI hF
  exact ae_lret dX12_bitsBy_65 rfl ⟨rfl, rfl⟩
def F_X12_bitsBy_50 (t0 : UInt64) (s0 : ae_S) : Option (Int64 × ae_S) := some (ae_db t0, s0)
set_option maxHeartbeats 4000000 in
set_option maxRecDepth 100000 in
theorem t_X12_bitsBy_50 {l : Launch} {G : ae_G} (d : Nat) {rr : Int64} {ss : ae_S} (t0 : UInt64) (s0 : ae_S) (hF : F_X12_bitsBy_50 t0 s0 = some (rr, ss)) : ae_T l G (d + 2) mX12_bitsBy (ae_Po (some (ae_l rr)) ss) 50 [] [ae_d t0] s0 := by
  unfold F_X12_bitsBy_50 at hF
  refine ae_dtl dX12_bitsBy_50 ww_1676 (Nat.le_of_ble_eq_true rfl) ?_
  obtain ⟨rfl, rfl⟩ := ae_retI hF
  exact ae_lret dX12_bitsBy_53 rfl ⟨rfl, rfl⟩
def F_X12_bitsBy_23 (t0 : UInt32) (s0 : ae_S) : Option (Int64 × ae_S) := some ((ae_fb t0).toInt64, s0)
set_option maxHeartbeats 4000000 in
set_option maxRecDepth 100000 in
theorem t_X12_bitsBy_23 {l : Launch} {G : ae_G} (d : Nat) {rr : Int64} {ss : ae_S} (t0 : UInt32) (s0 : ae_S) (hF : F_X12_bitsBy_23 t0 s0 = some (rr, ss)) : ae_T l G (d + 2) mX12_bitsBy (ae_Po (some (ae_l rr)) ss) 23 [] [ae_f t0] s0 := by
  unfold F_X12_bitsBy_23 at hF
  refine ae_fti dX12_bitsBy_23 ww_1666 (Nat.le_of_ble_eq_true rfl) ?_
  refine ae_i2l dX12_bitsBy_26 ?_
  obtain ⟨rfl, rfl⟩ := ae_retI hF
  exact ae_lret dX12_bitsBy_27 rfl ⟨rfl, rfl⟩
def F_X12_bitsBy (v1 : Int32) (v2 : Int32) (v3 : Int64) (v5 : UInt64) (s0 : ae_S) : Option (Int64 × ae_S) := ae_gd (ae_ib v1 32) (if (s0.1 36 0 v1.toNatClampNeg) = (7 : Int32) then (if v2 = 0 then (F_X12_bitsBy_23 (FP.l2f v3) s0) else (F_X12_bitsBy_23 (FP.d2f v5) s0)) else (ae_gd (ae_ib v1 32) (if (s0.1 36 0 v1.toNatClampNeg) = (8 : Int32) then (if v2 = 0 then (F_X12_bitsBy_50 (FP.l2d v3) s0) else (F_X12_bitsBy_50 v5 s0)) else (if v2 = 0 then (F_X12_bitsBy_65 v3 s0) else (F_X12_bitsBy_65 (FP.d2l v5) s0)))))
set_option maxHeartbeats 4000000 in
set_option maxRecDepth 100000 in
theorem c_X12_bitsBy {l : Launch} {G : ae_G} (d : Nat) {v1 : Int32} {v2 : Int32} {v3 : Int64} {v5 : UInt64} {s0 ss : ae_S} {rr : Int64} (hF : F_X12_bitsBy v1 v2 v3 v5 s0 = some (rr, ss)) : ae_Met l G (d + 2) yX12_bitsBy mX12_bitsBy [ae_r (some (30, 0)), ae_i v1, ae_i v2, ae_l v3, ae_d v5] s0 (ae_Po (some (ae_l rr)) ss) := by
  refine ae_enter (by decide) rfl (Nat.le_of_ble_eq_true rfl) ?_
  show ae_T l G (d + 2) mX12_bitsBy (ae_Po (some (ae_l rr)) ss) 0 [(0, ae_r (some (30, 0))), (1, ae_i v1), (2, ae_i v2), (3, ae_l v3), (5, ae_d v5)] [] s0
  unfold F_X12_bitsBy at hF
  refine ae_aload_n 0 dX12_bitsBy_0 rfl ?_
  refine ae_getA (q := (30, 0)) (some (36, 0)) dX12_bitsBy_1 fl_RX12_29 rfl rfl rfl ?_
  refine ae_iload_n 1 dX12_bitsBy_4 rfl ?_
  obtain ⟨hg1, hF2⟩ := ae_gdI hF
  refine ae_iald (q := (36, 0)) dX12_bitsBy_5 rfl rfl (ae_ibI hg1) ?_
  refine ae_bipush (7 : Int32) dX12_bitsBy_6 (by decide) ?_
  refine ae_icmp_ne 28 dX12_bitsBy_8 rfl (fun hb3 => ?_) (fun hb3 => ?_)
  · have hF4 := ae_ifF hb3 hF2
    refine ae_aload_n 0 dX12_bitsBy_28 rfl ?_
    refine ae_getA (q := (30, 0)) (some (36, 0)) dX12_bitsBy_29 fl_RX12_29 rfl rfl rfl ?_
    refine ae_iload_n 1 dX12_bitsBy_32 rfl ?_
    obtain ⟨hg5, hF6⟩ := ae_gdI hF4
    refine ae_iald (q := (36, 0)) dX12_bitsBy_33 rfl rfl (ae_ibI hg5) ?_
    refine ae_bipush (8 : Int32) dX12_bitsBy_34 (by decide) ?_
    refine ae_icmp_ne 54 dX12_bitsBy_36 rfl (fun hb7 => ?_) (fun hb7 => ?_)
    · have hF8 := ae_ifF hb7 hF6
      refine ae_iload_n 2 dX12_bitsBy_54 rfl ?_
      refine ae_if_eq 64 dX12_bitsBy_55 rfl (fun hb9 => ?_) (fun hb9 => ?_)
      · have hF10 := ae_ifT hb9 hF8
        refine ae_lload_n 3 dX12_bitsBy_64 rfl ?_
        refine ae_pick (lv' := []) [] rfl ?_
        exact t_X12_bitsBy_65 d v3 s0 hF10
      · have hF10 := ae_ifF hb9 hF8
        refine ae_dload 4 dX12_bitsBy_58 rfl ?_
        refine ae_d2l dX12_bitsBy_60 ?_
        refine ae_goto 65 dX12_bitsBy_61 rfl ?_
        refine ae_pick (lv' := []) [] rfl ?_
        exact t_X12_bitsBy_65 d (FP.d2l v5) s0 hF10
    · have hF8 := ae_ifT hb7 hF6
      refine ae_iload_n 2 dX12_bitsBy_39 rfl ?_
      refine ae_if_eq 48 dX12_bitsBy_40 rfl (fun hb11 => ?_) (fun hb11 => ?_)
      · have hF12 := ae_ifT hb11 hF8
        refine ae_lload_n 3 dX12_bitsBy_48 rfl ?_
        refine ae_l2d dX12_bitsBy_49 ?_
        refine ae_pick (lv' := []) [] rfl ?_
        exact t_X12_bitsBy_50 d (FP.l2d v3) s0 hF12
      · have hF12 := ae_ifF hb11 hF8
        refine ae_dload 4 dX12_bitsBy_43 rfl ?_
        refine ae_goto 50 dX12_bitsBy_45 rfl ?_
        refine ae_pick (lv' := []) [] rfl ?_
        exact t_X12_bitsBy_50 d v5 s0 hF12
  · have hF4 := ae_ifT hb3 hF2
    refine ae_iload_n 2 dX12_bitsBy_11 rfl ?_
    refine ae_if_eq 21 dX12_bitsBy_12 rfl (fun hb13 => ?_) (fun hb13 => ?_)
    · have hF14 := ae_ifT hb13 hF4
      refine ae_lload_n 3 dX12_bitsBy_21 rfl ?_
      refine ae_l2f dX12_bitsBy_22 ?_
      refine ae_pick (lv' := []) [] rfl ?_
      exact t_X12_bitsBy_23 d (FP.l2f v3) s0 hF14
    · have hF14 := ae_ifF hb13 hF4
      refine ae_dload 4 dX12_bitsBy_15 rfl ?_
      refine ae_d2f dX12_bitsBy_17 ?_
      refine ae_goto 23 dX12_bitsBy_18 rfl ?_
      refine ae_pick (lv' := []) [] rfl ?_
      exact t_X12_bitsBy_23 d (FP.d2f v5) s0 hF14
abbrev mX12_writes : ae_M := (RX12, cX12_writes, 5, none)
theorem vy_X12_writes : ae_VY yX12_writes mX12_writes 3 := ⟨ww_1717, wq_84, ww_13, ww_1718, ⟨by decide, by decide, by decide +kernel⟩, by decide⟩
theorem dX12_writes_0 : decode cX12_writes 0 = .ok (.aload_n 0, 1) := by decide +kernel
theorem dX12_writes_1 : decode cX12_writes 1 = .ok (.iload_n 1, 1) := by decide +kernel
theorem dX12_writes_2 : decode cX12_writes 2 = .ok (.iload_n 2, 1) := by decide +kernel
theorem dX12_writes_3 : decode cX12_writes 3 = .ok (.aload_n 0, 1) := by decide +kernel
theorem dX12_writes_4 : decode cX12_writes 4 = .ok (.getfield 44, 3) := by decide +kernel
theorem dX12_writes_7 : decode cX12_writes 7 = .ok (.iload_n 1, 1) := by decide +kernel
theorem dX12_writes_8 : decode cX12_writes 8 = .ok (.iaload, 1) := by decide +kernel
theorem dX12_writes_9 : decode cX12_writes 9 = .ok (.iconst 2, 1) := by decide +kernel
theorem dX12_writes_10 : decode cX12_writes 10 = .ok (.if_icmp .ne 18, 3) := by decide +kernel
theorem dX12_writes_13 : decode cX12_writes 13 = .ok (.aload_n 0, 1) := by decide +kernel
theorem dX12_writes_14 : decode cX12_writes 14 = .ok (.iload_n 1, 1) := by decide +kernel
theorem dX12_writes_15 : decode cX12_writes 15 = .ok (.iload_n 2, 1) := by decide +kernel
theorem dX12_writes_16 : decode cX12_writes 16 = .ok (.invokevirtual 300, 3) := by decide +kernel
theorem dX12_writes_19 : decode cX12_writes 19 = .ok (.lload_n 3, 1) := by decide +kernel
theorem dX12_writes_20 : decode cX12_writes 20 = .ok (.ldc2_w 334, 3) := by decide +kernel
theorem dX12_writes_23 : decode cX12_writes 23 = .ok (.lxor, 1) := by decide +kernel
theorem dX12_writes_24 : decode cX12_writes 24 = .ok (.land, 1) := by decide +kernel
theorem dX12_writes_25 : decode cX12_writes 25 = .ok (.goto 4, 3) := by decide +kernel
theorem dX12_writes_28 : decode cX12_writes 28 = .ok (.lload_n 3, 1) := by decide +kernel
theorem dX12_writes_29 : decode cX12_writes 29 = .ok (.invokevirtual 336, 3) := by decide +kernel
theorem dX12_writes_32 : decode cX12_writes 32 = .ok (.return_, 1) := by decide +kernel
def F_X12_writes_29 (t0 : Int64) (t1 : Int32) (t2 : Int32) (s0 : ae_S) : Option (Unit × ae_S) := ae_bd (F_X12_lays t2 t1 t0 s0) (fun (r1 : Unit) s2 => some ((), s2))
set_option maxHeartbeats 4000000 in
set_option maxRecDepth 100000 in
theorem t_X12_writes_29 {l : Launch} {G : ae_G} (d : Nat) {rr : Unit} {ss : ae_S} (t0 : Int64) (t1 : Int32) (t2 : Int32) (s0 : ae_S) (hF : F_X12_writes_29 t0 t1 t2 s0 = some (rr, ss)) : ae_T l G (d + 2) mX12_writes (ae_Po none ss) 29 [] [ae_l t0, ae_i t1, ae_i t2, ae_r (some (30, 0))] s0 := by
  unfold F_X12_writes_29 at hF
  obtain ⟨r1, s2, hc3, hF4⟩ := ae_bdI hF
  refine ae_cV0 (q := (30, 0)) (As := [ae_i t2, ae_i t1, ae_l t0]) dX12_writes_29 ww_1686 vy_X12_lays rfl rfl rfl rfl rfl (Nat.le_of_ble_eq_true rfl) (c_X12_lays d hc3) ?_
  obtain ⟨rfl, rfl⟩ := ae_retI hF4
  exact ae_vret dX12_writes_32 rfl ⟨rfl, rfl⟩
def F_X12_writes (v1 : Int32) (v2 : Int32) (v3 : Int64) (s0 : ae_S) : Option (Unit × ae_S) := ae_gd (ae_ib v1 32) (if (s0.1 41 0 v1.toNatClampNeg) = (2 : Int32) then (ae_bd (F_X12_bitsOf v1 v2 s0) (fun (r9 : Int64) s10 => F_X12_writes_29 (r9 &&& (v3 ^^^ (-1 : Int64))) v2 v1 s10)) else (F_X12_writes_29 v3 v2 v1 s0))
set_option maxHeartbeats 4000000 in
set_option maxRecDepth 100000 in
theorem c_X12_writes {l : Launch} {G : ae_G} (d : Nat) {v1 : Int32} {v2 : Int32} {v3 : Int64} {s0 ss : ae_S} {rr : Unit} (hF : F_X12_writes v1 v2 v3 s0 = some (rr, ss)) : ae_Met l G (d + 2) yX12_writes mX12_writes [ae_r (some (30, 0)), ae_i v1, ae_i v2, ae_l v3] s0 (ae_Po none ss) := by
  refine ae_enter (by decide) rfl (Nat.le_of_ble_eq_true rfl) ?_
  show ae_T l G (d + 2) mX12_writes (ae_Po none ss) 0 [(0, ae_r (some (30, 0))), (1, ae_i v1), (2, ae_i v2), (3, ae_l v3)] [] s0
  unfold F_X12_writes at hF
  refine ae_aload_n 0 dX12_writes_0 rfl ?_
  refine ae_iload_n 1 dX12_writes_1 rfl ?_
  refine ae_iload_n 2 dX12_writes_2 rfl ?_
  refine ae_aload_n 0 dX12_writes_3 rfl ?_
  refine ae_getA (q := (30, 0)) (some (41, 0)) dX12_writes_4 fl_RX12_44 rfl rfl rfl ?_
  refine ae_iload_n 1 dX12_writes_7 rfl ?_
  obtain ⟨hg5, hF6⟩ := ae_gdI hF
  refine ae_iald (q := (41, 0)) dX12_writes_8 rfl rfl (ae_ibI hg5) ?_
  refine ae_iconst (2 : Int32) dX12_writes_9 (by decide) ?_
  refine ae_icmp_ne 28 dX12_writes_10 rfl (fun hb7 => ?_) (fun hb7 => ?_)
  · have hF8 := ae_ifF hb7 hF6
    refine ae_lload_n 3 dX12_writes_28 rfl ?_
    refine ae_pick (lv' := []) [] rfl ?_
    exact t_X12_writes_29 d v3 v2 v1 s0 hF8
  · have hF8 := ae_ifT hb7 hF6
    refine ae_aload_n 0 dX12_writes_13 rfl ?_
    refine ae_iload_n 1 dX12_writes_14 rfl ?_
    refine ae_iload_n 2 dX12_writes_15 rfl ?_
    obtain ⟨r9, s10, hc11, hF12⟩ := ae_bdI hF8
    refine ae_cV1 (q := (30, 0)) (As := [ae_i v1, ae_i v2]) dX12_writes_16 ww_1652 vy_X12_bitsOf rfl rfl rfl rfl rfl (Nat.le_of_ble_eq_true rfl) (c_X12_bitsOf d hc11) ?_
    refine ae_lload_n 3 dX12_writes_19 rfl ?_
    refine ae_ldc2 dX12_writes_20 ww_1706 ?_
    refine ae_lxor dX12_writes_23 ?_
    refine ae_land dX12_writes_24 ?_
    refine ae_goto 29 dX12_writes_25 rfl ?_
    refine ae_pick (lv' := []) [] rfl ?_
    exact t_X12_writes_29 d (r9 &&& (v3 ^^^ (-1 : Int64))) v2 v1 s10 hF12
abbrev mX12_write : ae_M := (RX12, cX12_write, 5, some .boolean)
theorem vy_X12_write : ae_VY yX12_write mX12_write 3 := ⟨ww_1708, ww_1709, ww_13, ww_1710, ⟨by decide, by decide, by decide +kernel⟩, by decide⟩
theorem dX12_write_0 : decode cX12_write 0 = .ok (.aload_n 0, 1) := by decide +kernel
theorem dX12_write_1 : decode cX12_write 1 = .ok (.iload_n 1, 1) := by decide +kernel
theorem dX12_write_2 : decode cX12_write 2 = .ok (.iload_n 2, 1) := by decide +kernel
theorem dX12_write_3 : decode cX12_write 3 = .ok (.i2l, 1) := by decide +kernel
theorem dX12_write_4 : decode cX12_write 4 = .ok (.invokevirtual 343, 3) := by decide +kernel
theorem dX12_write_7 : decode cX12_write 7 = .ok (.ifCond .eq 13, 3) := by decide +kernel
theorem dX12_write_10 : decode cX12_write 10 = .ok (.aload_n 0, 1) := by decide +kernel
theorem dX12_write_11 : decode cX12_write 11 = .ok (.getfield 44, 3) := by decide +kernel
theorem dX12_write_14 : decode cX12_write 14 = .ok (.iload_n 1, 1) := by decide +kernel
theorem dX12_write_15 : decode cX12_write 15 = .ok (.iaload, 1) := by decide +kernel
theorem dX12_write_16 : decode cX12_write 16 = .ok (.iconst 1, 1) := by decide +kernel
theorem dX12_write_17 : decode cX12_write 17 = .ok (.if_icmp .ne 5, 3) := by decide +kernel
theorem dX12_write_20 : decode cX12_write 20 = .ok (.iconst 0, 1) := by decide +kernel
theorem dX12_write_21 : decode cX12_write 21 = .ok (.ireturn, 1) := by decide +kernel
theorem dX12_write_22 : decode cX12_write 22 = .ok (.aload_n 0, 1) := by decide +kernel
theorem dX12_write_23 : decode cX12_write 23 = .ok (.invokevirtual 115, 3) := by decide +kernel
theorem dX12_write_26 : decode cX12_write 26 = .ok (.aload_n 0, 1) := by decide +kernel
theorem dX12_write_27 : decode cX12_write 27 = .ok (.iload_n 1, 1) := by decide +kernel
theorem dX12_write_28 : decode cX12_write 28 = .ok (.iload_n 2, 1) := by decide +kernel
theorem dX12_write_29 : decode cX12_write 29 = .ok (.aload_n 0, 1) := by decide +kernel
theorem dX12_write_30 : decode cX12_write 30 = .ok (.iload_n 1, 1) := by decide +kernel
theorem dX12_write_31 : decode cX12_write 31 = .ok (.iconst 0, 1) := by decide +kernel
theorem dX12_write_32 : decode cX12_write 32 = .ok (.lload_n 3, 1) := by decide +kernel
theorem dX12_write_33 : decode cX12_write 33 = .ok (.dconst 0, 1) := by decide +kernel
theorem dX12_write_34 : decode cX12_write 34 = .ok (.invokevirtual 356, 3) := by decide +kernel
theorem dX12_write_37 : decode cX12_write 37 = .ok (.invokevirtual 360, 3) := by decide +kernel
theorem dX12_write_40 : decode cX12_write 40 = .ok (.aload_n 0, 1) := by decide +kernel
theorem dX12_write_41 : decode cX12_write 41 = .ok (.iconst 1, 1) := by decide +kernel
theorem dX12_write_42 : decode cX12_write 42 = .ok (.invokevirtual 118, 3) := by decide +kernel
theorem dX12_write_45 : decode cX12_write 45 = .ok (.iconst 1, 1) := by decide +kernel
theorem dX12_write_46 : decode cX12_write 46 = .ok (.ireturn, 1) := by decide +kernel
def F_X12_write_20 (s0 : ae_S) : Option (Int32 × ae_S) := some ((0 : Int32), s0)
set_option maxHeartbeats 4000000 in
set_option maxRecDepth 100000 in
theorem t_X12_write_20 {l : Launch} {G : ae_G} (d : Nat) {rr : Int32} {ss : ae_S} (s0 : ae_S) (hF : F_X12_write_20 s0 = some (rr, ss)) : ae_T l G (d + 3) mX12_write (ae_Po (some (ae_i rr)) ss) 20 [] [] s0 := by
  unfold F_X12_write_20 at hF
  refine ae_iconst (0 : Int32) dX12_write_20 (by decide) ?_
  obtain ⟨rfl, rfl⟩ := ae_retI hF
  exact ae_iret dX12_write_21 rfl (by decide) ⟨rfl, rfl⟩
def F_X12_write (v1 : Int32) (v2 : Int32) (v3 : Int64) (s0 : ae_S) : Option (Int32 × ae_S) := ae_bd (F_X12_isElement v1 v2.toInt64 s0) (fun (r1 : Int32) s2 => if r1 = 0 then (F_X12_write_20 s2) else (ae_gd (ae_ib v1 32) (if (s2.1 41 0 v1.toNatClampNeg) = (1 : Int32) then (F_X12_write_20 s2) else (ae_bd (F_X12_begins s2) (fun (r11 : Unit) s12 => ae_bd (F_X12_bitsBy v1 (0 : Int32) v3 FP.dconst0 s12) (fun (r15 : Int64) s16 => ae_bd (F_X12_writes v1 v2 r15 s16) (fun (r19 : Unit) s20 => ae_bd (F_X12_ends (1 : Int32) s20) (fun (r23 : Unit) s24 => some ((1 : Int32), s24)))))))))
set_option maxHeartbeats 4000000 in
set_option maxRecDepth 100000 in
theorem c_X12_write {l : Launch} {G : ae_G} (d : Nat) {v1 : Int32} {v2 : Int32} {v3 : Int64} {s0 ss : ae_S} {rr : Int32} (hF : F_X12_write v1 v2 v3 s0 = some (rr, ss)) : ae_Met l G (d + 3) yX12_write mX12_write [ae_r (some (30, 0)), ae_i v1, ae_i v2, ae_l v3] s0 (ae_Po (some (ae_i rr)) ss) := by
  refine ae_enter (by decide) rfl (Nat.le_of_ble_eq_true rfl) ?_
  show ae_T l G (d + 3) mX12_write (ae_Po (some (ae_i rr)) ss) 0 [(0, ae_r (some (30, 0))), (1, ae_i v1), (2, ae_i v2), (3, ae_l v3)] [] s0
  unfold F_X12_write at hF
  refine ae_aload_n 0 dX12_write_0 rfl ?_
  refine ae_iload_n 1 dX12_write_1 rfl ?_
  refine ae_iload_n 2 dX12_write_2 rfl ?_
  refine ae_i2l dX12_write_3 ?_
  obtain ⟨r1, s2, hc3, hF4⟩ := ae_bdI hF
  refine ae_cV1 (q := (30, 0)) (As := [ae_i v1, ae_l v2.toInt64]) dX12_write_4 ww_1631 vy_X12_isElement rfl rfl rfl rfl rfl (Nat.le_of_ble_eq_true rfl) (c_X12_isElement d hc3) ?_
  refine ae_if_eq 20 dX12_write_7 rfl (fun hb5 => ?_) (fun hb5 => ?_)
  · have hF6 := ae_ifT hb5 hF4
    refine ae_pick (lv' := []) [] rfl ?_
    exact t_X12_write_20 d s2 hF6
  · have hF6 := ae_ifF hb5 hF4
    refine ae_aload_n 0 dX12_write_10 rfl ?_
    refine ae_getA (q := (30, 0)) (some (41, 0)) dX12_write_11 fl_RX12_44 rfl rfl rfl ?_
    refine ae_iload_n 1 dX12_write_14 rfl ?_
    obtain ⟨hg7, hF8⟩ := ae_gdI hF6
    refine ae_iald (q := (41, 0)) dX12_write_15 rfl rfl (ae_ibI hg7) ?_
    refine ae_iconst (1 : Int32) dX12_write_16 (by decide) ?_
    refine ae_icmp_ne 22 dX12_write_17 rfl (fun hb9 => ?_) (fun hb9 => ?_)
    · have hF10 := ae_ifF hb9 hF8
      refine ae_aload_n 0 dX12_write_22 rfl ?_
      obtain ⟨r11, s12, hc13, hF14⟩ := ae_bdI hF10
      refine ae_cV0 (q := (30, 0)) (As := []) dX12_write_23 ww_1468 vy_X12_begins rfl rfl rfl rfl rfl (Nat.le_of_ble_eq_true rfl) (c_X12_begins (d + 2) hc13) ?_
      refine ae_aload_n 0 dX12_write_26 rfl ?_
      refine ae_iload_n 1 dX12_write_27 rfl ?_
      refine ae_iload_n 2 dX12_write_28 rfl ?_
      refine ae_aload_n 0 dX12_write_29 rfl ?_
      refine ae_iload_n 1 dX12_write_30 rfl ?_
      refine ae_iconst (0 : Int32) dX12_write_31 (by decide) ?_
      refine ae_lload_n 3 dX12_write_32 rfl ?_
      refine ae_dconst0 dX12_write_33 ?_
      obtain ⟨r15, s16, hc17, hF18⟩ := ae_bdI hF14
      refine ae_cV1 (q := (30, 0)) (As := [ae_i v1, ae_i (0 : Int32), ae_l v3, ae_d FP.dconst0]) dX12_write_34 ww_1711 vy_X12_bitsBy rfl rfl rfl rfl rfl (Nat.le_of_ble_eq_true rfl) (c_X12_bitsBy d hc17) ?_
      obtain ⟨r19, s20, hc21, hF22⟩ := ae_bdI hF18
      refine ae_cV0 (q := (30, 0)) (As := [ae_i v1, ae_i v2, ae_l r15]) dX12_write_37 ww_1715 vy_X12_writes rfl rfl rfl rfl rfl (Nat.le_of_ble_eq_true rfl) (c_X12_writes d hc21) ?_
      refine ae_aload_n 0 dX12_write_40 rfl ?_
      refine ae_iconst (1 : Int32) dX12_write_41 (by decide) ?_
      obtain ⟨r23, s24, hc25, hF26⟩ := ae_bdI hF22
      refine ae_cV0 (q := (30, 0)) (As := [ae_i (1 : Int32)]) dX12_write_42 ww_1472 vy_X12_ends rfl rfl rfl rfl rfl (Nat.le_of_ble_eq_true rfl) (c_X12_ends (d + 2) hc25) ?_
      refine ae_iconst (1 : Int32) dX12_write_45 (by decide) ?_
      obtain ⟨rfl, rfl⟩ := ae_retI hF26
      exact ae_iret dX12_write_46 rfl (by decide) ⟨rfl, rfl⟩
    · have hF10 := ae_ifT hb9 hF8
      refine ae_pick (lv' := []) [] rfl ?_
      exact t_X12_write_20 d s2 hF10
abbrev mX12_writeFloat : ae_M := (RX12, cX12_writeFloat, 5, some .boolean)
theorem vy_X12_writeFloat : ae_VY yX12_writeFloat mX12_writeFloat 3 := ⟨ww_1720, ww_1721, ww_13, ww_1722, ⟨by decide, by decide, by decide +kernel⟩, by decide⟩
theorem dX12_writeFloat_0 : decode cX12_writeFloat 0 = .ok (.aload_n 0, 1) := by decide +kernel
theorem dX12_writeFloat_1 : decode cX12_writeFloat 1 = .ok (.iload_n 1, 1) := by decide +kernel
theorem dX12_writeFloat_2 : decode cX12_writeFloat 2 = .ok (.iload_n 2, 1) := by decide +kernel
theorem dX12_writeFloat_3 : decode cX12_writeFloat 3 = .ok (.i2l, 1) := by decide +kernel
theorem dX12_writeFloat_4 : decode cX12_writeFloat 4 = .ok (.invokevirtual 343, 3) := by decide +kernel
theorem dX12_writeFloat_7 : decode cX12_writeFloat 7 = .ok (.ifCond .eq 13, 3) := by decide +kernel
theorem dX12_writeFloat_10 : decode cX12_writeFloat 10 = .ok (.aload_n 0, 1) := by decide +kernel
theorem dX12_writeFloat_11 : decode cX12_writeFloat 11 = .ok (.getfield 44, 3) := by decide +kernel
theorem dX12_writeFloat_14 : decode cX12_writeFloat 14 = .ok (.iload_n 1, 1) := by decide +kernel
theorem dX12_writeFloat_15 : decode cX12_writeFloat 15 = .ok (.iaload, 1) := by decide +kernel
theorem dX12_writeFloat_16 : decode cX12_writeFloat 16 = .ok (.iconst 1, 1) := by decide +kernel
theorem dX12_writeFloat_17 : decode cX12_writeFloat 17 = .ok (.if_icmp .ne 5, 3) := by decide +kernel
theorem dX12_writeFloat_20 : decode cX12_writeFloat 20 = .ok (.iconst 0, 1) := by decide +kernel
theorem dX12_writeFloat_21 : decode cX12_writeFloat 21 = .ok (.ireturn, 1) := by decide +kernel
theorem dX12_writeFloat_22 : decode cX12_writeFloat 22 = .ok (.aload_n 0, 1) := by decide +kernel
theorem dX12_writeFloat_23 : decode cX12_writeFloat 23 = .ok (.invokevirtual 115, 3) := by decide +kernel
theorem dX12_writeFloat_26 : decode cX12_writeFloat 26 = .ok (.aload_n 0, 1) := by decide +kernel
theorem dX12_writeFloat_27 : decode cX12_writeFloat 27 = .ok (.iload_n 1, 1) := by decide +kernel
theorem dX12_writeFloat_28 : decode cX12_writeFloat 28 = .ok (.iload_n 2, 1) := by decide +kernel
theorem dX12_writeFloat_29 : decode cX12_writeFloat 29 = .ok (.aload_n 0, 1) := by decide +kernel
theorem dX12_writeFloat_30 : decode cX12_writeFloat 30 = .ok (.iload_n 1, 1) := by decide +kernel
theorem dX12_writeFloat_31 : decode cX12_writeFloat 31 = .ok (.iconst 1, 1) := by decide +kernel
theorem dX12_writeFloat_32 : decode cX12_writeFloat 32 = .ok (.lconst 0, 1) := by decide +kernel
theorem dX12_writeFloat_33 : decode cX12_writeFloat 33 = .ok (.lload_n 3, 1) := by decide +kernel
theorem dX12_writeFloat_34 : decode cX12_writeFloat 34 = .ok (.invokestatic 310, 3) := by decide +kernel
theorem dX12_writeFloat_37 : decode cX12_writeFloat 37 = .ok (.invokevirtual 356, 3) := by decide +kernel
theorem dX12_writeFloat_40 : decode cX12_writeFloat 40 = .ok (.invokevirtual 360, 3) := by decide +kernel
theorem dX12_writeFloat_43 : decode cX12_writeFloat 43 = .ok (.aload_n 0, 1) := by decide +kernel
theorem dX12_writeFloat_44 : decode cX12_writeFloat 44 = .ok (.iconst 1, 1) := by decide +kernel
theorem dX12_writeFloat_45 : decode cX12_writeFloat 45 = .ok (.invokevirtual 118, 3) := by decide +kernel
theorem dX12_writeFloat_48 : decode cX12_writeFloat 48 = .ok (.iconst 1, 1) := by decide +kernel
theorem dX12_writeFloat_49 : decode cX12_writeFloat 49 = .ok (.ireturn, 1) := by decide +kernel
def F_X12_writeFloat_20 (s0 : ae_S) : Option (Int32 × ae_S) := some ((0 : Int32), s0)
set_option maxHeartbeats 4000000 in
set_option maxRecDepth 100000 in
theorem t_X12_writeFloat_20 {l : Launch} {G : ae_G} (d : Nat) {rr : Int32} {ss : ae_S} (s0 : ae_S) (hF : F_X12_writeFloat_20 s0 = some (rr, ss)) : ae_T l G (d + 3) mX12_writeFloat (ae_Po (some (ae_i rr)) ss) 20 [] [] s0 := by
  unfold F_X12_writeFloat_20 at hF
  refine ae_iconst (0 : Int32) dX12_writeFloat_20 (by decide) ?_
  obtain ⟨rfl, rfl⟩ := ae_retI hF
  exact ae_iret dX12_writeFloat_21 rfl (by decide) ⟨rfl, rfl⟩
def F_X12_writeFloat (v1 : Int32) (v2 : Int32) (v3 : Int64) (s0 : ae_S) : Option (Int32 × ae_S) := ae_bd (F_X12_isElement v1 v2.toInt64 s0) (fun (r1 : Int32) s2 => if r1 = 0 then (F_X12_writeFloat_20 s2) else (ae_gd (ae_ib v1 32) (if (s2.1 41 0 v1.toNatClampNeg) = (1 : Int32) then (F_X12_writeFloat_20 s2) else (ae_bd (F_X12_begins s2) (fun (r11 : Unit) s12 => ae_bd (F_X12_bitsBy v1 (1 : Int32) (0 : Int64) v3.toUInt64 s12) (fun (r15 : Int64) s16 => ae_bd (F_X12_writes v1 v2 r15 s16) (fun (r19 : Unit) s20 => ae_bd (F_X12_ends (1 : Int32) s20) (fun (r23 : Unit) s24 => some ((1 : Int32), s24)))))))))
set_option maxHeartbeats 4000000 in
set_option maxRecDepth 100000 in
theorem c_X12_writeFloat {l : Launch} {G : ae_G} (d : Nat) {v1 : Int32} {v2 : Int32} {v3 : Int64} {s0 ss : ae_S} {rr : Int32} (hF : F_X12_writeFloat v1 v2 v3 s0 = some (rr, ss)) : ae_Met l G (d + 3) yX12_writeFloat mX12_writeFloat [ae_r (some (30, 0)), ae_i v1, ae_i v2, ae_l v3] s0 (ae_Po (some (ae_i rr)) ss) := by
  refine ae_enter (by decide) rfl (Nat.le_of_ble_eq_true rfl) ?_
  show ae_T l G (d + 3) mX12_writeFloat (ae_Po (some (ae_i rr)) ss) 0 [(0, ae_r (some (30, 0))), (1, ae_i v1), (2, ae_i v2), (3, ae_l v3)] [] s0
  unfold F_X12_writeFloat at hF
  refine ae_aload_n 0 dX12_writeFloat_0 rfl ?_
  refine ae_iload_n 1 dX12_writeFloat_1 rfl ?_
  refine ae_iload_n 2 dX12_writeFloat_2 rfl ?_
  refine ae_i2l dX12_writeFloat_3 ?_
  obtain ⟨r1, s2, hc3, hF4⟩ := ae_bdI hF
  refine ae_cV1 (q := (30, 0)) (As := [ae_i v1, ae_l v2.toInt64]) dX12_writeFloat_4 ww_1631 vy_X12_isElement rfl rfl rfl rfl rfl (Nat.le_of_ble_eq_true rfl) (c_X12_isElement d hc3) ?_
  refine ae_if_eq 20 dX12_writeFloat_7 rfl (fun hb5 => ?_) (fun hb5 => ?_)
  · have hF6 := ae_ifT hb5 hF4
    refine ae_pick (lv' := []) [] rfl ?_
    exact t_X12_writeFloat_20 d s2 hF6
  · have hF6 := ae_ifF hb5 hF4
    refine ae_aload_n 0 dX12_writeFloat_10 rfl ?_
    refine ae_getA (q := (30, 0)) (some (41, 0)) dX12_writeFloat_11 fl_RX12_44 rfl rfl rfl ?_
    refine ae_iload_n 1 dX12_writeFloat_14 rfl ?_
    obtain ⟨hg7, hF8⟩ := ae_gdI hF6
    refine ae_iald (q := (41, 0)) dX12_writeFloat_15 rfl rfl (ae_ibI hg7) ?_
    refine ae_iconst (1 : Int32) dX12_writeFloat_16 (by decide) ?_
    refine ae_icmp_ne 22 dX12_writeFloat_17 rfl (fun hb9 => ?_) (fun hb9 => ?_)
    · have hF10 := ae_ifF hb9 hF8
      refine ae_aload_n 0 dX12_writeFloat_22 rfl ?_
      obtain ⟨r11, s12, hc13, hF14⟩ := ae_bdI hF10
      refine ae_cV0 (q := (30, 0)) (As := []) dX12_writeFloat_23 ww_1468 vy_X12_begins rfl rfl rfl rfl rfl (Nat.le_of_ble_eq_true rfl) (c_X12_begins (d + 2) hc13) ?_
      refine ae_aload_n 0 dX12_writeFloat_26 rfl ?_
      refine ae_iload_n 1 dX12_writeFloat_27 rfl ?_
      refine ae_iload_n 2 dX12_writeFloat_28 rfl ?_
      refine ae_aload_n 0 dX12_writeFloat_29 rfl ?_
      refine ae_iload_n 1 dX12_writeFloat_30 rfl ?_
      refine ae_iconst (1 : Int32) dX12_writeFloat_31 (by decide) ?_
      refine ae_lconst (0 : Int64) dX12_writeFloat_32 (by decide) ?_
      refine ae_lload_n 3 dX12_writeFloat_33 rfl ?_
      refine ae_lbd dX12_writeFloat_34 ww_1663 ww_1665 ww_1664 ww_24 (Nat.le_of_ble_eq_true rfl) ?_
      obtain ⟨r15, s16, hc17, hF18⟩ := ae_bdI hF14
      refine ae_cV1 (q := (30, 0)) (As := [ae_i v1, ae_i (1 : Int32), ae_l (0 : Int64), ae_d v3.toUInt64]) dX12_writeFloat_37 ww_1711 vy_X12_bitsBy rfl rfl rfl rfl rfl (Nat.le_of_ble_eq_true rfl) (c_X12_bitsBy d hc17) ?_
      obtain ⟨r19, s20, hc21, hF22⟩ := ae_bdI hF18
      refine ae_cV0 (q := (30, 0)) (As := [ae_i v1, ae_i v2, ae_l r15]) dX12_writeFloat_40 ww_1715 vy_X12_writes rfl rfl rfl rfl rfl (Nat.le_of_ble_eq_true rfl) (c_X12_writes d hc21) ?_
      refine ae_aload_n 0 dX12_writeFloat_43 rfl ?_
      refine ae_iconst (1 : Int32) dX12_writeFloat_44 (by decide) ?_
      obtain ⟨r23, s24, hc25, hF26⟩ := ae_bdI hF22
      refine ae_cV0 (q := (30, 0)) (As := [ae_i (1 : Int32)]) dX12_writeFloat_45 ww_1472 vy_X12_ends rfl rfl rfl rfl rfl (Nat.le_of_ble_eq_true rfl) (c_X12_ends (d + 2) hc25) ?_
      refine ae_iconst (1 : Int32) dX12_writeFloat_48 (by decide) ?_
      obtain ⟨rfl, rfl⟩ := ae_retI hF26
      exact ae_iret dX12_writeFloat_49 rfl (by decide) ⟨rfl, rfl⟩
    · have hF10 := ae_ifT hb9 hF8
      refine ae_pick (lv' := []) [] rfl ?_
      exact t_X12_writeFloat_20 d s2 hF10
abbrev mX12_comesBack : ae_M := (RX12, cX12_comesBack, 3, none)
theorem vy_X12_comesBack : ae_VY yX12_comesBack mX12_comesBack 1 := ⟨ww_1818, wq_107, ww_13, ww_1819, ⟨by decide, by decide, by decide +kernel⟩, by decide⟩
theorem dX12_comesBack_0 : decode cX12_comesBack 0 = .ok (.iconst 0, 1) := by decide +kernel
theorem dX12_comesBack_1 : decode cX12_comesBack 1 = .ok (.istore_n 2, 1) := by decide +kernel
theorem dX12_comesBack_2 : decode cX12_comesBack 2 = .ok (.iload_n 2, 1) := by decide +kernel
theorem dX12_comesBack_3 : decode cX12_comesBack 3 = .ok (.aload_n 0, 1) := by decide +kernel
theorem dX12_comesBack_4 : decode cX12_comesBack 4 = .ok (.getfield 100, 3) := by decide +kernel
theorem dX12_comesBack_7 : decode cX12_comesBack 7 = .ok (.if_icmp .ge 27, 3) := by decide +kernel
theorem dX12_comesBack_10 : decode cX12_comesBack 10 = .ok (.aload_n 0, 1) := by decide +kernel
theorem dX12_comesBack_11 : decode cX12_comesBack 11 = .ok (.getfield 9, 3) := by decide +kernel
theorem dX12_comesBack_14 : decode cX12_comesBack 14 = .ok (.iload_n 2, 1) := by decide +kernel
theorem dX12_comesBack_15 : decode cX12_comesBack 15 = .ok (.aload_n 0, 1) := by decide +kernel
theorem dX12_comesBack_16 : decode cX12_comesBack 16 = .ok (.getfield 88, 3) := by decide +kernel
theorem dX12_comesBack_19 : decode cX12_comesBack 19 = .ok (.sipush 256, 3) := by decide +kernel
theorem dX12_comesBack_22 : decode cX12_comesBack 22 = .ok (.iload_n 1, 1) := by decide +kernel
theorem dX12_comesBack_23 : decode cX12_comesBack 23 = .ok (.imul, 1) := by decide +kernel
theorem dX12_comesBack_24 : decode cX12_comesBack 24 = .ok (.iload_n 2, 1) := by decide +kernel
theorem dX12_comesBack_25 : decode cX12_comesBack 25 = .ok (.iadd, 1) := by decide +kernel
theorem dX12_comesBack_26 : decode cX12_comesBack 26 = .ok (.iaload, 1) := by decide +kernel
theorem dX12_comesBack_27 : decode cX12_comesBack 27 = .ok (.iastore, 1) := by decide +kernel
theorem dX12_comesBack_28 : decode cX12_comesBack 28 = .ok (.iinc 2 1, 3) := by decide +kernel
theorem dX12_comesBack_31 : decode cX12_comesBack 31 = .ok (.goto (-29), 3) := by decide +kernel
theorem dX12_comesBack_34 : decode cX12_comesBack 34 = .ok (.return_, 1) := by decide +kernel
def F_X12_comesBack_2 : Nat → Int32 → Int32 → ae_S → Option (Unit × ae_S)
  | 0, _, _, _ => none
  | n + 1, v1, v2, s0 => if (s0.1 30 0 0) ≤ v2 then (some ((), s0)) else (ae_gd (ae_ib (((256 : Int32) * v1) + v2) 1792) (ae_gd (ae_ib v2 256) (ae_lt (ae_wI s0 31 0 v2.toNatClampNeg (s0.1 54 0 (((256 : Int32) * v1) + v2).toNatClampNeg)) (fun s7 => ae_lt (v2 + (1 : Int32)) (fun x9 => F_X12_comesBack_2 n v1 x9 s7)))))
set_option maxHeartbeats 4000000 in
set_option maxRecDepth 100000 in
theorem t_X12_comesBack_2 {l : Launch} {G : ae_G} (d : Nat) {rr : Unit} {ss : ae_S} : ∀ (n : Nat) (v1 : Int32) (v2 : Int32) (s0 : ae_S), F_X12_comesBack_2 n v1 v2 s0 = some (rr, ss) → ae_T l G d mX12_comesBack (ae_Po none ss) 2 [(0, ae_r (some (30, 0))), (1, ae_i v1), (2, ae_i v2)] [] s0 := by
  intro n
  induction n with
  | zero =>
    intro v1 v2 s0 hF
    exact absurd (show (none : Option (Unit × ae_S)) = some (rr, ss) from hF) (by simp)
  | succ n ih =>
    intro v1 v2 s0 hF
    unfold F_X12_comesBack_2 at hF
    refine ae_iload_n 2 dX12_comesBack_2 rfl ?_
    refine ae_aload_n 0 dX12_comesBack_3 rfl ?_
    refine ae_getI (q := (30, 0)) dX12_comesBack_4 fl_RX12_100 rfl rfl ?_
    refine ae_icmp_ge 34 dX12_comesBack_7 rfl (fun hb1 => ?_) (fun hb1 => ?_)
    · have hF2 := ae_ifT hb1 hF
      obtain ⟨rfl, rfl⟩ := ae_retI hF2
      exact ae_vret dX12_comesBack_34 rfl ⟨rfl, rfl⟩
    · have hF2 := ae_ifF hb1 hF
      refine ae_aload_n 0 dX12_comesBack_10 rfl ?_
      refine ae_getA (q := (30, 0)) (some (31, 0)) dX12_comesBack_11 fl_RX12_9 rfl rfl rfl ?_
      refine ae_iload_n 2 dX12_comesBack_14 rfl ?_
      refine ae_aload_n 0 dX12_comesBack_15 rfl ?_
      refine ae_getA (q := (30, 0)) (some (54, 0)) dX12_comesBack_16 fl_RX12_88 rfl rfl rfl ?_
      refine ae_sipush (256 : Int32) dX12_comesBack_19 (by decide) ?_
      refine ae_iload_n 1 dX12_comesBack_22 rfl ?_
      refine ae_imul dX12_comesBack_23 ?_
      refine ae_iload_n 2 dX12_comesBack_24 rfl ?_
      refine ae_iadd dX12_comesBack_25 ?_
      obtain ⟨hg3, hF4⟩ := ae_gdI hF2
      refine ae_iald (q := (54, 0)) dX12_comesBack_26 rfl rfl (ae_ibI hg3) ?_
      obtain ⟨hg5, hF6⟩ := ae_gdI hF4
      obtain ⟨s7, hs7, hF8⟩ := ae_ltI hF6
      refine ae_iast (q := (31, 0)) dX12_comesBack_27 rfl rfl (ae_ibI hg5) (ae_nmS hs7 ?_)
      obtain ⟨x9, hx9, hF10⟩ := ae_ltI hF8
      refine ae_iinc (lv' := [(2, ae_i x9), (0, ae_r (some (30, 0))), (1, ae_i v1)]) 2 (1 : Int32) dX12_comesBack_28 rfl (by decide) (by decide) (by rw [hx9]; rfl) ?_
      refine ae_goto 2 dX12_comesBack_31 rfl ?_
      refine ae_pick (lv' := [(0, ae_r (some (30, 0))), (1, ae_i v1), (2, ae_i x9)]) [1, 2, 0] rfl ?_
      exact ih v1 x9 s7 hF10
def F_X12_comesBack (v1 : Int32) (s0 : ae_S) : Option (Unit × ae_S) := F_X12_comesBack_2 ae_fu v1 (0 : Int32) s0
set_option maxHeartbeats 4000000 in
set_option maxRecDepth 100000 in
theorem c_X12_comesBack {l : Launch} {G : ae_G} (d : Nat) {v1 : Int32} {s0 ss : ae_S} {rr : Unit} (hF : F_X12_comesBack v1 s0 = some (rr, ss)) : ae_Met l G d yX12_comesBack mX12_comesBack [ae_r (some (30, 0)), ae_i v1] s0 (ae_Po none ss) := by
  refine ae_enter (by decide) rfl (Nat.le_of_ble_eq_true rfl) ?_
  show ae_T l G d mX12_comesBack (ae_Po none ss) 0 [(0, ae_r (some (30, 0))), (1, ae_i v1)] [] s0
  unfold F_X12_comesBack at hF
  refine ae_iconst (0 : Int32) dX12_comesBack_0 (by decide) ?_
  refine ae_istore_n (lv' := [(2, ae_i (0 : Int32)), (0, ae_r (some (30, 0))), (1, ae_i v1)]) dX12_comesBack_1 (by decide) rfl ?_
  refine ae_pick (lv' := [(0, ae_r (some (30, 0))), (1, ae_i v1), (2, ae_i (0 : Int32))]) [1, 2, 0] rfl ?_
  exact t_X12_comesBack_2 d ae_fu v1 (0 : Int32) s0 hF
abbrev mX12_comes : ae_M := (RX12, cX12_comes, 2, none)
theorem vy_X12_comes : ae_VY yX12_comes mX12_comes 1 := ⟨ww_1794, wq_101, ww_13, ww_1795, ⟨by decide, by decide, by decide +kernel⟩, by decide⟩
theorem dX12_comes_0 : decode cX12_comes 0 = .ok (.aload_n 0, 1) := by decide +kernel
theorem dX12_comes_1 : decode cX12_comes 1 = .ok (.getfield 402, 3) := by decide +kernel
theorem dX12_comes_4 : decode cX12_comes 4 = .ok (.ifCond .eq 4, 3) := by decide +kernel
theorem dX12_comes_7 : decode cX12_comes 7 = .ok (.return_, 1) := by decide +kernel
theorem dX12_comes_8 : decode cX12_comes 8 = .ok (.aload_n 0, 1) := by decide +kernel
theorem dX12_comes_9 : decode cX12_comes 9 = .ok (.iload_n 1, 1) := by decide +kernel
theorem dX12_comes_10 : decode cX12_comes 10 = .ok (.putfield 402, 3) := by decide +kernel
theorem dX12_comes_13 : decode cX12_comes 13 = .ok (.aload_n 0, 1) := by decide +kernel
theorem dX12_comes_14 : decode cX12_comes 14 = .ok (.getfield 405, 3) := by decide +kernel
theorem dX12_comes_17 : decode cX12_comes 17 = .ok (.bipush 20, 2) := by decide +kernel
theorem dX12_comes_19 : decode cX12_comes 19 = .ok (.if_icmp .ge 13, 3) := by decide +kernel
theorem dX12_comes_22 : decode cX12_comes 22 = .ok (.aload_n 0, 1) := by decide +kernel
theorem dX12_comes_23 : decode cX12_comes 23 = .ok (.getfield 85, 3) := by decide +kernel
theorem dX12_comes_26 : decode cX12_comes 26 = .ok (.aload_n 0, 1) := by decide +kernel
theorem dX12_comes_27 : decode cX12_comes 27 = .ok (.getfield 405, 3) := by decide +kernel
theorem dX12_comes_30 : decode cX12_comes 30 = .ok (.iload_n 1, 1) := by decide +kernel
theorem dX12_comes_31 : decode cX12_comes 31 = .ok (.iastore, 1) := by decide +kernel
theorem dX12_comes_32 : decode cX12_comes 32 = .ok (.aload_n 0, 1) := by decide +kernel
theorem dX12_comes_33 : decode cX12_comes 33 = .ok (.dup, 1) := by decide +kernel
theorem dX12_comes_34 : decode cX12_comes 34 = .ok (.getfield 405, 3) := by decide +kernel
theorem dX12_comes_37 : decode cX12_comes 37 = .ok (.iconst 1, 1) := by decide +kernel
theorem dX12_comes_38 : decode cX12_comes 38 = .ok (.iadd, 1) := by decide +kernel
theorem dX12_comes_39 : decode cX12_comes 39 = .ok (.putfield 405, 3) := by decide +kernel
theorem dX12_comes_42 : decode cX12_comes 42 = .ok (.return_, 1) := by decide +kernel
def F_X12_comes_32 (s0 : ae_S) : Option (Unit × ae_S) := ae_lt (ae_wI s0 30 0 41 ((s0.1 30 0 41) + (1 : Int32))) (fun s1 => some ((), s1))
set_option maxHeartbeats 4000000 in
set_option maxRecDepth 100000 in
theorem t_X12_comes_32 {l : Launch} {G : ae_G} (d : Nat) {rr : Unit} {ss : ae_S} (s0 : ae_S) (hF : F_X12_comes_32 s0 = some (rr, ss)) : ae_T l G d mX12_comes (ae_Po none ss) 32 [(0, ae_r (some (30, 0)))] [] s0 := by
  unfold F_X12_comes_32 at hF
  refine ae_aload_n 0 dX12_comes_32 rfl ?_
  refine ae_dup dX12_comes_33 rfl ?_
  refine ae_getI (q := (30, 0)) dX12_comes_34 fl_RX12_405 rfl rfl ?_
  refine ae_iconst (1 : Int32) dX12_comes_37 (by decide) ?_
  refine ae_iadd dX12_comes_38 ?_
  obtain ⟨s1, hs1, hF2⟩ := ae_ltI hF
  refine ae_putI (q := (30, 0)) dX12_comes_39 fl_RX12_405 rfl rfl (ae_nmS hs1 ?_)
  obtain ⟨rfl, rfl⟩ := ae_retI hF2
  exact ae_vret dX12_comes_42 rfl ⟨rfl, rfl⟩
def F_X12_comes (v1 : Int32) (s0 : ae_S) : Option (Unit × ae_S) := if (s0.1 30 0 40) = 0 then (ae_lt (ae_wI s0 30 0 40 v1) (fun s5 => if (20 : Int32) ≤ (s5.1 30 0 41) then (F_X12_comes_32 s5) else (ae_gd (ae_ib (s5.1 30 0 41) 20) (ae_lt (ae_wI s5 53 0 (s5.1 30 0 41).toNatClampNeg v1) (fun s11 => F_X12_comes_32 s11))))) else (some ((), s0))
set_option maxHeartbeats 4000000 in
set_option maxRecDepth 100000 in
theorem c_X12_comes {l : Launch} {G : ae_G} (d : Nat) {v1 : Int32} {s0 ss : ae_S} {rr : Unit} (hF : F_X12_comes v1 s0 = some (rr, ss)) : ae_Met l G d yX12_comes mX12_comes [ae_r (some (30, 0)), ae_i v1] s0 (ae_Po none ss) := by
  refine ae_enter (by decide) rfl (Nat.le_of_ble_eq_true rfl) ?_
  show ae_T l G d mX12_comes (ae_Po none ss) 0 [(0, ae_r (some (30, 0))), (1, ae_i v1)] [] s0
  unfold F_X12_comes at hF
  refine ae_aload_n 0 dX12_comes_0 rfl ?_
  refine ae_getI (q := (30, 0)) dX12_comes_1 fl_RX12_402 rfl rfl ?_
  refine ae_if_eq 8 dX12_comes_4 rfl (fun hb3 => ?_) (fun hb3 => ?_)
  · have hF4 := ae_ifT hb3 hF
    refine ae_aload_n 0 dX12_comes_8 rfl ?_
    refine ae_iload_n 1 dX12_comes_9 rfl ?_
    obtain ⟨s5, hs5, hF6⟩ := ae_ltI hF4
    refine ae_putI (q := (30, 0)) dX12_comes_10 fl_RX12_402 rfl rfl (ae_nmS hs5 ?_)
    refine ae_aload_n 0 dX12_comes_13 rfl ?_
    refine ae_getI (q := (30, 0)) dX12_comes_14 fl_RX12_405 rfl rfl ?_
    refine ae_bipush (20 : Int32) dX12_comes_17 (by decide) ?_
    refine ae_icmp_ge 32 dX12_comes_19 rfl (fun hb7 => ?_) (fun hb7 => ?_)
    · have hF8 := ae_ifT hb7 hF6
      refine ae_pick (lv' := [(0, ae_r (some (30, 0)))]) [0] rfl ?_
      exact t_X12_comes_32 d s5 hF8
    · have hF8 := ae_ifF hb7 hF6
      refine ae_aload_n 0 dX12_comes_22 rfl ?_
      refine ae_getA (q := (30, 0)) (some (53, 0)) dX12_comes_23 fl_RX12_85 rfl rfl rfl ?_
      refine ae_aload_n 0 dX12_comes_26 rfl ?_
      refine ae_getI (q := (30, 0)) dX12_comes_27 fl_RX12_405 rfl rfl ?_
      refine ae_iload_n 1 dX12_comes_30 rfl ?_
      obtain ⟨hg9, hF10⟩ := ae_gdI hF8
      obtain ⟨s11, hs11, hF12⟩ := ae_ltI hF10
      refine ae_iast (q := (53, 0)) dX12_comes_31 rfl rfl (ae_ibI hg9) (ae_nmS hs11 ?_)
      refine ae_pick (lv' := [(0, ae_r (some (30, 0)))]) [0] rfl ?_
      exact t_X12_comes_32 d s11 hF12
  · have hF4 := ae_ifF hb3 hF
    obtain ⟨rfl, rfl⟩ := ae_retI hF4
    exact ae_vret dX12_comes_7 rfl ⟨rfl, rfl⟩
abbrev mX12_isNought : ae_M := (RX12, cX12_isNought, 1, some .boolean)
theorem vy_X12_isNought : ae_VY yX12_isNought mX12_isNought 0 := ⟨ww_1810, wq_105, ww_13, ww_1811, ⟨by decide, by decide, by decide +kernel⟩, by decide⟩
theorem dX12_isNought_0 : decode cX12_isNought 0 = .ok (.aload_n 0, 1) := by decide +kernel
theorem dX12_isNought_1 : decode cX12_isNought 1 = .ok (.getfield 408, 3) := by decide +kernel
theorem dX12_isNought_4 : decode cX12_isNought 4 = .ok (.ifCond .eq 20, 3) := by decide +kernel
theorem dX12_isNought_7 : decode cX12_isNought 7 = .ok (.aload_n 0, 1) := by decide +kernel
theorem dX12_isNought_8 : decode cX12_isNought 8 = .ok (.getfield 415, 3) := by decide +kernel
theorem dX12_isNought_11 : decode cX12_isNought 11 = .ok (.dconst 0, 1) := by decide +kernel
theorem dX12_isNought_12 : decode cX12_isNought 12 = .ok (.dcmp .l, 1) := by decide +kernel
theorem dX12_isNought_13 : decode cX12_isNought 13 = .ok (.ifCond .ne 7, 3) := by decide +kernel
theorem dX12_isNought_16 : decode cX12_isNought 16 = .ok (.iconst 1, 1) := by decide +kernel
theorem dX12_isNought_17 : decode cX12_isNought 17 = .ok (.goto 21, 3) := by decide +kernel
theorem dX12_isNought_20 : decode cX12_isNought 20 = .ok (.iconst 0, 1) := by decide +kernel
theorem dX12_isNought_21 : decode cX12_isNought 21 = .ok (.goto 17, 3) := by decide +kernel
theorem dX12_isNought_24 : decode cX12_isNought 24 = .ok (.aload_n 0, 1) := by decide +kernel
theorem dX12_isNought_25 : decode cX12_isNought 25 = .ok (.getfield 412, 3) := by decide +kernel
theorem dX12_isNought_28 : decode cX12_isNought 28 = .ok (.lconst 0, 1) := by decide +kernel
theorem dX12_isNought_29 : decode cX12_isNought 29 = .ok (.lcmp, 1) := by decide +kernel
theorem dX12_isNought_30 : decode cX12_isNought 30 = .ok (.ifCond .ne 7, 3) := by decide +kernel
theorem dX12_isNought_33 : decode cX12_isNought 33 = .ok (.iconst 1, 1) := by decide +kernel
theorem dX12_isNought_34 : decode cX12_isNought 34 = .ok (.goto 4, 3) := by decide +kernel
theorem dX12_isNought_37 : decode cX12_isNought 37 = .ok (.iconst 0, 1) := by decide +kernel
theorem dX12_isNought_38 : decode cX12_isNought 38 = .ok (.ireturn, 1) := by decide +kernel
def F_X12_isNought_38 (t0 : Int32) (s0 : ae_S) : Option (Int32 × ae_S) := ae_gd (ae_zz t0) (some (t0, s0))
set_option maxHeartbeats 4000000 in
set_option maxRecDepth 100000 in
theorem t_X12_isNought_38 {l : Launch} {G : ae_G} (d : Nat) {rr : Int32} {ss : ae_S} (t0 : Int32) (s0 : ae_S) (hF : F_X12_isNought_38 t0 s0 = some (rr, ss)) : ae_T l G d mX12_isNought (ae_Po (some (ae_i rr)) ss) 38 [] [ae_i t0] s0 := by
  unfold F_X12_isNought_38 at hF
  obtain ⟨hg1, hF2⟩ := ae_gdI hF
  obtain ⟨rfl, rfl⟩ := ae_retI hF2
  exact ae_iret dX12_isNought_38 rfl (ae_zzN (ae_zzI hg1)) ⟨rfl, rfl⟩
def F_X12_isNought (s0 : ae_S) : Option (Int32 × ae_S) := if (s0.1 30 0 45) = 0 then (if (lg_cmp (s0.2.1 30 0 46) (0 : Int64)) = 0 then (F_X12_isNought_38 (1 : Int32) s0) else (F_X12_isNought_38 (0 : Int32) s0)) else (if (Op.cmpValue (FP.dcmp (s0.2.2.1 30 0 47) FP.dconst0) CmpOp.l) = 0 then (F_X12_isNought_38 (1 : Int32) s0) else (F_X12_isNought_38 (0 : Int32) s0))
set_option maxHeartbeats 4000000 in
set_option maxRecDepth 100000 in
theorem c_X12_isNought {l : Launch} {G : ae_G} (d : Nat) {s0 ss : ae_S} {rr : Int32} (hF : F_X12_isNought s0 = some (rr, ss)) : ae_Met l G d yX12_isNought mX12_isNought [ae_r (some (30, 0))] s0 (ae_Po (some (ae_i rr)) ss) := by
  refine ae_enter (by decide) rfl (Nat.le_of_ble_eq_true rfl) ?_
  show ae_T l G d mX12_isNought (ae_Po (some (ae_i rr)) ss) 0 [(0, ae_r (some (30, 0)))] [] s0
  unfold F_X12_isNought at hF
  refine ae_aload_n 0 dX12_isNought_0 rfl ?_
  refine ae_getZ (q := (30, 0)) dX12_isNought_1 fl_RX12_408 rfl rfl ?_
  refine ae_if_eq 24 dX12_isNought_4 rfl (fun hb3 => ?_) (fun hb3 => ?_)
  · have hF4 := ae_ifT hb3 hF
    refine ae_aload_n 0 dX12_isNought_24 rfl ?_
    refine ae_getL (q := (30, 0)) dX12_isNought_25 fl_RX12_412 rfl rfl ?_
    refine ae_lconst (0 : Int64) dX12_isNought_28 (by decide) ?_
    refine ae_lcmp dX12_isNought_29 ?_
    refine ae_if_ne 37 dX12_isNought_30 rfl (fun hb5 => ?_) (fun hb5 => ?_)
    · have hF6 := ae_ifF hb5 hF4
      refine ae_iconst (0 : Int32) dX12_isNought_37 (by decide) ?_
      refine ae_pick (lv' := []) [] rfl ?_
      exact t_X12_isNought_38 d (0 : Int32) s0 hF6
    · have hF6 := ae_ifT hb5 hF4
      refine ae_iconst (1 : Int32) dX12_isNought_33 (by decide) ?_
      refine ae_goto 38 dX12_isNought_34 rfl ?_
      refine ae_pick (lv' := []) [] rfl ?_
      exact t_X12_isNought_38 d (1 : Int32) s0 hF6
  · have hF4 := ae_ifF hb3 hF
    refine ae_aload_n 0 dX12_isNought_7 rfl ?_
    refine ae_getD (q := (30, 0)) dX12_isNought_8 fl_RX12_415 rfl rfl ?_
    refine ae_dconst0 dX12_isNought_11 ?_
    refine ae_dcmp dX12_isNought_12 ?_
    refine ae_if_ne 20 dX12_isNought_13 rfl (fun hb7 => ?_) (fun hb7 => ?_)
    · have hF8 := ae_ifF hb7 hF4
      refine ae_iconst (0 : Int32) dX12_isNought_20 (by decide) ?_
      refine ae_goto 38 dX12_isNought_21 rfl ?_
      refine ae_pick (lv' := []) [] rfl ?_
      exact t_X12_isNought_38 d (0 : Int32) s0 hF8
    · have hF8 := ae_ifT hb7 hF4
      refine ae_iconst (1 : Int32) dX12_isNought_16 (by decide) ?_
      refine ae_goto 38 dX12_isNought_17 rfl ?_
      refine ae_pick (lv' := []) [] rfl ?_
      exact t_X12_isNought_38 d (1 : Int32) s0 hF8
abbrev mX12_keeps : ae_M := (RX12, cX12_keeps, 3, none)
theorem vy_X12_keeps : ae_VY yX12_keeps mX12_keeps 1 := ⟨ww_1770, wq_95, ww_13, ww_1771, ⟨by decide, by decide, by decide +kernel⟩, by decide⟩
theorem dX12_keeps_0 : decode cX12_keeps 0 = .ok (.iconst 0, 1) := by decide +kernel
theorem dX12_keeps_1 : decode cX12_keeps 1 = .ok (.istore_n 2, 1) := by decide +kernel
theorem dX12_keeps_2 : decode cX12_keeps 2 = .ok (.iload_n 2, 1) := by decide +kernel
theorem dX12_keeps_3 : decode cX12_keeps 3 = .ok (.aload_n 0, 1) := by decide +kernel
theorem dX12_keeps_4 : decode cX12_keeps 4 = .ok (.getfield 100, 3) := by decide +kernel
theorem dX12_keeps_7 : decode cX12_keeps 7 = .ok (.if_icmp .ge 27, 3) := by decide +kernel
theorem dX12_keeps_10 : decode cX12_keeps 10 = .ok (.aload_n 0, 1) := by decide +kernel
theorem dX12_keeps_11 : decode cX12_keeps 11 = .ok (.getfield 88, 3) := by decide +kernel
theorem dX12_keeps_14 : decode cX12_keeps 14 = .ok (.sipush 256, 3) := by decide +kernel
theorem dX12_keeps_17 : decode cX12_keeps 17 = .ok (.iload_n 1, 1) := by decide +kernel
theorem dX12_keeps_18 : decode cX12_keeps 18 = .ok (.imul, 1) := by decide +kernel
theorem dX12_keeps_19 : decode cX12_keeps 19 = .ok (.iload_n 2, 1) := by decide +kernel
theorem dX12_keeps_20 : decode cX12_keeps 20 = .ok (.iadd, 1) := by decide +kernel
theorem dX12_keeps_21 : decode cX12_keeps 21 = .ok (.aload_n 0, 1) := by decide +kernel
theorem dX12_keeps_22 : decode cX12_keeps 22 = .ok (.getfield 9, 3) := by decide +kernel
theorem dX12_keeps_25 : decode cX12_keeps 25 = .ok (.iload_n 2, 1) := by decide +kernel
theorem dX12_keeps_26 : decode cX12_keeps 26 = .ok (.iaload, 1) := by decide +kernel
theorem dX12_keeps_27 : decode cX12_keeps 27 = .ok (.iastore, 1) := by decide +kernel
theorem dX12_keeps_28 : decode cX12_keeps 28 = .ok (.iinc 2 1, 3) := by decide +kernel
theorem dX12_keeps_31 : decode cX12_keeps 31 = .ok (.goto (-29), 3) := by decide +kernel
theorem dX12_keeps_34 : decode cX12_keeps 34 = .ok (.return_, 1) := by decide +kernel
def F_X12_keeps_2 : Nat → Int32 → Int32 → ae_S → Option (Unit × ae_S)
  | 0, _, _, _ => none
  | n + 1, v1, v2, s0 => if (s0.1 30 0 0) ≤ v2 then (some ((), s0)) else (ae_gd (ae_ib v2 256) (ae_gd (ae_ib (((256 : Int32) * v1) + v2) 1792) (ae_lt (ae_wI s0 54 0 (((256 : Int32) * v1) + v2).toNatClampNeg (s0.1 31 0 v2.toNatClampNeg)) (fun s7 => ae_lt (v2 + (1 : Int32)) (fun x9 => F_X12_keeps_2 n v1 x9 s7)))))
set_option maxHeartbeats 4000000 in
set_option maxRecDepth 100000 in
theorem t_X12_keeps_2 {l : Launch} {G : ae_G} (d : Nat) {rr : Unit} {ss : ae_S} : ∀ (n : Nat) (v1 : Int32) (v2 : Int32) (s0 : ae_S), F_X12_keeps_2 n v1 v2 s0 = some (rr, ss) → ae_T l G d mX12_keeps (ae_Po none ss) 2 [(0, ae_r (some (30, 0))), (1, ae_i v1), (2, ae_i v2)] [] s0 := by
  intro n
  induction n with
  | zero =>
    intro v1 v2 s0 hF
    exact absurd (show (none : Option (Unit × ae_S)) = some (rr, ss) from hF) (by simp)
  | succ n ih =>
    intro v1 v2 s0 hF
    unfold F_X12_keeps_2 at hF
    refine ae_iload_n 2 dX12_keeps_2 rfl ?_
    refine ae_aload_n 0 dX12_keeps_3 rfl ?_
    refine ae_getI (q := (30, 0)) dX12_keeps_4 fl_RX12_100 rfl rfl ?_
    refine ae_icmp_ge 34 dX12_keeps_7 rfl (fun hb1 => ?_) (fun hb1 => ?_)
    · have hF2 := ae_ifT hb1 hF
      obtain ⟨rfl, rfl⟩ := ae_retI hF2
      exact ae_vret dX12_keeps_34 rfl ⟨rfl, rfl⟩
    · have hF2 := ae_ifF hb1 hF
      refine ae_aload_n 0 dX12_keeps_10 rfl ?_
      refine ae_getA (q := (30, 0)) (some (54, 0)) dX12_keeps_11 fl_RX12_88 rfl rfl rfl ?_
      refine ae_sipush (256 : Int32) dX12_keeps_14 (by decide) ?_
      refine ae_iload_n 1 dX12_keeps_17 rfl ?_
      refine ae_imul dX12_keeps_18 ?_
      refine ae_iload_n 2 dX12_keeps_19 rfl ?_
      refine ae_iadd dX12_keeps_20 ?_
      refine ae_aload_n 0 dX12_keeps_21 rfl ?_
      refine ae_getA (q := (30, 0)) (some (31, 0)) dX12_keeps_22 fl_RX12_9 rfl rfl rfl ?_
      refine ae_iload_n 2 dX12_keeps_25 rfl ?_
      obtain ⟨hg3, hF4⟩ := ae_gdI hF2
      refine ae_iald (q := (31, 0)) dX12_keeps_26 rfl rfl (ae_ibI hg3) ?_
      obtain ⟨hg5, hF6⟩ := ae_gdI hF4
      obtain ⟨s7, hs7, hF8⟩ := ae_ltI hF6
      refine ae_iast (q := (54, 0)) dX12_keeps_27 rfl rfl (ae_ibI hg5) (ae_nmS hs7 ?_)
      obtain ⟨x9, hx9, hF10⟩ := ae_ltI hF8
      refine ae_iinc (lv' := [(2, ae_i x9), (0, ae_r (some (30, 0))), (1, ae_i v1)]) 2 (1 : Int32) dX12_keeps_28 rfl (by decide) (by decide) (by rw [hx9]; rfl) ?_
      refine ae_goto 2 dX12_keeps_31 rfl ?_
      refine ae_pick (lv' := [(0, ae_r (some (30, 0))), (1, ae_i v1), (2, ae_i x9)]) [1, 2, 0] rfl ?_
      exact ih v1 x9 s7 hF10
def F_X12_keeps (v1 : Int32) (s0 : ae_S) : Option (Unit × ae_S) := F_X12_keeps_2 ae_fu v1 (0 : Int32) s0
set_option maxHeartbeats 4000000 in
set_option maxRecDepth 100000 in
theorem c_X12_keeps {l : Launch} {G : ae_G} (d : Nat) {v1 : Int32} {s0 ss : ae_S} {rr : Unit} (hF : F_X12_keeps v1 s0 = some (rr, ss)) : ae_Met l G d yX12_keeps mX12_keeps [ae_r (some (30, 0)), ae_i v1] s0 (ae_Po none ss) := by
  refine ae_enter (by decide) rfl (Nat.le_of_ble_eq_true rfl) ?_
  show ae_T l G d mX12_keeps (ae_Po none ss) 0 [(0, ae_r (some (30, 0))), (1, ae_i v1)] [] s0
  unfold F_X12_keeps at hF
  refine ae_iconst (0 : Int32) dX12_keeps_0 (by decide) ?_
  refine ae_istore_n (lv' := [(2, ae_i (0 : Int32)), (0, ae_r (some (30, 0))), (1, ae_i v1)]) dX12_keeps_1 (by decide) rfl ?_
  refine ae_pick (lv' := [(0, ae_r (some (30, 0))), (1, ae_i v1), (2, ae_i (0 : Int32))]) [1, 2, 0] rfl ?_
  exact t_X12_keeps_2 d ae_fu v1 (0 : Int32) s0 hF
abbrev mX12_asFloat : ae_M := (RX12, cX12_asFloat, 1, some .double)
theorem vy_X12_asFloat : ae_VY yX12_asFloat mX12_asFloat 0 := ⟨ww_1798, wq_102, ww_13, ww_1799, ⟨by decide, by decide, by decide +kernel⟩, by decide⟩
theorem dX12_asFloat_0 : decode cX12_asFloat 0 = .ok (.aload_n 0, 1) := by decide +kernel
theorem dX12_asFloat_1 : decode cX12_asFloat 1 = .ok (.getfield 408, 3) := by decide +kernel
theorem dX12_asFloat_4 : decode cX12_asFloat 4 = .ok (.ifCond .eq 10, 3) := by decide +kernel
theorem dX12_asFloat_7 : decode cX12_asFloat 7 = .ok (.aload_n 0, 1) := by decide +kernel
theorem dX12_asFloat_8 : decode cX12_asFloat 8 = .ok (.getfield 415, 3) := by decide +kernel
theorem dX12_asFloat_11 : decode cX12_asFloat 11 = .ok (.goto 8, 3) := by decide +kernel
theorem dX12_asFloat_14 : decode cX12_asFloat 14 = .ok (.aload_n 0, 1) := by decide +kernel
theorem dX12_asFloat_15 : decode cX12_asFloat 15 = .ok (.getfield 412, 3) := by decide +kernel
theorem dX12_asFloat_18 : decode cX12_asFloat 18 = .ok (.l2d, 1) := by decide +kernel
theorem dX12_asFloat_19 : decode cX12_asFloat 19 = .ok (.dreturn, 1) := by decide +kernel
def F_X12_asFloat_19 (t0 : UInt64) (s0 : ae_S) : Option (UInt64 × ae_S) := some (t0, s0)
set_option maxHeartbeats 4000000 in
set_option maxRecDepth 100000 in
theorem t_X12_asFloat_19 {l : Launch} {G : ae_G} (d : Nat) {rr : UInt64} {ss : ae_S} (t0 : UInt64) (s0 : ae_S) (hF : F_X12_asFloat_19 t0 s0 = some (rr, ss)) : ae_T l G d mX12_asFloat (ae_Po (some (ae_d rr)) ss) 19 [] [ae_d t0] s0 := by
  unfold F_X12_asFloat_19 at hF
  obtain ⟨rfl, rfl⟩ := ae_retI hF
  exact ae_dret dX12_asFloat_19 rfl ⟨rfl, rfl⟩
def F_X12_asFloat (s0 : ae_S) : Option (UInt64 × ae_S) := if (s0.1 30 0 45) = 0 then (F_X12_asFloat_19 (FP.l2d (s0.2.1 30 0 46)) s0) else (F_X12_asFloat_19 (s0.2.2.1 30 0 47) s0)
set_option maxHeartbeats 4000000 in
set_option maxRecDepth 100000 in
theorem c_X12_asFloat {l : Launch} {G : ae_G} (d : Nat) {s0 ss : ae_S} {rr : UInt64} (hF : F_X12_asFloat s0 = some (rr, ss)) : ae_Met l G d yX12_asFloat mX12_asFloat [ae_r (some (30, 0))] s0 (ae_Po (some (ae_d rr)) ss) := by
  refine ae_enter (by decide) rfl (Nat.le_of_ble_eq_true rfl) ?_
  show ae_T l G d mX12_asFloat (ae_Po (some (ae_d rr)) ss) 0 [(0, ae_r (some (30, 0)))] [] s0
  unfold F_X12_asFloat at hF
  refine ae_aload_n 0 dX12_asFloat_0 rfl ?_
  refine ae_getZ (q := (30, 0)) dX12_asFloat_1 fl_RX12_408 rfl rfl ?_
  refine ae_if_eq 14 dX12_asFloat_4 rfl (fun hb1 => ?_) (fun hb1 => ?_)
  · have hF2 := ae_ifT hb1 hF
    refine ae_aload_n 0 dX12_asFloat_14 rfl ?_
    refine ae_getL (q := (30, 0)) dX12_asFloat_15 fl_RX12_412 rfl rfl ?_
    refine ae_l2d dX12_asFloat_18 ?_
    refine ae_pick (lv' := []) [] rfl ?_
    exact t_X12_asFloat_19 d (FP.l2d (s0.2.1 30 0 46)) s0 hF2
  · have hF2 := ae_ifF hb1 hF
    refine ae_aload_n 0 dX12_asFloat_7 rfl ?_
    refine ae_getD (q := (30, 0)) dX12_asFloat_8 fl_RX12_415 rfl rfl ?_
    refine ae_goto 19 dX12_asFloat_11 rfl ?_
    refine ae_pick (lv' := []) [] rfl ?_
    exact t_X12_asFloat_19 d (s0.2.2.1 30 0 47) s0 hF2
abbrev mX12_tells : ae_M := (RX12, cX12_tells, 3, none)
theorem vy_X12_tells : ae_VY yX12_tells mX12_tells 1 := ⟨ww_1782, wq_98, ww_13, ww_1783, ⟨by decide, by decide, by decide +kernel⟩, by decide⟩
theorem dX12_tells_0 : decode cX12_tells 0 = .ok (.aload_n 0, 1) := by decide +kernel
theorem dX12_tells_1 : decode cX12_tells 1 = .ok (.iconst 0, 1) := by decide +kernel
theorem dX12_tells_2 : decode cX12_tells 2 = .ok (.putfield 408, 3) := by decide +kernel
theorem dX12_tells_5 : decode cX12_tells 5 = .ok (.aload_n 0, 1) := by decide +kernel
theorem dX12_tells_6 : decode cX12_tells 6 = .ok (.lload_n 1, 1) := by decide +kernel
theorem dX12_tells_7 : decode cX12_tells 7 = .ok (.putfield 412, 3) := by decide +kernel
theorem dX12_tells_10 : decode cX12_tells 10 = .ok (.return_, 1) := by decide +kernel
def F_X12_tells (v1 : Int64) (s0 : ae_S) : Option (Unit × ae_S) := ae_lt (ae_wI s0 30 0 45 (0 : Int32)) (fun s1 => ae_lt (ae_wL s1 30 0 46 v1) (fun s3 => some ((), s3)))
set_option maxHeartbeats 4000000 in
set_option maxRecDepth 100000 in
theorem c_X12_tells {l : Launch} {G : ae_G} (d : Nat) {v1 : Int64} {s0 ss : ae_S} {rr : Unit} (hF : F_X12_tells v1 s0 = some (rr, ss)) : ae_Met l G d yX12_tells mX12_tells [ae_r (some (30, 0)), ae_l v1] s0 (ae_Po none ss) := by
  refine ae_enter (by decide) rfl (Nat.le_of_ble_eq_true rfl) ?_
  show ae_T l G d mX12_tells (ae_Po none ss) 0 [(0, ae_r (some (30, 0))), (1, ae_l v1)] [] s0
  unfold F_X12_tells at hF
  refine ae_aload_n 0 dX12_tells_0 rfl ?_
  refine ae_iconst (0 : Int32) dX12_tells_1 (by decide) ?_
  obtain ⟨s1, hs1, hF2⟩ := ae_ltI hF
  refine ae_putZ (q := (30, 0)) dX12_tells_2 fl_RX12_408 rfl rfl (by decide) (ae_nmS hs1 ?_)
  refine ae_aload_n 0 dX12_tells_5 rfl ?_
  refine ae_lload_n 1 dX12_tells_6 rfl ?_
  obtain ⟨s3, hs3, hF4⟩ := ae_ltI hF2
  refine ae_putL (q := (30, 0)) dX12_tells_7 fl_RX12_412 rfl rfl (ae_nmS hs3 ?_)
  obtain ⟨rfl, rfl⟩ := ae_retI hF4
  exact ae_vret dX12_tells_10 rfl ⟨rfl, rfl⟩
abbrev mX12_floats : ae_M := (RX12, cX12_floats, 6, none)
theorem vy_X12_floats : ae_VY yX12_floats mX12_floats 3 := ⟨ww_1802, wq_103, ww_13, ww_1803, ⟨by decide, by decide, by decide +kernel⟩, by decide⟩
theorem dX12_floats_0 : decode cX12_floats 0 = .ok (.aload_n 0, 1) := by decide +kernel
theorem dX12_floats_1 : decode cX12_floats 1 = .ok (.iconst 1, 1) := by decide +kernel
theorem dX12_floats_2 : decode cX12_floats 2 = .ok (.putfield 408, 3) := by decide +kernel
theorem dX12_floats_5 : decode cX12_floats 5 = .ok (.iload_n 1, 1) := by decide +kernel
theorem dX12_floats_6 : decode cX12_floats 6 = .ok (.lookupswitch 167 #[(37, 110), (42, 88), (43, 66), (45, 77), (47, 99), (60, 121), (62, 144)], 66) := by decide +kernel
theorem dX12_floats_72 : decode cX12_floats 72 = .ok (.aload_n 0, 1) := by decide +kernel
theorem dX12_floats_73 : decode cX12_floats 73 = .ok (.dload_n 2, 1) := by decide +kernel
theorem dX12_floats_74 : decode cX12_floats 74 = .ok (.dload 4, 2) := by decide +kernel
theorem dX12_floats_76 : decode cX12_floats 76 = .ok (.dadd, 1) := by decide +kernel
theorem dX12_floats_77 : decode cX12_floats 77 = .ok (.putfield 415, 3) := by decide +kernel
theorem dX12_floats_80 : decode cX12_floats 80 = .ok (.goto 113, 3) := by decide +kernel
theorem dX12_floats_83 : decode cX12_floats 83 = .ok (.aload_n 0, 1) := by decide +kernel
theorem dX12_floats_84 : decode cX12_floats 84 = .ok (.dload_n 2, 1) := by decide +kernel
theorem dX12_floats_85 : decode cX12_floats 85 = .ok (.dload 4, 2) := by decide +kernel
theorem dX12_floats_87 : decode cX12_floats 87 = .ok (.dsub, 1) := by decide +kernel
theorem dX12_floats_88 : decode cX12_floats 88 = .ok (.putfield 415, 3) := by decide +kernel
theorem dX12_floats_91 : decode cX12_floats 91 = .ok (.goto 102, 3) := by decide +kernel
theorem dX12_floats_94 : decode cX12_floats 94 = .ok (.aload_n 0, 1) := by decide +kernel
theorem dX12_floats_95 : decode cX12_floats 95 = .ok (.dload_n 2, 1) := by decide +kernel
theorem dX12_floats_96 : decode cX12_floats 96 = .ok (.dload 4, 2) := by decide +kernel
theorem dX12_floats_98 : decode cX12_floats 98 = .ok (.dmul, 1) := by decide +kernel
theorem dX12_floats_99 : decode cX12_floats 99 = .ok (.putfield 415, 3) := by decide +kernel
theorem dX12_floats_102 : decode cX12_floats 102 = .ok (.goto 91, 3) := by decide +kernel
theorem dX12_floats_105 : decode cX12_floats 105 = .ok (.aload_n 0, 1) := by decide +kernel
theorem dX12_floats_106 : decode cX12_floats 106 = .ok (.dload_n 2, 1) := by decide +kernel
theorem dX12_floats_107 : decode cX12_floats 107 = .ok (.dload 4, 2) := by decide +kernel
theorem dX12_floats_109 : decode cX12_floats 109 = .ok (.ddiv, 1) := by decide +kernel
theorem dX12_floats_110 : decode cX12_floats 110 = .ok (.putfield 415, 3) := by decide +kernel
theorem dX12_floats_113 : decode cX12_floats 113 = .ok (.goto 80, 3) := by decide +kernel
theorem dX12_floats_116 : decode cX12_floats 116 = .ok (.aload_n 0, 1) := by decide +kernel
theorem dX12_floats_117 : decode cX12_floats 117 = .ok (.dload_n 2, 1) := by decide +kernel
theorem dX12_floats_118 : decode cX12_floats 118 = .ok (.dload 4, 2) := by decide +kernel
theorem dX12_floats_120 : decode cX12_floats 120 = .ok (.drem, 1) := by decide +kernel
theorem dX12_floats_121 : decode cX12_floats 121 = .ok (.putfield 415, 3) := by decide +kernel
theorem dX12_floats_124 : decode cX12_floats 124 = .ok (.goto 69, 3) := by decide +kernel
theorem dX12_floats_127 : decode cX12_floats 127 = .ok (.aload_n 0, 1) := by decide +kernel
theorem dX12_floats_128 : decode cX12_floats 128 = .ok (.dload_n 2, 1) := by decide +kernel
theorem dX12_floats_129 : decode cX12_floats 129 = .ok (.dload 4, 2) := by decide +kernel
theorem dX12_floats_131 : decode cX12_floats 131 = .ok (.dcmp .g, 1) := by decide +kernel
theorem dX12_floats_132 : decode cX12_floats 132 = .ok (.ifCond .ge 7, 3) := by decide +kernel
theorem dX12_floats_135 : decode cX12_floats 135 = .ok (.iconst 1, 1) := by decide +kernel
theorem dX12_floats_136 : decode cX12_floats 136 = .ok (.goto 4, 3) := by decide +kernel
theorem dX12_floats_139 : decode cX12_floats 139 = .ok (.iconst 0, 1) := by decide +kernel
theorem dX12_floats_140 : decode cX12_floats 140 = .ok (.invokestatic 260, 3) := by decide +kernel
theorem dX12_floats_143 : decode cX12_floats 143 = .ok (.i2l, 1) := by decide +kernel
theorem dX12_floats_144 : decode cX12_floats 144 = .ok (.invokevirtual 428, 3) := by decide +kernel
theorem dX12_floats_147 : decode cX12_floats 147 = .ok (.goto 46, 3) := by decide +kernel
theorem dX12_floats_150 : decode cX12_floats 150 = .ok (.aload_n 0, 1) := by decide +kernel
theorem dX12_floats_151 : decode cX12_floats 151 = .ok (.dload_n 2, 1) := by decide +kernel
theorem dX12_floats_152 : decode cX12_floats 152 = .ok (.dload 4, 2) := by decide +kernel
theorem dX12_floats_154 : decode cX12_floats 154 = .ok (.dcmp .l, 1) := by decide +kernel
theorem dX12_floats_155 : decode cX12_floats 155 = .ok (.ifCond .le 7, 3) := by decide +kernel
theorem dX12_floats_158 : decode cX12_floats 158 = .ok (.iconst 1, 1) := by decide +kernel
theorem dX12_floats_159 : decode cX12_floats 159 = .ok (.goto 4, 3) := by decide +kernel
theorem dX12_floats_162 : decode cX12_floats 162 = .ok (.iconst 0, 1) := by decide +kernel
theorem dX12_floats_163 : decode cX12_floats 163 = .ok (.invokestatic 260, 3) := by decide +kernel
theorem dX12_floats_166 : decode cX12_floats 166 = .ok (.i2l, 1) := by decide +kernel
theorem dX12_floats_167 : decode cX12_floats 167 = .ok (.invokevirtual 428, 3) := by decide +kernel
theorem dX12_floats_170 : decode cX12_floats 170 = .ok (.goto 23, 3) := by decide +kernel
theorem dX12_floats_173 : decode cX12_floats 173 = .ok (.aload_n 0, 1) := by decide +kernel
theorem dX12_floats_174 : decode cX12_floats 174 = .ok (.dload_n 2, 1) := by decide +kernel
theorem dX12_floats_175 : decode cX12_floats 175 = .ok (.dload 4, 2) := by decide +kernel
theorem dX12_floats_177 : decode cX12_floats 177 = .ok (.dcmp .l, 1) := by decide +kernel
theorem dX12_floats_178 : decode cX12_floats 178 = .ok (.ifCond .ne 7, 3) := by decide +kernel
theorem dX12_floats_181 : decode cX12_floats 181 = .ok (.iconst 1, 1) := by decide +kernel
theorem dX12_floats_182 : decode cX12_floats 182 = .ok (.goto 4, 3) := by decide +kernel
theorem dX12_floats_185 : decode cX12_floats 185 = .ok (.iconst 0, 1) := by decide +kernel
theorem dX12_floats_186 : decode cX12_floats 186 = .ok (.invokestatic 260, 3) := by decide +kernel
theorem dX12_floats_189 : decode cX12_floats 189 = .ok (.i2l, 1) := by decide +kernel
theorem dX12_floats_190 : decode cX12_floats 190 = .ok (.invokevirtual 428, 3) := by decide +kernel
theorem dX12_floats_193 : decode cX12_floats 193 = .ok (.return_, 1) := by decide +kernel
def F_X12_floats_193 (s0 : ae_S) : Option (Unit × ae_S) := some ((), s0)
set_option maxHeartbeats 4000000 in
set_option maxRecDepth 100000 in
theorem t_X12_floats_193 {l : Launch} {G : ae_G} (d : Nat) {rr : Unit} {ss : ae_S} (s0 : ae_S) (hF : F_X12_floats_193 s0 = some (rr, ss)) : ae_T l G (d + 1) mX12_floats (ae_Po none ss) 193 [] [] s0 := by
  unfold F_X12_floats_193 at hF
  obtain ⟨rfl, rfl⟩ := ae_retI hF
  exact ae_vret dX12_floats_193 rfl ⟨rfl, rfl⟩
def F_X12_floats_140 (t0 : Int32) (s0 : ae_S) : Option (Unit × ae_S) := ae_bd (F_X12_one t0 s0) (fun (r1 : Int32) s2 => ae_bd (F_X12_tells r1.toInt64 s2) (fun (r5 : Unit) s6 => F_X12_floats_193 s6))
set_option maxHeartbeats 4000000 in
set_option maxRecDepth 100000 in
theorem t_X12_floats_140 {l : Launch} {G : ae_G} (d : Nat) {rr : Unit} {ss : ae_S} (t0 : Int32) (s0 : ae_S) (hF : F_X12_floats_140 t0 s0 = some (rr, ss)) : ae_T l G (d + 1) mX12_floats (ae_Po none ss) 140 [] [ae_i t0, ae_r (some (30, 0))] s0 := by
  unfold F_X12_floats_140 at hF
  obtain ⟨r1, s2, hc3, hF4⟩ := ae_bdI hF
  refine ae_cS1 (As := [ae_i t0]) dX12_floats_140 ww_1579 vy_X12_one rfl rfl (Nat.le_of_ble_eq_true rfl) (c_X12_one d hc3) ?_
  refine ae_i2l dX12_floats_143 ?_
  obtain ⟨r5, s6, hc7, hF8⟩ := ae_bdI hF4
  refine ae_cV0 (q := (30, 0)) (As := [ae_l r1.toInt64]) dX12_floats_144 ww_1780 vy_X12_tells rfl rfl rfl rfl rfl (Nat.le_of_ble_eq_true rfl) (c_X12_tells d hc7) ?_
  refine ae_goto 193 dX12_floats_147 rfl ?_
  refine ae_pick (lv' := []) [] rfl ?_
  exact t_X12_floats_193 d s6 hF8
def F_X12_floats_163 (t0 : Int32) (s0 : ae_S) : Option (Unit × ae_S) := ae_bd (F_X12_one t0 s0) (fun (r9 : Int32) s10 => ae_bd (F_X12_tells r9.toInt64 s10) (fun (r13 : Unit) s14 => F_X12_floats_193 s14))
set_option maxHeartbeats 4000000 in
set_option maxRecDepth 100000 in
theorem t_X12_floats_163 {l : Launch} {G : ae_G} (d : Nat) {rr : Unit} {ss : ae_S} (t0 : Int32) (s0 : ae_S) (hF : F_X12_floats_163 t0 s0 = some (rr, ss)) : ae_T l G (d + 1) mX12_floats (ae_Po none ss) 163 [] [ae_i t0, ae_r (some (30, 0))] s0 := by
  unfold F_X12_floats_163 at hF
  obtain ⟨r9, s10, hc11, hF12⟩ := ae_bdI hF
  refine ae_cS1 (As := [ae_i t0]) dX12_floats_163 ww_1579 vy_X12_one rfl rfl (Nat.le_of_ble_eq_true rfl) (c_X12_one d hc11) ?_
  refine ae_i2l dX12_floats_166 ?_
  obtain ⟨r13, s14, hc15, hF16⟩ := ae_bdI hF12
  refine ae_cV0 (q := (30, 0)) (As := [ae_l r9.toInt64]) dX12_floats_167 ww_1780 vy_X12_tells rfl rfl rfl rfl rfl (Nat.le_of_ble_eq_true rfl) (c_X12_tells d hc15) ?_
  refine ae_goto 193 dX12_floats_170 rfl ?_
  refine ae_pick (lv' := []) [] rfl ?_
  exact t_X12_floats_193 d s14 hF16
def F_X12_floats_186 (t0 : Int32) (s0 : ae_S) : Option (Unit × ae_S) := ae_bd (F_X12_one t0 s0) (fun (r17 : Int32) s18 => ae_bd (F_X12_tells r17.toInt64 s18) (fun (r21 : Unit) s22 => F_X12_floats_193 s22))
set_option maxHeartbeats 4000000 in
set_option maxRecDepth 100000 in
theorem t_X12_floats_186 {l : Launch} {G : ae_G} (d : Nat) {rr : Unit} {ss : ae_S} (t0 : Int32) (s0 : ae_S) (hF : F_X12_floats_186 t0 s0 = some (rr, ss)) : ae_T l G (d + 1) mX12_floats (ae_Po none ss) 186 [] [ae_i t0, ae_r (some (30, 0))] s0 := by
  unfold F_X12_floats_186 at hF
  obtain ⟨r17, s18, hc19, hF20⟩ := ae_bdI hF
  refine ae_cS1 (As := [ae_i t0]) dX12_floats_186 ww_1579 vy_X12_one rfl rfl (Nat.le_of_ble_eq_true rfl) (c_X12_one d hc19) ?_
  refine ae_i2l dX12_floats_189 ?_
  obtain ⟨r21, s22, hc23, hF24⟩ := ae_bdI hF20
  refine ae_cV0 (q := (30, 0)) (As := [ae_l r17.toInt64]) dX12_floats_190 ww_1780 vy_X12_tells rfl rfl rfl rfl rfl (Nat.le_of_ble_eq_true rfl) (c_X12_tells d hc23) ?_
  refine ae_pick (lv' := []) [] rfl ?_
  exact t_X12_floats_193 d s22 hF24
def F_X12_floats (v1 : Int32) (v2 : UInt64) (v4 : UInt64) (s0 : ae_S) : Option (Unit × ae_S) := ae_lt (ae_wI s0 30 0 45 (1 : Int32)) (fun s25 => if v1 = (37 : Int32) then (ae_lt (ae_wD s25 30 0 47 (FP.drem v2 v4)) (fun s29 => F_X12_floats_193 s29)) else (if v1 = (42 : Int32) then (ae_lt (ae_wD s25 30 0 47 (FP.dmul v2 v4)) (fun s34 => F_X12_floats_193 s34)) else (if v1 = (43 : Int32) then (ae_lt (ae_wD s25 30 0 47 (FP.dadd v2 v4)) (fun s39 => F_X12_floats_193 s39)) else (if v1 = (45 : Int32) then (ae_lt (ae_wD s25 30 0 47 (FP.dsub v2 v4)) (fun s44 => F_X12_floats_193 s44)) else (if v1 = (47 : Int32) then (ae_lt (ae_wD s25 30 0 47 (FP.ddiv v2 v4)) (fun s49 => F_X12_floats_193 s49)) else (if v1 = (60 : Int32) then (if 0 ≤ (Op.cmpValue (FP.dcmp v2 v4) CmpOp.g) then (F_X12_floats_140 (0 : Int32) s25) else (F_X12_floats_140 (1 : Int32) s25)) else (if v1 = (62 : Int32) then (if (Op.cmpValue (FP.dcmp v2 v4) CmpOp.l) ≤ 0 then (F_X12_floats_163 (0 : Int32) s25) else (F_X12_floats_163 (1 : Int32) s25)) else (if (Op.cmpValue (FP.dcmp v2 v4) CmpOp.l) = 0 then (F_X12_floats_186 (1 : Int32) s25) else (F_X12_floats_186 (0 : Int32) s25)))))))))
set_option maxHeartbeats 4000000 in
set_option maxRecDepth 100000 in
theorem c_X12_floats {l : Launch} {G : ae_G} (d : Nat) {v1 : Int32} {v2 : UInt64} {v4 : UInt64} {s0 ss : ae_S} {rr : Unit} (hF : F_X12_floats v1 v2 v4 s0 = some (rr, ss)) : ae_Met l G (d + 1) yX12_floats mX12_floats [ae_r (some (30, 0)), ae_i v1, ae_d v2, ae_d v4] s0 (ae_Po none ss) := by
  refine ae_enter (by decide) rfl (Nat.le_of_ble_eq_true rfl) ?_
  show ae_T l G (d + 1) mX12_floats (ae_Po none ss) 0 [(0, ae_r (some (30, 0))), (1, ae_i v1), (2, ae_d v2), (4, ae_d v4)] [] s0
  unfold F_X12_floats at hF
  refine ae_aload_n 0 dX12_floats_0 rfl ?_
  refine ae_iconst (1 : Int32) dX12_floats_1 (by decide) ?_
  obtain ⟨s25, hs25, hF26⟩ := ae_ltI hF
  refine ae_putZ (q := (30, 0)) dX12_floats_2 fl_RX12_408 rfl rfl (by decide) (ae_nmS hs25 ?_)
  refine ae_iload_n 1 dX12_floats_5 rfl ?_
  by_cases hb27 : v1 = (37 : Int32)
  · have hF28 := ae_ifT hb27 hF26
    refine ae_lookup (off := 110) 116 dX12_floats_6 rfl (by rw [hb27]; first | done | rfl) rfl ?_
    refine ae_aload_n 0 dX12_floats_116 rfl ?_
    refine ae_dload_n 2 dX12_floats_117 rfl ?_
    refine ae_dload 3 dX12_floats_118 rfl ?_
    refine ae_drem dX12_floats_120 ?_
    obtain ⟨s29, hs29, hF30⟩ := ae_ltI hF28
    refine ae_putD (q := (30, 0)) dX12_floats_121 fl_RX12_415 rfl rfl (ae_nmS hs29 ?_)
    refine ae_goto 193 dX12_floats_124 rfl ?_
    refine ae_pick (lv' := []) [] rfl ?_
    exact t_X12_floats_193 d s29 hF30
  · have hF31 := ae_ifF hb27 hF26
    by_cases hb32 : v1 = (42 : Int32)
    · have hF33 := ae_ifT hb32 hF31
      refine ae_lookup (off := 88) 94 dX12_floats_6 rfl (by rw [hb32]; first | done | rfl) rfl ?_
      refine ae_aload_n 0 dX12_floats_94 rfl ?_
      refine ae_dload_n 2 dX12_floats_95 rfl ?_
      refine ae_dload 3 dX12_floats_96 rfl ?_
      refine ae_dmul dX12_floats_98 ?_
      obtain ⟨s34, hs34, hF35⟩ := ae_ltI hF33
      refine ae_putD (q := (30, 0)) dX12_floats_99 fl_RX12_415 rfl rfl (ae_nmS hs34 ?_)
      refine ae_goto 193 dX12_floats_102 rfl ?_
      refine ae_pick (lv' := []) [] rfl ?_
      exact t_X12_floats_193 d s34 hF35
    · have hF36 := ae_ifF hb32 hF31
      by_cases hb37 : v1 = (43 : Int32)
      · have hF38 := ae_ifT hb37 hF36
        refine ae_lookup (off := 66) 72 dX12_floats_6 rfl (by rw [hb37]; first | done | rfl) rfl ?_
        refine ae_aload_n 0 dX12_floats_72 rfl ?_
        refine ae_dload_n 2 dX12_floats_73 rfl ?_
        refine ae_dload 3 dX12_floats_74 rfl ?_
        refine ae_dadd dX12_floats_76 ?_
        obtain ⟨s39, hs39, hF40⟩ := ae_ltI hF38
        refine ae_putD (q := (30, 0)) dX12_floats_77 fl_RX12_415 rfl rfl (ae_nmS hs39 ?_)
        refine ae_goto 193 dX12_floats_80 rfl ?_
        refine ae_pick (lv' := []) [] rfl ?_
        exact t_X12_floats_193 d s39 hF40
      · have hF41 := ae_ifF hb37 hF36
        by_cases hb42 : v1 = (45 : Int32)
        · have hF43 := ae_ifT hb42 hF41
          refine ae_lookup (off := 77) 83 dX12_floats_6 rfl (by rw [hb42]; first | done | rfl) rfl ?_
          refine ae_aload_n 0 dX12_floats_83 rfl ?_
          refine ae_dload_n 2 dX12_floats_84 rfl ?_
          refine ae_dload 3 dX12_floats_85 rfl ?_
          refine ae_dsub dX12_floats_87 ?_
          obtain ⟨s44, hs44, hF45⟩ := ae_ltI hF43
          refine ae_putD (q := (30, 0)) dX12_floats_88 fl_RX12_415 rfl rfl (ae_nmS hs44 ?_)
          refine ae_goto 193 dX12_floats_91 rfl ?_
          refine ae_pick (lv' := []) [] rfl ?_
          exact t_X12_floats_193 d s44 hF45
        · have hF46 := ae_ifF hb42 hF41
          by_cases hb47 : v1 = (47 : Int32)
          · have hF48 := ae_ifT hb47 hF46
            refine ae_lookup (off := 99) 105 dX12_floats_6 rfl (by rw [hb47]; first | done | rfl) rfl ?_
            refine ae_aload_n 0 dX12_floats_105 rfl ?_
            refine ae_dload_n 2 dX12_floats_106 rfl ?_
            refine ae_dload 3 dX12_floats_107 rfl ?_
            refine ae_ddiv dX12_floats_109 ?_
            obtain ⟨s49, hs49, hF50⟩ := ae_ltI hF48
            refine ae_putD (q := (30, 0)) dX12_floats_110 fl_RX12_415 rfl rfl (ae_nmS hs49 ?_)
            refine ae_goto 193 dX12_floats_113 rfl ?_
            refine ae_pick (lv' := []) [] rfl ?_
            exact t_X12_floats_193 d s49 hF50
          · have hF51 := ae_ifF hb47 hF46
            by_cases hb52 : v1 = (60 : Int32)
            · have hF53 := ae_ifT hb52 hF51
              refine ae_lookup (off := 121) 127 dX12_floats_6 rfl (by rw [hb52]; first | done | rfl) rfl ?_
              refine ae_aload_n 0 dX12_floats_127 rfl ?_
              refine ae_dload_n 2 dX12_floats_128 rfl ?_
              refine ae_dload 3 dX12_floats_129 rfl ?_
              refine ae_dcmp dX12_floats_131 ?_
              refine ae_if_ge 139 dX12_floats_132 rfl (fun hb54 => ?_) (fun hb54 => ?_)
              · have hF55 := ae_ifT hb54 hF53
                refine ae_iconst (0 : Int32) dX12_floats_139 (by decide) ?_
                refine ae_pick (lv' := []) [] rfl ?_
                exact t_X12_floats_140 d (0 : Int32) s25 hF55
              · have hF55 := ae_ifF hb54 hF53
                refine ae_iconst (1 : Int32) dX12_floats_135 (by decide) ?_
                refine ae_goto 140 dX12_floats_136 rfl ?_
                refine ae_pick (lv' := []) [] rfl ?_
                exact t_X12_floats_140 d (1 : Int32) s25 hF55
            · have hF56 := ae_ifF hb52 hF51
              by_cases hb57 : v1 = (62 : Int32)
              · have hF58 := ae_ifT hb57 hF56
                refine ae_lookup (off := 144) 150 dX12_floats_6 rfl (by rw [hb57]; first | done | rfl) rfl ?_
                refine ae_aload_n 0 dX12_floats_150 rfl ?_
                refine ae_dload_n 2 dX12_floats_151 rfl ?_
                refine ae_dload 3 dX12_floats_152 rfl ?_
                refine ae_dcmp dX12_floats_154 ?_
                refine ae_if_le 162 dX12_floats_155 rfl (fun hb59 => ?_) (fun hb59 => ?_)
                · have hF60 := ae_ifT hb59 hF58
                  refine ae_iconst (0 : Int32) dX12_floats_162 (by decide) ?_
                  refine ae_pick (lv' := []) [] rfl ?_
                  exact t_X12_floats_163 d (0 : Int32) s25 hF60
                · have hF60 := ae_ifF hb59 hF58
                  refine ae_iconst (1 : Int32) dX12_floats_158 (by decide) ?_
                  refine ae_goto 163 dX12_floats_159 rfl ?_
                  refine ae_pick (lv' := []) [] rfl ?_
                  exact t_X12_floats_163 d (1 : Int32) s25 hF60
              · have hF61 := ae_ifF hb57 hF56
                have hn64 : ¬ (v1).toInt = 37 := lv_neT hb27 (by decide)
                have hn65 : ¬ (v1).toInt = 42 := lv_neT hb32 (by decide)
                have hn66 : ¬ (v1).toInt = 43 := lv_neT hb37 (by decide)
                have hn67 : ¬ (v1).toInt = 45 := lv_neT hb42 (by decide)
                have hn68 : ¬ (v1).toInt = 47 := lv_neT hb47 (by decide)
                have hn69 : ¬ (v1).toInt = 60 := lv_neT hb52 (by decide)
                have hn70 : ¬ (v1).toInt = 62 := lv_neT hb57 (by decide)
                refine ae_lookup (off := 167) 173 dX12_floats_6 rfl (by rw [lv_osw hb27 (by decide)]; rw [lv_osw hb32 (by decide)]; rw [lv_osw hb37 (by decide)]; rw [lv_osw hb42 (by decide)]; rw [lv_osw hb47 (by decide)]; rw [lv_osw hb52 (by decide)]; rw [lv_osw hb57 (by decide)]; first | done | rfl) rfl ?_
                refine ae_aload_n 0 dX12_floats_173 rfl ?_
                refine ae_dload_n 2 dX12_floats_174 rfl ?_
                refine ae_dload 3 dX12_floats_175 rfl ?_
                refine ae_dcmp dX12_floats_177 ?_
                refine ae_if_ne 185 dX12_floats_178 rfl (fun hb62 => ?_) (fun hb62 => ?_)
                · have hF63 := ae_ifF hb62 hF61
                  refine ae_iconst (0 : Int32) dX12_floats_185 (by decide) ?_
                  refine ae_pick (lv' := []) [] rfl ?_
                  exact t_X12_floats_186 d (0 : Int32) s25 hF63
                · have hF63 := ae_ifT hb62 hF61
                  refine ae_iconst (1 : Int32) dX12_floats_181 (by decide) ?_
                  refine ae_goto 186 dX12_floats_182 rfl ?_
                  refine ae_pick (lv' := []) [] rfl ?_
                  exact t_X12_floats_186 d (1 : Int32) s25 hF63
abbrev mX12_wholes : ae_M := (RX12, cX12_wholes, 6, none)
theorem vy_X12_wholes : ae_VY yX12_wholes mX12_wholes 3 := ⟨ww_1806, wq_104, ww_13, ww_1807, ⟨by decide, by decide, by decide +kernel⟩, by decide⟩
theorem dX12_wholes_0 : decode cX12_wholes 0 = .ok (.iload_n 1, 1) := by decide +kernel
theorem dX12_wholes_1 : decode cX12_wholes 1 = .ok (.bipush 47, 2) := by decide +kernel
theorem dX12_wholes_3 : decode cX12_wholes 3 = .ok (.if_icmp .eq 9, 3) := by decide +kernel
theorem dX12_wholes_6 : decode cX12_wholes 6 = .ok (.iload_n 1, 1) := by decide +kernel
theorem dX12_wholes_7 : decode cX12_wholes 7 = .ok (.bipush 37, 2) := by decide +kernel
theorem dX12_wholes_9 : decode cX12_wholes 9 = .ok (.if_icmp .ne 16, 3) := by decide +kernel
theorem dX12_wholes_12 : decode cX12_wholes 12 = .ok (.lload 4, 2) := by decide +kernel
theorem dX12_wholes_14 : decode cX12_wholes 14 = .ok (.lconst 0, 1) := by decide +kernel
theorem dX12_wholes_15 : decode cX12_wholes 15 = .ok (.lcmp, 1) := by decide +kernel
theorem dX12_wholes_16 : decode cX12_wholes 16 = .ok (.ifCond .ne 9, 3) := by decide +kernel
theorem dX12_wholes_19 : decode cX12_wholes 19 = .ok (.aload_n 0, 1) := by decide +kernel
theorem dX12_wholes_20 : decode cX12_wholes 20 = .ok (.iconst 2, 1) := by decide +kernel
theorem dX12_wholes_21 : decode cX12_wholes 21 = .ok (.invokevirtual 422, 3) := by decide +kernel
theorem dX12_wholes_24 : decode cX12_wholes 24 = .ok (.return_, 1) := by decide +kernel
theorem dX12_wholes_25 : decode cX12_wholes 25 = .ok (.iload_n 1, 1) := by decide +kernel
theorem dX12_wholes_26 : decode cX12_wholes 26 = .ok (.lookupswitch 167 #[(37, 110), (42, 88), (43, 66), (45, 77), (47, 99), (60, 121), (62, 144)], 66) := by decide +kernel
theorem dX12_wholes_92 : decode cX12_wholes 92 = .ok (.aload_n 0, 1) := by decide +kernel
theorem dX12_wholes_93 : decode cX12_wholes 93 = .ok (.lload_n 2, 1) := by decide +kernel
theorem dX12_wholes_94 : decode cX12_wholes 94 = .ok (.lload 4, 2) := by decide +kernel
theorem dX12_wholes_96 : decode cX12_wholes 96 = .ok (.ladd, 1) := by decide +kernel
theorem dX12_wholes_97 : decode cX12_wholes 97 = .ok (.invokevirtual 428, 3) := by decide +kernel
theorem dX12_wholes_100 : decode cX12_wholes 100 = .ok (.goto 113, 3) := by decide +kernel
theorem dX12_wholes_103 : decode cX12_wholes 103 = .ok (.aload_n 0, 1) := by decide +kernel
theorem dX12_wholes_104 : decode cX12_wholes 104 = .ok (.lload_n 2, 1) := by decide +kernel
theorem dX12_wholes_105 : decode cX12_wholes 105 = .ok (.lload 4, 2) := by decide +kernel
theorem dX12_wholes_107 : decode cX12_wholes 107 = .ok (.lsub, 1) := by decide +kernel
theorem dX12_wholes_108 : decode cX12_wholes 108 = .ok (.invokevirtual 428, 3) := by decide +kernel
theorem dX12_wholes_111 : decode cX12_wholes 111 = .ok (.goto 102, 3) := by decide +kernel
theorem dX12_wholes_114 : decode cX12_wholes 114 = .ok (.aload_n 0, 1) := by decide +kernel
theorem dX12_wholes_115 : decode cX12_wholes 115 = .ok (.lload_n 2, 1) := by decide +kernel
theorem dX12_wholes_116 : decode cX12_wholes 116 = .ok (.lload 4, 2) := by decide +kernel
theorem dX12_wholes_118 : decode cX12_wholes 118 = .ok (.lmul, 1) := by decide +kernel
theorem dX12_wholes_119 : decode cX12_wholes 119 = .ok (.invokevirtual 428, 3) := by decide +kernel
theorem dX12_wholes_122 : decode cX12_wholes 122 = .ok (.goto 91, 3) := by decide +kernel
theorem dX12_wholes_125 : decode cX12_wholes 125 = .ok (.aload_n 0, 1) := by decide +kernel
theorem dX12_wholes_126 : decode cX12_wholes 126 = .ok (.lload_n 2, 1) := by decide +kernel
theorem dX12_wholes_127 : decode cX12_wholes 127 = .ok (.lload 4, 2) := by decide +kernel
theorem dX12_wholes_129 : decode cX12_wholes 129 = .ok (.ldiv, 1) := by decide +kernel
theorem dX12_wholes_130 : decode cX12_wholes 130 = .ok (.invokevirtual 428, 3) := by decide +kernel
theorem dX12_wholes_133 : decode cX12_wholes 133 = .ok (.goto 80, 3) := by decide +kernel
theorem dX12_wholes_136 : decode cX12_wholes 136 = .ok (.aload_n 0, 1) := by decide +kernel
theorem dX12_wholes_137 : decode cX12_wholes 137 = .ok (.lload_n 2, 1) := by decide +kernel
theorem dX12_wholes_138 : decode cX12_wholes 138 = .ok (.lload 4, 2) := by decide +kernel
theorem dX12_wholes_140 : decode cX12_wholes 140 = .ok (.lrem, 1) := by decide +kernel
theorem dX12_wholes_141 : decode cX12_wholes 141 = .ok (.invokevirtual 428, 3) := by decide +kernel
theorem dX12_wholes_144 : decode cX12_wholes 144 = .ok (.goto 69, 3) := by decide +kernel
theorem dX12_wholes_147 : decode cX12_wholes 147 = .ok (.aload_n 0, 1) := by decide +kernel
theorem dX12_wholes_148 : decode cX12_wholes 148 = .ok (.lload_n 2, 1) := by decide +kernel
theorem dX12_wholes_149 : decode cX12_wholes 149 = .ok (.lload 4, 2) := by decide +kernel
theorem dX12_wholes_151 : decode cX12_wholes 151 = .ok (.lcmp, 1) := by decide +kernel
theorem dX12_wholes_152 : decode cX12_wholes 152 = .ok (.ifCond .ge 7, 3) := by decide +kernel
theorem dX12_wholes_155 : decode cX12_wholes 155 = .ok (.iconst 1, 1) := by decide +kernel
theorem dX12_wholes_156 : decode cX12_wholes 156 = .ok (.goto 4, 3) := by decide +kernel
theorem dX12_wholes_159 : decode cX12_wholes 159 = .ok (.iconst 0, 1) := by decide +kernel
theorem dX12_wholes_160 : decode cX12_wholes 160 = .ok (.invokestatic 260, 3) := by decide +kernel
theorem dX12_wholes_163 : decode cX12_wholes 163 = .ok (.i2l, 1) := by decide +kernel
theorem dX12_wholes_164 : decode cX12_wholes 164 = .ok (.invokevirtual 428, 3) := by decide +kernel
theorem dX12_wholes_167 : decode cX12_wholes 167 = .ok (.goto 46, 3) := by decide +kernel
theorem dX12_wholes_170 : decode cX12_wholes 170 = .ok (.aload_n 0, 1) := by decide +kernel
theorem dX12_wholes_171 : decode cX12_wholes 171 = .ok (.lload_n 2, 1) := by decide +kernel
theorem dX12_wholes_172 : decode cX12_wholes 172 = .ok (.lload 4, 2) := by decide +kernel
theorem dX12_wholes_174 : decode cX12_wholes 174 = .ok (.lcmp, 1) := by decide +kernel
theorem dX12_wholes_175 : decode cX12_wholes 175 = .ok (.ifCond .le 7, 3) := by decide +kernel
theorem dX12_wholes_178 : decode cX12_wholes 178 = .ok (.iconst 1, 1) := by decide +kernel
theorem dX12_wholes_179 : decode cX12_wholes 179 = .ok (.goto 4, 3) := by decide +kernel
theorem dX12_wholes_182 : decode cX12_wholes 182 = .ok (.iconst 0, 1) := by decide +kernel
theorem dX12_wholes_183 : decode cX12_wholes 183 = .ok (.invokestatic 260, 3) := by decide +kernel
theorem dX12_wholes_186 : decode cX12_wholes 186 = .ok (.i2l, 1) := by decide +kernel
theorem dX12_wholes_187 : decode cX12_wholes 187 = .ok (.invokevirtual 428, 3) := by decide +kernel
theorem dX12_wholes_190 : decode cX12_wholes 190 = .ok (.goto 23, 3) := by decide +kernel
theorem dX12_wholes_193 : decode cX12_wholes 193 = .ok (.aload_n 0, 1) := by decide +kernel
theorem dX12_wholes_194 : decode cX12_wholes 194 = .ok (.lload_n 2, 1) := by decide +kernel
theorem dX12_wholes_195 : decode cX12_wholes 195 = .ok (.lload 4, 2) := by decide +kernel
theorem dX12_wholes_197 : decode cX12_wholes 197 = .ok (.lcmp, 1) := by decide +kernel
theorem dX12_wholes_198 : decode cX12_wholes 198 = .ok (.ifCond .ne 7, 3) := by decide +kernel
theorem dX12_wholes_201 : decode cX12_wholes 201 = .ok (.iconst 1, 1) := by decide +kernel
theorem dX12_wholes_202 : decode cX12_wholes 202 = .ok (.goto 4, 3) := by decide +kernel
theorem dX12_wholes_205 : decode cX12_wholes 205 = .ok (.iconst 0, 1) := by decide +kernel
theorem dX12_wholes_206 : decode cX12_wholes 206 = .ok (.invokestatic 260, 3) := by decide +kernel
theorem dX12_wholes_209 : decode cX12_wholes 209 = .ok (.i2l, 1) := by decide +kernel
theorem dX12_wholes_210 : decode cX12_wholes 210 = .ok (.invokevirtual 428, 3) := by decide +kernel
theorem dX12_wholes_213 : decode cX12_wholes 213 = .ok (.return_, 1) := by decide +kernel
def F_X12_wholes_213 (s0 : ae_S) : Option (Unit × ae_S) := some ((), s0)
set_option maxHeartbeats 4000000 in
set_option maxRecDepth 100000 in
theorem t_X12_wholes_213 {l : Launch} {G : ae_G} (d : Nat) {rr : Unit} {ss : ae_S} (s0 : ae_S) (hF : F_X12_wholes_213 s0 = some (rr, ss)) : ae_T l G (d + 1) mX12_wholes (ae_Po none ss) 213 [] [] s0 := by
  unfold F_X12_wholes_213 at hF
  obtain ⟨rfl, rfl⟩ := ae_retI hF
  exact ae_vret dX12_wholes_213 rfl ⟨rfl, rfl⟩
def F_X12_wholes_160 (t0 : Int32) (s0 : ae_S) : Option (Unit × ae_S) := ae_bd (F_X12_one t0 s0) (fun (r1 : Int32) s2 => ae_bd (F_X12_tells r1.toInt64 s2) (fun (r5 : Unit) s6 => F_X12_wholes_213 s6))
set_option maxHeartbeats 4000000 in
set_option maxRecDepth 100000 in
theorem t_X12_wholes_160 {l : Launch} {G : ae_G} (d : Nat) {rr : Unit} {ss : ae_S} (t0 : Int32) (s0 : ae_S) (hF : F_X12_wholes_160 t0 s0 = some (rr, ss)) : ae_T l G (d + 1) mX12_wholes (ae_Po none ss) 160 [] [ae_i t0, ae_r (some (30, 0))] s0 := by
  unfold F_X12_wholes_160 at hF
  obtain ⟨r1, s2, hc3, hF4⟩ := ae_bdI hF
  refine ae_cS1 (As := [ae_i t0]) dX12_wholes_160 ww_1579 vy_X12_one rfl rfl (Nat.le_of_ble_eq_true rfl) (c_X12_one d hc3) ?_
  refine ae_i2l dX12_wholes_163 ?_
  obtain ⟨r5, s6, hc7, hF8⟩ := ae_bdI hF4
  refine ae_cV0 (q := (30, 0)) (As := [ae_l r1.toInt64]) dX12_wholes_164 ww_1780 vy_X12_tells rfl rfl rfl rfl rfl (Nat.le_of_ble_eq_true rfl) (c_X12_tells d hc7) ?_
  refine ae_goto 213 dX12_wholes_167 rfl ?_
  refine ae_pick (lv' := []) [] rfl ?_
  exact t_X12_wholes_213 d s6 hF8
def F_X12_wholes_183 (t0 : Int32) (s0 : ae_S) : Option (Unit × ae_S) := ae_bd (F_X12_one t0 s0) (fun (r9 : Int32) s10 => ae_bd (F_X12_tells r9.toInt64 s10) (fun (r13 : Unit) s14 => F_X12_wholes_213 s14))
set_option maxHeartbeats 4000000 in
set_option maxRecDepth 100000 in
theorem t_X12_wholes_183 {l : Launch} {G : ae_G} (d : Nat) {rr : Unit} {ss : ae_S} (t0 : Int32) (s0 : ae_S) (hF : F_X12_wholes_183 t0 s0 = some (rr, ss)) : ae_T l G (d + 1) mX12_wholes (ae_Po none ss) 183 [] [ae_i t0, ae_r (some (30, 0))] s0 := by
  unfold F_X12_wholes_183 at hF
  obtain ⟨r9, s10, hc11, hF12⟩ := ae_bdI hF
  refine ae_cS1 (As := [ae_i t0]) dX12_wholes_183 ww_1579 vy_X12_one rfl rfl (Nat.le_of_ble_eq_true rfl) (c_X12_one d hc11) ?_
  refine ae_i2l dX12_wholes_186 ?_
  obtain ⟨r13, s14, hc15, hF16⟩ := ae_bdI hF12
  refine ae_cV0 (q := (30, 0)) (As := [ae_l r9.toInt64]) dX12_wholes_187 ww_1780 vy_X12_tells rfl rfl rfl rfl rfl (Nat.le_of_ble_eq_true rfl) (c_X12_tells d hc15) ?_
  refine ae_goto 213 dX12_wholes_190 rfl ?_
  refine ae_pick (lv' := []) [] rfl ?_
  exact t_X12_wholes_213 d s14 hF16
def F_X12_wholes_206 (t0 : Int32) (s0 : ae_S) : Option (Unit × ae_S) := ae_bd (F_X12_one t0 s0) (fun (r17 : Int32) s18 => ae_bd (F_X12_tells r17.toInt64 s18) (fun (r21 : Unit) s22 => F_X12_wholes_213 s22))
set_option maxHeartbeats 4000000 in
set_option maxRecDepth 100000 in
theorem t_X12_wholes_206 {l : Launch} {G : ae_G} (d : Nat) {rr : Unit} {ss : ae_S} (t0 : Int32) (s0 : ae_S) (hF : F_X12_wholes_206 t0 s0 = some (rr, ss)) : ae_T l G (d + 1) mX12_wholes (ae_Po none ss) 206 [] [ae_i t0, ae_r (some (30, 0))] s0 := by
  unfold F_X12_wholes_206 at hF
  obtain ⟨r17, s18, hc19, hF20⟩ := ae_bdI hF
  refine ae_cS1 (As := [ae_i t0]) dX12_wholes_206 ww_1579 vy_X12_one rfl rfl (Nat.le_of_ble_eq_true rfl) (c_X12_one d hc19) ?_
  refine ae_i2l dX12_wholes_209 ?_
  obtain ⟨r21, s22, hc23, hF24⟩ := ae_bdI hF20
  refine ae_cV0 (q := (30, 0)) (As := [ae_l r17.toInt64]) dX12_wholes_210 ww_1780 vy_X12_tells rfl rfl rfl rfl rfl (Nat.le_of_ble_eq_true rfl) (c_X12_tells d hc23) ?_
  refine ae_pick (lv' := []) [] rfl ?_
  exact t_X12_wholes_213 d s22 hF24
def F_X12_wholes_25 (v1 : Int32) (v2 : Int64) (v4 : Int64) (s0 : ae_S) : Option (Unit × ae_S) := if v1 = (37 : Int32) then (ae_gd (!(decide (v4 = 0))) (ae_bd (F_X12_tells (v2 - v2 / v4 * v4) s0) (fun (r29 : Unit) s30 => F_X12_wholes_213 s30))) else (if v1 = (42 : Int32) then (ae_bd (F_X12_tells (v2 * v4) s0) (fun (r36 : Unit) s37 => F_X12_wholes_213 s37)) else (if v1 = (43 : Int32) then (ae_bd (F_X12_tells (v2 + v4) s0) (fun (r43 : Unit) s44 => F_X12_wholes_213 s44)) else (if v1 = (45 : Int32) then (ae_bd (F_X12_tells (v2 - v4) s0) (fun (r50 : Unit) s51 => F_X12_wholes_213 s51)) else (if v1 = (47 : Int32) then (ae_gd (!(decide (v4 = 0))) (ae_bd (F_X12_tells (v2 / v4) s0) (fun (r59 : Unit) s60 => F_X12_wholes_213 s60))) else (if v1 = (60 : Int32) then (if 0 ≤ (lg_cmp v2 v4) then (F_X12_wholes_160 (0 : Int32) s0) else (F_X12_wholes_160 (1 : Int32) s0)) else (if v1 = (62 : Int32) then (if (lg_cmp v2 v4) ≤ 0 then (F_X12_wholes_183 (0 : Int32) s0) else (F_X12_wholes_183 (1 : Int32) s0)) else (if (lg_cmp v2 v4) = 0 then (F_X12_wholes_206 (1 : Int32) s0) else (F_X12_wholes_206 (0 : Int32) s0))))))))
set_option maxHeartbeats 4000000 in
set_option maxRecDepth 100000 in
theorem t_X12_wholes_25 {l : Launch} {G : ae_G} (d : Nat) {rr : Unit} {ss : ae_S} (v1 : Int32) (v2 : Int64) (v4 : Int64) (s0 : ae_S) (hF : F_X12_wholes_25 v1 v2 v4 s0 = some (rr, ss)) : ae_T l G (d + 1) mX12_wholes (ae_Po none ss) 25 [(0, ae_r (some (30, 0))), (1, ae_i v1), (2, ae_l v2), (4, ae_l v4)] [] s0 := by
  unfold F_X12_wholes_25 at hF
  refine ae_iload_n 1 dX12_wholes_25 rfl ?_
  by_cases hb25 : v1 = (37 : Int32)
  · have hF26 := ae_ifT hb25 hF
    refine ae_lookup (off := 110) 136 dX12_wholes_26 rfl (by rw [hb25]; first | done | rfl) rfl ?_
    refine ae_aload_n 0 dX12_wholes_136 rfl ?_
    refine ae_lload_n 2 dX12_wholes_137 rfl ?_
    refine ae_lload 3 dX12_wholes_138 rfl ?_
    obtain ⟨hg27, hF28⟩ := ae_gdI hF26
    refine ae_lrem dX12_wholes_140 (by simpa using hg27) ?_
    obtain ⟨r29, s30, hc31, hF32⟩ := ae_bdI hF28
    refine ae_cV0 (q := (30, 0)) (As := [ae_l (v2 - v2 / v4 * v4)]) dX12_wholes_141 ww_1780 vy_X12_tells rfl rfl rfl rfl rfl (Nat.le_of_ble_eq_true rfl) (c_X12_tells d hc31) ?_
    refine ae_goto 213 dX12_wholes_144 rfl ?_
    refine ae_pick (lv' := []) [] rfl ?_
    exact t_X12_wholes_213 d s30 hF32
  · have hF33 := ae_ifF hb25 hF
    by_cases hb34 : v1 = (42 : Int32)
    · have hF35 := ae_ifT hb34 hF33
      refine ae_lookup (off := 88) 114 dX12_wholes_26 rfl (by rw [hb34]; first | done | rfl) rfl ?_
      refine ae_aload_n 0 dX12_wholes_114 rfl ?_
      refine ae_lload_n 2 dX12_wholes_115 rfl ?_
      refine ae_lload 3 dX12_wholes_116 rfl ?_
      refine ae_lmul dX12_wholes_118 ?_
      obtain ⟨r36, s37, hc38, hF39⟩ := ae_bdI hF35
      refine ae_cV0 (q := (30, 0)) (As := [ae_l (v2 * v4)]) dX12_wholes_119 ww_1780 vy_X12_tells rfl rfl rfl rfl rfl (Nat.le_of_ble_eq_true rfl) (c_X12_tells d hc38) ?_
      refine ae_goto 213 dX12_wholes_122 rfl ?_
      refine ae_pick (lv' := []) [] rfl ?_
      exact t_X12_wholes_213 d s37 hF39
    · have hF40 := ae_ifF hb34 hF33
      by_cases hb41 : v1 = (43 : Int32)
      · have hF42 := ae_ifT hb41 hF40
        refine ae_lookup (off := 66) 92 dX12_wholes_26 rfl (by rw [hb41]; first | done | rfl) rfl ?_
        refine ae_aload_n 0 dX12_wholes_92 rfl ?_
        refine ae_lload_n 2 dX12_wholes_93 rfl ?_
        refine ae_lload 3 dX12_wholes_94 rfl ?_
        refine ae_ladd dX12_wholes_96 ?_
        obtain ⟨r43, s44, hc45, hF46⟩ := ae_bdI hF42
        refine ae_cV0 (q := (30, 0)) (As := [ae_l (v2 + v4)]) dX12_wholes_97 ww_1780 vy_X12_tells rfl rfl rfl rfl rfl (Nat.le_of_ble_eq_true rfl) (c_X12_tells d hc45) ?_
        refine ae_goto 213 dX12_wholes_100 rfl ?_
        refine ae_pick (lv' := []) [] rfl ?_
        exact t_X12_wholes_213 d s44 hF46
      · have hF47 := ae_ifF hb41 hF40
        by_cases hb48 : v1 = (45 : Int32)
        · have hF49 := ae_ifT hb48 hF47
          refine ae_lookup (off := 77) 103 dX12_wholes_26 rfl (by rw [hb48]; first | done | rfl) rfl ?_
          refine ae_aload_n 0 dX12_wholes_103 rfl ?_
          refine ae_lload_n 2 dX12_wholes_104 rfl ?_
          refine ae_lload 3 dX12_wholes_105 rfl ?_
          refine ae_lsub dX12_wholes_107 ?_
          obtain ⟨r50, s51, hc52, hF53⟩ := ae_bdI hF49
          refine ae_cV0 (q := (30, 0)) (As := [ae_l (v2 - v4)]) dX12_wholes_108 ww_1780 vy_X12_tells rfl rfl rfl rfl rfl (Nat.le_of_ble_eq_true rfl) (c_X12_tells d hc52) ?_
          refine ae_goto 213 dX12_wholes_111 rfl ?_
          refine ae_pick (lv' := []) [] rfl ?_
          exact t_X12_wholes_213 d s51 hF53
        · have hF54 := ae_ifF hb48 hF47
          by_cases hb55 : v1 = (47 : Int32)
          · have hF56 := ae_ifT hb55 hF54
            refine ae_lookup (off := 99) 125 dX12_wholes_26 rfl (by rw [hb55]; first | done | rfl) rfl ?_
            refine ae_aload_n 0 dX12_wholes_125 rfl ?_
            refine ae_lload_n 2 dX12_wholes_126 rfl ?_
            refine ae_lload 3 dX12_wholes_127 rfl ?_
            obtain ⟨hg57, hF58⟩ := ae_gdI hF56
            refine ae_ldiv dX12_wholes_129 (by simpa using hg57) ?_
            obtain ⟨r59, s60, hc61, hF62⟩ := ae_bdI hF58
            refine ae_cV0 (q := (30, 0)) (As := [ae_l (v2 / v4)]) dX12_wholes_130 ww_1780 vy_X12_tells rfl rfl rfl rfl rfl (Nat.le_of_ble_eq_true rfl) (c_X12_tells d hc61) ?_
            refine ae_goto 213 dX12_wholes_133 rfl ?_
            refine ae_pick (lv' := []) [] rfl ?_
            exact t_X12_wholes_213 d s60 hF62
          · have hF63 := ae_ifF hb55 hF54
            by_cases hb64 : v1 = (60 : Int32)
            · have hF65 := ae_ifT hb64 hF63
              refine ae_lookup (off := 121) 147 dX12_wholes_26 rfl (by rw [hb64]; first | done | rfl) rfl ?_
              refine ae_aload_n 0 dX12_wholes_147 rfl ?_
              refine ae_lload_n 2 dX12_wholes_148 rfl ?_
              refine ae_lload 3 dX12_wholes_149 rfl ?_
              refine ae_lcmp dX12_wholes_151 ?_
              refine ae_if_ge 159 dX12_wholes_152 rfl (fun hb66 => ?_) (fun hb66 => ?_)
              · have hF67 := ae_ifT hb66 hF65
                refine ae_iconst (0 : Int32) dX12_wholes_159 (by decide) ?_
                refine ae_pick (lv' := []) [] rfl ?_
                exact t_X12_wholes_160 d (0 : Int32) s0 hF67
              · have hF67 := ae_ifF hb66 hF65
                refine ae_iconst (1 : Int32) dX12_wholes_155 (by decide) ?_
                refine ae_goto 160 dX12_wholes_156 rfl ?_
                refine ae_pick (lv' := []) [] rfl ?_
                exact t_X12_wholes_160 d (1 : Int32) s0 hF67
            · have hF68 := ae_ifF hb64 hF63
              by_cases hb69 : v1 = (62 : Int32)
              · have hF70 := ae_ifT hb69 hF68
                refine ae_lookup (off := 144) 170 dX12_wholes_26 rfl (by rw [hb69]; first | done | rfl) rfl ?_
                refine ae_aload_n 0 dX12_wholes_170 rfl ?_
                refine ae_lload_n 2 dX12_wholes_171 rfl ?_
                refine ae_lload 3 dX12_wholes_172 rfl ?_
                refine ae_lcmp dX12_wholes_174 ?_
                refine ae_if_le 182 dX12_wholes_175 rfl (fun hb71 => ?_) (fun hb71 => ?_)
                · have hF72 := ae_ifT hb71 hF70
                  refine ae_iconst (0 : Int32) dX12_wholes_182 (by decide) ?_
                  refine ae_pick (lv' := []) [] rfl ?_
                  exact t_X12_wholes_183 d (0 : Int32) s0 hF72
                · have hF72 := ae_ifF hb71 hF70
                  refine ae_iconst (1 : Int32) dX12_wholes_178 (by decide) ?_
                  refine ae_goto 183 dX12_wholes_179 rfl ?_
                  refine ae_pick (lv' := []) [] rfl ?_
                  exact t_X12_wholes_183 d (1 : Int32) s0 hF72
              · have hF73 := ae_ifF hb69 hF68
                have hn76 : ¬ (v1).toInt = 37 := lv_neT hb25 (by decide)
                have hn77 : ¬ (v1).toInt = 42 := lv_neT hb34 (by decide)
                have hn78 : ¬ (v1).toInt = 43 := lv_neT hb41 (by decide)
                have hn79 : ¬ (v1).toInt = 45 := lv_neT hb48 (by decide)
                have hn80 : ¬ (v1).toInt = 47 := lv_neT hb55 (by decide)
                have hn81 : ¬ (v1).toInt = 60 := lv_neT hb64 (by decide)
                have hn82 : ¬ (v1).toInt = 62 := lv_neT hb69 (by decide)
                refine ae_lookup (off := 167) 193 dX12_wholes_26 rfl (by rw [lv_osw hb25 (by decide)]; rw [lv_osw hb34 (by decide)]; rw [lv_osw hb41 (by decide)]; rw [lv_osw hb48 (by decide)]; rw [lv_osw hb55 (by decide)]; rw [lv_osw hb64 (by decide)]; rw [lv_osw hb69 (by decide)]; first | done | rfl) rfl ?_
                refine ae_aload_n 0 dX12_wholes_193 rfl ?_
                refine ae_lload_n 2 dX12_wholes_194 rfl ?_
                refine ae_lload 3 dX12_wholes_195 rfl ?_
                refine ae_lcmp dX12_wholes_197 ?_
                refine ae_if_ne 205 dX12_wholes_198 rfl (fun hb74 => ?_) (fun hb74 => ?_)
                · have hF75 := ae_ifF hb74 hF73
                  refine ae_iconst (0 : Int32) dX12_wholes_205 (by decide) ?_
                  refine ae_pick (lv' := []) [] rfl ?_
                  exact t_X12_wholes_206 d (0 : Int32) s0 hF75
                · have hF75 := ae_ifT hb74 hF73
                  refine ae_iconst (1 : Int32) dX12_wholes_201 (by decide) ?_
                  refine ae_goto 206 dX12_wholes_202 rfl ?_
                  refine ae_pick (lv' := []) [] rfl ?_
                  exact t_X12_wholes_206 d (1 : Int32) s0 hF75
def F_X12_wholes_12 (v1 : Int32) (v2 : Int64) (v4 : Int64) (s0 : ae_S) : Option (Unit × ae_S) := if (lg_cmp v4 (0 : Int64)) = 0 then (ae_bd (F_X12_comes (2 : Int32) s0) (fun (r85 : Unit) s86 => some ((), s86))) else (F_X12_wholes_25 v1 v2 v4 s0)
set_option maxHeartbeats 4000000 in
set_option maxRecDepth 100000 in
theorem t_X12_wholes_12 {l : Launch} {G : ae_G} (d : Nat) {rr : Unit} {ss : ae_S} (v1 : Int32) (v2 : Int64) (v4 : Int64) (s0 : ae_S) (hF : F_X12_wholes_12 v1 v2 v4 s0 = some (rr, ss)) : ae_T l G (d + 1) mX12_wholes (ae_Po none ss) 12 [(0, ae_r (some (30, 0))), (1, ae_i v1), (2, ae_l v2), (4, ae_l v4)] [] s0 := by
  unfold F_X12_wholes_12 at hF
  refine ae_lload 3 dX12_wholes_12 rfl ?_
  refine ae_lconst (0 : Int64) dX12_wholes_14 (by decide) ?_
  refine ae_lcmp dX12_wholes_15 ?_
  refine ae_if_ne 25 dX12_wholes_16 rfl (fun hb83 => ?_) (fun hb83 => ?_)
  · have hF84 := ae_ifF hb83 hF
    refine ae_pick (lv' := [(0, ae_r (some (30, 0))), (1, ae_i v1), (2, ae_l v2), (4, ae_l v4)]) [0, 1, 2, 3] rfl ?_
    exact t_X12_wholes_25 d v1 v2 v4 s0 hF84
  · have hF84 := ae_ifT hb83 hF
    refine ae_aload_n 0 dX12_wholes_19 rfl ?_
    refine ae_iconst (2 : Int32) dX12_wholes_20 (by decide) ?_
    obtain ⟨r85, s86, hc87, hF88⟩ := ae_bdI hF84
    refine ae_cV0 (q := (30, 0)) (As := [ae_i (2 : Int32)]) dX12_wholes_21 ww_1792 vy_X12_comes rfl rfl rfl rfl rfl (Nat.le_of_ble_eq_true rfl) (c_X12_comes d hc87) ?_
    obtain ⟨rfl, rfl⟩ := ae_retI hF88
    exact ae_vret dX12_wholes_24 rfl ⟨rfl, rfl⟩
def F_X12_wholes (v1 : Int32) (v2 : Int64) (v4 : Int64) (s0 : ae_S) : Option (Unit × ae_S) := if v1 = (47 : Int32) then (F_X12_wholes_12 v1 v2 v4 s0) else (if v1 = (37 : Int32) then (F_X12_wholes_12 v1 v2 v4 s0) else (F_X12_wholes_25 v1 v2 v4 s0))
set_option maxHeartbeats 4000000 in
set_option maxRecDepth 100000 in
theorem c_X12_wholes {l : Launch} {G : ae_G} (d : Nat) {v1 : Int32} {v2 : Int64} {v4 : Int64} {s0 ss : ae_S} {rr : Unit} (hF : F_X12_wholes v1 v2 v4 s0 = some (rr, ss)) : ae_Met l G (d + 1) yX12_wholes mX12_wholes [ae_r (some (30, 0)), ae_i v1, ae_l v2, ae_l v4] s0 (ae_Po none ss) := by
  refine ae_enter (by decide) rfl (Nat.le_of_ble_eq_true rfl) ?_
  show ae_T l G (d + 1) mX12_wholes (ae_Po none ss) 0 [(0, ae_r (some (30, 0))), (1, ae_i v1), (2, ae_l v2), (4, ae_l v4)] [] s0
  unfold F_X12_wholes at hF
  refine ae_iload_n 1 dX12_wholes_0 rfl ?_
  refine ae_bipush (47 : Int32) dX12_wholes_1 (by decide) ?_
  refine ae_icmp_eq 12 dX12_wholes_3 rfl (fun hb89 => ?_) (fun hb89 => ?_)
  · have hF90 := ae_ifT hb89 hF
    refine ae_pick (lv' := [(0, ae_r (some (30, 0))), (1, ae_i v1), (2, ae_l v2), (4, ae_l v4)]) [0, 1, 2, 3] rfl ?_
    exact t_X12_wholes_12 d v1 v2 v4 s0 hF90
  · have hF90 := ae_ifF hb89 hF
    refine ae_iload_n 1 dX12_wholes_6 rfl ?_
    refine ae_bipush (37 : Int32) dX12_wholes_7 (by decide) ?_
    refine ae_icmp_ne 25 dX12_wholes_9 rfl (fun hb91 => ?_) (fun hb91 => ?_)
    · have hF92 := ae_ifF hb91 hF90
      refine ae_pick (lv' := [(0, ae_r (some (30, 0))), (1, ae_i v1), (2, ae_l v2), (4, ae_l v4)]) [0, 1, 2, 3] rfl ?_
      exact t_X12_wholes_25 d v1 v2 v4 s0 hF92
    · have hF92 := ae_ifT hb91 hF90
      refine ae_pick (lv' := [(0, ae_r (some (30, 0))), (1, ae_i v1), (2, ae_l v2), (4, ae_l v4)]) [0, 1, 2, 3] rfl ?_
      exact t_X12_wholes_12 d v1 v2 v4 s0 hF92
abbrev mX12_works : ae_M := (RX12, cX12_works, 7, none)
theorem vy_X12_works : ae_VY yX12_works mX12_works 1 := ⟨ww_1778, wq_97, ww_13, ww_1779, ⟨by decide, by decide, by decide +kernel⟩, by decide⟩
theorem dX12_works_0 : decode cX12_works 0 = .ok (.aload_n 0, 1) := by decide +kernel
theorem dX12_works_1 : decode cX12_works 1 = .ok (.getfield 66, 3) := by decide +kernel
theorem dX12_works_4 : decode cX12_works 4 = .ok (.iload_n 1, 1) := by decide +kernel
theorem dX12_works_5 : decode cX12_works 5 = .ok (.iaload, 1) := by decide +kernel
theorem dX12_works_6 : decode cX12_works 6 = .ok (.tableswitch 92 0 3 #[30, 41, 57, 63], 30) := by decide +kernel
theorem dX12_works_36 : decode cX12_works 36 = .ok (.aload_n 0, 1) := by decide +kernel
theorem dX12_works_37 : decode cX12_works 37 = .ok (.aload_n 0, 1) := by decide +kernel
theorem dX12_works_38 : decode cX12_works 38 = .ok (.getfield 78, 3) := by decide +kernel
theorem dX12_works_41 : decode cX12_works 41 = .ok (.iload_n 1, 1) := by decide +kernel
theorem dX12_works_42 : decode cX12_works 42 = .ok (.laload, 1) := by decide +kernel
theorem dX12_works_43 : decode cX12_works 43 = .ok (.invokevirtual 428, 3) := by decide +kernel
theorem dX12_works_46 : decode cX12_works 46 = .ok (.return_, 1) := by decide +kernel
theorem dX12_works_47 : decode cX12_works 47 = .ok (.aload_n 0, 1) := by decide +kernel
theorem dX12_works_48 : decode cX12_works 48 = .ok (.iconst 1, 1) := by decide +kernel
theorem dX12_works_49 : decode cX12_works 49 = .ok (.putfield 408, 3) := by decide +kernel
theorem dX12_works_52 : decode cX12_works 52 = .ok (.aload_n 0, 1) := by decide +kernel
theorem dX12_works_53 : decode cX12_works 53 = .ok (.aload_n 0, 1) := by decide +kernel
theorem dX12_works_54 : decode cX12_works 54 = .ok (.getfield 81, 3) := by decide +kernel
theorem dX12_works_57 : decode cX12_works 57 = .ok (.iload_n 1, 1) := by decide +kernel
theorem dX12_works_58 : decode cX12_works 58 = .ok (.daload, 1) := by decide +kernel
theorem dX12_works_59 : decode cX12_works 59 = .ok (.putfield 415, 3) := by decide +kernel
theorem dX12_works_62 : decode cX12_works 62 = .ok (.return_, 1) := by decide +kernel
theorem dX12_works_63 : decode cX12_works 63 = .ok (.aload_n 0, 1) := by decide +kernel
theorem dX12_works_64 : decode cX12_works 64 = .ok (.iload_n 1, 1) := by decide +kernel
theorem dX12_works_65 : decode cX12_works 65 = .ok (.invokevirtual 432, 3) := by decide +kernel
theorem dX12_works_68 : decode cX12_works 68 = .ok (.return_, 1) := by decide +kernel
theorem dX12_works_69 : decode cX12_works 69 = .ok (.aload_n 0, 1) := by decide +kernel
theorem dX12_works_70 : decode cX12_works 70 = .ok (.aload_n 0, 1) := by decide +kernel
theorem dX12_works_71 : decode cX12_works 71 = .ok (.getfield 69, 3) := by decide +kernel
theorem dX12_works_74 : decode cX12_works 74 = .ok (.iload_n 1, 1) := by decide +kernel
theorem dX12_works_75 : decode cX12_works 75 = .ok (.iaload, 1) := by decide +kernel
theorem dX12_works_76 : decode cX12_works 76 = .ok (.invokevirtual 419, 3) := by decide +kernel
theorem dX12_works_79 : decode cX12_works 79 = .ok (.aload_n 0, 1) := by decide +kernel
theorem dX12_works_80 : decode cX12_works 80 = .ok (.aload_n 0, 1) := by decide +kernel
theorem dX12_works_81 : decode cX12_works 81 = .ok (.getfield 412, 3) := by decide +kernel
theorem dX12_works_84 : decode cX12_works 84 = .ok (.lneg, 1) := by decide +kernel
theorem dX12_works_85 : decode cX12_works 85 = .ok (.putfield 412, 3) := by decide +kernel
theorem dX12_works_88 : decode cX12_works 88 = .ok (.aload_n 0, 1) := by decide +kernel
theorem dX12_works_89 : decode cX12_works 89 = .ok (.aload_n 0, 1) := by decide +kernel
theorem dX12_works_90 : decode cX12_works 90 = .ok (.getfield 415, 3) := by decide +kernel
theorem dX12_works_93 : decode cX12_works 93 = .ok (.dneg, 1) := by decide +kernel
theorem dX12_works_94 : decode cX12_works 94 = .ok (.putfield 415, 3) := by decide +kernel
theorem dX12_works_97 : decode cX12_works 97 = .ok (.return_, 1) := by decide +kernel
theorem dX12_works_98 : decode cX12_works 98 = .ok (.aload_n 0, 1) := by decide +kernel
theorem dX12_works_99 : decode cX12_works 99 = .ok (.aload_n 0, 1) := by decide +kernel
theorem dX12_works_100 : decode cX12_works 100 = .ok (.getfield 69, 3) := by decide +kernel
theorem dX12_works_103 : decode cX12_works 103 = .ok (.iload_n 1, 1) := by decide +kernel
theorem dX12_works_104 : decode cX12_works 104 = .ok (.iaload, 1) := by decide +kernel
theorem dX12_works_105 : decode cX12_works 105 = .ok (.invokevirtual 419, 3) := by decide +kernel
theorem dX12_works_108 : decode cX12_works 108 = .ok (.aload_n 0, 1) := by decide +kernel
theorem dX12_works_109 : decode cX12_works 109 = .ok (.getfield 402, 3) := by decide +kernel
theorem dX12_works_112 : decode cX12_works 112 = .ok (.ifCond .eq 4, 3) := by decide +kernel
theorem dX12_works_115 : decode cX12_works 115 = .ok (.return_, 1) := by decide +kernel
theorem dX12_works_116 : decode cX12_works 116 = .ok (.aload_n 0, 1) := by decide +kernel
theorem dX12_works_117 : decode cX12_works 117 = .ok (.getfield 408, 3) := by decide +kernel
theorem dX12_works_120 : decode cX12_works 120 = .ok (.istore_n 2, 1) := by decide +kernel
theorem dX12_works_121 : decode cX12_works 121 = .ok (.aload_n 0, 1) := by decide +kernel
theorem dX12_works_122 : decode cX12_works 122 = .ok (.getfield 412, 3) := by decide +kernel
theorem dX12_works_125 : decode cX12_works 125 = .ok (.lstore_n 3, 1) := by decide +kernel
theorem dX12_works_126 : decode cX12_works 126 = .ok (.aload_n 0, 1) := by decide +kernel
theorem dX12_works_127 : decode cX12_works 127 = .ok (.invokevirtual 434, 3) := by decide +kernel
theorem dX12_works_130 : decode cX12_works 130 = .ok (.dstore 5, 2) := by decide +kernel
theorem dX12_works_132 : decode cX12_works 132 = .ok (.aload_n 0, 1) := by decide +kernel
theorem dX12_works_133 : decode cX12_works 133 = .ok (.aload_n 0, 1) := by decide +kernel
theorem dX12_works_134 : decode cX12_works 134 = .ok (.getfield 72, 3) := by decide +kernel
theorem dX12_works_137 : decode cX12_works 137 = .ok (.iload_n 1, 1) := by decide +kernel
theorem dX12_works_138 : decode cX12_works 138 = .ok (.iaload, 1) := by decide +kernel
theorem dX12_works_139 : decode cX12_works 139 = .ok (.invokevirtual 419, 3) := by decide +kernel
theorem dX12_works_142 : decode cX12_works 142 = .ok (.aload_n 0, 1) := by decide +kernel
theorem dX12_works_143 : decode cX12_works 143 = .ok (.getfield 402, 3) := by decide +kernel
theorem dX12_works_146 : decode cX12_works 146 = .ok (.ifCond .eq 4, 3) := by decide +kernel
theorem dX12_works_149 : decode cX12_works 149 = .ok (.return_, 1) := by decide +kernel
theorem dX12_works_150 : decode cX12_works 150 = .ok (.iload_n 2, 1) := by decide +kernel
theorem dX12_works_151 : decode cX12_works 151 = .ok (.ifCond .ne 10, 3) := by decide +kernel
theorem dX12_works_154 : decode cX12_works 154 = .ok (.aload_n 0, 1) := by decide +kernel
theorem dX12_works_155 : decode cX12_works 155 = .ok (.getfield 408, 3) := by decide +kernel
theorem dX12_works_158 : decode cX12_works 158 = .ok (.ifCond .eq 22, 3) := by decide +kernel
theorem dX12_works_161 : decode cX12_works 161 = .ok (.aload_n 0, 1) := by decide +kernel
theorem dX12_works_162 : decode cX12_works 162 = .ok (.aload_n 0, 1) := by decide +kernel
theorem dX12_works_163 : decode cX12_works 163 = .ok (.getfield 66, 3) := by decide +kernel
theorem dX12_works_166 : decode cX12_works 166 = .ok (.iload_n 1, 1) := by decide +kernel
theorem dX12_works_167 : decode cX12_works 167 = .ok (.iaload, 1) := by decide +kernel
theorem dX12_works_168 : decode cX12_works 168 = .ok (.dload 5, 2) := by decide +kernel
theorem dX12_works_170 : decode cX12_works 170 = .ok (.aload_n 0, 1) := by decide +kernel
theorem dX12_works_171 : decode cX12_works 171 = .ok (.invokevirtual 434, 3) := by decide +kernel
theorem dX12_works_174 : decode cX12_works 174 = .ok (.invokevirtual 438, 3) := by decide +kernel
theorem dX12_works_177 : decode cX12_works 177 = .ok (.goto 18, 3) := by decide +kernel
theorem dX12_works_180 : decode cX12_works 180 = .ok (.aload_n 0, 1) := by decide +kernel
theorem dX12_works_181 : decode cX12_works 181 = .ok (.aload_n 0, 1) := by decide +kernel
theorem dX12_works_182 : decode cX12_works 182 = .ok (.getfield 66, 3) := by decide +kernel
theorem dX12_works_185 : decode cX12_works 185 = .ok (.iload_n 1, 1) := by decide +kernel
theorem dX12_works_186 : decode cX12_works 186 = .ok (.iaload, 1) := by decide +kernel
theorem dX12_works_187 : decode cX12_works 187 = .ok (.lload_n 3, 1) := by decide +kernel
theorem dX12_works_188 : decode cX12_works 188 = .ok (.aload_n 0, 1) := by decide +kernel
theorem dX12_works_189 : decode cX12_works 189 = .ok (.getfield 412, 3) := by decide +kernel
theorem dX12_works_192 : decode cX12_works 192 = .ok (.invokevirtual 442, 3) := by decide +kernel
theorem dX12_works_195 : decode cX12_works 195 = .ok (.return_, 1) := by decide +kernel
abbrev mX12_reads : ae_M := (RX12, cX12_reads, 4, none)
theorem vy_X12_reads : ae_VY yX12_reads mX12_reads 1 := ⟨ww_1786, wq_99, ww_13, ww_1787, ⟨by decide, by decide, by decide +kernel⟩, by decide⟩
theorem dX12_reads_0 : decode cX12_reads 0 = .ok (.aload_n 0, 1) := by decide +kernel
theorem dX12_reads_1 : decode cX12_reads 1 = .ok (.iload_n 1, 1) := by decide +kernel
theorem dX12_reads_2 : decode cX12_reads 2 = .ok (.invokevirtual 425, 3) := by decide +kernel
theorem dX12_reads_5 : decode cX12_reads 5 = .ok (.istore_n 2, 1) := by decide +kernel
theorem dX12_reads_6 : decode cX12_reads 6 = .ok (.aload_n 0, 1) := by decide +kernel
theorem dX12_reads_7 : decode cX12_reads 7 = .ok (.getfield 402, 3) := by decide +kernel
theorem dX12_reads_10 : decode cX12_reads 10 = .ok (.ifCond .eq 4, 3) := by decide +kernel
theorem dX12_reads_13 : decode cX12_reads 13 = .ok (.return_, 1) := by decide +kernel
theorem dX12_reads_14 : decode cX12_reads 14 = .ok (.aload_n 0, 1) := by decide +kernel
theorem dX12_reads_15 : decode cX12_reads 15 = .ok (.getfield 69, 3) := by decide +kernel
theorem dX12_reads_18 : decode cX12_reads 18 = .ok (.iload_n 1, 1) := by decide +kernel
theorem dX12_reads_19 : decode cX12_reads 19 = .ok (.iaload, 1) := by decide +kernel
theorem dX12_reads_20 : decode cX12_reads 20 = .ok (.istore_n 3, 1) := by decide +kernel
theorem dX12_reads_21 : decode cX12_reads 21 = .ok (.aload_n 0, 1) := by decide +kernel
theorem dX12_reads_22 : decode cX12_reads 22 = .ok (.getfield 78, 3) := by decide +kernel
theorem dX12_reads_25 : decode cX12_reads 25 = .ok (.iload_n 1, 1) := by decide +kernel
theorem dX12_reads_26 : decode cX12_reads 26 = .ok (.laload, 1) := by decide +kernel
theorem dX12_reads_27 : decode cX12_reads 27 = .ok (.ldc2_w 334, 3) := by decide +kernel
theorem dX12_reads_30 : decode cX12_reads 30 = .ok (.lcmp, 1) := by decide +kernel
theorem dX12_reads_31 : decode cX12_reads 31 = .ok (.ifCond .eq 23, 3) := by decide +kernel
theorem dX12_reads_34 : decode cX12_reads 34 = .ok (.aload_n 0, 1) := by decide +kernel
theorem dX12_reads_35 : decode cX12_reads 35 = .ok (.aload_n 0, 1) := by decide +kernel
theorem dX12_reads_36 : decode cX12_reads 36 = .ok (.iload_n 3, 1) := by decide +kernel
theorem dX12_reads_37 : decode cX12_reads 37 = .ok (.iload_n 2, 1) := by decide +kernel
theorem dX12_reads_38 : decode cX12_reads 38 = .ok (.aload_n 0, 1) := by decide +kernel
theorem dX12_reads_39 : decode cX12_reads 39 = .ok (.getfield 78, 3) := by decide +kernel
theorem dX12_reads_42 : decode cX12_reads 42 = .ok (.iload_n 1, 1) := by decide +kernel
theorem dX12_reads_43 : decode cX12_reads 43 = .ok (.laload, 1) := by decide +kernel
theorem dX12_reads_44 : decode cX12_reads 44 = .ok (.l2i, 1) := by decide +kernel
theorem dX12_reads_45 : decode cX12_reads 45 = .ok (.invokevirtual 352, 3) := by decide +kernel
theorem dX12_reads_48 : decode cX12_reads 48 = .ok (.invokevirtual 428, 3) := by decide +kernel
theorem dX12_reads_51 : decode cX12_reads 51 = .ok (.goto 39, 3) := by decide +kernel
theorem dX12_reads_54 : decode cX12_reads 54 = .ok (.aload_n 0, 1) := by decide +kernel
theorem dX12_reads_55 : decode cX12_reads 55 = .ok (.iload_n 3, 1) := by decide +kernel
theorem dX12_reads_56 : decode cX12_reads 56 = .ok (.invokevirtual 316, 3) := by decide +kernel
theorem dX12_reads_59 : decode cX12_reads 59 = .ok (.ifCond .eq 21, 3) := by decide +kernel
theorem dX12_reads_62 : decode cX12_reads 62 = .ok (.aload_n 0, 1) := by decide +kernel
theorem dX12_reads_63 : decode cX12_reads 63 = .ok (.iconst 1, 1) := by decide +kernel
theorem dX12_reads_64 : decode cX12_reads 64 = .ok (.putfield 408, 3) := by decide +kernel
theorem dX12_reads_67 : decode cX12_reads 67 = .ok (.aload_n 0, 1) := by decide +kernel
theorem dX12_reads_68 : decode cX12_reads 68 = .ok (.aload_n 0, 1) := by decide +kernel
theorem dX12_reads_69 : decode cX12_reads 69 = .ok (.iload_n 3, 1) := by decide +kernel
theorem dX12_reads_70 : decode cX12_reads 70 = .ok (.iload_n 2, 1) := by decide +kernel
theorem dX12_reads_71 : decode cX12_reads 71 = .ok (.invokevirtual 322, 3) := by decide +kernel
theorem dX12_reads_74 : decode cX12_reads 74 = .ok (.putfield 415, 3) := by decide +kernel
theorem dX12_reads_77 : decode cX12_reads 77 = .ok (.goto 13, 3) := by decide +kernel
theorem dX12_reads_80 : decode cX12_reads 80 = .ok (.aload_n 0, 1) := by decide +kernel
theorem dX12_reads_81 : decode cX12_reads 81 = .ok (.aload_n 0, 1) := by decide +kernel
theorem dX12_reads_82 : decode cX12_reads 82 = .ok (.iload_n 3, 1) := by decide +kernel
theorem dX12_reads_83 : decode cX12_reads 83 = .ok (.iload_n 2, 1) := by decide +kernel
theorem dX12_reads_84 : decode cX12_reads 84 = .ok (.invokevirtual 319, 3) := by decide +kernel
theorem dX12_reads_87 : decode cX12_reads 87 = .ok (.invokevirtual 428, 3) := by decide +kernel
theorem dX12_reads_90 : decode cX12_reads 90 = .ok (.aload_n 0, 1) := by decide +kernel
theorem dX12_reads_91 : decode cX12_reads 91 = .ok (.getfield 44, 3) := by decide +kernel
theorem dX12_reads_94 : decode cX12_reads 94 = .ok (.iload_n 3, 1) := by decide +kernel
theorem dX12_reads_95 : decode cX12_reads 95 = .ok (.iaload, 1) := by decide +kernel
theorem dX12_reads_96 : decode cX12_reads 96 = .ok (.iconst 3, 1) := by decide +kernel
theorem dX12_reads_97 : decode cX12_reads 97 = .ok (.if_icmp .ne 10, 3) := by decide +kernel
theorem dX12_reads_100 : decode cX12_reads 100 = .ok (.aload_n 0, 1) := by decide +kernel
theorem dX12_reads_101 : decode cX12_reads 101 = .ok (.iload_n 3, 1) := by decide +kernel
theorem dX12_reads_102 : decode cX12_reads 102 = .ok (.iload_n 2, 1) := by decide +kernel
theorem dX12_reads_103 : decode cX12_reads 103 = .ok (.lconst 0, 1) := by decide +kernel
theorem dX12_reads_104 : decode cX12_reads 104 = .ok (.invokevirtual 336, 3) := by decide +kernel
theorem dX12_reads_107 : decode cX12_reads 107 = .ok (.return_, 1) := by decide +kernel
abbrev mX12_elementOf : ae_M := (RX12, cX12_elementOf, 4, some .int)
theorem vy_X12_elementOf : ae_VY yX12_elementOf mX12_elementOf 1 := ⟨ww_1790, wq_100, ww_13, ww_1791, ⟨by decide, by decide, by decide +kernel⟩, by decide⟩
theorem dX12_elementOf_0 : decode cX12_elementOf 0 = .ok (.aload_n 0, 1) := by decide +kernel
theorem dX12_elementOf_1 : decode cX12_elementOf 1 = .ok (.getfield 72, 3) := by decide +kernel
theorem dX12_elementOf_4 : decode cX12_elementOf 4 = .ok (.iload_n 1, 1) := by decide +kernel
theorem dX12_elementOf_5 : decode cX12_elementOf 5 = .ok (.iaload, 1) := by decide +kernel
theorem dX12_elementOf_6 : decode cX12_elementOf 6 = .ok (.iconst (-1), 1) := by decide +kernel
theorem dX12_elementOf_7 : decode cX12_elementOf 7 = .ok (.if_icmp .ne 5, 3) := by decide +kernel
theorem dX12_elementOf_10 : decode cX12_elementOf 10 = .ok (.iconst 0, 1) := by decide +kernel
theorem dX12_elementOf_11 : decode cX12_elementOf 11 = .ok (.ireturn, 1) := by decide +kernel
theorem dX12_elementOf_12 : decode cX12_elementOf 12 = .ok (.aload_n 0, 1) := by decide +kernel
theorem dX12_elementOf_13 : decode cX12_elementOf 13 = .ok (.aload_n 0, 1) := by decide +kernel
theorem dX12_elementOf_14 : decode cX12_elementOf 14 = .ok (.getfield 72, 3) := by decide +kernel
theorem dX12_elementOf_17 : decode cX12_elementOf 17 = .ok (.iload_n 1, 1) := by decide +kernel
theorem dX12_elementOf_18 : decode cX12_elementOf 18 = .ok (.iaload, 1) := by decide +kernel
theorem dX12_elementOf_19 : decode cX12_elementOf 19 = .ok (.invokevirtual 419, 3) := by decide +kernel
theorem dX12_elementOf_22 : decode cX12_elementOf 22 = .ok (.aload_n 0, 1) := by decide +kernel
theorem dX12_elementOf_23 : decode cX12_elementOf 23 = .ok (.getfield 402, 3) := by decide +kernel
theorem dX12_elementOf_26 : decode cX12_elementOf 26 = .ok (.ifCond .eq 5, 3) := by decide +kernel
theorem dX12_elementOf_29 : decode cX12_elementOf 29 = .ok (.iconst (-1), 1) := by decide +kernel
theorem dX12_elementOf_30 : decode cX12_elementOf 30 = .ok (.ireturn, 1) := by decide +kernel
theorem dX12_elementOf_31 : decode cX12_elementOf 31 = .ok (.aload_n 0, 1) := by decide +kernel
theorem dX12_elementOf_32 : decode cX12_elementOf 32 = .ok (.getfield 408, 3) := by decide +kernel
theorem dX12_elementOf_35 : decode cX12_elementOf 35 = .ok (.ifCond .eq 11, 3) := by decide +kernel
theorem dX12_elementOf_38 : decode cX12_elementOf 38 = .ok (.aload_n 0, 1) := by decide +kernel
theorem dX12_elementOf_39 : decode cX12_elementOf 39 = .ok (.getfield 415, 3) := by decide +kernel
theorem dX12_elementOf_42 : decode cX12_elementOf 42 = .ok (.d2l, 1) := by decide +kernel
theorem dX12_elementOf_43 : decode cX12_elementOf 43 = .ok (.goto 7, 3) := by decide +kernel
theorem dX12_elementOf_46 : decode cX12_elementOf 46 = .ok (.aload_n 0, 1) := by decide +kernel
theorem dX12_elementOf_47 : decode cX12_elementOf 47 = .ok (.getfield 412, 3) := by decide +kernel
theorem dX12_elementOf_50 : decode cX12_elementOf 50 = .ok (.lstore_n 2, 1) := by decide +kernel
theorem dX12_elementOf_51 : decode cX12_elementOf 51 = .ok (.aload_n 0, 1) := by decide +kernel
theorem dX12_elementOf_52 : decode cX12_elementOf 52 = .ok (.aload_n 0, 1) := by decide +kernel
theorem dX12_elementOf_53 : decode cX12_elementOf 53 = .ok (.getfield 69, 3) := by decide +kernel
theorem dX12_elementOf_56 : decode cX12_elementOf 56 = .ok (.iload_n 1, 1) := by decide +kernel
theorem dX12_elementOf_57 : decode cX12_elementOf 57 = .ok (.iaload, 1) := by decide +kernel
theorem dX12_elementOf_58 : decode cX12_elementOf 58 = .ok (.lload_n 2, 1) := by decide +kernel
theorem dX12_elementOf_59 : decode cX12_elementOf 59 = .ok (.invokevirtual 343, 3) := by decide +kernel
theorem dX12_elementOf_62 : decode cX12_elementOf 62 = .ok (.ifCond .ne 10, 3) := by decide +kernel
theorem dX12_elementOf_65 : decode cX12_elementOf 65 = .ok (.aload_n 0, 1) := by decide +kernel
theorem dX12_elementOf_66 : decode cX12_elementOf 66 = .ok (.iconst 1, 1) := by decide +kernel
theorem dX12_elementOf_67 : decode cX12_elementOf 67 = .ok (.invokevirtual 422, 3) := by decide +kernel
theorem dX12_elementOf_70 : decode cX12_elementOf 70 = .ok (.iconst (-1), 1) := by decide +kernel
theorem dX12_elementOf_71 : decode cX12_elementOf 71 = .ok (.ireturn, 1) := by decide +kernel
theorem dX12_elementOf_72 : decode cX12_elementOf 72 = .ok (.lload_n 2, 1) := by decide +kernel
theorem dX12_elementOf_73 : decode cX12_elementOf 73 = .ok (.l2i, 1) := by decide +kernel
theorem dX12_elementOf_74 : decode cX12_elementOf 74 = .ok (.ireturn, 1) := by decide +kernel
abbrev GT_C : Type := (Int32 → ae_S → Option (Unit × ae_S)) × (Int32 → ae_S → Option (Unit × ae_S)) × (Int32 → ae_S → Option (Int32 × ae_S))
def GH_C (l : Launch) (G : ae_G) (D : Nat) (g : GT_C) : Prop := (∀ (v1 : Int32) (s0 : ae_S) (rr : Unit) (ss : ae_S), g.1 v1 s0 = some (rr, ss) → ae_Met l G D yX12_works mX12_works [ae_r (some (30, 0)), ae_i v1] s0 (ae_Po none ss)) ∧ (∀ (v1 : Int32) (s0 : ae_S) (rr : Unit) (ss : ae_S), g.2.1 v1 s0 = some (rr, ss) → ae_Met l G D yX12_reads mX12_reads [ae_r (some (30, 0)), ae_i v1] s0 (ae_Po none ss)) ∧ (∀ (v1 : Int32) (s0 : ae_S) (rr : Int32) (ss : ae_S), g.2.2 v1 s0 = some (rr, ss) → ae_Met l G D yX12_elementOf mX12_elementOf [ae_r (some (30, 0)), ae_i v1] s0 (ae_Po (some (ae_i rr)) ss))
def F_X12_works_195 (g : GT_C) (s0 : ae_S) : Option (Unit × ae_S) := some ((), s0)
set_option maxHeartbeats 4000000 in
set_option maxRecDepth 100000 in
theorem t_X12_works_195 {l : Launch} {G : ae_G} (d nn : Nat) (g : GT_C) (hg : GH_C l G (d + nn + 3) g) {rr : Unit} {ss : ae_S} (s0 : ae_S) (hF : F_X12_works_195 g s0 = some (rr, ss)) : ae_T l G (d + (nn + 1) + 3) mX12_works (ae_Po none ss) 195 [] [] s0 := by
  unfold F_X12_works_195 at hF
  obtain ⟨rfl, rfl⟩ := ae_retI hF
  exact ae_vret dX12_works_195 rfl ⟨rfl, rfl⟩
def F_X12_works_161 (g : GT_C) (v1 : Int32) (v5 : UInt64) (s0 : ae_S) : Option (Unit × ae_S) := ae_gd (ae_ib v1 600) (ae_bd (F_X12_asFloat s0) (fun (r3 : UInt64) s4 => ae_bd (F_X12_floats (s0.1 47 0 v1.toNatClampNeg) v5 r3 s4) (fun (r7 : Unit) s8 => F_X12_works_195 g s8)))
set_option maxHeartbeats 4000000 in
set_option maxRecDepth 100000 in
theorem t_X12_works_161 {l : Launch} {G : ae_G} (d nn : Nat) (g : GT_C) (hg : GH_C l G (d + nn + 3) g) {rr : Unit} {ss : ae_S} (v1 : Int32) (v5 : UInt64) (s0 : ae_S) (hF : F_X12_works_161 g v1 v5 s0 = some (rr, ss)) : ae_T l G (d + (nn + 1) + 3) mX12_works (ae_Po none ss) 161 [(0, ae_r (some (30, 0))), (1, ae_i v1), (5, ae_d v5)] [] s0 := by
  unfold F_X12_works_161 at hF
  refine ae_aload_n 0 dX12_works_161 rfl ?_
  refine ae_aload_n 0 dX12_works_162 rfl ?_
  refine ae_getA (q := (30, 0)) (some (47, 0)) dX12_works_163 fl_RX12_66 rfl rfl rfl ?_
  refine ae_iload_n 1 dX12_works_166 rfl ?_
  obtain ⟨hg1, hF2⟩ := ae_gdI hF
  refine ae_iald (q := (47, 0)) dX12_works_167 rfl rfl (ae_ibI hg1) ?_
  refine ae_dload 2 dX12_works_168 rfl ?_
  refine ae_aload_n 0 dX12_works_170 rfl ?_
  obtain ⟨r3, s4, hc5, hF6⟩ := ae_bdI hF2
  refine ae_cV1 (q := (30, 0)) (As := []) dX12_works_171 ww_1796 vy_X12_asFloat rfl rfl rfl rfl rfl (Nat.le_of_ble_eq_true rfl) (c_X12_asFloat (d + (nn + 1) + 2) hc5) ?_
  obtain ⟨r7, s8, hc9, hF10⟩ := ae_bdI hF6
  refine ae_cV0 (q := (30, 0)) (As := [ae_i (s0.1 47 0 v1.toNatClampNeg), ae_d v5, ae_d r3]) dX12_works_174 ww_1800 vy_X12_floats rfl rfl rfl rfl rfl (Nat.le_of_ble_eq_true rfl) (c_X12_floats (d + (nn + 1) + 1) hc9) ?_
  refine ae_goto 195 dX12_works_177 rfl ?_
  refine ae_pick (lv' := []) [] rfl ?_
  exact t_X12_works_195 d nn g hg s8 hF10
def FZ_X12_works (g : GT_C) (v1 : Int32) (s0 : ae_S) : Option (Unit × ae_S) := ae_gd (ae_ib v1 600) (ae_lt (s0.1 47 0 v1.toNatClampNeg) (fun x13 => if x13 = (0 : Int32) then (ae_gd (ae_ib v1 600) (ae_bd (F_X12_tells (s0.2.1 51 0 v1.toNatClampNeg) s0) (fun (r19 : Unit) s20 => some ((), s20)))) else (if x13 = (1 : Int32) then (ae_lt (ae_wI s0 30 0 45 (1 : Int32)) (fun s26 => ae_gd (ae_ib v1 600) (ae_lt (ae_wD s26 30 0 47 (s26.2.2.1 52 0 v1.toNatClampNeg)) (fun s30 => some ((), s30))))) else (if x13 = (2 : Int32) then (ae_bd (g.2.1 v1 s0) (fun (r35 : Unit) s36 => some ((), s36))) else (if x13 = (3 : Int32) then (ae_gd (ae_ib v1 600) (ae_bd (g.1 (s0.1 48 0 v1.toNatClampNeg) s0) (fun (r44 : Unit) s45 => ae_lt (ae_wL s45 30 0 46 (-(s45.2.1 30 0 46))) (fun s48 => ae_lt (ae_wD s48 30 0 47 (FP.dneg (s48.2.2.1 30 0 47))) (fun s50 => some ((), s50)))))) else (ae_gd (ae_ib v1 600) (ae_bd (g.1 (s0.1 48 0 v1.toNatClampNeg) s0) (fun (r55 : Unit) s56 => if (s56.1 30 0 40) = 0 then (ae_lt (s56.1 30 0 45) (fun x61 => ae_lt (s56.2.1 30 0 46) (fun x63 => ae_bd (F_X12_asFloat s56) (fun (r65 : UInt64) s66 => ae_gd (ae_ib v1 600) (ae_bd (g.1 (s66.1 49 0 v1.toNatClampNeg) s66) (fun (r71 : Unit) s72 => if (s72.1 30 0 40) = 0 then (if x61 = 0 then (if (s72.1 30 0 45) = 0 then (ae_gd (ae_ib v1 600) (ae_bd (F_X12_wholes (s72.1 47 0 v1.toNatClampNeg) x63 (s72.2.1 30 0 46) s72) (fun (r83 : Unit) s84 => F_X12_works_195 g s84))) else (F_X12_works_161 g v1 r65 s72)) else (F_X12_works_161 g v1 r65 s72)) else (some ((), s72)))))))) else (some ((), s56))))))))))
set_option maxHeartbeats 4000000 in
set_option maxRecDepth 100000 in
theorem cZ_X12_works {l : Launch} {G : ae_G} (d nn : Nat) (g : GT_C) (hg : GH_C l G (d + nn + 3) g) {v1 : Int32} {s0 ss : ae_S} {rr : Unit} (hF : FZ_X12_works g v1 s0 = some (rr, ss)) : ae_Met l G (d + (nn + 1) + 3) yX12_works mX12_works [ae_r (some (30, 0)), ae_i v1] s0 (ae_Po none ss) := by
  refine ae_enter (by decide) rfl (Nat.le_of_ble_eq_true rfl) ?_
  show ae_T l G (d + (nn + 1) + 3) mX12_works (ae_Po none ss) 0 [(0, ae_r (some (30, 0))), (1, ae_i v1)] [] s0
  unfold FZ_X12_works at hF
  refine ae_aload_n 0 dX12_works_0 rfl ?_
  refine ae_getA (q := (30, 0)) (some (47, 0)) dX12_works_1 fl_RX12_66 rfl rfl rfl ?_
  refine ae_iload_n 1 dX12_works_4 rfl ?_
  obtain ⟨hg11, hF12⟩ := ae_gdI hF
  refine ae_iald (q := (47, 0)) dX12_works_5 rfl rfl (ae_ibI hg11) ?_
  obtain ⟨x13, hx13, hF14⟩ := ae_ltI hF12
  refine ae_nmI hx13 ?_
  by_cases hb15 : x13 = (0 : Int32)
  · have hF16 := ae_ifT hb15 hF14
    refine ae_tabIn 36 dX12_works_6 (by rw [hb15]; decide) (by rw [hb15]; decide) (by rw [hb15]; rfl) rfl ?_
    refine ae_aload_n 0 dX12_works_36 rfl ?_
    refine ae_aload_n 0 dX12_works_37 rfl ?_
    refine ae_getA (q := (30, 0)) (some (51, 0)) dX12_works_38 fl_RX12_78 rfl rfl rfl ?_
    refine ae_iload_n 1 dX12_works_41 rfl ?_
    obtain ⟨hg17, hF18⟩ := ae_gdI hF16
    refine ae_lald (q := (51, 0)) dX12_works_42 rfl rfl (ae_ibI hg17) ?_
    obtain ⟨r19, s20, hc21, hF22⟩ := ae_bdI hF18
    refine ae_cV0 (q := (30, 0)) (As := [ae_l (s0.2.1 51 0 v1.toNatClampNeg)]) dX12_works_43 ww_1780 vy_X12_tells rfl rfl rfl rfl rfl (Nat.le_of_ble_eq_true rfl) (c_X12_tells (d + (nn + 1) + 2) hc21) ?_
    obtain ⟨rfl, rfl⟩ := ae_retI hF22
    exact ae_vret dX12_works_46 rfl ⟨rfl, rfl⟩
  · have hF23 := ae_ifF hb15 hF14
    by_cases hb24 : x13 = (1 : Int32)
    · have hF25 := ae_ifT hb24 hF23
      refine ae_tabIn 47 dX12_works_6 (by rw [hb24]; decide) (by rw [hb24]; decide) (by rw [hb24]; rfl) rfl ?_
      refine ae_aload_n 0 dX12_works_47 rfl ?_
      refine ae_iconst (1 : Int32) dX12_works_48 (by decide) ?_
      obtain ⟨s26, hs26, hF27⟩ := ae_ltI hF25
      refine ae_putZ (q := (30, 0)) dX12_works_49 fl_RX12_408 rfl rfl (by decide) (ae_nmS hs26 ?_)
      refine ae_aload_n 0 dX12_works_52 rfl ?_
      refine ae_aload_n 0 dX12_works_53 rfl ?_
      refine ae_getA (q := (30, 0)) (some (52, 0)) dX12_works_54 fl_RX12_81 rfl rfl rfl ?_
      refine ae_iload_n 1 dX12_works_57 rfl ?_
      obtain ⟨hg28, hF29⟩ := ae_gdI hF27
      refine ae_dald (q := (52, 0)) dX12_works_58 rfl rfl (ae_ibI hg28) ?_
      obtain ⟨s30, hs30, hF31⟩ := ae_ltI hF29
      refine ae_putD (q := (30, 0)) dX12_works_59 fl_RX12_415 rfl rfl (ae_nmS hs30 ?_)
      obtain ⟨rfl, rfl⟩ := ae_retI hF31
      exact ae_vret dX12_works_62 rfl ⟨rfl, rfl⟩
    · have hF32 := ae_ifF hb24 hF23
      by_cases hb33 : x13 = (2 : Int32)
      · have hF34 := ae_ifT hb33 hF32
        refine ae_tabIn 63 dX12_works_6 (by rw [hb33]; decide) (by rw [hb33]; decide) (by rw [hb33]; rfl) rfl ?_
        refine ae_aload_n 0 dX12_works_63 rfl ?_
        refine ae_iload_n 1 dX12_works_64 rfl ?_
        obtain ⟨r35, s36, hc37, hF38⟩ := ae_bdI hF34
        refine ae_cV0 (q := (30, 0)) (As := [ae_i v1]) dX12_works_65 ww_1784 vy_X12_reads rfl rfl rfl rfl rfl (Nat.le_of_ble_eq_true rfl) (hg.2.1 _ _ _ _ hc37) ?_
        obtain ⟨rfl, rfl⟩ := ae_retI hF38
        exact ae_vret dX12_works_68 rfl ⟨rfl, rfl⟩
      · have hF39 := ae_ifF hb33 hF32
        by_cases hb40 : x13 = (3 : Int32)
        · have hF41 := ae_ifT hb40 hF39
          refine ae_tabIn 69 dX12_works_6 (by rw [hb40]; decide) (by rw [hb40]; decide) (by rw [hb40]; rfl) rfl ?_
          refine ae_aload_n 0 dX12_works_69 rfl ?_
          refine ae_aload_n 0 dX12_works_70 rfl ?_
          refine ae_getA (q := (30, 0)) (some (48, 0)) dX12_works_71 fl_RX12_69 rfl rfl rfl ?_
          refine ae_iload_n 1 dX12_works_74 rfl ?_
          obtain ⟨hg42, hF43⟩ := ae_gdI hF41
          refine ae_iald (q := (48, 0)) dX12_works_75 rfl rfl (ae_ibI hg42) ?_
          obtain ⟨r44, s45, hc46, hF47⟩ := ae_bdI hF43
          refine ae_cV0 (q := (30, 0)) (As := [ae_i (s0.1 48 0 v1.toNatClampNeg)]) dX12_works_76 ww_1776 vy_X12_works rfl rfl rfl rfl rfl (Nat.le_of_ble_eq_true rfl) (hg.1 _ _ _ _ hc46) ?_
          refine ae_aload_n 0 dX12_works_79 rfl ?_
          refine ae_aload_n 0 dX12_works_80 rfl ?_
          refine ae_getL (q := (30, 0)) dX12_works_81 fl_RX12_412 rfl rfl ?_
          refine ae_lneg dX12_works_84 ?_
          obtain ⟨s48, hs48, hF49⟩ := ae_ltI hF47
          refine ae_putL (q := (30, 0)) dX12_works_85 fl_RX12_412 rfl rfl (ae_nmS hs48 ?_)
          refine ae_aload_n 0 dX12_works_88 rfl ?_
          refine ae_aload_n 0 dX12_works_89 rfl ?_
          refine ae_getD (q := (30, 0)) dX12_works_90 fl_RX12_415 rfl rfl ?_
          refine ae_dneg dX12_works_93 ?_
          obtain ⟨s50, hs50, hF51⟩ := ae_ltI hF49
          refine ae_putD (q := (30, 0)) dX12_works_94 fl_RX12_415 rfl rfl (ae_nmS hs50 ?_)
          obtain ⟨rfl, rfl⟩ := ae_retI hF51
          exact ae_vret dX12_works_97 rfl ⟨rfl, rfl⟩
        · have hF52 := ae_ifF hb40 hF39
          have hn87 : ¬ (x13).toInt = 0 := lv_neT hb15 (by decide)
          have hn88 : ¬ (x13).toInt = 1 := lv_neT hb24 (by decide)
          have hn89 : ¬ (x13).toInt = 2 := lv_neT hb33 (by decide)
          have hn90 : ¬ (x13).toInt = 3 := lv_neT hb40 (by decide)
          refine ae_tabOut 98 dX12_works_6 (by omega) rfl ?_
          refine ae_aload_n 0 dX12_works_98 rfl ?_
          refine ae_aload_n 0 dX12_works_99 rfl ?_
          refine ae_getA (q := (30, 0)) (some (48, 0)) dX12_works_100 fl_RX12_69 rfl rfl rfl ?_
          refine ae_iload_n 1 dX12_works_103 rfl ?_
          obtain ⟨hg53, hF54⟩ := ae_gdI hF52
          refine ae_iald (q := (48, 0)) dX12_works_104 rfl rfl (ae_ibI hg53) ?_
          obtain ⟨r55, s56, hc57, hF58⟩ := ae_bdI hF54
          refine ae_cV0 (q := (30, 0)) (As := [ae_i (s0.1 48 0 v1.toNatClampNeg)]) dX12_works_105 ww_1776 vy_X12_works rfl rfl rfl rfl rfl (Nat.le_of_ble_eq_true rfl) (hg.1 _ _ _ _ hc57) ?_
          refine ae_aload_n 0 dX12_works_108 rfl ?_
          refine ae_getI (q := (30, 0)) dX12_works_109 fl_RX12_402 rfl rfl ?_
          refine ae_if_eq 116 dX12_works_112 rfl (fun hb59 => ?_) (fun hb59 => ?_)
          · have hF60 := ae_ifT hb59 hF58
            refine ae_aload_n 0 dX12_works_116 rfl ?_
            refine ae_getZ (q := (30, 0)) dX12_works_117 fl_RX12_408 rfl rfl ?_
            obtain ⟨x61, hx61, hF62⟩ := ae_ltI hF60
            refine ae_nmI hx61 ?_
            refine ae_istore_n (lv' := [(2, ae_i x61), (0, ae_r (some (30, 0))), (1, ae_i v1)]) dX12_works_120 (by decide) rfl ?_
            refine ae_aload_n 1 dX12_works_121 rfl ?_
            refine ae_getL (q := (30, 0)) dX12_works_122 fl_RX12_412 rfl rfl ?_
            obtain ⟨x63, hx63, hF64⟩ := ae_ltI hF62
            refine ae_nmL hx63 ?_
            refine ae_lstore_n (lv' := [(3, ae_l x63), (2, ae_i x61), (0, ae_r (some (30, 0))), (1, ae_i v1)]) dX12_works_125 (by decide) rfl ?_
            refine ae_aload_n 2 dX12_works_126 rfl ?_
            obtain ⟨r65, s66, hc67, hF68⟩ := ae_bdI hF64
            refine ae_cV1 (q := (30, 0)) (As := []) dX12_works_127 ww_1796 vy_X12_asFloat rfl rfl rfl rfl rfl (Nat.le_of_ble_eq_true rfl) (c_X12_asFloat (d + (nn + 1) + 2) hc67) ?_
            refine ae_dstore (lv' := [(5, ae_d r65), (3, ae_l x63), (2, ae_i x61), (0, ae_r (some (30, 0))), (1, ae_i v1)]) dX12_works_130 (by decide) rfl ?_
            refine ae_aload_n 3 dX12_works_132 rfl ?_
            refine ae_aload_n 3 dX12_works_133 rfl ?_
            refine ae_getA (q := (30, 0)) (some (49, 0)) dX12_works_134 fl_RX12_72 rfl rfl rfl ?_
            refine ae_iload_n 4 dX12_works_137 rfl ?_
            obtain ⟨hg69, hF70⟩ := ae_gdI hF68
            refine ae_iald (q := (49, 0)) dX12_works_138 rfl rfl (ae_ibI hg69) ?_
            obtain ⟨r71, s72, hc73, hF74⟩ := ae_bdI hF70
            refine ae_cV0 (q := (30, 0)) (As := [ae_i (s66.1 49 0 v1.toNatClampNeg)]) dX12_works_139 ww_1776 vy_X12_works rfl rfl rfl rfl rfl (Nat.le_of_ble_eq_true rfl) (hg.1 _ _ _ _ hc73) ?_
            refine ae_aload_n 3 dX12_works_142 rfl ?_
            refine ae_getI (q := (30, 0)) dX12_works_143 fl_RX12_402 rfl rfl ?_
            refine ae_if_eq 150 dX12_works_146 rfl (fun hb75 => ?_) (fun hb75 => ?_)
            · have hF76 := ae_ifT hb75 hF74
              refine ae_iload_n 2 dX12_works_150 rfl ?_
              refine ae_if_ne 161 dX12_works_151 rfl (fun hb77 => ?_) (fun hb77 => ?_)
              · have hF78 := ae_ifF hb77 hF76
                refine ae_pick (lv' := [(0, ae_r (some (30, 0))), (1, ae_i v1), (5, ae_d r65)]) [3, 4, 0] rfl ?_
                exact t_X12_works_161 d nn g hg v1 r65 s72 hF78
              · have hF78 := ae_ifT hb77 hF76
                refine ae_aload_n 3 dX12_works_154 rfl ?_
                refine ae_getZ (q := (30, 0)) dX12_works_155 fl_RX12_408 rfl rfl ?_
                refine ae_if_eq 180 dX12_works_158 rfl (fun hb79 => ?_) (fun hb79 => ?_)
                · have hF80 := ae_ifT hb79 hF78
                  refine ae_aload_n 3 dX12_works_180 rfl ?_
                  refine ae_aload_n 3 dX12_works_181 rfl ?_
                  refine ae_getA (q := (30, 0)) (some (47, 0)) dX12_works_182 fl_RX12_66 rfl rfl rfl ?_
                  refine ae_iload_n 4 dX12_works_185 rfl ?_
                  obtain ⟨hg81, hF82⟩ := ae_gdI hF80
                  refine ae_iald (q := (47, 0)) dX12_works_186 rfl rfl (ae_ibI hg81) ?_
                  refine ae_lload_n 1 dX12_works_187 rfl ?_
                  refine ae_aload_n 3 dX12_works_188 rfl ?_
                  refine ae_getL (q := (30, 0)) dX12_works_189 fl_RX12_412 rfl rfl ?_
                  obtain ⟨r83, s84, hc85, hF86⟩ := ae_bdI hF82
                  refine ae_cV0 (q := (30, 0)) (As := [ae_i (s72.1 47 0 v1.toNatClampNeg), ae_l x63, ae_l (s72.2.1 30 0 46)]) dX12_works_192 ww_1804 vy_X12_wholes rfl rfl rfl rfl rfl (Nat.le_of_ble_eq_true rfl) (c_X12_wholes (d + (nn + 1) + 1) hc85) ?_
                  refine ae_pick (lv' := []) [] rfl ?_
                  exact t_X12_works_195 d nn g hg s84 hF86
                · have hF80 := ae_ifF hb79 hF78
                  refine ae_pick (lv' := [(0, ae_r (some (30, 0))), (1, ae_i v1), (5, ae_d r65)]) [3, 4, 0] rfl ?_
                  exact t_X12_works_161 d nn g hg v1 r65 s72 hF80
            · have hF76 := ae_ifF hb75 hF74
              obtain ⟨rfl, rfl⟩ := ae_retI hF76
              exact ae_vret dX12_works_149 rfl ⟨rfl, rfl⟩
          · have hF60 := ae_ifF hb59 hF58
            obtain ⟨rfl, rfl⟩ := ae_retI hF60
            exact ae_vret dX12_works_115 rfl ⟨rfl, rfl⟩
def F_X12_reads_107 (g : GT_C) (s0 : ae_S) : Option (Unit × ae_S) := some ((), s0)
set_option maxHeartbeats 4000000 in
set_option maxRecDepth 100000 in
theorem t_X12_reads_107 {l : Launch} {G : ae_G} (d nn : Nat) (g : GT_C) (hg : GH_C l G (d + nn + 3) g) {rr : Unit} {ss : ae_S} (s0 : ae_S) (hF : F_X12_reads_107 g s0 = some (rr, ss)) : ae_T l G (d + (nn + 1) + 3) mX12_reads (ae_Po none ss) 107 [] [] s0 := by
  unfold F_X12_reads_107 at hF
  obtain ⟨rfl, rfl⟩ := ae_retI hF
  exact ae_vret dX12_reads_107 rfl ⟨rfl, rfl⟩
def F_X12_reads_90 (g : GT_C) (v2 : Int32) (v3 : Int32) (s0 : ae_S) : Option (Unit × ae_S) := ae_gd (ae_ib v3 32) (if (s0.1 41 0 v3.toNatClampNeg) = (3 : Int32) then (ae_bd (F_X12_lays v3 v2 (0 : Int64) s0) (fun (r5 : Unit) s6 => F_X12_reads_107 g s6)) else (F_X12_reads_107 g s0))
set_option maxHeartbeats 4000000 in
set_option maxRecDepth 100000 in
theorem t_X12_reads_90 {l : Launch} {G : ae_G} (d nn : Nat) (g : GT_C) (hg : GH_C l G (d + nn + 3) g) {rr : Unit} {ss : ae_S} (v2 : Int32) (v3 : Int32) (s0 : ae_S) (hF : F_X12_reads_90 g v2 v3 s0 = some (rr, ss)) : ae_T l G (d + (nn + 1) + 3) mX12_reads (ae_Po none ss) 90 [(0, ae_r (some (30, 0))), (2, ae_i v2), (3, ae_i v3)] [] s0 := by
  unfold F_X12_reads_90 at hF
  refine ae_aload_n 0 dX12_reads_90 rfl ?_
  refine ae_getA (q := (30, 0)) (some (41, 0)) dX12_reads_91 fl_RX12_44 rfl rfl rfl ?_
  refine ae_iload_n 2 dX12_reads_94 rfl ?_
  obtain ⟨hg1, hF2⟩ := ae_gdI hF
  refine ae_iald (q := (41, 0)) dX12_reads_95 rfl rfl (ae_ibI hg1) ?_
  refine ae_iconst (3 : Int32) dX12_reads_96 (by decide) ?_
  refine ae_icmp_ne 107 dX12_reads_97 rfl (fun hb3 => ?_) (fun hb3 => ?_)
  · have hF4 := ae_ifF hb3 hF2
    refine ae_pick (lv' := []) [] rfl ?_
    exact t_X12_reads_107 d nn g hg s0 hF4
  · have hF4 := ae_ifT hb3 hF2
    refine ae_aload_n 0 dX12_reads_100 rfl ?_
    refine ae_iload_n 2 dX12_reads_101 rfl ?_
    refine ae_iload_n 1 dX12_reads_102 rfl ?_
    refine ae_lconst (0 : Int64) dX12_reads_103 (by decide) ?_
    obtain ⟨r5, s6, hc7, hF8⟩ := ae_bdI hF4
    refine ae_cV0 (q := (30, 0)) (As := [ae_i v3, ae_i v2, ae_l (0 : Int64)]) dX12_reads_104 ww_1686 vy_X12_lays rfl rfl rfl rfl rfl (Nat.le_of_ble_eq_true rfl) (c_X12_lays (d + (nn + 1) + 1) hc7) ?_
    refine ae_pick (lv' := []) [] rfl ?_
    exact t_X12_reads_107 d nn g hg s6 hF8
def FZ_X12_reads (g : GT_C) (v1 : Int32) (s0 : ae_S) : Option (Unit × ae_S) := ae_bd (g.2.2 v1 s0) (fun (r9 : Int32) s10 => if (s10.1 30 0 40) = 0 then (ae_gd (ae_ib v1 600) (ae_lt (s10.1 48 0 v1.toNatClampNeg) (fun x17 => ae_gd (ae_ib v1 600) (if (lg_cmp (s10.2.1 51 0 v1.toNatClampNeg) (-1 : Int64)) = 0 then (ae_bd (F_X12_isFloating x17 s10) (fun (r23 : Int32) s24 => if r23 = 0 then (ae_bd (F_X12_wholeOf x17 r9 s24) (fun (r29 : Int64) s30 => ae_bd (F_X12_tells r29 s30) (fun (r33 : Unit) s34 => F_X12_reads_90 g r9 x17 s34))) else (ae_lt (ae_wI s24 30 0 45 (1 : Int32)) (fun s37 => ae_bd (F_X12_floatOf x17 r9 s37) (fun (r39 : UInt64) s40 => ae_lt (ae_wD s40 30 0 47 r39) (fun s43 => F_X12_reads_90 g r9 x17 s43)))))) else (ae_gd (ae_ib v1 600) (ae_bd (F_X12_fieldOf x17 r9 ((s10.2.1 51 0 v1.toNatClampNeg).toInt32) s10) (fun (r47 : Int64) s48 => ae_bd (F_X12_tells r47 s48) (fun (r51 : Unit) s52 => F_X12_reads_90 g r9 x17 s52)))))))) else (some ((), s10)))
set_option maxHeartbeats 4000000 in
set_option maxRecDepth 100000 in
theorem cZ_X12_reads {l : Launch} {G : ae_G} (d nn : Nat) (g : GT_C) (hg : GH_C l G (d + nn + 3) g) {v1 : Int32} {s0 ss : ae_S} {rr : Unit} (hF : FZ_X12_reads g v1 s0 = some (rr, ss)) : ae_Met l G (d + (nn + 1) + 3) yX12_reads mX12_reads [ae_r (some (30, 0)), ae_i v1] s0 (ae_Po none ss) := by
  refine ae_enter (by decide) rfl (Nat.le_of_ble_eq_true rfl) ?_
  show ae_T l G (d + (nn + 1) + 3) mX12_reads (ae_Po none ss) 0 [(0, ae_r (some (30, 0))), (1, ae_i v1)] [] s0
  unfold FZ_X12_reads at hF
  refine ae_aload_n 0 dX12_reads_0 rfl ?_
  refine ae_iload_n 1 dX12_reads_1 rfl ?_
  obtain ⟨r9, s10, hc11, hF12⟩ := ae_bdI hF
  refine ae_cV1 (q := (30, 0)) (As := [ae_i v1]) dX12_reads_2 ww_1788 vy_X12_elementOf rfl rfl rfl rfl rfl (Nat.le_of_ble_eq_true rfl) (hg.2.2 _ _ _ _ hc11) ?_
  refine ae_istore_n (lv' := [(2, ae_i r9), (0, ae_r (some (30, 0))), (1, ae_i v1)]) dX12_reads_5 (by decide) rfl ?_
  refine ae_aload_n 1 dX12_reads_6 rfl ?_
  refine ae_getI (q := (30, 0)) dX12_reads_7 fl_RX12_402 rfl rfl ?_
  refine ae_if_eq 14 dX12_reads_10 rfl (fun hb13 => ?_) (fun hb13 => ?_)
  · have hF14 := ae_ifT hb13 hF12
    refine ae_aload_n 1 dX12_reads_14 rfl ?_
    refine ae_getA (q := (30, 0)) (some (48, 0)) dX12_reads_15 fl_RX12_69 rfl rfl rfl ?_
    refine ae_iload_n 2 dX12_reads_18 rfl ?_
    obtain ⟨hg15, hF16⟩ := ae_gdI hF14
    refine ae_iald (q := (48, 0)) dX12_reads_19 rfl rfl (ae_ibI hg15) ?_
    obtain ⟨x17, hx17, hF18⟩ := ae_ltI hF16
    refine ae_nmI hx17 ?_
    refine ae_istore_n (lv' := [(3, ae_i x17), (2, ae_i r9), (0, ae_r (some (30, 0))), (1, ae_i v1)]) dX12_reads_20 (by decide) rfl ?_
    refine ae_aload_n 2 dX12_reads_21 rfl ?_
    refine ae_getA (q := (30, 0)) (some (51, 0)) dX12_reads_22 fl_RX12_78 rfl rfl rfl ?_
    refine ae_iload_n 3 dX12_reads_25 rfl ?_
    obtain ⟨hg19, hF20⟩ := ae_gdI hF18
    refine ae_lald (q := (51, 0)) dX12_reads_26 rfl rfl (ae_ibI hg19) ?_
    refine ae_ldc2 dX12_reads_27 ww_1706 ?_
    refine ae_lcmp dX12_reads_30 ?_
    refine ae_if_eq 54 dX12_reads_31 rfl (fun hb21 => ?_) (fun hb21 => ?_)
    · have hF22 := ae_ifT hb21 hF20
      refine ae_aload_n 2 dX12_reads_54 rfl ?_
      refine ae_iload_n 0 dX12_reads_55 rfl ?_
      obtain ⟨r23, s24, hc25, hF26⟩ := ae_bdI hF22
      refine ae_cV1 (q := (30, 0)) (As := [ae_i x17]) dX12_reads_56 ww_1644 vy_X12_isFloating rfl rfl rfl rfl rfl (Nat.le_of_ble_eq_true rfl) (c_X12_isFloating (d + (nn + 1) + 2) hc25) ?_
      refine ae_if_eq 80 dX12_reads_59 rfl (fun hb27 => ?_) (fun hb27 => ?_)
      · have hF28 := ae_ifT hb27 hF26
        refine ae_aload_n 2 dX12_reads_80 rfl ?_
        refine ae_aload_n 2 dX12_reads_81 rfl ?_
        refine ae_iload_n 0 dX12_reads_82 rfl ?_
        refine ae_iload_n 1 dX12_reads_83 rfl ?_
        obtain ⟨r29, s30, hc31, hF32⟩ := ae_bdI hF28
        refine ae_cV1 (q := (30, 0)) (As := [ae_i x17, ae_i r9]) dX12_reads_84 ww_1648 vy_X12_wholeOf rfl rfl rfl rfl rfl (Nat.le_of_ble_eq_true rfl) (c_X12_wholeOf (d + (nn + 1)) hc31) ?_
        obtain ⟨r33, s34, hc35, hF36⟩ := ae_bdI hF32
        refine ae_cV0 (q := (30, 0)) (As := [ae_l r29]) dX12_reads_87 ww_1780 vy_X12_tells rfl rfl rfl rfl rfl (Nat.le_of_ble_eq_true rfl) (c_X12_tells (d + (nn + 1) + 2) hc35) ?_
        refine ae_pick (lv' := [(0, ae_r (some (30, 0))), (2, ae_i r9), (3, ae_i x17)]) [2, 1, 0] rfl ?_
        exact t_X12_reads_90 d nn g hg r9 x17 s34 hF36
      · have hF28 := ae_ifF hb27 hF26
        refine ae_aload_n 2 dX12_reads_62 rfl ?_
        refine ae_iconst (1 : Int32) dX12_reads_63 (by decide) ?_
        obtain ⟨s37, hs37, hF38⟩ := ae_ltI hF28
        refine ae_putZ (q := (30, 0)) dX12_reads_64 fl_RX12_408 rfl rfl (by decide) (ae_nmS hs37 ?_)
        refine ae_aload_n 2 dX12_reads_67 rfl ?_
        refine ae_aload_n 2 dX12_reads_68 rfl ?_
        refine ae_iload_n 0 dX12_reads_69 rfl ?_
        refine ae_iload_n 1 dX12_reads_70 rfl ?_
        obtain ⟨r39, s40, hc41, hF42⟩ := ae_bdI hF38
        refine ae_cV1 (q := (30, 0)) (As := [ae_i x17, ae_i r9]) dX12_reads_71 ww_1656 vy_X12_floatOf rfl rfl rfl rfl rfl (Nat.le_of_ble_eq_true rfl) (c_X12_floatOf (d + (nn + 1)) hc41) ?_
        obtain ⟨s43, hs43, hF44⟩ := ae_ltI hF42
        refine ae_putD (q := (30, 0)) dX12_reads_74 fl_RX12_415 rfl rfl (ae_nmS hs43 ?_)
        refine ae_goto 90 dX12_reads_77 rfl ?_
        refine ae_pick (lv' := [(0, ae_r (some (30, 0))), (2, ae_i r9), (3, ae_i x17)]) [2, 1, 0] rfl ?_
        exact t_X12_reads_90 d nn g hg r9 x17 s43 hF44
    · have hF22 := ae_ifF hb21 hF20
      refine ae_aload_n 2 dX12_reads_34 rfl ?_
      refine ae_aload_n 2 dX12_reads_35 rfl ?_
      refine ae_iload_n 0 dX12_reads_36 rfl ?_
      refine ae_iload_n 1 dX12_reads_37 rfl ?_
      refine ae_aload_n 2 dX12_reads_38 rfl ?_
      refine ae_getA (q := (30, 0)) (some (51, 0)) dX12_reads_39 fl_RX12_78 rfl rfl rfl ?_
      refine ae_iload_n 3 dX12_reads_42 rfl ?_
      obtain ⟨hg45, hF46⟩ := ae_gdI hF22
      refine ae_lald (q := (51, 0)) dX12_reads_43 rfl rfl (ae_ibI hg45) ?_
      refine ae_l2i dX12_reads_44 ?_
      obtain ⟨r47, s48, hc49, hF50⟩ := ae_bdI hF46
      refine ae_cV1 (q := (30, 0)) (As := [ae_i x17, ae_i r9, ae_i ((s10.2.1 51 0 v1.toNatClampNeg).toInt32)]) dX12_reads_45 ww_1699 vy_X12_fieldOf rfl rfl rfl rfl rfl (Nat.le_of_ble_eq_true rfl) (c_X12_fieldOf (d + (nn + 1)) hc49) ?_
      obtain ⟨r51, s52, hc53, hF54⟩ := ae_bdI hF50
      refine ae_cV0 (q := (30, 0)) (As := [ae_l r47]) dX12_reads_48 ww_1780 vy_X12_tells rfl rfl rfl rfl rfl (Nat.le_of_ble_eq_true rfl) (c_X12_tells (d + (nn + 1) + 2) hc53) ?_
      refine ae_goto 90 dX12_reads_51 rfl ?_
      refine ae_pick (lv' := [(0, ae_r (some (30, 0))), (2, ae_i r9), (3, ae_i x17)]) [2, 1, 0] rfl ?_
      exact t_X12_reads_90 d nn g hg r9 x17 s52 hF54
  · have hF14 := ae_ifF hb13 hF12
    obtain ⟨rfl, rfl⟩ := ae_retI hF14
    exact ae_vret dX12_reads_13 rfl ⟨rfl, rfl⟩
def F_X12_elementOf_50 (g : GT_C) (v1 : Int32) (t0 : Int64) (s0 : ae_S) : Option (Int32 × ae_S) := ae_gd (ae_ib v1 600) (ae_bd (F_X12_isElement (s0.1 48 0 v1.toNatClampNeg) t0 s0) (fun (r3 : Int32) s4 => if r3 = 0 then (ae_bd (F_X12_comes (1 : Int32) s4) (fun (r9 : Unit) s10 => some ((-1 : Int32), s10))) else (some (t0.toInt32, s4))))
set_option maxHeartbeats 4000000 in
set_option maxRecDepth 100000 in
theorem t_X12_elementOf_50 {l : Launch} {G : ae_G} (d nn : Nat) (g : GT_C) (hg : GH_C l G (d + nn + 3) g) {rr : Int32} {ss : ae_S} (v1 : Int32) (t0 : Int64) (s0 : ae_S) (hF : F_X12_elementOf_50 g v1 t0 s0 = some (rr, ss)) : ae_T l G (d + (nn + 1) + 3) mX12_elementOf (ae_Po (some (ae_i rr)) ss) 50 [(0, ae_r (some (30, 0))), (1, ae_i v1)] [ae_l t0] s0 := by
  unfold F_X12_elementOf_50 at hF
  refine ae_lstore_n (lv' := [(2, ae_l t0), (0, ae_r (some (30, 0))), (1, ae_i v1)]) dX12_elementOf_50 (by decide) rfl ?_
  refine ae_aload_n 1 dX12_elementOf_51 rfl ?_
  refine ae_aload_n 1 dX12_elementOf_52 rfl ?_
  refine ae_getA (q := (30, 0)) (some (48, 0)) dX12_elementOf_53 fl_RX12_69 rfl rfl rfl ?_
  refine ae_iload_n 2 dX12_elementOf_56 rfl ?_
  obtain ⟨hg1, hF2⟩ := ae_gdI hF
  refine ae_iald (q := (48, 0)) dX12_elementOf_57 rfl rfl (ae_ibI hg1) ?_
  refine ae_lload_n 0 dX12_elementOf_58 rfl ?_
  obtain ⟨r3, s4, hc5, hF6⟩ := ae_bdI hF2
  refine ae_cV1 (q := (30, 0)) (As := [ae_i (s0.1 48 0 v1.toNatClampNeg), ae_l t0]) dX12_elementOf_59 ww_1631 vy_X12_isElement rfl rfl rfl rfl rfl (Nat.le_of_ble_eq_true rfl) (c_X12_isElement (d + (nn + 1)) hc5) ?_
  refine ae_if_ne 72 dX12_elementOf_62 rfl (fun hb7 => ?_) (fun hb7 => ?_)
  · have hF8 := ae_ifF hb7 hF6
    refine ae_lload_n 0 dX12_elementOf_72 rfl ?_
    refine ae_l2i dX12_elementOf_73 ?_
    obtain ⟨rfl, rfl⟩ := ae_retI hF8
    exact ae_iret dX12_elementOf_74 rfl rfl ⟨rfl, rfl⟩
  · have hF8 := ae_ifT hb7 hF6
    refine ae_aload_n 1 dX12_elementOf_65 rfl ?_
    refine ae_iconst (1 : Int32) dX12_elementOf_66 (by decide) ?_
    obtain ⟨r9, s10, hc11, hF12⟩ := ae_bdI hF8
    refine ae_cV0 (q := (30, 0)) (As := [ae_i (1 : Int32)]) dX12_elementOf_67 ww_1792 vy_X12_comes rfl rfl rfl rfl rfl (Nat.le_of_ble_eq_true rfl) (c_X12_comes (d + (nn + 1) + 2) hc11) ?_
    refine ae_iconst (-1 : Int32) dX12_elementOf_70 (by decide) ?_
    obtain ⟨rfl, rfl⟩ := ae_retI hF12
    exact ae_iret dX12_elementOf_71 rfl rfl ⟨rfl, rfl⟩
def FZ_X12_elementOf (g : GT_C) (v1 : Int32) (s0 : ae_S) : Option (Int32 × ae_S) := ae_gd (ae_ib v1 600) (if (s0.1 49 0 v1.toNatClampNeg) = (-1 : Int32) then (some ((0 : Int32), s0)) else (ae_gd (ae_ib v1 600) (ae_bd (g.1 (s0.1 49 0 v1.toNatClampNeg) s0) (fun (r19 : Unit) s20 => if (s20.1 30 0 40) = 0 then (if (s20.1 30 0 45) = 0 then (F_X12_elementOf_50 g v1 (s20.2.1 30 0 46) s20) else (F_X12_elementOf_50 g v1 (FP.d2l (s20.2.2.1 30 0 47)) s20)) else (some ((-1 : Int32), s20))))))
set_option maxHeartbeats 4000000 in
set_option maxRecDepth 100000 in
theorem cZ_X12_elementOf {l : Launch} {G : ae_G} (d nn : Nat) (g : GT_C) (hg : GH_C l G (d + nn + 3) g) {v1 : Int32} {s0 ss : ae_S} {rr : Int32} (hF : FZ_X12_elementOf g v1 s0 = some (rr, ss)) : ae_Met l G (d + (nn + 1) + 3) yX12_elementOf mX12_elementOf [ae_r (some (30, 0)), ae_i v1] s0 (ae_Po (some (ae_i rr)) ss) := by
  refine ae_enter (by decide) rfl (Nat.le_of_ble_eq_true rfl) ?_
  show ae_T l G (d + (nn + 1) + 3) mX12_elementOf (ae_Po (some (ae_i rr)) ss) 0 [(0, ae_r (some (30, 0))), (1, ae_i v1)] [] s0
  unfold FZ_X12_elementOf at hF
  refine ae_aload_n 0 dX12_elementOf_0 rfl ?_
  refine ae_getA (q := (30, 0)) (some (49, 0)) dX12_elementOf_1 fl_RX12_72 rfl rfl rfl ?_
  refine ae_iload_n 1 dX12_elementOf_4 rfl ?_
  obtain ⟨hg13, hF14⟩ := ae_gdI hF
  refine ae_iald (q := (49, 0)) dX12_elementOf_5 rfl rfl (ae_ibI hg13) ?_
  refine ae_iconst (-1 : Int32) dX12_elementOf_6 (by decide) ?_
  refine ae_icmp_ne 12 dX12_elementOf_7 rfl (fun hb15 => ?_) (fun hb15 => ?_)
  · have hF16 := ae_ifF hb15 hF14
    refine ae_aload_n 0 dX12_elementOf_12 rfl ?_
    refine ae_aload_n 0 dX12_elementOf_13 rfl ?_
    refine ae_getA (q := (30, 0)) (some (49, 0)) dX12_elementOf_14 fl_RX12_72 rfl rfl rfl ?_
    refine ae_iload_n 1 dX12_elementOf_17 rfl ?_
    obtain ⟨hg17, hF18⟩ := ae_gdI hF16
    refine ae_iald (q := (49, 0)) dX12_elementOf_18 rfl rfl (ae_ibI hg17) ?_
    obtain ⟨r19, s20, hc21, hF22⟩ := ae_bdI hF18
    refine ae_cV0 (q := (30, 0)) (As := [ae_i (s0.1 49 0 v1.toNatClampNeg)]) dX12_elementOf_19 ww_1776 vy_X12_works rfl rfl rfl rfl rfl (Nat.le_of_ble_eq_true rfl) (hg.1 _ _ _ _ hc21) ?_
    refine ae_aload_n 0 dX12_elementOf_22 rfl ?_
    refine ae_getI (q := (30, 0)) dX12_elementOf_23 fl_RX12_402 rfl rfl ?_
    refine ae_if_eq 31 dX12_elementOf_26 rfl (fun hb23 => ?_) (fun hb23 => ?_)
    · have hF24 := ae_ifT hb23 hF22
      refine ae_aload_n 0 dX12_elementOf_31 rfl ?_
      refine ae_getZ (q := (30, 0)) dX12_elementOf_32 fl_RX12_408 rfl rfl ?_
      refine ae_if_eq 46 dX12_elementOf_35 rfl (fun hb25 => ?_) (fun hb25 => ?_)
      · have hF26 := ae_ifT hb25 hF24
        refine ae_aload_n 0 dX12_elementOf_46 rfl ?_
        refine ae_getL (q := (30, 0)) dX12_elementOf_47 fl_RX12_412 rfl rfl ?_
        refine ae_pick (lv' := [(0, ae_r (some (30, 0))), (1, ae_i v1)]) [0, 1] rfl ?_
        exact t_X12_elementOf_50 d nn g hg v1 (s20.2.1 30 0 46) s20 hF26
      · have hF26 := ae_ifF hb25 hF24
        refine ae_aload_n 0 dX12_elementOf_38 rfl ?_
        refine ae_getD (q := (30, 0)) dX12_elementOf_39 fl_RX12_415 rfl rfl ?_
        refine ae_d2l dX12_elementOf_42 ?_
        refine ae_goto 50 dX12_elementOf_43 rfl ?_
        refine ae_pick (lv' := [(0, ae_r (some (30, 0))), (1, ae_i v1)]) [0, 1] rfl ?_
        exact t_X12_elementOf_50 d nn g hg v1 (FP.d2l (s20.2.2.1 30 0 47)) s20 hF26
    · have hF24 := ae_ifF hb23 hF22
      refine ae_iconst (-1 : Int32) dX12_elementOf_29 (by decide) ?_
      obtain ⟨rfl, rfl⟩ := ae_retI hF24
      exact ae_iret dX12_elementOf_30 rfl rfl ⟨rfl, rfl⟩
  · have hF16 := ae_ifT hb15 hF14
    refine ae_iconst (0 : Int32) dX12_elementOf_10 (by decide) ?_
    obtain ⟨rfl, rfl⟩ := ae_retI hF16
    exact ae_iret dX12_elementOf_11 rfl rfl ⟨rfl, rfl⟩
def FG_C : Nat → GT_C
  | 0 => (fun _ _ => none, fun _ _ => none, fun _ _ => none)
  | n + 1 => (FZ_X12_works (FG_C n), FZ_X12_reads (FG_C n), FZ_X12_elementOf (FG_C n))
theorem gc_C {l : Launch} {G : ae_G} (d : Nat) : ∀ n : Nat, GH_C l G (d + n + 3) (FG_C n)
  | 0 => ⟨fun _ _ _ _ h => absurd h (by simp [FG_C]), fun _ _ _ _ h => absurd h (by simp [FG_C]), fun _ _ _ _ h => absurd h (by simp [FG_C])⟩
  | n + 1 => ⟨fun _ _ _ _ h => cZ_X12_works d n (FG_C n) (gc_C d n) h, fun _ _ _ _ h => cZ_X12_reads d n (FG_C n) (gc_C d n) h, fun _ _ _ _ h => cZ_X12_elementOf d n (FG_C n) (gc_C d n) h⟩
def F_X12_works (v1 : Int32) (s0 : ae_S) : Option (Unit × ae_S) := (FG_C 1300).1 v1 s0
theorem c_X12_works {l : Launch} {G : ae_G} (d : Nat) {v1 : Int32} {s0 ss : ae_S} {rr : Unit} (hF : F_X12_works v1 s0 = some (rr, ss)) : ae_Met l G (d + 1303) yX12_works mX12_works [ae_r (some (30, 0)), ae_i v1] s0 (ae_Po none ss) := by
  have h := (gc_C (l := l) (G := G) d 1300).1 _ _ _ _ hF
  exact h
def F_X12_reads (v1 : Int32) (s0 : ae_S) : Option (Unit × ae_S) := (FG_C 1300).2.1 v1 s0
theorem c_X12_reads {l : Launch} {G : ae_G} (d : Nat) {v1 : Int32} {s0 ss : ae_S} {rr : Unit} (hF : F_X12_reads v1 s0 = some (rr, ss)) : ae_Met l G (d + 1303) yX12_reads mX12_reads [ae_r (some (30, 0)), ae_i v1] s0 (ae_Po none ss) := by
  have h := (gc_C (l := l) (G := G) d 1300).2.1 _ _ _ _ hF
  exact h
def F_X12_elementOf (v1 : Int32) (s0 : ae_S) : Option (Int32 × ae_S) := (FG_C 1300).2.2 v1 s0
theorem c_X12_elementOf {l : Launch} {G : ae_G} (d : Nat) {v1 : Int32} {s0 ss : ae_S} {rr : Int32} (hF : F_X12_elementOf v1 s0 = some (rr, ss)) : ae_Met l G (d + 1303) yX12_elementOf mX12_elementOf [ae_r (some (30, 0)), ae_i v1] s0 (ae_Po (some (ae_i rr)) ss) := by
  have h := (gc_C (l := l) (G := G) d 1300).2.2 _ _ _ _ hF
  exact h
abbrev mX12_sets : ae_M := (RX12, cX12_sets, 10, none)
theorem vy_X12_sets : ae_VY yX12_sets mX12_sets 1 := ⟨ww_1814, wq_106, ww_13, ww_1815, ⟨by decide, by decide, by decide +kernel⟩, by decide⟩
theorem dX12_sets_0 : decode cX12_sets 0 = .ok (.aload_n 0, 1) := by decide +kernel
theorem dX12_sets_1 : decode cX12_sets 1 = .ok (.getfield 69, 3) := by decide +kernel
theorem dX12_sets_4 : decode cX12_sets 4 = .ok (.iload_n 1, 1) := by decide +kernel
theorem dX12_sets_5 : decode cX12_sets 5 = .ok (.iaload, 1) := by decide +kernel
theorem dX12_sets_6 : decode cX12_sets 6 = .ok (.istore_n 2, 1) := by decide +kernel
theorem dX12_sets_7 : decode cX12_sets 7 = .ok (.aload_n 0, 1) := by decide +kernel
theorem dX12_sets_8 : decode cX12_sets 8 = .ok (.getfield 69, 3) := by decide +kernel
theorem dX12_sets_11 : decode cX12_sets 11 = .ok (.iload_n 2, 1) := by decide +kernel
theorem dX12_sets_12 : decode cX12_sets 12 = .ok (.iaload, 1) := by decide +kernel
theorem dX12_sets_13 : decode cX12_sets 13 = .ok (.istore_n 3, 1) := by decide +kernel
theorem dX12_sets_14 : decode cX12_sets 14 = .ok (.aload_n 0, 1) := by decide +kernel
theorem dX12_sets_15 : decode cX12_sets 15 = .ok (.iload_n 2, 1) := by decide +kernel
theorem dX12_sets_16 : decode cX12_sets 16 = .ok (.invokevirtual 425, 3) := by decide +kernel
theorem dX12_sets_19 : decode cX12_sets 19 = .ok (.istore 4, 2) := by decide +kernel
theorem dX12_sets_21 : decode cX12_sets 21 = .ok (.aload_n 0, 1) := by decide +kernel
theorem dX12_sets_22 : decode cX12_sets 22 = .ok (.getfield 402, 3) := by decide +kernel
theorem dX12_sets_25 : decode cX12_sets 25 = .ok (.ifCond .eq 4, 3) := by decide +kernel
theorem dX12_sets_28 : decode cX12_sets 28 = .ok (.return_, 1) := by decide +kernel
theorem dX12_sets_29 : decode cX12_sets 29 = .ok (.aload_n 0, 1) := by decide +kernel
theorem dX12_sets_30 : decode cX12_sets 30 = .ok (.aload_n 0, 1) := by decide +kernel
theorem dX12_sets_31 : decode cX12_sets 31 = .ok (.getfield 72, 3) := by decide +kernel
theorem dX12_sets_34 : decode cX12_sets 34 = .ok (.iload_n 1, 1) := by decide +kernel
theorem dX12_sets_35 : decode cX12_sets 35 = .ok (.iaload, 1) := by decide +kernel
theorem dX12_sets_36 : decode cX12_sets 36 = .ok (.invokevirtual 419, 3) := by decide +kernel
theorem dX12_sets_39 : decode cX12_sets 39 = .ok (.aload_n 0, 1) := by decide +kernel
theorem dX12_sets_40 : decode cX12_sets 40 = .ok (.getfield 402, 3) := by decide +kernel
theorem dX12_sets_43 : decode cX12_sets 43 = .ok (.ifCond .eq 4, 3) := by decide +kernel
theorem dX12_sets_46 : decode cX12_sets 46 = .ok (.return_, 1) := by decide +kernel
theorem dX12_sets_47 : decode cX12_sets 47 = .ok (.aload_n 0, 1) := by decide +kernel
theorem dX12_sets_48 : decode cX12_sets 48 = .ok (.getfield 44, 3) := by decide +kernel
theorem dX12_sets_51 : decode cX12_sets 51 = .ok (.iload_n 3, 1) := by decide +kernel
theorem dX12_sets_52 : decode cX12_sets 52 = .ok (.iaload, 1) := by decide +kernel
theorem dX12_sets_53 : decode cX12_sets 53 = .ok (.iconst 1, 1) := by decide +kernel
theorem dX12_sets_54 : decode cX12_sets 54 = .ok (.if_icmp .ne 9, 3) := by decide +kernel
theorem dX12_sets_57 : decode cX12_sets 57 = .ok (.aload_n 0, 1) := by decide +kernel
theorem dX12_sets_58 : decode cX12_sets 58 = .ok (.iconst 3, 1) := by decide +kernel
theorem dX12_sets_59 : decode cX12_sets 59 = .ok (.invokevirtual 422, 3) := by decide +kernel
theorem dX12_sets_62 : decode cX12_sets 62 = .ok (.return_, 1) := by decide +kernel
theorem dX12_sets_63 : decode cX12_sets 63 = .ok (.aload_n 0, 1) := by decide +kernel
theorem dX12_sets_64 : decode cX12_sets 64 = .ok (.getfield 78, 3) := by decide +kernel
theorem dX12_sets_67 : decode cX12_sets 67 = .ok (.iload_n 2, 1) := by decide +kernel
theorem dX12_sets_68 : decode cX12_sets 68 = .ok (.laload, 1) := by decide +kernel
theorem dX12_sets_69 : decode cX12_sets 69 = .ok (.ldc2_w 334, 3) := by decide +kernel
theorem dX12_sets_72 : decode cX12_sets 72 = .ok (.lcmp, 1) := by decide +kernel
theorem dX12_sets_73 : decode cX12_sets 73 = .ok (.ifCond .ne 30, 3) := by decide +kernel
theorem dX12_sets_76 : decode cX12_sets 76 = .ok (.aload_n 0, 1) := by decide +kernel
theorem dX12_sets_77 : decode cX12_sets 77 = .ok (.iload_n 3, 1) := by decide +kernel
theorem dX12_sets_78 : decode cX12_sets 78 = .ok (.iload 4, 2) := by decide +kernel
theorem dX12_sets_80 : decode cX12_sets 80 = .ok (.aload_n 0, 1) := by decide +kernel
theorem dX12_sets_81 : decode cX12_sets 81 = .ok (.iload_n 3, 1) := by decide +kernel
theorem dX12_sets_82 : decode cX12_sets 82 = .ok (.aload_n 0, 1) := by decide +kernel
theorem dX12_sets_83 : decode cX12_sets 83 = .ok (.getfield 408, 3) := by decide +kernel
theorem dX12_sets_86 : decode cX12_sets 86 = .ok (.aload_n 0, 1) := by decide +kernel
theorem dX12_sets_87 : decode cX12_sets 87 = .ok (.getfield 412, 3) := by decide +kernel
theorem dX12_sets_90 : decode cX12_sets 90 = .ok (.aload_n 0, 1) := by decide +kernel
theorem dX12_sets_91 : decode cX12_sets 91 = .ok (.getfield 415, 3) := by decide +kernel
theorem dX12_sets_94 : decode cX12_sets 94 = .ok (.invokevirtual 356, 3) := by decide +kernel
theorem dX12_sets_97 : decode cX12_sets 97 = .ok (.invokevirtual 360, 3) := by decide +kernel
theorem dX12_sets_100 : decode cX12_sets 100 = .ok (.goto 100, 3) := by decide +kernel
theorem dX12_sets_103 : decode cX12_sets 103 = .ok (.bipush 8, 2) := by decide +kernel
theorem dX12_sets_105 : decode cX12_sets 105 = .ok (.iload_n 3, 1) := by decide +kernel
theorem dX12_sets_106 : decode cX12_sets 106 = .ok (.imul, 1) := by decide +kernel
theorem dX12_sets_107 : decode cX12_sets 107 = .ok (.aload_n 0, 1) := by decide +kernel
theorem dX12_sets_108 : decode cX12_sets 108 = .ok (.getfield 78, 3) := by decide +kernel
theorem dX12_sets_111 : decode cX12_sets 111 = .ok (.iload_n 2, 1) := by decide +kernel
theorem dX12_sets_112 : decode cX12_sets 112 = .ok (.laload, 1) := by decide +kernel
theorem dX12_sets_113 : decode cX12_sets 113 = .ok (.l2i, 1) := by decide +kernel
theorem dX12_sets_114 : decode cX12_sets 114 = .ok (.iadd, 1) := by decide +kernel
theorem dX12_sets_115 : decode cX12_sets 115 = .ok (.istore 5, 2) := by decide +kernel
theorem dX12_sets_117 : decode cX12_sets 117 = .ok (.aload_n 0, 1) := by decide +kernel
theorem dX12_sets_118 : decode cX12_sets 118 = .ok (.getfield 53, 3) := by decide +kernel
theorem dX12_sets_121 : decode cX12_sets 121 = .ok (.iload 5, 2) := by decide +kernel
theorem dX12_sets_123 : decode cX12_sets 123 = .ok (.iaload, 1) := by decide +kernel
theorem dX12_sets_124 : decode cX12_sets 124 = .ok (.aload_n 0, 1) := by decide +kernel
theorem dX12_sets_125 : decode cX12_sets 125 = .ok (.getfield 56, 3) := by decide +kernel
theorem dX12_sets_128 : decode cX12_sets 128 = .ok (.iload 5, 2) := by decide +kernel
theorem dX12_sets_130 : decode cX12_sets 130 = .ok (.iaload, 1) := by decide +kernel
theorem dX12_sets_131 : decode cX12_sets 131 = .ok (.invokestatic 340, 3) := by decide +kernel
theorem dX12_sets_134 : decode cX12_sets 134 = .ok (.aload_n 0, 1) := by decide +kernel
theorem dX12_sets_135 : decode cX12_sets 135 = .ok (.getfield 53, 3) := by decide +kernel
theorem dX12_sets_138 : decode cX12_sets 138 = .ok (.iload 5, 2) := by decide +kernel
theorem dX12_sets_140 : decode cX12_sets 140 = .ok (.iaload, 1) := by decide +kernel
theorem dX12_sets_141 : decode cX12_sets 141 = .ok (.lshl, 1) := by decide +kernel
theorem dX12_sets_142 : decode cX12_sets 142 = .ok (.lstore 6, 2) := by decide +kernel
theorem dX12_sets_144 : decode cX12_sets 144 = .ok (.aload_n 0, 1) := by decide +kernel
theorem dX12_sets_145 : decode cX12_sets 145 = .ok (.getfield 408, 3) := by decide +kernel
theorem dX12_sets_148 : decode cX12_sets 148 = .ok (.ifCond .eq 11, 3) := by decide +kernel
theorem dX12_sets_151 : decode cX12_sets 151 = .ok (.aload_n 0, 1) := by decide +kernel
theorem dX12_sets_152 : decode cX12_sets 152 = .ok (.getfield 415, 3) := by decide +kernel
theorem dX12_sets_155 : decode cX12_sets 155 = .ok (.d2l, 1) := by decide +kernel
theorem dX12_sets_156 : decode cX12_sets 156 = .ok (.goto 7, 3) := by decide +kernel
theorem dX12_sets_159 : decode cX12_sets 159 = .ok (.aload_n 0, 1) := by decide +kernel
theorem dX12_sets_160 : decode cX12_sets 160 = .ok (.getfield 412, 3) := by decide +kernel
theorem dX12_sets_163 : decode cX12_sets 163 = .ok (.lstore 8, 2) := by decide +kernel
theorem dX12_sets_165 : decode cX12_sets 165 = .ok (.aload_n 0, 1) := by decide +kernel
theorem dX12_sets_166 : decode cX12_sets 166 = .ok (.iload_n 3, 1) := by decide +kernel
theorem dX12_sets_167 : decode cX12_sets 167 = .ok (.iload 4, 2) := by decide +kernel
theorem dX12_sets_169 : decode cX12_sets 169 = .ok (.aload_n 0, 1) := by decide +kernel
theorem dX12_sets_170 : decode cX12_sets 170 = .ok (.iload_n 3, 1) := by decide +kernel
theorem dX12_sets_171 : decode cX12_sets 171 = .ok (.iload 4, 2) := by decide +kernel
theorem dX12_sets_173 : decode cX12_sets 173 = .ok (.invokevirtual 300, 3) := by decide +kernel
theorem dX12_sets_176 : decode cX12_sets 176 = .ok (.lload 6, 2) := by decide +kernel
theorem dX12_sets_178 : decode cX12_sets 178 = .ok (.ldc2_w 334, 3) := by decide +kernel
theorem dX12_sets_181 : decode cX12_sets 181 = .ok (.lxor, 1) := by decide +kernel
theorem dX12_sets_182 : decode cX12_sets 182 = .ok (.land, 1) := by decide +kernel
theorem dX12_sets_183 : decode cX12_sets 183 = .ok (.lload 8, 2) := by decide +kernel
theorem dX12_sets_185 : decode cX12_sets 185 = .ok (.aload_n 0, 1) := by decide +kernel
theorem dX12_sets_186 : decode cX12_sets 186 = .ok (.getfield 53, 3) := by decide +kernel
theorem dX12_sets_189 : decode cX12_sets 189 = .ok (.iload 5, 2) := by decide +kernel
theorem dX12_sets_191 : decode cX12_sets 191 = .ok (.iaload, 1) := by decide +kernel
theorem dX12_sets_192 : decode cX12_sets 192 = .ok (.lshl, 1) := by decide +kernel
theorem dX12_sets_193 : decode cX12_sets 193 = .ok (.lload 6, 2) := by decide +kernel
theorem dX12_sets_195 : decode cX12_sets 195 = .ok (.land, 1) := by decide +kernel
theorem dX12_sets_196 : decode cX12_sets 196 = .ok (.lor, 1) := by decide +kernel
theorem dX12_sets_197 : decode cX12_sets 197 = .ok (.invokevirtual 360, 3) := by decide +kernel
theorem dX12_sets_200 : decode cX12_sets 200 = .ok (.aload_n 0, 1) := by decide +kernel
theorem dX12_sets_201 : decode cX12_sets 201 = .ok (.dup, 1) := by decide +kernel
theorem dX12_sets_202 : decode cX12_sets 202 = .ok (.getfield 446, 3) := by decide +kernel
theorem dX12_sets_205 : decode cX12_sets 205 = .ok (.iconst 1, 1) := by decide +kernel
theorem dX12_sets_206 : decode cX12_sets 206 = .ok (.iadd, 1) := by decide +kernel
theorem dX12_sets_207 : decode cX12_sets 207 = .ok (.putfield 446, 3) := by decide +kernel
theorem dX12_sets_210 : decode cX12_sets 210 = .ok (.return_, 1) := by decide +kernel
def F_X12_sets_200 (s0 : ae_S) : Option (Unit × ae_S) := ae_lt (ae_wI s0 30 0 43 ((s0.1 30 0 43) + (1 : Int32))) (fun s1 => some ((), s1))
set_option maxHeartbeats 4000000 in
set_option maxRecDepth 100000 in
theorem t_X12_sets_200 {l : Launch} {G : ae_G} (d : Nat) {rr : Unit} {ss : ae_S} (s0 : ae_S) (hF : F_X12_sets_200 s0 = some (rr, ss)) : ae_T l G (d + 1304) mX12_sets (ae_Po none ss) 200 [(0, ae_r (some (30, 0)))] [] s0 := by
  unfold F_X12_sets_200 at hF
  refine ae_aload_n 0 dX12_sets_200 rfl ?_
  refine ae_dup dX12_sets_201 rfl ?_
  refine ae_getI (q := (30, 0)) dX12_sets_202 fl_RX12_446 rfl rfl ?_
  refine ae_iconst (1 : Int32) dX12_sets_205 (by decide) ?_
  refine ae_iadd dX12_sets_206 ?_
  obtain ⟨s1, hs1, hF2⟩ := ae_ltI hF
  refine ae_putI (q := (30, 0)) dX12_sets_207 fl_RX12_446 rfl rfl (ae_nmS hs1 ?_)
  obtain ⟨rfl, rfl⟩ := ae_retI hF2
  exact ae_vret dX12_sets_210 rfl ⟨rfl, rfl⟩
def F_X12_sets_163 (v3 : Int32) (v4 : Int32) (v5 : Int32) (v6 : Int64) (t0 : Int64) (s0 : ae_S) : Option (Unit × ae_S) := ae_bd (F_X12_bitsOf v3 v4 s0) (fun (r3 : Int64) s4 => ae_gd (ae_ib v5 256) (ae_bd (F_X12_writes v3 v4 ((r3 &&& (v6 ^^^ (-1 : Int64))) ||| ((t0 <<< ((s4.1 44 0 v5.toNatClampNeg).toInt64 &&& 63)) &&& v6)) s4) (fun (r9 : Unit) s10 => F_X12_sets_200 s10)))
set_option maxHeartbeats 4000000 in
set_option maxRecDepth 100000 in
theorem t_X12_sets_163 {l : Launch} {G : ae_G} (d : Nat) {rr : Unit} {ss : ae_S} (v3 : Int32) (v4 : Int32) (v5 : Int32) (v6 : Int64) (t0 : Int64) (s0 : ae_S) (hF : F_X12_sets_163 v3 v4 v5 v6 t0 s0 = some (rr, ss)) : ae_T l G (d + 1304) mX12_sets (ae_Po none ss) 163 [(0, ae_r (some (30, 0))), (3, ae_i v3), (4, ae_i v4), (5, ae_i v5), (6, ae_l v6)] [ae_l t0] s0 := by
  unfold F_X12_sets_163 at hF
  refine ae_lstore (lv' := [(8, ae_l t0), (0, ae_r (some (30, 0))), (3, ae_i v3), (4, ae_i v4), (5, ae_i v5), (6, ae_l v6)]) dX12_sets_163 (by decide) rfl ?_
  refine ae_aload_n 1 dX12_sets_165 rfl ?_
  refine ae_iload_n 2 dX12_sets_166 rfl ?_
  refine ae_iload 3 dX12_sets_167 rfl ?_
  refine ae_aload_n 1 dX12_sets_169 rfl ?_
  refine ae_iload_n 2 dX12_sets_170 rfl ?_
  refine ae_iload 3 dX12_sets_171 rfl ?_
  obtain ⟨r3, s4, hc5, hF6⟩ := ae_bdI hF
  refine ae_cV1 (q := (30, 0)) (As := [ae_i v3, ae_i v4]) dX12_sets_173 ww_1652 vy_X12_bitsOf rfl rfl rfl rfl rfl (Nat.le_of_ble_eq_true rfl) (c_X12_bitsOf (d + 1302) hc5) ?_
  refine ae_lload 5 dX12_sets_176 rfl ?_
  refine ae_ldc2 dX12_sets_178 ww_1706 ?_
  refine ae_lxor dX12_sets_181 ?_
  refine ae_land dX12_sets_182 ?_
  refine ae_lload 0 dX12_sets_183 rfl ?_
  refine ae_aload_n 1 dX12_sets_185 rfl ?_
  refine ae_getA (q := (30, 0)) (some (44, 0)) dX12_sets_186 fl_RX12_53 rfl rfl rfl ?_
  refine ae_iload 4 dX12_sets_189 rfl ?_
  obtain ⟨hg7, hF8⟩ := ae_gdI hF6
  refine ae_iald (q := (44, 0)) dX12_sets_191 rfl rfl (ae_ibI hg7) ?_
  refine ae_lshl dX12_sets_192 ?_
  refine ae_lload 5 dX12_sets_193 rfl ?_
  refine ae_land dX12_sets_195 ?_
  refine ae_lor dX12_sets_196 ?_
  obtain ⟨r9, s10, hc11, hF12⟩ := ae_bdI hF8
  refine ae_cV0 (q := (30, 0)) (As := [ae_i v3, ae_i v4, ae_l ((r3 &&& (v6 ^^^ (-1 : Int64))) ||| ((t0 <<< ((s4.1 44 0 v5.toNatClampNeg).toInt64 &&& 63)) &&& v6))]) dX12_sets_197 ww_1715 vy_X12_writes rfl rfl rfl rfl rfl (Nat.le_of_ble_eq_true rfl) (c_X12_writes (d + 1301) hc11) ?_
  refine ae_pick (lv' := [(0, ae_r (some (30, 0)))]) [1] rfl ?_
  exact t_X12_sets_200 d s10 hF12
def F_X12_sets (v1 : Int32) (s0 : ae_S) : Option (Unit × ae_S) := ae_gd (ae_ib v1 600) (ae_lt (s0.1 48 0 v1.toNatClampNeg) (fun x15 => ae_gd (ae_ib x15 600) (ae_lt (s0.1 48 0 x15.toNatClampNeg) (fun x19 => ae_bd (F_X12_elementOf x15 s0) (fun (r21 : Int32) s22 => if (s22.1 30 0 40) = 0 then (ae_gd (ae_ib v1 600) (ae_bd (F_X12_works (s22.1 49 0 v1.toNatClampNeg) s22) (fun (r29 : Unit) s30 => if (s30.1 30 0 40) = 0 then (ae_gd (ae_ib x19 32) (if (s30.1 41 0 x19.toNatClampNeg) = (1 : Int32) then (ae_bd (F_X12_comes (3 : Int32) s30) (fun (r69 : Unit) s70 => some ((), s70))) else (ae_gd (ae_ib x15 600) (if (lg_cmp (s30.2.1 51 0 x15.toNatClampNeg) (-1 : Int64)) = 0 then (ae_bd (F_X12_bitsBy x19 (s30.1 30 0 45) (s30.2.1 30 0 46) (s30.2.2.1 30 0 47) s30) (fun (r61 : Int64) s62 => ae_bd (F_X12_writes x19 r21 r61 s62) (fun (r65 : Unit) s66 => F_X12_sets_200 s66))) else (ae_gd (ae_ib x15 600) (ae_lt (((8 : Int32) * x19) + ((s30.2.1 51 0 x15.toNatClampNeg).toInt32)) (fun x45 => ae_gd (ae_ib x45 256) (ae_gd (ae_ib x45 256) (ae_bd (F_X12_mask (s30.1 44 0 x45.toNatClampNeg) (s30.1 45 0 x45.toNatClampNeg) s30) (fun (r51 : Int64) s52 => ae_gd (ae_ib x45 256) (ae_lt (r51 <<< ((s52.1 44 0 x45.toNatClampNeg).toInt64 &&& 63)) (fun x57 => if (s52.1 30 0 45) = 0 then (F_X12_sets_163 x19 r21 x45 x57 (s52.2.1 30 0 46) s52) else (F_X12_sets_163 x19 r21 x45 x57 (FP.d2l (s52.2.2.1 30 0 47)) s52))))))))))))) else (some ((), s30))))) else (some ((), s22)))))))
set_option maxHeartbeats 4000000 in
set_option maxRecDepth 100000 in
theorem c_X12_sets {l : Launch} {G : ae_G} (d : Nat) {v1 : Int32} {s0 ss : ae_S} {rr : Unit} (hF : F_X12_sets v1 s0 = some (rr, ss)) : ae_Met l G (d + 1304) yX12_sets mX12_sets [ae_r (some (30, 0)), ae_i v1] s0 (ae_Po none ss) := by
  refine ae_enter (by decide) rfl (Nat.le_of_ble_eq_true rfl) ?_
  show ae_T l G (d + 1304) mX12_sets (ae_Po none ss) 0 [(0, ae_r (some (30, 0))), (1, ae_i v1)] [] s0
  unfold F_X12_sets at hF
  refine ae_aload_n 0 dX12_sets_0 rfl ?_
  refine ae_getA (q := (30, 0)) (some (48, 0)) dX12_sets_1 fl_RX12_69 rfl rfl rfl ?_
  refine ae_iload_n 1 dX12_sets_4 rfl ?_
  obtain ⟨hg13, hF14⟩ := ae_gdI hF
  refine ae_iald (q := (48, 0)) dX12_sets_5 rfl rfl (ae_ibI hg13) ?_
  obtain ⟨x15, hx15, hF16⟩ := ae_ltI hF14
  refine ae_nmI hx15 ?_
  refine ae_istore_n (lv' := [(2, ae_i x15), (0, ae_r (some (30, 0))), (1, ae_i v1)]) dX12_sets_6 (by decide) rfl ?_
  refine ae_aload_n 1 dX12_sets_7 rfl ?_
  refine ae_getA (q := (30, 0)) (some (48, 0)) dX12_sets_8 fl_RX12_69 rfl rfl rfl ?_
  refine ae_iload_n 0 dX12_sets_11 rfl ?_
  obtain ⟨hg17, hF18⟩ := ae_gdI hF16
  refine ae_iald (q := (48, 0)) dX12_sets_12 rfl rfl (ae_ibI hg17) ?_
  obtain ⟨x19, hx19, hF20⟩ := ae_ltI hF18
  refine ae_nmI hx19 ?_
  refine ae_istore_n (lv' := [(3, ae_i x19), (2, ae_i x15), (0, ae_r (some (30, 0))), (1, ae_i v1)]) dX12_sets_13 (by decide) rfl ?_
  refine ae_aload_n 2 dX12_sets_14 rfl ?_
  refine ae_iload_n 1 dX12_sets_15 rfl ?_
  obtain ⟨r21, s22, hc23, hF24⟩ := ae_bdI hF20
  refine ae_cV1 (q := (30, 0)) (As := [ae_i x15]) dX12_sets_16 ww_1788 vy_X12_elementOf rfl rfl rfl rfl rfl (Nat.le_of_ble_eq_true rfl) (c_X12_elementOf d hc23) ?_
  refine ae_istore (lv' := [(4, ae_i r21), (3, ae_i x19), (2, ae_i x15), (0, ae_r (some (30, 0))), (1, ae_i v1)]) dX12_sets_19 (by decide) rfl ?_
  refine ae_aload_n 3 dX12_sets_21 rfl ?_
  refine ae_getI (q := (30, 0)) dX12_sets_22 fl_RX12_402 rfl rfl ?_
  refine ae_if_eq 29 dX12_sets_25 rfl (fun hb25 => ?_) (fun hb25 => ?_)
  · have hF26 := ae_ifT hb25 hF24
    refine ae_aload_n 3 dX12_sets_29 rfl ?_
    refine ae_aload_n 3 dX12_sets_30 rfl ?_
    refine ae_getA (q := (30, 0)) (some (49, 0)) dX12_sets_31 fl_RX12_72 rfl rfl rfl ?_
    refine ae_iload_n 4 dX12_sets_34 rfl ?_
    obtain ⟨hg27, hF28⟩ := ae_gdI hF26
    refine ae_iald (q := (49, 0)) dX12_sets_35 rfl rfl (ae_ibI hg27) ?_
    obtain ⟨r29, s30, hc31, hF32⟩ := ae_bdI hF28
    refine ae_cV0 (q := (30, 0)) (As := [ae_i (s22.1 49 0 v1.toNatClampNeg)]) dX12_sets_36 ww_1776 vy_X12_works rfl rfl rfl rfl rfl (Nat.le_of_ble_eq_true rfl) (c_X12_works d hc31) ?_
    refine ae_aload_n 3 dX12_sets_39 rfl ?_
    refine ae_getI (q := (30, 0)) dX12_sets_40 fl_RX12_402 rfl rfl ?_
    refine ae_if_eq 47 dX12_sets_43 rfl (fun hb33 => ?_) (fun hb33 => ?_)
    · have hF34 := ae_ifT hb33 hF32
      refine ae_aload_n 3 dX12_sets_47 rfl ?_
      refine ae_getA (q := (30, 0)) (some (41, 0)) dX12_sets_48 fl_RX12_44 rfl rfl rfl ?_
      refine ae_iload_n 1 dX12_sets_51 rfl ?_
      obtain ⟨hg35, hF36⟩ := ae_gdI hF34
      refine ae_iald (q := (41, 0)) dX12_sets_52 rfl rfl (ae_ibI hg35) ?_
      refine ae_iconst (1 : Int32) dX12_sets_53 (by decide) ?_
      refine ae_icmp_ne 63 dX12_sets_54 rfl (fun hb37 => ?_) (fun hb37 => ?_)
      · have hF38 := ae_ifF hb37 hF36
        refine ae_aload_n 3 dX12_sets_63 rfl ?_
        refine ae_getA (q := (30, 0)) (some (51, 0)) dX12_sets_64 fl_RX12_78 rfl rfl rfl ?_
        refine ae_iload_n 2 dX12_sets_67 rfl ?_
        obtain ⟨hg39, hF40⟩ := ae_gdI hF38
        refine ae_lald (q := (51, 0)) dX12_sets_68 rfl rfl (ae_ibI hg39) ?_
        refine ae_ldc2 dX12_sets_69 ww_1706 ?_
        refine ae_lcmp dX12_sets_72 ?_
        refine ae_if_ne 103 dX12_sets_73 rfl (fun hb41 => ?_) (fun hb41 => ?_)
        · have hF42 := ae_ifF hb41 hF40
          refine ae_bipush (8 : Int32) dX12_sets_103 (by decide) ?_
          refine ae_iload_n 1 dX12_sets_105 rfl ?_
          refine ae_imul dX12_sets_106 ?_
          refine ae_aload_n 3 dX12_sets_107 rfl ?_
          refine ae_getA (q := (30, 0)) (some (51, 0)) dX12_sets_108 fl_RX12_78 rfl rfl rfl ?_
          refine ae_iload_n 2 dX12_sets_111 rfl ?_
          obtain ⟨hg43, hF44⟩ := ae_gdI hF42
          refine ae_lald (q := (51, 0)) dX12_sets_112 rfl rfl (ae_ibI hg43) ?_
          refine ae_l2i dX12_sets_113 ?_
          refine ae_iadd dX12_sets_114 ?_
          obtain ⟨x45, hx45, hF46⟩ := ae_ltI hF44
          refine ae_nmI hx45 ?_
          refine ae_istore (lv' := [(5, ae_i x45), (4, ae_i r21), (3, ae_i x19), (2, ae_i x15), (0, ae_r (some (30, 0))), (1, ae_i v1)]) dX12_sets_115 (by decide) rfl ?_
          refine ae_aload_n 4 dX12_sets_117 rfl ?_
          refine ae_getA (q := (30, 0)) (some (44, 0)) dX12_sets_118 fl_RX12_53 rfl rfl rfl ?_
          refine ae_iload 0 dX12_sets_121 rfl ?_
          obtain ⟨hg47, hF48⟩ := ae_gdI hF46
          refine ae_iald (q := (44, 0)) dX12_sets_123 rfl rfl (ae_ibI hg47) ?_
          refine ae_aload_n 4 dX12_sets_124 rfl ?_
          refine ae_getA (q := (30, 0)) (some (45, 0)) dX12_sets_125 fl_RX12_56 rfl rfl rfl ?_
          refine ae_iload 0 dX12_sets_128 rfl ?_
          obtain ⟨hg49, hF50⟩ := ae_gdI hF48
          refine ae_iald (q := (45, 0)) dX12_sets_130 rfl rfl (ae_ibI hg49) ?_
          obtain ⟨r51, s52, hc53, hF54⟩ := ae_bdI hF50
          refine ae_cS1 (As := [ae_i (s30.1 44 0 x45.toNatClampNeg), ae_i (s30.1 45 0 x45.toNatClampNeg)]) dX12_sets_131 ww_1703 vy_X12_mask rfl rfl (Nat.le_of_ble_eq_true rfl) (c_X12_mask (d + 1303) hc53) ?_
          refine ae_aload_n 4 dX12_sets_134 rfl ?_
          refine ae_getA (q := (30, 0)) (some (44, 0)) dX12_sets_135 fl_RX12_53 rfl rfl rfl ?_
          refine ae_iload 0 dX12_sets_138 rfl ?_
          obtain ⟨hg55, hF56⟩ := ae_gdI hF54
          refine ae_iald (q := (44, 0)) dX12_sets_140 rfl rfl (ae_ibI hg55) ?_
          refine ae_lshl dX12_sets_141 ?_
          obtain ⟨x57, hx57, hF58⟩ := ae_ltI hF56
          refine ae_nmL hx57 ?_
          refine ae_lstore (lv' := [(6, ae_l x57), (5, ae_i x45), (4, ae_i r21), (3, ae_i x19), (2, ae_i x15), (0, ae_r (some (30, 0))), (1, ae_i v1)]) dX12_sets_142 (by decide) rfl ?_
          refine ae_aload_n 5 dX12_sets_144 rfl ?_
          refine ae_getZ (q := (30, 0)) dX12_sets_145 fl_RX12_408 rfl rfl ?_
          refine ae_if_eq 159 dX12_sets_148 rfl (fun hb59 => ?_) (fun hb59 => ?_)
          · have hF60 := ae_ifT hb59 hF58
            refine ae_aload_n 5 dX12_sets_159 rfl ?_
            refine ae_getL (q := (30, 0)) dX12_sets_160 fl_RX12_412 rfl rfl ?_
            refine ae_pick (lv' := [(0, ae_r (some (30, 0))), (3, ae_i x19), (4, ae_i r21), (5, ae_i x45), (6, ae_l x57)]) [5, 3, 2, 1, 0] rfl ?_
            exact t_X12_sets_163 d x19 r21 x45 x57 (s52.2.1 30 0 46) s52 hF60
          · have hF60 := ae_ifF hb59 hF58
            refine ae_aload_n 5 dX12_sets_151 rfl ?_
            refine ae_getD (q := (30, 0)) dX12_sets_152 fl_RX12_415 rfl rfl ?_
            refine ae_d2l dX12_sets_155 ?_
            refine ae_goto 163 dX12_sets_156 rfl ?_
            refine ae_pick (lv' := [(0, ae_r (some (30, 0))), (3, ae_i x19), (4, ae_i r21), (5, ae_i x45), (6, ae_l x57)]) [5, 3, 2, 1, 0] rfl ?_
            exact t_X12_sets_163 d x19 r21 x45 x57 (FP.d2l (s52.2.2.1 30 0 47)) s52 hF60
        · have hF42 := ae_ifT hb41 hF40
          refine ae_aload_n 3 dX12_sets_76 rfl ?_
          refine ae_iload_n 1 dX12_sets_77 rfl ?_
          refine ae_iload 0 dX12_sets_78 rfl ?_
          refine ae_aload_n 3 dX12_sets_80 rfl ?_
          refine ae_iload_n 1 dX12_sets_81 rfl ?_
          refine ae_aload_n 3 dX12_sets_82 rfl ?_
          refine ae_getZ (q := (30, 0)) dX12_sets_83 fl_RX12_408 rfl rfl ?_
          refine ae_aload_n 3 dX12_sets_86 rfl ?_
          refine ae_getL (q := (30, 0)) dX12_sets_87 fl_RX12_412 rfl rfl ?_
          refine ae_aload_n 3 dX12_sets_90 rfl ?_
          refine ae_getD (q := (30, 0)) dX12_sets_91 fl_RX12_415 rfl rfl ?_
          obtain ⟨r61, s62, hc63, hF64⟩ := ae_bdI hF42
          refine ae_cV1 (q := (30, 0)) (As := [ae_i x19, ae_i (s30.1 30 0 45), ae_l (s30.2.1 30 0 46), ae_d (s30.2.2.1 30 0 47)]) dX12_sets_94 ww_1711 vy_X12_bitsBy rfl rfl rfl rfl rfl (Nat.le_of_ble_eq_true rfl) (c_X12_bitsBy (d + 1301) hc63) ?_
          obtain ⟨r65, s66, hc67, hF68⟩ := ae_bdI hF64
          refine ae_cV0 (q := (30, 0)) (As := [ae_i x19, ae_i r21, ae_l r61]) dX12_sets_97 ww_1715 vy_X12_writes rfl rfl rfl rfl rfl (Nat.le_of_ble_eq_true rfl) (c_X12_writes (d + 1301) hc67) ?_
          refine ae_goto 200 dX12_sets_100 rfl ?_
          refine ae_pick (lv' := [(0, ae_r (some (30, 0)))]) [3] rfl ?_
          exact t_X12_sets_200 d s66 hF68
      · have hF38 := ae_ifT hb37 hF36
        refine ae_aload_n 3 dX12_sets_57 rfl ?_
        refine ae_iconst (3 : Int32) dX12_sets_58 (by decide) ?_
        obtain ⟨r69, s70, hc71, hF72⟩ := ae_bdI hF38
        refine ae_cV0 (q := (30, 0)) (As := [ae_i (3 : Int32)]) dX12_sets_59 ww_1792 vy_X12_comes rfl rfl rfl rfl rfl (Nat.le_of_ble_eq_true rfl) (c_X12_comes (d + 1303) hc71) ?_
        obtain ⟨rfl, rfl⟩ := ae_retI hF72
        exact ae_vret dX12_sets_62 rfl ⟨rfl, rfl⟩
    · have hF34 := ae_ifF hb33 hF32
      obtain ⟨rfl, rfl⟩ := ae_retI hF34
      exact ae_vret dX12_sets_46 rfl ⟨rfl, rfl⟩
  · have hF26 := ae_ifF hb25 hF24
    obtain ⟨rfl, rfl⟩ := ae_retI hF26
    exact ae_vret dX12_sets_28 rfl ⟨rfl, rfl⟩
abbrev mX12_does : ae_M := (RX12, cX12_does, 6, none)
theorem vy_X12_does : ae_VY yX12_does mX12_does 2 := ⟨ww_1774, wq_96, ww_13, ww_1775, ⟨by decide, by decide, by decide +kernel⟩, by decide⟩
theorem dX12_does_0 : decode cX12_does 0 = .ok (.iload_n 1, 1) := by decide +kernel
theorem dX12_does_1 : decode cX12_does 1 = .ok (.istore_n 3, 1) := by decide +kernel
theorem dX12_does_2 : decode cX12_does 2 = .ok (.aload_n 0, 1) := by decide +kernel
theorem dX12_does_3 : decode cX12_does 3 = .ok (.getfield 66, 3) := by decide +kernel
theorem dX12_does_6 : decode cX12_does 6 = .ok (.iload_n 3, 1) := by decide +kernel
theorem dX12_does_7 : decode cX12_does 7 = .ok (.iaload, 1) := by decide +kernel
theorem dX12_does_8 : decode cX12_does 8 = .ok (.bipush 11, 2) := by decide +kernel
theorem dX12_does_10 : decode cX12_does 10 = .ok (.if_icmp .ne 38, 3) := by decide +kernel
theorem dX12_does_13 : decode cX12_does 13 = .ok (.aload_n 0, 1) := by decide +kernel
theorem dX12_does_14 : decode cX12_does 14 = .ok (.aload_n 0, 1) := by decide +kernel
theorem dX12_does_15 : decode cX12_does 15 = .ok (.getfield 69, 3) := by decide +kernel
theorem dX12_does_18 : decode cX12_does 18 = .ok (.iload_n 3, 1) := by decide +kernel
theorem dX12_does_19 : decode cX12_does 19 = .ok (.iaload, 1) := by decide +kernel
theorem dX12_does_20 : decode cX12_does 20 = .ok (.invokevirtual 419, 3) := by decide +kernel
theorem dX12_does_23 : decode cX12_does 23 = .ok (.aload_n 0, 1) := by decide +kernel
theorem dX12_does_24 : decode cX12_does 24 = .ok (.getfield 402, 3) := by decide +kernel
theorem dX12_does_27 : decode cX12_does 27 = .ok (.ifCond .ne 10, 3) := by decide +kernel
theorem dX12_does_30 : decode cX12_does 30 = .ok (.aload_n 0, 1) := by decide +kernel
theorem dX12_does_31 : decode cX12_does 31 = .ok (.invokevirtual 449, 3) := by decide +kernel
theorem dX12_does_34 : decode cX12_does 34 = .ok (.ifCond .eq 4, 3) := by decide +kernel
theorem dX12_does_37 : decode cX12_does 37 = .ok (.return_, 1) := by decide +kernel
theorem dX12_does_38 : decode cX12_does 38 = .ok (.aload_n 0, 1) := by decide +kernel
theorem dX12_does_39 : decode cX12_does 39 = .ok (.getfield 72, 3) := by decide +kernel
theorem dX12_does_42 : decode cX12_does 42 = .ok (.iload_n 3, 1) := by decide +kernel
theorem dX12_does_43 : decode cX12_does 43 = .ok (.iaload, 1) := by decide +kernel
theorem dX12_does_44 : decode cX12_does 44 = .ok (.istore_n 3, 1) := by decide +kernel
theorem dX12_does_45 : decode cX12_does 45 = .ok (.goto (-43), 3) := by decide +kernel
theorem dX12_does_48 : decode cX12_does 48 = .ok (.aload_n 0, 1) := by decide +kernel
theorem dX12_does_49 : decode cX12_does 49 = .ok (.getfield 66, 3) := by decide +kernel
theorem dX12_does_52 : decode cX12_does 52 = .ok (.iload_n 3, 1) := by decide +kernel
theorem dX12_does_53 : decode cX12_does 53 = .ok (.iaload, 1) := by decide +kernel
theorem dX12_does_54 : decode cX12_does 54 = .ok (.bipush 10, 2) := by decide +kernel
theorem dX12_does_56 : decode cX12_does 56 = .ok (.if_icmp .ne 11, 3) := by decide +kernel
theorem dX12_does_59 : decode cX12_does 59 = .ok (.aload_n 0, 1) := by decide +kernel
theorem dX12_does_60 : decode cX12_does 60 = .ok (.iload_n 3, 1) := by decide +kernel
theorem dX12_does_61 : decode cX12_does 61 = .ok (.invokevirtual 452, 3) := by decide +kernel
theorem dX12_does_64 : decode cX12_does 64 = .ok (.goto 99, 3) := by decide +kernel
theorem dX12_does_67 : decode cX12_does 67 = .ok (.aload_n 0, 1) := by decide +kernel
theorem dX12_does_68 : decode cX12_does 68 = .ok (.getfield 66, 3) := by decide +kernel
theorem dX12_does_71 : decode cX12_does 71 = .ok (.iload_n 3, 1) := by decide +kernel
theorem dX12_does_72 : decode cX12_does 72 = .ok (.iaload, 1) := by decide +kernel
theorem dX12_does_73 : decode cX12_does 73 = .ok (.bipush 12, 2) := by decide +kernel
theorem dX12_does_75 : decode cX12_does 75 = .ok (.if_icmp .ne 11, 3) := by decide +kernel
theorem dX12_does_78 : decode cX12_does 78 = .ok (.aload_n 0, 1) := by decide +kernel
theorem dX12_does_79 : decode cX12_does 79 = .ok (.iconst 4, 1) := by decide +kernel
theorem dX12_does_80 : decode cX12_does 80 = .ok (.invokevirtual 422, 3) := by decide +kernel
theorem dX12_does_83 : decode cX12_does 83 = .ok (.goto 80, 3) := by decide +kernel
theorem dX12_does_86 : decode cX12_does 86 = .ok (.aload_n 0, 1) := by decide +kernel
theorem dX12_does_87 : decode cX12_does 87 = .ok (.getfield 446, 3) := by decide +kernel
theorem dX12_does_90 : decode cX12_does 90 = .ok (.istore 4, 2) := by decide +kernel
theorem dX12_does_92 : decode cX12_does 92 = .ok (.aload_n 0, 1) := by decide +kernel
theorem dX12_does_93 : decode cX12_does 93 = .ok (.iload_n 2, 1) := by decide +kernel
theorem dX12_does_94 : decode cX12_does 94 = .ok (.invokevirtual 455, 3) := by decide +kernel
theorem dX12_does_97 : decode cX12_does 97 = .ok (.aload_n 0, 1) := by decide +kernel
theorem dX12_does_98 : decode cX12_does 98 = .ok (.getfield 69, 3) := by decide +kernel
theorem dX12_does_101 : decode cX12_does 101 = .ok (.iload_n 3, 1) := by decide +kernel
theorem dX12_does_102 : decode cX12_does 102 = .ok (.iaload, 1) := by decide +kernel
theorem dX12_does_103 : decode cX12_does 103 = .ok (.istore 5, 2) := by decide +kernel
theorem dX12_does_105 : decode cX12_does 105 = .ok (.iload 5, 2) := by decide +kernel
theorem dX12_does_107 : decode cX12_does 107 = .ok (.iconst (-1), 1) := by decide +kernel
theorem dX12_does_108 : decode cX12_does 108 = .ok (.if_icmp .eq 31, 3) := by decide +kernel
theorem dX12_does_111 : decode cX12_does 111 = .ok (.aload_n 0, 1) := by decide +kernel
theorem dX12_does_112 : decode cX12_does 112 = .ok (.getfield 402, 3) := by decide +kernel
theorem dX12_does_115 : decode cX12_does 115 = .ok (.ifCond .ne 24, 3) := by decide +kernel
theorem dX12_does_118 : decode cX12_does 118 = .ok (.aload_n 0, 1) := by decide +kernel
theorem dX12_does_119 : decode cX12_does 119 = .ok (.iload 5, 2) := by decide +kernel
theorem dX12_does_121 : decode cX12_does 121 = .ok (.iload_n 2, 1) := by decide +kernel
theorem dX12_does_122 : decode cX12_does 122 = .ok (.iconst 1, 1) := by decide +kernel
theorem dX12_does_123 : decode cX12_does 123 = .ok (.iadd, 1) := by decide +kernel
theorem dX12_does_124 : decode cX12_does 124 = .ok (.invokevirtual 458, 3) := by decide +kernel
theorem dX12_does_127 : decode cX12_does 127 = .ok (.aload_n 0, 1) := by decide +kernel
theorem dX12_does_128 : decode cX12_does 128 = .ok (.getfield 75, 3) := by decide +kernel
theorem dX12_does_131 : decode cX12_does 131 = .ok (.iload 5, 2) := by decide +kernel
theorem dX12_does_133 : decode cX12_does 133 = .ok (.iaload, 1) := by decide +kernel
theorem dX12_does_134 : decode cX12_does 134 = .ok (.istore 5, 2) := by decide +kernel
theorem dX12_does_136 : decode cX12_does 136 = .ok (.goto (-31), 3) := by decide +kernel
theorem dX12_does_139 : decode cX12_does 139 = .ok (.aload_n 0, 1) := by decide +kernel
theorem dX12_does_140 : decode cX12_does 140 = .ok (.getfield 402, 3) := by decide +kernel
theorem dX12_does_143 : decode cX12_does 143 = .ok (.ifCond .ne 4, 3) := by decide +kernel
theorem dX12_does_146 : decode cX12_does 146 = .ok (.return_, 1) := by decide +kernel
theorem dX12_does_147 : decode cX12_does 147 = .ok (.aload_n 0, 1) := by decide +kernel
theorem dX12_does_148 : decode cX12_does 148 = .ok (.iconst 0, 1) := by decide +kernel
theorem dX12_does_149 : decode cX12_does 149 = .ok (.putfield 402, 3) := by decide +kernel
theorem dX12_does_152 : decode cX12_does 152 = .ok (.aload_n 0, 1) := by decide +kernel
theorem dX12_does_153 : decode cX12_does 153 = .ok (.iload 4, 2) := by decide +kernel
theorem dX12_does_155 : decode cX12_does 155 = .ok (.putfield 446, 3) := by decide +kernel
theorem dX12_does_158 : decode cX12_does 158 = .ok (.aload_n 0, 1) := by decide +kernel
theorem dX12_does_159 : decode cX12_does 159 = .ok (.iload_n 2, 1) := by decide +kernel
theorem dX12_does_160 : decode cX12_does 160 = .ok (.invokevirtual 462, 3) := by decide +kernel
theorem dX12_does_163 : decode cX12_does 163 = .ok (.return_, 1) := by decide +kernel
abbrev GT_D : Type := (Int32 → Int32 → ae_S → Option (Unit × ae_S))
def GH_D (l : Launch) (G : ae_G) (D : Nat) (g : GT_D) : Prop := (∀ (v1 : Int32) (v2 : Int32) (s0 : ae_S) (rr : Unit) (ss : ae_S), g v1 v2 s0 = some (rr, ss) → ae_Met l G D yX12_does mX12_does [ae_r (some (30, 0)), ae_i v1, ae_i v2] s0 (ae_Po none ss))
def F_X12_does_163 (g : GT_D) (s0 : ae_S) : Option (Unit × ae_S) := some ((), s0)
set_option maxHeartbeats 4000000 in
set_option maxRecDepth 100000 in
theorem t_X12_does_163 {l : Launch} {G : ae_G} (d nn : Nat) (g : GT_D) (hg : GH_D l G (d + nn + 1305) g) {rr : Unit} {ss : ae_S} (s0 : ae_S) (hF : F_X12_does_163 g s0 = some (rr, ss)) : ae_T l G (d + (nn + 1) + 1305) mX12_does (ae_Po none ss) 163 [] [] s0 := by
  unfold F_X12_does_163 at hF
  obtain ⟨rfl, rfl⟩ := ae_retI hF
  exact ae_vret dX12_does_163 rfl ⟨rfl, rfl⟩
def F_X12_does_139 (g : GT_D) (v2 : Int32) (v4 : Int32) (s0 : ae_S) : Option (Unit × ae_S) := if (s0.1 30 0 40) = 0 then (some ((), s0)) else (ae_lt (ae_wI s0 30 0 40 (0 : Int32)) (fun s3 => ae_lt (ae_wI s3 30 0 43 v4) (fun s5 => ae_bd (F_X12_comesBack v2 s5) (fun (r7 : Unit) s8 => F_X12_does_163 g s8))))
set_option maxHeartbeats 4000000 in
set_option maxRecDepth 100000 in
theorem t_X12_does_139 {l : Launch} {G : ae_G} (d nn : Nat) (g : GT_D) (hg : GH_D l G (d + nn + 1305) g) {rr : Unit} {ss : ae_S} (v2 : Int32) (v4 : Int32) (s0 : ae_S) (hF : F_X12_does_139 g v2 v4 s0 = some (rr, ss)) : ae_T l G (d + (nn + 1) + 1305) mX12_does (ae_Po none ss) 139 [(0, ae_r (some (30, 0))), (2, ae_i v2), (4, ae_i v4)] [] s0 := by
  unfold F_X12_does_139 at hF
  refine ae_aload_n 0 dX12_does_139 rfl ?_
  refine ae_getI (q := (30, 0)) dX12_does_140 fl_RX12_402 rfl rfl ?_
  refine ae_if_ne 147 dX12_does_143 rfl (fun hb1 => ?_) (fun hb1 => ?_)
  · have hF2 := ae_ifF hb1 hF
    refine ae_aload_n 0 dX12_does_147 rfl ?_
    refine ae_iconst (0 : Int32) dX12_does_148 (by decide) ?_
    obtain ⟨s3, hs3, hF4⟩ := ae_ltI hF2
    refine ae_putI (q := (30, 0)) dX12_does_149 fl_RX12_402 rfl rfl (ae_nmS hs3 ?_)
    refine ae_aload_n 0 dX12_does_152 rfl ?_
    refine ae_iload 2 dX12_does_153 rfl ?_
    obtain ⟨s5, hs5, hF6⟩ := ae_ltI hF4
    refine ae_putI (q := (30, 0)) dX12_does_155 fl_RX12_446 rfl rfl (ae_nmS hs5 ?_)
    refine ae_aload_n 0 dX12_does_158 rfl ?_
    refine ae_iload_n 1 dX12_does_159 rfl ?_
    obtain ⟨r7, s8, hc9, hF10⟩ := ae_bdI hF6
    refine ae_cV0 (q := (30, 0)) (As := [ae_i v2]) dX12_does_160 ww_1816 vy_X12_comesBack rfl rfl rfl rfl rfl (Nat.le_of_ble_eq_true rfl) (c_X12_comesBack (d + (nn + 1) + 1304) hc9) ?_
    refine ae_pick (lv' := []) [] rfl ?_
    exact t_X12_does_163 d nn g hg s8 hF10
  · have hF2 := ae_ifT hb1 hF
    obtain ⟨rfl, rfl⟩ := ae_retI hF2
    exact ae_vret dX12_does_146 rfl ⟨rfl, rfl⟩
def F_X12_does_105 (g : GT_D) : Nat → Int32 → Int32 → Int32 → ae_S → Option (Unit × ae_S)
  | 0, _, _, _, _ => none
  | n + 1, v2, v4, v5, s0 => if v5 = (-1 : Int32) then (F_X12_does_139 g v2 v4 s0) else (if (s0.1 30 0 40) = 0 then (ae_bd (g v5 (v2 + (1 : Int32)) s0) (fun (r15 : Unit) s16 => ae_gd (ae_ib v5 600) (ae_lt (s16.1 50 0 v5.toNatClampNeg) (fun x21 => F_X12_does_105 g n v2 v4 x21 s16)))) else (F_X12_does_139 g v2 v4 s0))
set_option maxHeartbeats 4000000 in
set_option maxRecDepth 100000 in
theorem t_X12_does_105 {l : Launch} {G : ae_G} (d nn : Nat) (g : GT_D) (hg : GH_D l G (d + nn + 1305) g) {rr : Unit} {ss : ae_S} : ∀ (n : Nat) (v2 : Int32) (v4 : Int32) (v5 : Int32) (s0 : ae_S), F_X12_does_105 g n v2 v4 v5 s0 = some (rr, ss) → ae_T l G (d + (nn + 1) + 1305) mX12_does (ae_Po none ss) 105 [(0, ae_r (some (30, 0))), (2, ae_i v2), (4, ae_i v4), (5, ae_i v5)] [] s0 := by
  intro n
  induction n with
  | zero =>
    intro v2 v4 v5 s0 hF
    exact absurd (show (none : Option (Unit × ae_S)) = some (rr, ss) from hF) (by simp)
  | succ n ih =>
    intro v2 v4 v5 s0 hF
    unfold F_X12_does_105 at hF
    refine ae_iload 3 dX12_does_105 rfl ?_
    refine ae_iconst (-1 : Int32) dX12_does_107 (by decide) ?_
    refine ae_icmp_eq 139 dX12_does_108 rfl (fun hb11 => ?_) (fun hb11 => ?_)
    · have hF12 := ae_ifT hb11 hF
      refine ae_pick (lv' := [(0, ae_r (some (30, 0))), (2, ae_i v2), (4, ae_i v4)]) [0, 1, 2] rfl ?_
      exact t_X12_does_139 d nn g hg v2 v4 s0 hF12
    · have hF12 := ae_ifF hb11 hF
      refine ae_aload_n 0 dX12_does_111 rfl ?_
      refine ae_getI (q := (30, 0)) dX12_does_112 fl_RX12_402 rfl rfl ?_
      refine ae_if_ne 139 dX12_does_115 rfl (fun hb13 => ?_) (fun hb13 => ?_)
      · have hF14 := ae_ifF hb13 hF12
        refine ae_pick (lv' := [(0, ae_r (some (30, 0))), (2, ae_i v2), (4, ae_i v4)]) [0, 1, 2] rfl ?_
        exact t_X12_does_139 d nn g hg v2 v4 s0 hF14
      · have hF14 := ae_ifT hb13 hF12
        refine ae_aload_n 0 dX12_does_118 rfl ?_
        refine ae_iload 3 dX12_does_119 rfl ?_
        refine ae_iload_n 1 dX12_does_121 rfl ?_
        refine ae_iconst (1 : Int32) dX12_does_122 (by decide) ?_
        refine ae_iadd dX12_does_123 ?_
        obtain ⟨r15, s16, hc17, hF18⟩ := ae_bdI hF14
        refine ae_cV0 (q := (30, 0)) (As := [ae_i v5, ae_i (v2 + (1 : Int32))]) dX12_does_124 ww_1772 vy_X12_does rfl rfl rfl rfl rfl (Nat.le_of_ble_eq_true rfl) (hg _ _ _ _ _ hc17) ?_
        refine ae_aload_n 0 dX12_does_127 rfl ?_
        refine ae_getA (q := (30, 0)) (some (50, 0)) dX12_does_128 fl_RX12_75 rfl rfl rfl ?_
        refine ae_iload 3 dX12_does_131 rfl ?_
        obtain ⟨hg19, hF20⟩ := ae_gdI hF18
        refine ae_iald (q := (50, 0)) dX12_does_133 rfl rfl (ae_ibI hg19) ?_
        obtain ⟨x21, hx21, hF22⟩ := ae_ltI hF20
        refine ae_nmI hx21 ?_
        refine ae_istore (lv' := [(5, ae_i x21), (0, ae_r (some (30, 0))), (2, ae_i v2), (4, ae_i v4)]) dX12_does_134 (by decide) rfl ?_
        refine ae_goto 105 dX12_does_136 rfl ?_
        refine ae_pick (lv' := [(0, ae_r (some (30, 0))), (2, ae_i v2), (4, ae_i v4), (5, ae_i x21)]) [1, 2, 3, 0] rfl ?_
        exact ih v2 v4 x21 s16 hF22
def F_X12_does_37 (g : GT_D) (s0 : ae_S) : Option (Unit × ae_S) := some ((), s0)
set_option maxHeartbeats 4000000 in
set_option maxRecDepth 100000 in
theorem t_X12_does_37 {l : Launch} {G : ae_G} (d nn : Nat) (g : GT_D) (hg : GH_D l G (d + nn + 1305) g) {rr : Unit} {ss : ae_S} (s0 : ae_S) (hF : F_X12_does_37 g s0 = some (rr, ss)) : ae_T l G (d + (nn + 1) + 1305) mX12_does (ae_Po none ss) 37 [] [] s0 := by
  unfold F_X12_does_37 at hF
  obtain ⟨rfl, rfl⟩ := ae_retI hF
  exact ae_vret dX12_does_37 rfl ⟨rfl, rfl⟩
def F_X12_does_2 (g : GT_D) : Nat → Int32 → Int32 → ae_S → Option (Unit × ae_S)
  | 0, _, _, _ => none
  | n + 1, v2, v3, s0 => ae_gd (ae_ib v3 600) (if (s0.1 47 0 v3.toNatClampNeg) = (11 : Int32) then (ae_gd (ae_ib v3 600) (ae_bd (F_X12_works (s0.1 48 0 v3.toNatClampNeg) s0) (fun (r55 : Unit) s56 => if (s56.1 30 0 40) = 0 then (ae_bd (F_X12_isNought s56) (fun (r61 : Int32) s62 => if r61 = 0 then (ae_gd (ae_ib v3 600) (ae_lt (s62.1 49 0 v3.toNatClampNeg) (fun x69 => F_X12_does_2 g n v2 x69 s62))) else (F_X12_does_37 g s62))) else (F_X12_does_37 g s56)))) else (ae_gd (ae_ib v3 600) (if (s0.1 47 0 v3.toNatClampNeg) = (10 : Int32) then (ae_bd (F_X12_sets v3 s0) (fun (r49 : Unit) s50 => F_X12_does_163 g s50)) else (ae_gd (ae_ib v3 600) (if (s0.1 47 0 v3.toNatClampNeg) = (12 : Int32) then (ae_bd (F_X12_comes (4 : Int32) s0) (fun (r45 : Unit) s46 => F_X12_does_163 g s46)) else (ae_lt (s0.1 30 0 43) (fun x35 => ae_bd (F_X12_keeps v2 s0) (fun (r37 : Unit) s38 => ae_gd (ae_ib v3 600) (ae_lt (s38.1 48 0 v3.toNatClampNeg) (fun x43 => F_X12_does_105 g ae_fu v2 x35 x43 s38))))))))))
set_option maxHeartbeats 4000000 in
set_option maxRecDepth 100000 in
theorem t_X12_does_2 {l : Launch} {G : ae_G} (d nn : Nat) (g : GT_D) (hg : GH_D l G (d + nn + 1305) g) {rr : Unit} {ss : ae_S} : ∀ (n : Nat) (v2 : Int32) (v3 : Int32) (s0 : ae_S), F_X12_does_2 g n v2 v3 s0 = some (rr, ss) → ae_T l G (d + (nn + 1) + 1305) mX12_does (ae_Po none ss) 2 [(0, ae_r (some (30, 0))), (2, ae_i v2), (3, ae_i v3)] [] s0 := by
  intro n
  induction n with
  | zero =>
    intro v2 v3 s0 hF
    exact absurd (show (none : Option (Unit × ae_S)) = some (rr, ss) from hF) (by simp)
  | succ n ih =>
    intro v2 v3 s0 hF
    unfold F_X12_does_2 at hF
    refine ae_aload_n 0 dX12_does_2 rfl ?_
    refine ae_getA (q := (30, 0)) (some (47, 0)) dX12_does_3 fl_RX12_66 rfl rfl rfl ?_
    refine ae_iload_n 2 dX12_does_6 rfl ?_
    obtain ⟨hg23, hF24⟩ := ae_gdI hF
    refine ae_iald (q := (47, 0)) dX12_does_7 rfl rfl (ae_ibI hg23) ?_
    refine ae_bipush (11 : Int32) dX12_does_8 (by decide) ?_
    refine ae_icmp_ne 48 dX12_does_10 rfl (fun hb25 => ?_) (fun hb25 => ?_)
    · have hF26 := ae_ifF hb25 hF24
      refine ae_aload_n 0 dX12_does_48 rfl ?_
      refine ae_getA (q := (30, 0)) (some (47, 0)) dX12_does_49 fl_RX12_66 rfl rfl rfl ?_
      refine ae_iload_n 2 dX12_does_52 rfl ?_
      obtain ⟨hg27, hF28⟩ := ae_gdI hF26
      refine ae_iald (q := (47, 0)) dX12_does_53 rfl rfl (ae_ibI hg27) ?_
      refine ae_bipush (10 : Int32) dX12_does_54 (by decide) ?_
      refine ae_icmp_ne 67 dX12_does_56 rfl (fun hb29 => ?_) (fun hb29 => ?_)
      · have hF30 := ae_ifF hb29 hF28
        refine ae_aload_n 0 dX12_does_67 rfl ?_
        refine ae_getA (q := (30, 0)) (some (47, 0)) dX12_does_68 fl_RX12_66 rfl rfl rfl ?_
        refine ae_iload_n 2 dX12_does_71 rfl ?_
        obtain ⟨hg31, hF32⟩ := ae_gdI hF30
        refine ae_iald (q := (47, 0)) dX12_does_72 rfl rfl (ae_ibI hg31) ?_
        refine ae_bipush (12 : Int32) dX12_does_73 (by decide) ?_
        refine ae_icmp_ne 86 dX12_does_75 rfl (fun hb33 => ?_) (fun hb33 => ?_)
        · have hF34 := ae_ifF hb33 hF32
          refine ae_aload_n 0 dX12_does_86 rfl ?_
          refine ae_getI (q := (30, 0)) dX12_does_87 fl_RX12_446 rfl rfl ?_
          obtain ⟨x35, hx35, hF36⟩ := ae_ltI hF34
          refine ae_nmI hx35 ?_
          refine ae_istore (lv' := [(4, ae_i x35), (0, ae_r (some (30, 0))), (2, ae_i v2), (3, ae_i v3)]) dX12_does_90 (by decide) rfl ?_
          refine ae_aload_n 1 dX12_does_92 rfl ?_
          refine ae_iload_n 2 dX12_does_93 rfl ?_
          obtain ⟨r37, s38, hc39, hF40⟩ := ae_bdI hF36
          refine ae_cV0 (q := (30, 0)) (As := [ae_i v2]) dX12_does_94 ww_1768 vy_X12_keeps rfl rfl rfl rfl rfl (Nat.le_of_ble_eq_true rfl) (c_X12_keeps (d + (nn + 1) + 1304) hc39) ?_
          refine ae_aload_n 1 dX12_does_97 rfl ?_
          refine ae_getA (q := (30, 0)) (some (48, 0)) dX12_does_98 fl_RX12_69 rfl rfl rfl ?_
          refine ae_iload_n 3 dX12_does_101 rfl ?_
          obtain ⟨hg41, hF42⟩ := ae_gdI hF40
          refine ae_iald (q := (48, 0)) dX12_does_102 rfl rfl (ae_ibI hg41) ?_
          obtain ⟨x43, hx43, hF44⟩ := ae_ltI hF42
          refine ae_nmI hx43 ?_
          refine ae_istore (lv' := [(5, ae_i x43), (4, ae_i x35), (0, ae_r (some (30, 0))), (2, ae_i v2), (3, ae_i v3)]) dX12_does_103 (by decide) rfl ?_
          refine ae_pick (lv' := [(0, ae_r (some (30, 0))), (2, ae_i v2), (4, ae_i x35), (5, ae_i x43)]) [2, 3, 1, 0] rfl ?_
          exact t_X12_does_105 d nn g hg ae_fu v2 x35 x43 s38 hF44
        · have hF34 := ae_ifT hb33 hF32
          refine ae_aload_n 0 dX12_does_78 rfl ?_
          refine ae_iconst (4 : Int32) dX12_does_79 (by decide) ?_
          obtain ⟨r45, s46, hc47, hF48⟩ := ae_bdI hF34
          refine ae_cV0 (q := (30, 0)) (As := [ae_i (4 : Int32)]) dX12_does_80 ww_1792 vy_X12_comes rfl rfl rfl rfl rfl (Nat.le_of_ble_eq_true rfl) (c_X12_comes (d + (nn + 1) + 1304) hc47) ?_
          refine ae_goto 163 dX12_does_83 rfl ?_
          refine ae_pick (lv' := []) [] rfl ?_
          exact t_X12_does_163 d nn g hg s46 hF48
      · have hF30 := ae_ifT hb29 hF28
        refine ae_aload_n 0 dX12_does_59 rfl ?_
        refine ae_iload_n 2 dX12_does_60 rfl ?_
        obtain ⟨r49, s50, hc51, hF52⟩ := ae_bdI hF30
        refine ae_cV0 (q := (30, 0)) (As := [ae_i v3]) dX12_does_61 ww_1812 vy_X12_sets rfl rfl rfl rfl rfl (Nat.le_of_ble_eq_true rfl) (c_X12_sets (d + (nn + 1)) hc51) ?_
        refine ae_goto 163 dX12_does_64 rfl ?_
        refine ae_pick (lv' := []) [] rfl ?_
        exact t_X12_does_163 d nn g hg s50 hF52
    · have hF26 := ae_ifT hb25 hF24
      refine ae_aload_n 0 dX12_does_13 rfl ?_
      refine ae_aload_n 0 dX12_does_14 rfl ?_
      refine ae_getA (q := (30, 0)) (some (48, 0)) dX12_does_15 fl_RX12_69 rfl rfl rfl ?_
      refine ae_iload_n 2 dX12_does_18 rfl ?_
      obtain ⟨hg53, hF54⟩ := ae_gdI hF26
      refine ae_iald (q := (48, 0)) dX12_does_19 rfl rfl (ae_ibI hg53) ?_
      obtain ⟨r55, s56, hc57, hF58⟩ := ae_bdI hF54
      refine ae_cV0 (q := (30, 0)) (As := [ae_i (s0.1 48 0 v3.toNatClampNeg)]) dX12_does_20 ww_1776 vy_X12_works rfl rfl rfl rfl rfl (Nat.le_of_ble_eq_true rfl) (c_X12_works (d + (nn + 1) + 1) hc57) ?_
      refine ae_aload_n 0 dX12_does_23 rfl ?_
      refine ae_getI (q := (30, 0)) dX12_does_24 fl_RX12_402 rfl rfl ?_
      refine ae_if_ne 37 dX12_does_27 rfl (fun hb59 => ?_) (fun hb59 => ?_)
      · have hF60 := ae_ifF hb59 hF58
        refine ae_pick (lv' := []) [] rfl ?_
        exact t_X12_does_37 d nn g hg s56 hF60
      · have hF60 := ae_ifT hb59 hF58
        refine ae_aload_n 0 dX12_does_30 rfl ?_
        obtain ⟨r61, s62, hc63, hF64⟩ := ae_bdI hF60
        refine ae_cV1 (q := (30, 0)) (As := []) dX12_does_31 ww_1808 vy_X12_isNought rfl rfl rfl rfl rfl (Nat.le_of_ble_eq_true rfl) (c_X12_isNought (d + (nn + 1) + 1304) hc63) ?_
        refine ae_if_eq 38 dX12_does_34 rfl (fun hb65 => ?_) (fun hb65 => ?_)
        · have hF66 := ae_ifT hb65 hF64
          refine ae_aload_n 0 dX12_does_38 rfl ?_
          refine ae_getA (q := (30, 0)) (some (49, 0)) dX12_does_39 fl_RX12_72 rfl rfl rfl ?_
          refine ae_iload_n 2 dX12_does_42 rfl ?_
          obtain ⟨hg67, hF68⟩ := ae_gdI hF66
          refine ae_iald (q := (49, 0)) dX12_does_43 rfl rfl (ae_ibI hg67) ?_
          obtain ⟨x69, hx69, hF70⟩ := ae_ltI hF68
          refine ae_nmI hx69 ?_
          refine ae_istore_n (lv' := [(3, ae_i x69), (0, ae_r (some (30, 0))), (2, ae_i v2)]) dX12_does_44 (by decide) rfl ?_
          refine ae_goto 2 dX12_does_45 rfl ?_
          refine ae_pick (lv' := [(0, ae_r (some (30, 0))), (2, ae_i v2), (3, ae_i x69)]) [1, 2, 0] rfl ?_
          exact ih v2 x69 s62 hF70
        · have hF66 := ae_ifF hb65 hF64
          refine ae_pick (lv' := []) [] rfl ?_
          exact t_X12_does_37 d nn g hg s62 hF66
def FZ_X12_does (g : GT_D) (v1 : Int32) (v2 : Int32) (s0 : ae_S) : Option (Unit × ae_S) := F_X12_does_2 g ae_fu v2 v1 s0
set_option maxHeartbeats 4000000 in
set_option maxRecDepth 100000 in
theorem cZ_X12_does {l : Launch} {G : ae_G} (d nn : Nat) (g : GT_D) (hg : GH_D l G (d + nn + 1305) g) {v1 : Int32} {v2 : Int32} {s0 ss : ae_S} {rr : Unit} (hF : FZ_X12_does g v1 v2 s0 = some (rr, ss)) : ae_Met l G (d + (nn + 1) + 1305) yX12_does mX12_does [ae_r (some (30, 0)), ae_i v1, ae_i v2] s0 (ae_Po none ss) := by
  refine ae_enter (by decide) rfl (Nat.le_of_ble_eq_true rfl) ?_
  show ae_T l G (d + (nn + 1) + 1305) mX12_does (ae_Po none ss) 0 [(0, ae_r (some (30, 0))), (1, ae_i v1), (2, ae_i v2)] [] s0
  unfold FZ_X12_does at hF
  refine ae_iload_n 1 dX12_does_0 rfl ?_
  refine ae_istore_n (lv' := [(3, ae_i v1), (0, ae_r (some (30, 0))), (1, ae_i v1), (2, ae_i v2)]) dX12_does_1 (by decide) rfl ?_
  refine ae_pick (lv' := [(0, ae_r (some (30, 0))), (2, ae_i v2), (3, ae_i v1)]) [1, 3, 0] rfl ?_
  exact t_X12_does_2 d nn g hg ae_fu v2 v1 s0 hF
def FG_D : Nat → GT_D
  | 0 => (fun _ _ _ => none)
  | n + 1 => (FZ_X12_does (FG_D n))
theorem gc_D {l : Launch} {G : ae_G} (d : Nat) : ∀ n : Nat, GH_D l G (d + n + 1305) (FG_D n)
  | 0 => fun _ _ _ _ _ h => absurd h (by simp [FG_D])
  | n + 1 => fun _ _ _ _ _ h => cZ_X12_does d n (FG_D n) (gc_D d n) h
def F_X12_does (v1 : Int32) (v2 : Int32) (s0 : ae_S) : Option (Unit × ae_S) := (FG_D 8) v1 v2 s0
theorem c_X12_does {l : Launch} {G : ae_G} (d : Nat) {v1 : Int32} {v2 : Int32} {s0 ss : ae_S} {rr : Unit} (hF : F_X12_does v1 v2 s0 = some (rr, ss)) : ae_Met l G (d + 1313) yX12_does mX12_does [ae_r (some (30, 0)), ae_i v1, ae_i v2] s0 (ae_Po none ss) := by
  have h := (gc_D (l := l) (G := G) d 8) _ _ _ _ _ hF
  exact h
abbrev mX12_node : ae_M := (RX12, cX12_node, 4, some .int)
theorem vy_X12_node : ae_VY yX12_node mX12_node 3 := ⟨ww_1753, wq_91, ww_13, ww_1754, ⟨by decide, by decide, by decide +kernel⟩, by decide⟩
theorem dX12_node_0 : decode cX12_node 0 = .ok (.aload_n 0, 1) := by decide +kernel
theorem dX12_node_1 : decode cX12_node 1 = .ok (.getfield 66, 3) := by decide +kernel
theorem dX12_node_4 : decode cX12_node 4 = .ok (.aload_n 0, 1) := by decide +kernel
theorem dX12_node_5 : decode cX12_node 5 = .ok (.getfield 363, 3) := by decide +kernel
theorem dX12_node_8 : decode cX12_node 8 = .ok (.iload_n 1, 1) := by decide +kernel
theorem dX12_node_9 : decode cX12_node 9 = .ok (.iastore, 1) := by decide +kernel
theorem dX12_node_10 : decode cX12_node 10 = .ok (.aload_n 0, 1) := by decide +kernel
theorem dX12_node_11 : decode cX12_node 11 = .ok (.getfield 69, 3) := by decide +kernel
theorem dX12_node_14 : decode cX12_node 14 = .ok (.aload_n 0, 1) := by decide +kernel
theorem dX12_node_15 : decode cX12_node 15 = .ok (.getfield 363, 3) := by decide +kernel
theorem dX12_node_18 : decode cX12_node 18 = .ok (.iload_n 2, 1) := by decide +kernel
theorem dX12_node_19 : decode cX12_node 19 = .ok (.iastore, 1) := by decide +kernel
theorem dX12_node_20 : decode cX12_node 20 = .ok (.aload_n 0, 1) := by decide +kernel
theorem dX12_node_21 : decode cX12_node 21 = .ok (.getfield 72, 3) := by decide +kernel
theorem dX12_node_24 : decode cX12_node 24 = .ok (.aload_n 0, 1) := by decide +kernel
theorem dX12_node_25 : decode cX12_node 25 = .ok (.getfield 363, 3) := by decide +kernel
theorem dX12_node_28 : decode cX12_node 28 = .ok (.iload_n 3, 1) := by decide +kernel
theorem dX12_node_29 : decode cX12_node 29 = .ok (.iastore, 1) := by decide +kernel
theorem dX12_node_30 : decode cX12_node 30 = .ok (.aload_n 0, 1) := by decide +kernel
theorem dX12_node_31 : decode cX12_node 31 = .ok (.getfield 75, 3) := by decide +kernel
theorem dX12_node_34 : decode cX12_node 34 = .ok (.aload_n 0, 1) := by decide +kernel
theorem dX12_node_35 : decode cX12_node 35 = .ok (.getfield 363, 3) := by decide +kernel
theorem dX12_node_38 : decode cX12_node 38 = .ok (.iconst (-1), 1) := by decide +kernel
theorem dX12_node_39 : decode cX12_node 39 = .ok (.iastore, 1) := by decide +kernel
theorem dX12_node_40 : decode cX12_node 40 = .ok (.aload_n 0, 1) := by decide +kernel
theorem dX12_node_41 : decode cX12_node 41 = .ok (.getfield 78, 3) := by decide +kernel
theorem dX12_node_44 : decode cX12_node 44 = .ok (.aload_n 0, 1) := by decide +kernel
theorem dX12_node_45 : decode cX12_node 45 = .ok (.getfield 363, 3) := by decide +kernel
theorem dX12_node_48 : decode cX12_node 48 = .ok (.ldc2_w 334, 3) := by decide +kernel
theorem dX12_node_51 : decode cX12_node 51 = .ok (.lastore, 1) := by decide +kernel
theorem dX12_node_52 : decode cX12_node 52 = .ok (.aload_n 0, 1) := by decide +kernel
theorem dX12_node_53 : decode cX12_node 53 = .ok (.dup, 1) := by decide +kernel
theorem dX12_node_54 : decode cX12_node 54 = .ok (.getfield 363, 3) := by decide +kernel
theorem dX12_node_57 : decode cX12_node 57 = .ok (.iconst 1, 1) := by decide +kernel
theorem dX12_node_58 : decode cX12_node 58 = .ok (.iadd, 1) := by decide +kernel
theorem dX12_node_59 : decode cX12_node 59 = .ok (.putfield 363, 3) := by decide +kernel
theorem dX12_node_62 : decode cX12_node 62 = .ok (.aload_n 0, 1) := by decide +kernel
theorem dX12_node_63 : decode cX12_node 63 = .ok (.getfield 363, 3) := by decide +kernel
theorem dX12_node_66 : decode cX12_node 66 = .ok (.iconst 1, 1) := by decide +kernel
theorem dX12_node_67 : decode cX12_node 67 = .ok (.isub, 1) := by decide +kernel
theorem dX12_node_68 : decode cX12_node 68 = .ok (.ireturn, 1) := by decide +kernel
def F_X12_node (v1 : Int32) (v2 : Int32) (v3 : Int32) (s0 : ae_S) : Option (Int32 × ae_S) := ae_gd (ae_ib (s0.1 30 0 38) 600) (ae_lt (ae_wI s0 47 0 (s0.1 30 0 38).toNatClampNeg v1) (fun s3 => ae_gd (ae_ib (s3.1 30 0 38) 600) (ae_lt (ae_wI s3 48 0 (s3.1 30 0 38).toNatClampNeg v2) (fun s7 => ae_gd (ae_ib (s7.1 30 0 38) 600) (ae_lt (ae_wI s7 49 0 (s7.1 30 0 38).toNatClampNeg v3) (fun s11 => ae_gd (ae_ib (s11.1 30 0 38) 600) (ae_lt (ae_wI s11 50 0 (s11.1 30 0 38).toNatClampNeg (-1 : Int32)) (fun s15 => ae_gd (ae_ib (s15.1 30 0 38) 600) (ae_lt (ae_wL s15 51 0 (s15.1 30 0 38).toNatClampNeg (-1 : Int64)) (fun s19 => ae_lt (ae_wI s19 30 0 38 ((s19.1 30 0 38) + (1 : Int32))) (fun s21 => some ((s21.1 30 0 38) - (1 : Int32), s21))))))))))))
set_option maxHeartbeats 4000000 in
set_option maxRecDepth 100000 in
theorem c_X12_node {l : Launch} {G : ae_G} (d : Nat) {v1 : Int32} {v2 : Int32} {v3 : Int32} {s0 ss : ae_S} {rr : Int32} (hF : F_X12_node v1 v2 v3 s0 = some (rr, ss)) : ae_Met l G d yX12_node mX12_node [ae_r (some (30, 0)), ae_i v1, ae_i v2, ae_i v3] s0 (ae_Po (some (ae_i rr)) ss) := by
  refine ae_enter (by decide) rfl (Nat.le_of_ble_eq_true rfl) ?_
  show ae_T l G d mX12_node (ae_Po (some (ae_i rr)) ss) 0 [(0, ae_r (some (30, 0))), (1, ae_i v1), (2, ae_i v2), (3, ae_i v3)] [] s0
  unfold F_X12_node at hF
  refine ae_aload_n 0 dX12_node_0 rfl ?_
  refine ae_getA (q := (30, 0)) (some (47, 0)) dX12_node_1 fl_RX12_66 rfl rfl rfl ?_
  refine ae_aload_n 0 dX12_node_4 rfl ?_
  refine ae_getI (q := (30, 0)) dX12_node_5 fl_RX12_363 rfl rfl ?_
  refine ae_iload_n 1 dX12_node_8 rfl ?_
  obtain ⟨hg1, hF2⟩ := ae_gdI hF
  obtain ⟨s3, hs3, hF4⟩ := ae_ltI hF2
  refine ae_iast (q := (47, 0)) dX12_node_9 rfl rfl (ae_ibI hg1) (ae_nmS hs3 ?_)
  refine ae_aload_n 0 dX12_node_10 rfl ?_
  refine ae_getA (q := (30, 0)) (some (48, 0)) dX12_node_11 fl_RX12_69 rfl rfl rfl ?_
  refine ae_aload_n 0 dX12_node_14 rfl ?_
  refine ae_getI (q := (30, 0)) dX12_node_15 fl_RX12_363 rfl rfl ?_
  refine ae_iload_n 2 dX12_node_18 rfl ?_
  obtain ⟨hg5, hF6⟩ := ae_gdI hF4
  obtain ⟨s7, hs7, hF8⟩ := ae_ltI hF6
  refine ae_iast (q := (48, 0)) dX12_node_19 rfl rfl (ae_ibI hg5) (ae_nmS hs7 ?_)
  refine ae_aload_n 0 dX12_node_20 rfl ?_
  refine ae_getA (q := (30, 0)) (some (49, 0)) dX12_node_21 fl_RX12_72 rfl rfl rfl ?_
  refine ae_aload_n 0 dX12_node_24 rfl ?_
  refine ae_getI (q := (30, 0)) dX12_node_25 fl_RX12_363 rfl rfl ?_
  refine ae_iload_n 3 dX12_node_28 rfl ?_
  obtain ⟨hg9, hF10⟩ := ae_gdI hF8
  obtain ⟨s11, hs11, hF12⟩ := ae_ltI hF10
  refine ae_iast (q := (49, 0)) dX12_node_29 rfl rfl (ae_ibI hg9) (ae_nmS hs11 ?_)
  refine ae_aload_n 0 dX12_node_30 rfl ?_
  refine ae_getA (q := (30, 0)) (some (50, 0)) dX12_node_31 fl_RX12_75 rfl rfl rfl ?_
  refine ae_aload_n 0 dX12_node_34 rfl ?_
  refine ae_getI (q := (30, 0)) dX12_node_35 fl_RX12_363 rfl rfl ?_
  refine ae_iconst (-1 : Int32) dX12_node_38 (by decide) ?_
  obtain ⟨hg13, hF14⟩ := ae_gdI hF12
  obtain ⟨s15, hs15, hF16⟩ := ae_ltI hF14
  refine ae_iast (q := (50, 0)) dX12_node_39 rfl rfl (ae_ibI hg13) (ae_nmS hs15 ?_)
  refine ae_aload_n 0 dX12_node_40 rfl ?_
  refine ae_getA (q := (30, 0)) (some (51, 0)) dX12_node_41 fl_RX12_78 rfl rfl rfl ?_
  refine ae_aload_n 0 dX12_node_44 rfl ?_
  refine ae_getI (q := (30, 0)) dX12_node_45 fl_RX12_363 rfl rfl ?_
  refine ae_ldc2 dX12_node_48 ww_1706 ?_
  obtain ⟨hg17, hF18⟩ := ae_gdI hF16
  obtain ⟨s19, hs19, hF20⟩ := ae_ltI hF18
  refine ae_last (q := (51, 0)) dX12_node_51 rfl rfl (ae_ibI hg17) (ae_nmS hs19 ?_)
  refine ae_aload_n 0 dX12_node_52 rfl ?_
  refine ae_dup dX12_node_53 rfl ?_
  refine ae_getI (q := (30, 0)) dX12_node_54 fl_RX12_363 rfl rfl ?_
  refine ae_iconst (1 : Int32) dX12_node_57 (by decide) ?_
  refine ae_iadd dX12_node_58 ?_
  obtain ⟨s21, hs21, hF22⟩ := ae_ltI hF20
  refine ae_putI (q := (30, 0)) dX12_node_59 fl_RX12_363 rfl rfl (ae_nmS hs21 ?_)
  refine ae_aload_n 0 dX12_node_62 rfl ?_
  refine ae_getI (q := (30, 0)) dX12_node_63 fl_RX12_363 rfl rfl ?_
  refine ae_iconst (1 : Int32) dX12_node_66 (by decide) ?_
  refine ae_isub dX12_node_67 ?_
  obtain ⟨rfl, rfl⟩ := ae_retI hF22
  exact ae_iret dX12_node_68 rfl rfl ⟨rfl, rfl⟩
abbrev mX12_opens : ae_M := (RX12, cX12_opens, 1, some .boolean)
theorem vy_X12_opens : ae_VY yX12_opens mX12_opens 0 := ⟨ww_1758, wq_92, ww_13, ww_1759, ⟨by decide, by decide, by decide +kernel⟩, by decide⟩
theorem dX12_opens_0 : decode cX12_opens 0 = .ok (.aload_n 0, 1) := by decide +kernel
theorem dX12_opens_1 : decode cX12_opens 1 = .ok (.getfield 366, 3) := by decide +kernel
theorem dX12_opens_4 : decode cX12_opens 4 = .ok (.iconst 5, 1) := by decide +kernel
theorem dX12_opens_5 : decode cX12_opens 5 = .ok (.if_icmp .ne 13, 3) := by decide +kernel
theorem dX12_opens_8 : decode cX12_opens 8 = .ok (.aload_n 0, 1) := by decide +kernel
theorem dX12_opens_9 : decode cX12_opens 9 = .ok (.iconst 5, 1) := by decide +kernel
theorem dX12_opens_10 : decode cX12_opens 10 = .ok (.aload_n 0, 1) := by decide +kernel
theorem dX12_opens_11 : decode cX12_opens 11 = .ok (.getfield 140, 3) := by decide +kernel
theorem dX12_opens_14 : decode cX12_opens 14 = .ok (.invokevirtual 196, 3) := by decide +kernel
theorem dX12_opens_17 : decode cX12_opens 17 = .ok (.ireturn, 1) := by decide +kernel
theorem dX12_opens_18 : decode cX12_opens 18 = .ok (.aload_n 0, 1) := by decide +kernel
theorem dX12_opens_19 : decode cX12_opens 19 = .ok (.dup, 1) := by decide +kernel
theorem dX12_opens_20 : decode cX12_opens 20 = .ok (.getfield 366, 3) := by decide +kernel
theorem dX12_opens_23 : decode cX12_opens 23 = .ok (.iconst 1, 1) := by decide +kernel
theorem dX12_opens_24 : decode cX12_opens 24 = .ok (.iadd, 1) := by decide +kernel
theorem dX12_opens_25 : decode cX12_opens 25 = .ok (.putfield 366, 3) := by decide +kernel
theorem dX12_opens_28 : decode cX12_opens 28 = .ok (.aload_n 0, 1) := by decide +kernel
theorem dX12_opens_29 : decode cX12_opens 29 = .ok (.invokevirtual 200, 3) := by decide +kernel
theorem dX12_opens_32 : decode cX12_opens 32 = .ok (.iconst 1, 1) := by decide +kernel
theorem dX12_opens_33 : decode cX12_opens 33 = .ok (.ireturn, 1) := by decide +kernel
def F_X12_opens (s0 : ae_S) : Option (Int32 × ae_S) := if (s0.1 30 0 39) = (5 : Int32) then (ae_bd (F_X12_fails (5 : Int32) (s0.1 30 0 26) s0) (fun (r9 : Int32) s10 => ae_gd (ae_zz r9) (some (r9, s10)))) else (ae_lt (ae_wI s0 30 0 39 ((s0.1 30 0 39) + (1 : Int32))) (fun s3 => ae_bd (F_X12_next s3) (fun (r5 : Unit) s6 => some ((1 : Int32), s6))))
set_option maxHeartbeats 4000000 in
set_option maxRecDepth 100000 in
theorem c_X12_opens {l : Launch} {G : ae_G} (d : Nat) {s0 ss : ae_S} {rr : Int32} (hF : F_X12_opens s0 = some (rr, ss)) : ae_Met l G (d + 2) yX12_opens mX12_opens [ae_r (some (30, 0))] s0 (ae_Po (some (ae_i rr)) ss) := by
  refine ae_enter (by decide) rfl (Nat.le_of_ble_eq_true rfl) ?_
  show ae_T l G (d + 2) mX12_opens (ae_Po (some (ae_i rr)) ss) 0 [(0, ae_r (some (30, 0)))] [] s0
  unfold F_X12_opens at hF
  refine ae_aload_n 0 dX12_opens_0 rfl ?_
  refine ae_getI (q := (30, 0)) dX12_opens_1 fl_RX12_366 rfl rfl ?_
  refine ae_iconst (5 : Int32) dX12_opens_4 (by decide) ?_
  refine ae_icmp_ne 18 dX12_opens_5 rfl (fun hb1 => ?_) (fun hb1 => ?_)
  · have hF2 := ae_ifF hb1 hF
    refine ae_aload_n 0 dX12_opens_18 rfl ?_
    refine ae_dup dX12_opens_19 rfl ?_
    refine ae_getI (q := (30, 0)) dX12_opens_20 fl_RX12_366 rfl rfl ?_
    refine ae_iconst (1 : Int32) dX12_opens_23 (by decide) ?_
    refine ae_iadd dX12_opens_24 ?_
    obtain ⟨s3, hs3, hF4⟩ := ae_ltI hF2
    refine ae_putI (q := (30, 0)) dX12_opens_25 fl_RX12_366 rfl rfl (ae_nmS hs3 ?_)
    refine ae_aload_n 0 dX12_opens_28 rfl ?_
    obtain ⟨r5, s6, hc7, hF8⟩ := ae_bdI hF4
    refine ae_cV0 (q := (30, 0)) (As := []) dX12_opens_29 ww_1508 vy_X12_next rfl rfl rfl rfl rfl (Nat.le_of_ble_eq_true rfl) (c_X12_next d hc7) ?_
    refine ae_iconst (1 : Int32) dX12_opens_32 (by decide) ?_
    obtain ⟨rfl, rfl⟩ := ae_retI hF8
    exact ae_iret dX12_opens_33 rfl (by decide) ⟨rfl, rfl⟩
  · have hF2 := ae_ifT hb1 hF
    refine ae_aload_n 0 dX12_opens_8 rfl ?_
    refine ae_iconst (5 : Int32) dX12_opens_9 (by decide) ?_
    refine ae_aload_n 0 dX12_opens_10 rfl ?_
    refine ae_getI (q := (30, 0)) dX12_opens_11 fl_RX12_140 rfl rfl ?_
    obtain ⟨r9, s10, hc11, hF12⟩ := ae_bdI hF2
    refine ae_cV1 (q := (30, 0)) (As := [ae_i (5 : Int32), ae_i (s0.1 30 0 26)]) dX12_opens_14 ww_1571 vy_X12_fails rfl rfl rfl rfl rfl (Nat.le_of_ble_eq_true rfl) (c_X12_fails (d + 1) hc11) ?_
    obtain ⟨hg13, hF14⟩ := ae_gdI hF12
    obtain ⟨rfl, rfl⟩ := ae_retI hF14
    exact ae_iret dX12_opens_17 rfl (ae_zzN (ae_zzI hg13)) ⟨rfl, rfl⟩
abbrev mX12_readNumber : ae_M := (RX12, cX12_readNumber, 7, some .int)
theorem vy_X12_readNumber : ae_VY yX12_readNumber mX12_readNumber 0 := ⟨ww_1749, wq_90, ww_13, ww_1750, ⟨by decide, by decide, by decide +kernel⟩, by decide⟩
theorem dX12_readNumber_0 : decode cX12_readNumber 0 = .ok (.aload_n 0, 1) := by decide +kernel
theorem dX12_readNumber_1 : decode cX12_readNumber 1 = .ok (.bipush 9, 2) := by decide +kernel
theorem dX12_readNumber_3 : decode cX12_readNumber 3 = .ok (.invokevirtual 264, 3) := by decide +kernel
theorem dX12_readNumber_6 : decode cX12_readNumber 6 = .ok (.ifCond .ne 5, 3) := by decide +kernel
theorem dX12_readNumber_9 : decode cX12_readNumber 9 = .ok (.iconst (-1), 1) := by decide +kernel
theorem dX12_readNumber_10 : decode cX12_readNumber 10 = .ok (.ireturn, 1) := by decide +kernel
theorem dX12_readNumber_11 : decode cX12_readNumber 11 = .ok (.aload_n 0, 1) := by decide +kernel
theorem dX12_readNumber_12 : decode cX12_readNumber 12 = .ok (.getfield 156, 3) := by decide +kernel
theorem dX12_readNumber_15 : decode cX12_readNumber 15 = .ok (.lstore_n 1, 1) := by decide +kernel
theorem dX12_readNumber_16 : decode cX12_readNumber 16 = .ok (.aload_n 0, 1) := by decide +kernel
theorem dX12_readNumber_17 : decode cX12_readNumber 17 = .ok (.invokevirtual 200, 3) := by decide +kernel
theorem dX12_readNumber_20 : decode cX12_readNumber 20 = .ok (.aload_n 0, 1) := by decide +kernel
theorem dX12_readNumber_21 : decode cX12_readNumber 21 = .ok (.iconst 0, 1) := by decide +kernel
theorem dX12_readNumber_22 : decode cX12_readNumber 22 = .ok (.iconst (-1), 1) := by decide +kernel
theorem dX12_readNumber_23 : decode cX12_readNumber 23 = .ok (.iconst (-1), 1) := by decide +kernel
theorem dX12_readNumber_24 : decode cX12_readNumber 24 = .ok (.invokevirtual 372, 3) := by decide +kernel
theorem dX12_readNumber_27 : decode cX12_readNumber 27 = .ok (.istore_n 3, 1) := by decide +kernel
theorem dX12_readNumber_28 : decode cX12_readNumber 28 = .ok (.aload_n 0, 1) := by decide +kernel
theorem dX12_readNumber_29 : decode cX12_readNumber 29 = .ok (.getfield 78, 3) := by decide +kernel
theorem dX12_readNumber_32 : decode cX12_readNumber 32 = .ok (.iload_n 3, 1) := by decide +kernel
theorem dX12_readNumber_33 : decode cX12_readNumber 33 = .ok (.lload_n 1, 1) := by decide +kernel
theorem dX12_readNumber_34 : decode cX12_readNumber 34 = .ok (.lastore, 1) := by decide +kernel
theorem dX12_readNumber_35 : decode cX12_readNumber 35 = .ok (.aload_n 0, 1) := by decide +kernel
theorem dX12_readNumber_36 : decode cX12_readNumber 36 = .ok (.bipush 46, 2) := by decide +kernel
theorem dX12_readNumber_38 : decode cX12_readNumber 38 = .ok (.invokevirtual 193, 3) := by decide +kernel
theorem dX12_readNumber_41 : decode cX12_readNumber 41 = .ok (.ifCond .ne 5, 3) := by decide +kernel
theorem dX12_readNumber_44 : decode cX12_readNumber 44 = .ok (.iload_n 3, 1) := by decide +kernel
theorem dX12_readNumber_45 : decode cX12_readNumber 45 = .ok (.ireturn, 1) := by decide +kernel
theorem dX12_readNumber_46 : decode cX12_readNumber 46 = .ok (.aload_n 0, 1) := by decide +kernel
theorem dX12_readNumber_47 : decode cX12_readNumber 47 = .ok (.invokevirtual 200, 3) := by decide +kernel
theorem dX12_readNumber_50 : decode cX12_readNumber 50 = .ok (.aload_n 0, 1) := by decide +kernel
theorem dX12_readNumber_51 : decode cX12_readNumber 51 = .ok (.bipush 9, 2) := by decide +kernel
theorem dX12_readNumber_53 : decode cX12_readNumber 53 = .ok (.invokevirtual 264, 3) := by decide +kernel
theorem dX12_readNumber_56 : decode cX12_readNumber 56 = .ok (.ifCond .ne 5, 3) := by decide +kernel
theorem dX12_readNumber_59 : decode cX12_readNumber 59 = .ok (.iconst (-1), 1) := by decide +kernel
theorem dX12_readNumber_60 : decode cX12_readNumber 60 = .ok (.ireturn, 1) := by decide +kernel
theorem dX12_readNumber_61 : decode cX12_readNumber 61 = .ok (.dconst 1, 1) := by decide +kernel
theorem dX12_readNumber_62 : decode cX12_readNumber 62 = .ok (.dstore 4, 2) := by decide +kernel
theorem dX12_readNumber_64 : decode cX12_readNumber 64 = .ok (.iconst 0, 1) := by decide +kernel
theorem dX12_readNumber_65 : decode cX12_readNumber 65 = .ok (.istore 6, 2) := by decide +kernel
theorem dX12_readNumber_67 : decode cX12_readNumber 67 = .ok (.iload 6, 2) := by decide +kernel
theorem dX12_readNumber_69 : decode cX12_readNumber 69 = .ok (.aload_n 0, 1) := by decide +kernel
theorem dX12_readNumber_70 : decode cX12_readNumber 70 = .ok (.getfield 163, 3) := by decide +kernel
theorem dX12_readNumber_73 : decode cX12_readNumber 73 = .ok (.if_icmp .ge 17, 3) := by decide +kernel
theorem dX12_readNumber_76 : decode cX12_readNumber 76 = .ok (.dload 4, 2) := by decide +kernel
theorem dX12_readNumber_78 : decode cX12_readNumber 78 = .ok (.ldc2_w 376, 3) := by decide +kernel
theorem dX12_readNumber_81 : decode cX12_readNumber 81 = .ok (.dmul, 1) := by decide +kernel
theorem dX12_readNumber_82 : decode cX12_readNumber 82 = .ok (.dstore 4, 2) := by decide +kernel
theorem dX12_readNumber_84 : decode cX12_readNumber 84 = .ok (.iinc 6 1, 3) := by decide +kernel
theorem dX12_readNumber_87 : decode cX12_readNumber 87 = .ok (.goto (-20), 3) := by decide +kernel
theorem dX12_readNumber_90 : decode cX12_readNumber 90 = .ok (.aload_n 0, 1) := by decide +kernel
theorem dX12_readNumber_91 : decode cX12_readNumber 91 = .ok (.getfield 66, 3) := by decide +kernel
theorem dX12_readNumber_94 : decode cX12_readNumber 94 = .ok (.iload_n 3, 1) := by decide +kernel
theorem dX12_readNumber_95 : decode cX12_readNumber 95 = .ok (.iconst 1, 1) := by decide +kernel
theorem dX12_readNumber_96 : decode cX12_readNumber 96 = .ok (.iastore, 1) := by decide +kernel
theorem dX12_readNumber_97 : decode cX12_readNumber 97 = .ok (.aload_n 0, 1) := by decide +kernel
theorem dX12_readNumber_98 : decode cX12_readNumber 98 = .ok (.getfield 81, 3) := by decide +kernel
theorem dX12_readNumber_101 : decode cX12_readNumber 101 = .ok (.iload_n 3, 1) := by decide +kernel
theorem dX12_readNumber_102 : decode cX12_readNumber 102 = .ok (.lload_n 1, 1) := by decide +kernel
theorem dX12_readNumber_103 : decode cX12_readNumber 103 = .ok (.l2d, 1) := by decide +kernel
theorem dX12_readNumber_104 : decode cX12_readNumber 104 = .ok (.aload_n 0, 1) := by decide +kernel
theorem dX12_readNumber_105 : decode cX12_readNumber 105 = .ok (.getfield 156, 3) := by decide +kernel
theorem dX12_readNumber_108 : decode cX12_readNumber 108 = .ok (.l2d, 1) := by decide +kernel
theorem dX12_readNumber_109 : decode cX12_readNumber 109 = .ok (.dload 4, 2) := by decide +kernel
theorem dX12_readNumber_111 : decode cX12_readNumber 111 = .ok (.ddiv, 1) := by decide +kernel
theorem dX12_readNumber_112 : decode cX12_readNumber 112 = .ok (.dadd, 1) := by decide +kernel
theorem dX12_readNumber_113 : decode cX12_readNumber 113 = .ok (.dastore, 1) := by decide +kernel
theorem dX12_readNumber_114 : decode cX12_readNumber 114 = .ok (.aload_n 0, 1) := by decide +kernel
theorem dX12_readNumber_115 : decode cX12_readNumber 115 = .ok (.invokevirtual 200, 3) := by decide +kernel
theorem dX12_readNumber_118 : decode cX12_readNumber 118 = .ok (.iload_n 3, 1) := by decide +kernel
theorem dX12_readNumber_119 : decode cX12_readNumber 119 = .ok (.ireturn, 1) := by decide +kernel
def F_X12_readNumber_67 : Nat → Int64 → Int32 → UInt64 → Int32 → ae_S → Option (Int32 × ae_S)
  | 0, _, _, _, _, _ => none
  | n + 1, v1, v3, v4, v6, s0 => if (s0.1 30 0 30) ≤ v6 then (ae_gd (ae_ib v3 600) (ae_lt (ae_wI s0 47 0 v3.toNatClampNeg (1 : Int32)) (fun s5 => ae_gd (ae_ib v3 600) (ae_lt (ae_wD s5 52 0 v3.toNatClampNeg (FP.dadd (FP.l2d v1) (FP.ddiv (FP.l2d (s5.2.1 30 0 29)) v4))) (fun s9 => ae_bd (F_X12_next s9) (fun (r11 : Unit) s12 => some (v3, s12))))))) else (ae_lt (FP.dmul v4 (4621819117588971520 : UInt64)) (fun x15 => ae_lt (v6 + (1 : Int32)) (fun x17 => F_X12_readNumber_67 n v1 v3 x15 x17 s0)))
set_option maxHeartbeats 4000000 in
set_option maxRecDepth 100000 in
theorem t_X12_readNumber_67 {l : Launch} {G : ae_G} (d : Nat) {rr : Int32} {ss : ae_S} : ∀ (n : Nat) (v1 : Int64) (v3 : Int32) (v4 : UInt64) (v6 : Int32) (s0 : ae_S), F_X12_readNumber_67 n v1 v3 v4 v6 s0 = some (rr, ss) → ae_T l G (d + 2) mX12_readNumber (ae_Po (some (ae_i rr)) ss) 67 [(0, ae_r (some (30, 0))), (1, ae_l v1), (3, ae_i v3), (4, ae_d v4), (6, ae_i v6)] [] s0 := by
  intro n
  induction n with
  | zero =>
    intro v1 v3 v4 v6 s0 hF
    exact absurd (show (none : Option (Int32 × ae_S)) = some (rr, ss) from hF) (by simp)
  | succ n ih =>
    intro v1 v3 v4 v6 s0 hF
    unfold F_X12_readNumber_67 at hF
    refine ae_iload 4 dX12_readNumber_67 rfl ?_
    refine ae_aload_n 0 dX12_readNumber_69 rfl ?_
    refine ae_getI (q := (30, 0)) dX12_readNumber_70 fl_RX12_163 rfl rfl ?_
    refine ae_icmp_ge 90 dX12_readNumber_73 rfl (fun hb1 => ?_) (fun hb1 => ?_)
    · have hF2 := ae_ifT hb1 hF
      refine ae_aload_n 0 dX12_readNumber_90 rfl ?_
      refine ae_getA (q := (30, 0)) (some (47, 0)) dX12_readNumber_91 fl_RX12_66 rfl rfl rfl ?_
      refine ae_iload_n 2 dX12_readNumber_94 rfl ?_
      refine ae_iconst (1 : Int32) dX12_readNumber_95 (by decide) ?_
      obtain ⟨hg3, hF4⟩ := ae_gdI hF2
      obtain ⟨s5, hs5, hF6⟩ := ae_ltI hF4
      refine ae_iast (q := (47, 0)) dX12_readNumber_96 rfl rfl (ae_ibI hg3) (ae_nmS hs5 ?_)
      refine ae_aload_n 0 dX12_readNumber_97 rfl ?_
      refine ae_getA (q := (30, 0)) (some (52, 0)) dX12_readNumber_98 fl_RX12_81 rfl rfl rfl ?_
      refine ae_iload_n 2 dX12_readNumber_101 rfl ?_
      refine ae_lload_n 1 dX12_readNumber_102 rfl ?_
      refine ae_l2d dX12_readNumber_103 ?_
      refine ae_aload_n 0 dX12_readNumber_104 rfl ?_
      refine ae_getL (q := (30, 0)) dX12_readNumber_105 fl_RX12_156 rfl rfl ?_
      refine ae_l2d dX12_readNumber_108 ?_
      refine ae_dload 3 dX12_readNumber_109 rfl ?_
      refine ae_ddiv dX12_readNumber_111 ?_
      refine ae_dadd dX12_readNumber_112 ?_
      obtain ⟨hg7, hF8⟩ := ae_gdI hF6
      obtain ⟨s9, hs9, hF10⟩ := ae_ltI hF8
      refine ae_dast (q := (52, 0)) dX12_readNumber_113 rfl rfl (ae_ibI hg7) (ae_nmS hs9 ?_)
      refine ae_aload_n 0 dX12_readNumber_114 rfl ?_
      obtain ⟨r11, s12, hc13, hF14⟩ := ae_bdI hF10
      refine ae_cV0 (q := (30, 0)) (As := []) dX12_readNumber_115 ww_1508 vy_X12_next rfl rfl rfl rfl rfl (Nat.le_of_ble_eq_true rfl) (c_X12_next d hc13) ?_
      refine ae_iload_n 2 dX12_readNumber_118 rfl ?_
      obtain ⟨rfl, rfl⟩ := ae_retI hF14
      exact ae_iret dX12_readNumber_119 rfl rfl ⟨rfl, rfl⟩
    · have hF2 := ae_ifF hb1 hF
      refine ae_dload 3 dX12_readNumber_76 rfl ?_
      refine ae_ldc2d dX12_readNumber_78 ww_1755 ?_
      refine ae_dmul dX12_readNumber_81 ?_
      obtain ⟨x15, hx15, hF16⟩ := ae_ltI hF2
      refine ae_nmD hx15 ?_
      refine ae_dstore (lv' := [(4, ae_d x15), (0, ae_r (some (30, 0))), (1, ae_l v1), (3, ae_i v3), (6, ae_i v6)]) dX12_readNumber_82 (by decide) rfl ?_
      obtain ⟨x17, hx17, hF18⟩ := ae_ltI hF16
      refine ae_iinc (lv' := [(6, ae_i x17), (4, ae_d x15), (0, ae_r (some (30, 0))), (1, ae_l v1), (3, ae_i v3)]) 4 (1 : Int32) dX12_readNumber_84 rfl (by decide) (by decide) (by rw [hx17]; rfl) ?_
      refine ae_goto 67 dX12_readNumber_87 rfl ?_
      refine ae_pick (lv' := [(0, ae_r (some (30, 0))), (1, ae_l v1), (3, ae_i v3), (4, ae_d x15), (6, ae_i x17)]) [2, 3, 4, 1, 0] rfl ?_
      exact ih v1 v3 x15 x17 s0 hF18
def F_X12_readNumber (s0 : ae_S) : Option (Int32 × ae_S) := ae_bd (F_X12_readsNumber (9 : Int32) s0) (fun (r19 : Int32) s20 => if r19 = 0 then (some ((-1 : Int32), s20)) else (ae_lt (s20.2.1 30 0 29) (fun x25 => ae_bd (F_X12_next s20) (fun (r27 : Unit) s28 => ae_bd (F_X12_node (0 : Int32) (-1 : Int32) (-1 : Int32) s28) (fun (r31 : Int32) s32 => ae_gd (ae_ib r31 600) (ae_lt (ae_wL s32 51 0 r31.toNatClampNeg x25) (fun s37 => ae_bd (F_X12_isSign (46 : Int32) s37) (fun (r39 : Int32) s40 => if r39 = 0 then (some (r31, s40)) else (ae_bd (F_X12_next s40) (fun (r45 : Unit) s46 => ae_bd (F_X12_readsNumber (9 : Int32) s46) (fun (r49 : Int32) s50 => if r49 = 0 then (some ((-1 : Int32), s50)) else (F_X12_readNumber_67 ae_fu x25 r31 FP.dconst1 (0 : Int32) s50))))))))))))
set_option maxHeartbeats 4000000 in
set_option maxRecDepth 100000 in
theorem c_X12_readNumber {l : Launch} {G : ae_G} (d : Nat) {s0 ss : ae_S} {rr : Int32} (hF : F_X12_readNumber s0 = some (rr, ss)) : ae_Met l G (d + 2) yX12_readNumber mX12_readNumber [ae_r (some (30, 0))] s0 (ae_Po (some (ae_i rr)) ss) := by
  refine ae_enter (by decide) rfl (Nat.le_of_ble_eq_true rfl) ?_
  show ae_T l G (d + 2) mX12_readNumber (ae_Po (some (ae_i rr)) ss) 0 [(0, ae_r (some (30, 0)))] [] s0
  unfold F_X12_readNumber at hF
  refine ae_aload_n 0 dX12_readNumber_0 rfl ?_
  refine ae_bipush (9 : Int32) dX12_readNumber_1 (by decide) ?_
  obtain ⟨r19, s20, hc21, hF22⟩ := ae_bdI hF
  refine ae_cV1 (q := (30, 0)) (As := [ae_i (9 : Int32)]) dX12_readNumber_3 ww_1582 vy_X12_readsNumber rfl rfl rfl rfl rfl (Nat.le_of_ble_eq_true rfl) (c_X12_readsNumber d hc21) ?_
  refine ae_if_ne 11 dX12_readNumber_6 rfl (fun hb23 => ?_) (fun hb23 => ?_)
  · have hF24 := ae_ifF hb23 hF22
    refine ae_aload_n 0 dX12_readNumber_11 rfl ?_
    refine ae_getL (q := (30, 0)) dX12_readNumber_12 fl_RX12_156 rfl rfl ?_
    obtain ⟨x25, hx25, hF26⟩ := ae_ltI hF24
    refine ae_nmL hx25 ?_
    refine ae_lstore_n (lv' := [(1, ae_l x25), (0, ae_r (some (30, 0)))]) dX12_readNumber_15 (by decide) rfl ?_
    refine ae_aload_n 1 dX12_readNumber_16 rfl ?_
    obtain ⟨r27, s28, hc29, hF30⟩ := ae_bdI hF26
    refine ae_cV0 (q := (30, 0)) (As := []) dX12_readNumber_17 ww_1508 vy_X12_next rfl rfl rfl rfl rfl (Nat.le_of_ble_eq_true rfl) (c_X12_next d hc29) ?_
    refine ae_aload_n 1 dX12_readNumber_20 rfl ?_
    refine ae_iconst (0 : Int32) dX12_readNumber_21 (by decide) ?_
    refine ae_iconst (-1 : Int32) dX12_readNumber_22 (by decide) ?_
    refine ae_iconst (-1 : Int32) dX12_readNumber_23 (by decide) ?_
    obtain ⟨r31, s32, hc33, hF34⟩ := ae_bdI hF30
    refine ae_cV1 (q := (30, 0)) (As := [ae_i (0 : Int32), ae_i (-1 : Int32), ae_i (-1 : Int32)]) dX12_readNumber_24 ww_1751 vy_X12_node rfl rfl rfl rfl rfl (Nat.le_of_ble_eq_true rfl) (c_X12_node (d + 1) hc33) ?_
    refine ae_istore_n (lv' := [(3, ae_i r31), (1, ae_l x25), (0, ae_r (some (30, 0)))]) dX12_readNumber_27 (by decide) rfl ?_
    refine ae_aload_n 2 dX12_readNumber_28 rfl ?_
    refine ae_getA (q := (30, 0)) (some (51, 0)) dX12_readNumber_29 fl_RX12_78 rfl rfl rfl ?_
    refine ae_iload_n 0 dX12_readNumber_32 rfl ?_
    refine ae_lload_n 1 dX12_readNumber_33 rfl ?_
    obtain ⟨hg35, hF36⟩ := ae_gdI hF34
    obtain ⟨s37, hs37, hF38⟩ := ae_ltI hF36
    refine ae_last (q := (51, 0)) dX12_readNumber_34 rfl rfl (ae_ibI hg35) (ae_nmS hs37 ?_)
    refine ae_aload_n 2 dX12_readNumber_35 rfl ?_
    refine ae_bipush (46 : Int32) dX12_readNumber_36 (by decide) ?_
    obtain ⟨r39, s40, hc41, hF42⟩ := ae_bdI hF38
    refine ae_cV1 (q := (30, 0)) (As := [ae_i (46 : Int32)]) dX12_readNumber_38 ww_1598 vy_X12_isSign rfl rfl rfl rfl rfl (Nat.le_of_ble_eq_true rfl) (c_X12_isSign (d + 1) hc41) ?_
    refine ae_if_ne 46 dX12_readNumber_41 rfl (fun hb43 => ?_) (fun hb43 => ?_)
    · have hF44 := ae_ifF hb43 hF42
      refine ae_aload_n 2 dX12_readNumber_46 rfl ?_
      obtain ⟨r45, s46, hc47, hF48⟩ := ae_bdI hF44
      refine ae_cV0 (q := (30, 0)) (As := []) dX12_readNumber_47 ww_1508 vy_X12_next rfl rfl rfl rfl rfl (Nat.le_of_ble_eq_true rfl) (c_X12_next d hc47) ?_
      refine ae_aload_n 2 dX12_readNumber_50 rfl ?_
      refine ae_bipush (9 : Int32) dX12_readNumber_51 (by decide) ?_
      obtain ⟨r49, s50, hc51, hF52⟩ := ae_bdI hF48
      refine ae_cV1 (q := (30, 0)) (As := [ae_i (9 : Int32)]) dX12_readNumber_53 ww_1582 vy_X12_readsNumber rfl rfl rfl rfl rfl (Nat.le_of_ble_eq_true rfl) (c_X12_readsNumber d hc51) ?_
      refine ae_if_ne 61 dX12_readNumber_56 rfl (fun hb53 => ?_) (fun hb53 => ?_)
      · have hF54 := ae_ifF hb53 hF52
        refine ae_dconst1 dX12_readNumber_61 ?_
        refine ae_dstore (lv' := [(4, ae_d FP.dconst1), (3, ae_i r31), (1, ae_l x25), (0, ae_r (some (30, 0)))]) dX12_readNumber_62 (by decide) rfl ?_
        refine ae_iconst (0 : Int32) dX12_readNumber_64 (by decide) ?_
        refine ae_istore (lv' := [(6, ae_i (0 : Int32)), (4, ae_d FP.dconst1), (3, ae_i r31), (1, ae_l x25), (0, ae_r (some (30, 0)))]) dX12_readNumber_65 (by decide) rfl ?_
        refine ae_pick (lv' := [(0, ae_r (some (30, 0))), (1, ae_l x25), (3, ae_i r31), (4, ae_d FP.dconst1), (6, ae_i (0 : Int32))]) [4, 3, 2, 1, 0] rfl ?_
        exact t_X12_readNumber_67 d ae_fu x25 r31 FP.dconst1 (0 : Int32) s50 hF54
      · have hF54 := ae_ifT hb53 hF52
        refine ae_iconst (-1 : Int32) dX12_readNumber_59 (by decide) ?_
        obtain ⟨rfl, rfl⟩ := ae_retI hF54
        exact ae_iret dX12_readNumber_60 rfl rfl ⟨rfl, rfl⟩
    · have hF44 := ae_ifT hb43 hF42
      refine ae_iload_n 0 dX12_readNumber_44 rfl ?_
      obtain ⟨rfl, rfl⟩ := ae_retI hF44
      exact ae_iret dX12_readNumber_45 rfl rfl ⟨rfl, rfl⟩
  · have hF24 := ae_ifT hb23 hF22
    refine ae_iconst (-1 : Int32) dX12_readNumber_9 (by decide) ?_
    obtain ⟨rfl, rfl⟩ := ae_retI hF24
    exact ae_iret dX12_readNumber_10 rfl rfl ⟨rfl, rfl⟩
abbrev mX12_readAll : ae_M := (RX12, cX12_readAll, 3, some .int)
theorem vy_X12_readAll : ae_VY yX12_readAll mX12_readAll 0 := ⟨ww_1733, wq_86, ww_13, ww_1734, ⟨by decide, by decide, by decide +kernel⟩, by decide⟩
theorem dX12_readAll_0 : decode cX12_readAll 0 = .ok (.aload_n 0, 1) := by decide +kernel
theorem dX12_readAll_1 : decode cX12_readAll 1 = .ok (.invokevirtual 393, 3) := by decide +kernel
theorem dX12_readAll_4 : decode cX12_readAll 4 = .ok (.istore_n 1, 1) := by decide +kernel
theorem dX12_readAll_5 : decode cX12_readAll 5 = .ok (.aload_n 0, 1) := by decide +kernel
theorem dX12_readAll_6 : decode cX12_readAll 6 = .ok (.invokevirtual 189, 3) := by decide +kernel
theorem dX12_readAll_9 : decode cX12_readAll 9 = .ok (.ifCond .eq 30, 3) := by decide +kernel
theorem dX12_readAll_12 : decode cX12_readAll 12 = .ok (.aload_n 0, 1) := by decide +kernel
theorem dX12_readAll_13 : decode cX12_readAll 13 = .ok (.bipush 60, 2) := by decide +kernel
theorem dX12_readAll_15 : decode cX12_readAll 15 = .ok (.invokevirtual 193, 3) := by decide +kernel
theorem dX12_readAll_18 : decode cX12_readAll 18 = .ok (.ifCond .ne 23, 3) := by decide +kernel
theorem dX12_readAll_21 : decode cX12_readAll 21 = .ok (.aload_n 0, 1) := by decide +kernel
theorem dX12_readAll_22 : decode cX12_readAll 22 = .ok (.bipush 62, 2) := by decide +kernel
theorem dX12_readAll_24 : decode cX12_readAll 24 = .ok (.invokevirtual 193, 3) := by decide +kernel
theorem dX12_readAll_27 : decode cX12_readAll 27 = .ok (.ifCond .ne 14, 3) := by decide +kernel
theorem dX12_readAll_30 : decode cX12_readAll 30 = .ok (.aload_n 0, 1) := by decide +kernel
theorem dX12_readAll_31 : decode cX12_readAll 31 = .ok (.bipush 126, 2) := by decide +kernel
theorem dX12_readAll_33 : decode cX12_readAll 33 = .ok (.invokevirtual 193, 3) := by decide +kernel
theorem dX12_readAll_36 : decode cX12_readAll 36 = .ok (.ifCond .ne 5, 3) := by decide +kernel
theorem dX12_readAll_39 : decode cX12_readAll 39 = .ok (.iload_n 1, 1) := by decide +kernel
theorem dX12_readAll_40 : decode cX12_readAll 40 = .ok (.ireturn, 1) := by decide +kernel
theorem dX12_readAll_41 : decode cX12_readAll 41 = .ok (.aload_n 0, 1) := by decide +kernel
theorem dX12_readAll_42 : decode cX12_readAll 42 = .ok (.getfield 166, 3) := by decide +kernel
theorem dX12_readAll_45 : decode cX12_readAll 45 = .ok (.istore_n 2, 1) := by decide +kernel
theorem dX12_readAll_46 : decode cX12_readAll 46 = .ok (.aload_n 0, 1) := by decide +kernel
theorem dX12_readAll_47 : decode cX12_readAll 47 = .ok (.invokevirtual 200, 3) := by decide +kernel
theorem dX12_readAll_50 : decode cX12_readAll 50 = .ok (.aload_n 0, 1) := by decide +kernel
theorem dX12_readAll_51 : decode cX12_readAll 51 = .ok (.iload_n 2, 1) := by decide +kernel
theorem dX12_readAll_52 : decode cX12_readAll 52 = .ok (.iload_n 1, 1) := by decide +kernel
theorem dX12_readAll_53 : decode cX12_readAll 53 = .ok (.aload_n 0, 1) := by decide +kernel
theorem dX12_readAll_54 : decode cX12_readAll 54 = .ok (.invokevirtual 393, 3) := by decide +kernel
theorem dX12_readAll_57 : decode cX12_readAll 57 = .ok (.invokevirtual 372, 3) := by decide +kernel
theorem dX12_readAll_60 : decode cX12_readAll 60 = .ok (.ireturn, 1) := by decide +kernel
abbrev mX12_readSum : ae_M := (RX12, cX12_readSum, 3, some .int)
theorem vy_X12_readSum : ae_VY yX12_readSum mX12_readSum 0 := ⟨ww_1737, wq_87, ww_13, ww_1738, ⟨by decide, by decide, by decide +kernel⟩, by decide⟩
theorem dX12_readSum_0 : decode cX12_readSum 0 = .ok (.aload_n 0, 1) := by decide +kernel
theorem dX12_readSum_1 : decode cX12_readSum 1 = .ok (.invokevirtual 390, 3) := by decide +kernel
theorem dX12_readSum_4 : decode cX12_readSum 4 = .ok (.istore_n 1, 1) := by decide +kernel
theorem dX12_readSum_5 : decode cX12_readSum 5 = .ok (.aload_n 0, 1) := by decide +kernel
theorem dX12_readSum_6 : decode cX12_readSum 6 = .ok (.invokevirtual 189, 3) := by decide +kernel
theorem dX12_readSum_9 : decode cX12_readSum 9 = .ok (.ifCond .eq 44, 3) := by decide +kernel
theorem dX12_readSum_12 : decode cX12_readSum 12 = .ok (.aload_n 0, 1) := by decide +kernel
theorem dX12_readSum_13 : decode cX12_readSum 13 = .ok (.bipush 43, 2) := by decide +kernel
theorem dX12_readSum_15 : decode cX12_readSum 15 = .ok (.invokevirtual 193, 3) := by decide +kernel
theorem dX12_readSum_18 : decode cX12_readSum 18 = .ok (.ifCond .ne 12, 3) := by decide +kernel
theorem dX12_readSum_21 : decode cX12_readSum 21 = .ok (.aload_n 0, 1) := by decide +kernel
theorem dX12_readSum_22 : decode cX12_readSum 22 = .ok (.bipush 45, 2) := by decide +kernel
theorem dX12_readSum_24 : decode cX12_readSum 24 = .ok (.invokevirtual 193, 3) := by decide +kernel
theorem dX12_readSum_27 : decode cX12_readSum 27 = .ok (.ifCond .eq 26, 3) := by decide +kernel
theorem dX12_readSum_30 : decode cX12_readSum 30 = .ok (.aload_n 0, 1) := by decide +kernel
theorem dX12_readSum_31 : decode cX12_readSum 31 = .ok (.getfield 166, 3) := by decide +kernel
theorem dX12_readSum_34 : decode cX12_readSum 34 = .ok (.istore_n 2, 1) := by decide +kernel
theorem dX12_readSum_35 : decode cX12_readSum 35 = .ok (.aload_n 0, 1) := by decide +kernel
theorem dX12_readSum_36 : decode cX12_readSum 36 = .ok (.invokevirtual 200, 3) := by decide +kernel
theorem dX12_readSum_39 : decode cX12_readSum 39 = .ok (.aload_n 0, 1) := by decide +kernel
theorem dX12_readSum_40 : decode cX12_readSum 40 = .ok (.iload_n 2, 1) := by decide +kernel
theorem dX12_readSum_41 : decode cX12_readSum 41 = .ok (.iload_n 1, 1) := by decide +kernel
theorem dX12_readSum_42 : decode cX12_readSum 42 = .ok (.aload_n 0, 1) := by decide +kernel
theorem dX12_readSum_43 : decode cX12_readSum 43 = .ok (.invokevirtual 390, 3) := by decide +kernel
theorem dX12_readSum_46 : decode cX12_readSum 46 = .ok (.invokevirtual 372, 3) := by decide +kernel
theorem dX12_readSum_49 : decode cX12_readSum 49 = .ok (.istore_n 1, 1) := by decide +kernel
theorem dX12_readSum_50 : decode cX12_readSum 50 = .ok (.goto (-45), 3) := by decide +kernel
theorem dX12_readSum_53 : decode cX12_readSum 53 = .ok (.iload_n 1, 1) := by decide +kernel
theorem dX12_readSum_54 : decode cX12_readSum 54 = .ok (.ireturn, 1) := by decide +kernel
abbrev mX12_readTerm : ae_M := (RX12, cX12_readTerm, 3, some .int)
theorem vy_X12_readTerm : ae_VY yX12_readTerm mX12_readTerm 0 := ⟨ww_1741, wq_88, ww_13, ww_1742, ⟨by decide, by decide, by decide +kernel⟩, by decide⟩
theorem dX12_readTerm_0 : decode cX12_readTerm 0 = .ok (.aload_n 0, 1) := by decide +kernel
theorem dX12_readTerm_1 : decode cX12_readTerm 1 = .ok (.invokevirtual 387, 3) := by decide +kernel
theorem dX12_readTerm_4 : decode cX12_readTerm 4 = .ok (.istore_n 1, 1) := by decide +kernel
theorem dX12_readTerm_5 : decode cX12_readTerm 5 = .ok (.aload_n 0, 1) := by decide +kernel
theorem dX12_readTerm_6 : decode cX12_readTerm 6 = .ok (.invokevirtual 189, 3) := by decide +kernel
theorem dX12_readTerm_9 : decode cX12_readTerm 9 = .ok (.ifCond .eq 53, 3) := by decide +kernel
theorem dX12_readTerm_12 : decode cX12_readTerm 12 = .ok (.aload_n 0, 1) := by decide +kernel
theorem dX12_readTerm_13 : decode cX12_readTerm 13 = .ok (.bipush 42, 2) := by decide +kernel
theorem dX12_readTerm_15 : decode cX12_readTerm 15 = .ok (.invokevirtual 193, 3) := by decide +kernel
theorem dX12_readTerm_18 : decode cX12_readTerm 18 = .ok (.ifCond .ne 21, 3) := by decide +kernel
theorem dX12_readTerm_21 : decode cX12_readTerm 21 = .ok (.aload_n 0, 1) := by decide +kernel
theorem dX12_readTerm_22 : decode cX12_readTerm 22 = .ok (.bipush 47, 2) := by decide +kernel
theorem dX12_readTerm_24 : decode cX12_readTerm 24 = .ok (.invokevirtual 193, 3) := by decide +kernel
theorem dX12_readTerm_27 : decode cX12_readTerm 27 = .ok (.ifCond .ne 12, 3) := by decide +kernel
theorem dX12_readTerm_30 : decode cX12_readTerm 30 = .ok (.aload_n 0, 1) := by decide +kernel
theorem dX12_readTerm_31 : decode cX12_readTerm 31 = .ok (.bipush 37, 2) := by decide +kernel
theorem dX12_readTerm_33 : decode cX12_readTerm 33 = .ok (.invokevirtual 193, 3) := by decide +kernel
theorem dX12_readTerm_36 : decode cX12_readTerm 36 = .ok (.ifCond .eq 26, 3) := by decide +kernel
theorem dX12_readTerm_39 : decode cX12_readTerm 39 = .ok (.aload_n 0, 1) := by decide +kernel
theorem dX12_readTerm_40 : decode cX12_readTerm 40 = .ok (.getfield 166, 3) := by decide +kernel
theorem dX12_readTerm_43 : decode cX12_readTerm 43 = .ok (.istore_n 2, 1) := by decide +kernel
theorem dX12_readTerm_44 : decode cX12_readTerm 44 = .ok (.aload_n 0, 1) := by decide +kernel
theorem dX12_readTerm_45 : decode cX12_readTerm 45 = .ok (.invokevirtual 200, 3) := by decide +kernel
theorem dX12_readTerm_48 : decode cX12_readTerm 48 = .ok (.aload_n 0, 1) := by decide +kernel
theorem dX12_readTerm_49 : decode cX12_readTerm 49 = .ok (.iload_n 2, 1) := by decide +kernel
theorem dX12_readTerm_50 : decode cX12_readTerm 50 = .ok (.iload_n 1, 1) := by decide +kernel
theorem dX12_readTerm_51 : decode cX12_readTerm 51 = .ok (.aload_n 0, 1) := by decide +kernel
theorem dX12_readTerm_52 : decode cX12_readTerm 52 = .ok (.invokevirtual 387, 3) := by decide +kernel
theorem dX12_readTerm_55 : decode cX12_readTerm 55 = .ok (.invokevirtual 372, 3) := by decide +kernel
theorem dX12_readTerm_58 : decode cX12_readTerm 58 = .ok (.istore_n 1, 1) := by decide +kernel
theorem dX12_readTerm_59 : decode cX12_readTerm 59 = .ok (.goto (-54), 3) := by decide +kernel
theorem dX12_readTerm_62 : decode cX12_readTerm 62 = .ok (.iload_n 1, 1) := by decide +kernel
theorem dX12_readTerm_63 : decode cX12_readTerm 63 = .ok (.ireturn, 1) := by decide +kernel
abbrev mX12_readFactor : ae_M := (RX12, cX12_readFactor, 4, some .int)
theorem vy_X12_readFactor : ae_VY yX12_readFactor mX12_readFactor 0 := ⟨ww_1745, wq_89, ww_13, ww_1746, ⟨by decide, by decide, by decide +kernel⟩, by decide⟩
theorem dX12_readFactor_0 : decode cX12_readFactor 0 = .ok (.iconst 0, 1) := by decide +kernel
theorem dX12_readFactor_1 : decode cX12_readFactor 1 = .ok (.istore_n 1, 1) := by decide +kernel
theorem dX12_readFactor_2 : decode cX12_readFactor 2 = .ok (.iconst 0, 1) := by decide +kernel
theorem dX12_readFactor_3 : decode cX12_readFactor 3 = .ok (.istore_n 2, 1) := by decide +kernel
theorem dX12_readFactor_4 : decode cX12_readFactor 4 = .ok (.aload_n 0, 1) := by decide +kernel
theorem dX12_readFactor_5 : decode cX12_readFactor 5 = .ok (.bipush 45, 2) := by decide +kernel
theorem dX12_readFactor_7 : decode cX12_readFactor 7 = .ok (.invokevirtual 193, 3) := by decide +kernel
theorem dX12_readFactor_10 : decode cX12_readFactor 10 = .ok (.ifCond .eq 22, 3) := by decide +kernel
theorem dX12_readFactor_13 : decode cX12_readFactor 13 = .ok (.iload_n 1, 1) := by decide +kernel
theorem dX12_readFactor_14 : decode cX12_readFactor 14 = .ok (.ifCond .ne 7, 3) := by decide +kernel
theorem dX12_readFactor_17 : decode cX12_readFactor 17 = .ok (.iconst 1, 1) := by decide +kernel
theorem dX12_readFactor_18 : decode cX12_readFactor 18 = .ok (.goto 4, 3) := by decide +kernel
theorem dX12_readFactor_21 : decode cX12_readFactor 21 = .ok (.iconst 0, 1) := by decide +kernel
theorem dX12_readFactor_22 : decode cX12_readFactor 22 = .ok (.istore_n 1, 1) := by decide +kernel
theorem dX12_readFactor_23 : decode cX12_readFactor 23 = .ok (.iconst 1, 1) := by decide +kernel
theorem dX12_readFactor_24 : decode cX12_readFactor 24 = .ok (.istore_n 2, 1) := by decide +kernel
theorem dX12_readFactor_25 : decode cX12_readFactor 25 = .ok (.aload_n 0, 1) := by decide +kernel
theorem dX12_readFactor_26 : decode cX12_readFactor 26 = .ok (.invokevirtual 200, 3) := by decide +kernel
theorem dX12_readFactor_29 : decode cX12_readFactor 29 = .ok (.goto (-25), 3) := by decide +kernel
theorem dX12_readFactor_32 : decode cX12_readFactor 32 = .ok (.aload_n 0, 1) := by decide +kernel
theorem dX12_readFactor_33 : decode cX12_readFactor 33 = .ok (.getfield 143, 3) := by decide +kernel
theorem dX12_readFactor_36 : decode cX12_readFactor 36 = .ok (.iconst 2, 1) := by decide +kernel
theorem dX12_readFactor_37 : decode cX12_readFactor 37 = .ok (.if_icmp .ne 11, 3) := by decide +kernel
theorem dX12_readFactor_40 : decode cX12_readFactor 40 = .ok (.aload_n 0, 1) := by decide +kernel
theorem dX12_readFactor_41 : decode cX12_readFactor 41 = .ok (.invokevirtual 378, 3) := by decide +kernel
theorem dX12_readFactor_44 : decode cX12_readFactor 44 = .ok (.istore_n 3, 1) := by decide +kernel
theorem dX12_readFactor_45 : decode cX12_readFactor 45 = .ok (.goto 55, 3) := by decide +kernel
theorem dX12_readFactor_48 : decode cX12_readFactor 48 = .ok (.aload_n 0, 1) := by decide +kernel
theorem dX12_readFactor_49 : decode cX12_readFactor 49 = .ok (.bipush 40, 2) := by decide +kernel
theorem dX12_readFactor_51 : decode cX12_readFactor 51 = .ok (.invokevirtual 193, 3) := by decide +kernel
theorem dX12_readFactor_54 : decode cX12_readFactor 54 = .ok (.ifCond .eq 41, 3) := by decide +kernel
theorem dX12_readFactor_57 : decode cX12_readFactor 57 = .ok (.aload_n 0, 1) := by decide +kernel
theorem dX12_readFactor_58 : decode cX12_readFactor 58 = .ok (.invokevirtual 381, 3) := by decide +kernel
theorem dX12_readFactor_61 : decode cX12_readFactor 61 = .ok (.ifCond .ne 5, 3) := by decide +kernel
theorem dX12_readFactor_64 : decode cX12_readFactor 64 = .ok (.iconst (-1), 1) := by decide +kernel
theorem dX12_readFactor_65 : decode cX12_readFactor 65 = .ok (.ireturn, 1) := by decide +kernel
theorem dX12_readFactor_66 : decode cX12_readFactor 66 = .ok (.aload_n 0, 1) := by decide +kernel
theorem dX12_readFactor_67 : decode cX12_readFactor 67 = .ok (.invokevirtual 369, 3) := by decide +kernel
theorem dX12_readFactor_70 : decode cX12_readFactor 70 = .ok (.istore_n 3, 1) := by decide +kernel
theorem dX12_readFactor_71 : decode cX12_readFactor 71 = .ok (.aload_n 0, 1) := by decide +kernel
theorem dX12_readFactor_72 : decode cX12_readFactor 72 = .ok (.bipush 41, 2) := by decide +kernel
theorem dX12_readFactor_74 : decode cX12_readFactor 74 = .ok (.invokevirtual 276, 3) := by decide +kernel
theorem dX12_readFactor_77 : decode cX12_readFactor 77 = .ok (.ifCond .ne 5, 3) := by decide +kernel
theorem dX12_readFactor_80 : decode cX12_readFactor 80 = .ok (.iconst (-1), 1) := by decide +kernel
theorem dX12_readFactor_81 : decode cX12_readFactor 81 = .ok (.ireturn, 1) := by decide +kernel
theorem dX12_readFactor_82 : decode cX12_readFactor 82 = .ok (.aload_n 0, 1) := by decide +kernel
theorem dX12_readFactor_83 : decode cX12_readFactor 83 = .ok (.dup, 1) := by decide +kernel
theorem dX12_readFactor_84 : decode cX12_readFactor 84 = .ok (.getfield 366, 3) := by decide +kernel
theorem dX12_readFactor_87 : decode cX12_readFactor 87 = .ok (.iconst 1, 1) := by decide +kernel
theorem dX12_readFactor_88 : decode cX12_readFactor 88 = .ok (.isub, 1) := by decide +kernel
theorem dX12_readFactor_89 : decode cX12_readFactor 89 = .ok (.putfield 366, 3) := by decide +kernel
theorem dX12_readFactor_92 : decode cX12_readFactor 92 = .ok (.goto 8, 3) := by decide +kernel
theorem dX12_readFactor_95 : decode cX12_readFactor 95 = .ok (.aload_n 0, 1) := by decide +kernel
theorem dX12_readFactor_96 : decode cX12_readFactor 96 = .ok (.invokevirtual 384, 3) := by decide +kernel
theorem dX12_readFactor_99 : decode cX12_readFactor 99 = .ok (.istore_n 3, 1) := by decide +kernel
theorem dX12_readFactor_100 : decode cX12_readFactor 100 = .ok (.aload_n 0, 1) := by decide +kernel
theorem dX12_readFactor_101 : decode cX12_readFactor 101 = .ok (.invokevirtual 189, 3) := by decide +kernel
theorem dX12_readFactor_104 : decode cX12_readFactor 104 = .ok (.ifCond .eq 7, 3) := by decide +kernel
theorem dX12_readFactor_107 : decode cX12_readFactor 107 = .ok (.iload_n 2, 1) := by decide +kernel
theorem dX12_readFactor_108 : decode cX12_readFactor 108 = .ok (.ifCond .ne 5, 3) := by decide +kernel
theorem dX12_readFactor_111 : decode cX12_readFactor 111 = .ok (.iload_n 3, 1) := by decide +kernel
theorem dX12_readFactor_112 : decode cX12_readFactor 112 = .ok (.ireturn, 1) := by decide +kernel
theorem dX12_readFactor_113 : decode cX12_readFactor 113 = .ok (.iload_n 1, 1) := by decide +kernel
theorem dX12_readFactor_114 : decode cX12_readFactor 114 = .ok (.ifCond .eq 13, 3) := by decide +kernel
theorem dX12_readFactor_117 : decode cX12_readFactor 117 = .ok (.aload_n 0, 1) := by decide +kernel
theorem dX12_readFactor_118 : decode cX12_readFactor 118 = .ok (.iconst 3, 1) := by decide +kernel
theorem dX12_readFactor_119 : decode cX12_readFactor 119 = .ok (.iload_n 3, 1) := by decide +kernel
theorem dX12_readFactor_120 : decode cX12_readFactor 120 = .ok (.iconst (-1), 1) := by decide +kernel
theorem dX12_readFactor_121 : decode cX12_readFactor 121 = .ok (.invokevirtual 372, 3) := by decide +kernel
theorem dX12_readFactor_124 : decode cX12_readFactor 124 = .ok (.goto 4, 3) := by decide +kernel
theorem dX12_readFactor_127 : decode cX12_readFactor 127 = .ok (.iload_n 3, 1) := by decide +kernel
theorem dX12_readFactor_128 : decode cX12_readFactor 128 = .ok (.ireturn, 1) := by decide +kernel
abbrev mX12_readPlace : ae_M := (RX12, cX12_readPlace, 5, some .int)
theorem vy_X12_readPlace : ae_VY yX12_readPlace mX12_readPlace 0 := ⟨ww_1762, wq_93, ww_13, ww_1763, ⟨by decide, by decide, by decide +kernel⟩, by decide⟩
theorem dX12_readPlace_0 : decode cX12_readPlace 0 = .ok (.aload_n 0, 1) := by decide +kernel
theorem dX12_readPlace_1 : decode cX12_readPlace 1 = .ok (.invokevirtual 253, 3) := by decide +kernel
theorem dX12_readPlace_4 : decode cX12_readPlace 4 = .ok (.ifCond .ne 15, 3) := by decide +kernel
theorem dX12_readPlace_7 : decode cX12_readPlace 7 = .ok (.aload_n 0, 1) := by decide +kernel
theorem dX12_readPlace_8 : decode cX12_readPlace 8 = .ok (.iconst 1, 1) := by decide +kernel
theorem dX12_readPlace_9 : decode cX12_readPlace 9 = .ok (.aload_n 0, 1) := by decide +kernel
theorem dX12_readPlace_10 : decode cX12_readPlace 10 = .ok (.getfield 140, 3) := by decide +kernel
theorem dX12_readPlace_13 : decode cX12_readPlace 13 = .ok (.invokevirtual 196, 3) := by decide +kernel
theorem dX12_readPlace_16 : decode cX12_readPlace 16 = .ok (.pop, 1) := by decide +kernel
theorem dX12_readPlace_17 : decode cX12_readPlace 17 = .ok (.iconst (-1), 1) := by decide +kernel
theorem dX12_readPlace_18 : decode cX12_readPlace 18 = .ok (.ireturn, 1) := by decide +kernel
theorem dX12_readPlace_19 : decode cX12_readPlace 19 = .ok (.aload_n 0, 1) := by decide +kernel
theorem dX12_readPlace_20 : decode cX12_readPlace 20 = .ok (.aload_n 0, 1) := by decide +kernel
theorem dX12_readPlace_21 : decode cX12_readPlace 21 = .ok (.getfield 149, 3) := by decide +kernel
theorem dX12_readPlace_24 : decode cX12_readPlace 24 = .ok (.iconst 0, 1) := by decide +kernel
theorem dX12_readPlace_25 : decode cX12_readPlace 25 = .ok (.aload_n 0, 1) := by decide +kernel
theorem dX12_readPlace_26 : decode cX12_readPlace 26 = .ok (.getfield 109, 3) := by decide +kernel
theorem dX12_readPlace_29 : decode cX12_readPlace 29 = .ok (.invokevirtual 256, 3) := by decide +kernel
theorem dX12_readPlace_32 : decode cX12_readPlace 32 = .ok (.istore_n 1, 1) := by decide +kernel
theorem dX12_readPlace_33 : decode cX12_readPlace 33 = .ok (.iload_n 1, 1) := by decide +kernel
theorem dX12_readPlace_34 : decode cX12_readPlace 34 = .ok (.iconst (-1), 1) := by decide +kernel
theorem dX12_readPlace_35 : decode cX12_readPlace 35 = .ok (.if_icmp .ne 15, 3) := by decide +kernel
theorem dX12_readPlace_38 : decode cX12_readPlace 38 = .ok (.aload_n 0, 1) := by decide +kernel
theorem dX12_readPlace_39 : decode cX12_readPlace 39 = .ok (.iconst 2, 1) := by decide +kernel
theorem dX12_readPlace_40 : decode cX12_readPlace 40 = .ok (.aload_n 0, 1) := by decide +kernel
theorem dX12_readPlace_41 : decode cX12_readPlace 41 = .ok (.getfield 140, 3) := by decide +kernel
theorem dX12_readPlace_44 : decode cX12_readPlace 44 = .ok (.invokevirtual 196, 3) := by decide +kernel
theorem dX12_readPlace_47 : decode cX12_readPlace 47 = .ok (.pop, 1) := by decide +kernel
theorem dX12_readPlace_48 : decode cX12_readPlace 48 = .ok (.iconst (-1), 1) := by decide +kernel
theorem dX12_readPlace_49 : decode cX12_readPlace 49 = .ok (.ireturn, 1) := by decide +kernel
theorem dX12_readPlace_50 : decode cX12_readPlace 50 = .ok (.aload_n 0, 1) := by decide +kernel
theorem dX12_readPlace_51 : decode cX12_readPlace 51 = .ok (.invokevirtual 200, 3) := by decide +kernel
theorem dX12_readPlace_54 : decode cX12_readPlace 54 = .ok (.iconst (-1), 1) := by decide +kernel
theorem dX12_readPlace_55 : decode cX12_readPlace 55 = .ok (.istore_n 2, 1) := by decide +kernel
theorem dX12_readPlace_56 : decode cX12_readPlace 56 = .ok (.aload_n 0, 1) := by decide +kernel
theorem dX12_readPlace_57 : decode cX12_readPlace 57 = .ok (.bipush 91, 2) := by decide +kernel
theorem dX12_readPlace_59 : decode cX12_readPlace 59 = .ok (.invokevirtual 193, 3) := by decide +kernel
theorem dX12_readPlace_62 : decode cX12_readPlace 62 = .ok (.ifCond .eq 23, 3) := by decide +kernel
theorem dX12_readPlace_65 : decode cX12_readPlace 65 = .ok (.aload_n 0, 1) := by decide +kernel
theorem dX12_readPlace_66 : decode cX12_readPlace 66 = .ok (.invokevirtual 200, 3) := by decide +kernel
theorem dX12_readPlace_69 : decode cX12_readPlace 69 = .ok (.aload_n 0, 1) := by decide +kernel
theorem dX12_readPlace_70 : decode cX12_readPlace 70 = .ok (.invokevirtual 369, 3) := by decide +kernel
theorem dX12_readPlace_73 : decode cX12_readPlace 73 = .ok (.istore_n 2, 1) := by decide +kernel
theorem dX12_readPlace_74 : decode cX12_readPlace 74 = .ok (.aload_n 0, 1) := by decide +kernel
theorem dX12_readPlace_75 : decode cX12_readPlace 75 = .ok (.bipush 93, 2) := by decide +kernel
theorem dX12_readPlace_77 : decode cX12_readPlace 77 = .ok (.invokevirtual 276, 3) := by decide +kernel
theorem dX12_readPlace_80 : decode cX12_readPlace 80 = .ok (.ifCond .ne 5, 3) := by decide +kernel
theorem dX12_readPlace_83 : decode cX12_readPlace 83 = .ok (.iconst (-1), 1) := by decide +kernel
theorem dX12_readPlace_84 : decode cX12_readPlace 84 = .ok (.ireturn, 1) := by decide +kernel
theorem dX12_readPlace_85 : decode cX12_readPlace 85 = .ok (.aload_n 0, 1) := by decide +kernel
theorem dX12_readPlace_86 : decode cX12_readPlace 86 = .ok (.iconst 2, 1) := by decide +kernel
theorem dX12_readPlace_87 : decode cX12_readPlace 87 = .ok (.iload_n 1, 1) := by decide +kernel
theorem dX12_readPlace_88 : decode cX12_readPlace 88 = .ok (.iload_n 2, 1) := by decide +kernel
theorem dX12_readPlace_89 : decode cX12_readPlace 89 = .ok (.invokevirtual 372, 3) := by decide +kernel
theorem dX12_readPlace_92 : decode cX12_readPlace 92 = .ok (.istore_n 3, 1) := by decide +kernel
theorem dX12_readPlace_93 : decode cX12_readPlace 93 = .ok (.aload_n 0, 1) := by decide +kernel
theorem dX12_readPlace_94 : decode cX12_readPlace 94 = .ok (.bipush 46, 2) := by decide +kernel
theorem dX12_readPlace_96 : decode cX12_readPlace 96 = .ok (.invokevirtual 193, 3) := by decide +kernel
theorem dX12_readPlace_99 : decode cX12_readPlace 99 = .ok (.ifCond .ne 5, 3) := by decide +kernel
theorem dX12_readPlace_102 : decode cX12_readPlace 102 = .ok (.iload_n 3, 1) := by decide +kernel
theorem dX12_readPlace_103 : decode cX12_readPlace 103 = .ok (.ireturn, 1) := by decide +kernel
theorem dX12_readPlace_104 : decode cX12_readPlace 104 = .ok (.aload_n 0, 1) := by decide +kernel
theorem dX12_readPlace_105 : decode cX12_readPlace 105 = .ok (.invokevirtual 200, 3) := by decide +kernel
theorem dX12_readPlace_108 : decode cX12_readPlace 108 = .ok (.aload_n 0, 1) := by decide +kernel
theorem dX12_readPlace_109 : decode cX12_readPlace 109 = .ok (.invokevirtual 253, 3) := by decide +kernel
theorem dX12_readPlace_112 : decode cX12_readPlace 112 = .ok (.ifCond .ne 15, 3) := by decide +kernel
theorem dX12_readPlace_115 : decode cX12_readPlace 115 = .ok (.aload_n 0, 1) := by decide +kernel
theorem dX12_readPlace_116 : decode cX12_readPlace 116 = .ok (.iconst 1, 1) := by decide +kernel
theorem dX12_readPlace_117 : decode cX12_readPlace 117 = .ok (.aload_n 0, 1) := by decide +kernel
theorem dX12_readPlace_118 : decode cX12_readPlace 118 = .ok (.getfield 140, 3) := by decide +kernel
theorem dX12_readPlace_121 : decode cX12_readPlace 121 = .ok (.invokevirtual 196, 3) := by decide +kernel
theorem dX12_readPlace_124 : decode cX12_readPlace 124 = .ok (.pop, 1) := by decide +kernel
theorem dX12_readPlace_125 : decode cX12_readPlace 125 = .ok (.iconst (-1), 1) := by decide +kernel
theorem dX12_readPlace_126 : decode cX12_readPlace 126 = .ok (.ireturn, 1) := by decide +kernel
theorem dX12_readPlace_127 : decode cX12_readPlace 127 = .ok (.iconst 0, 1) := by decide +kernel
theorem dX12_readPlace_128 : decode cX12_readPlace 128 = .ok (.istore 4, 2) := by decide +kernel
theorem dX12_readPlace_130 : decode cX12_readPlace 130 = .ok (.iload 4, 2) := by decide +kernel
theorem dX12_readPlace_132 : decode cX12_readPlace 132 = .ok (.aload_n 0, 1) := by decide +kernel
theorem dX12_readPlace_133 : decode cX12_readPlace 133 = .ok (.getfield 47, 3) := by decide +kernel
theorem dX12_readPlace_136 : decode cX12_readPlace 136 = .ok (.iload_n 1, 1) := by decide +kernel
theorem dX12_readPlace_137 : decode cX12_readPlace 137 = .ok (.iaload, 1) := by decide +kernel
theorem dX12_readPlace_138 : decode cX12_readPlace 138 = .ok (.if_icmp .ge 38, 3) := by decide +kernel
theorem dX12_readPlace_141 : decode cX12_readPlace 141 = .ok (.aload_n 0, 1) := by decide +kernel
theorem dX12_readPlace_142 : decode cX12_readPlace 142 = .ok (.getfield 50, 3) := by decide +kernel
theorem dX12_readPlace_145 : decode cX12_readPlace 145 = .ok (.bipush 8, 2) := by decide +kernel
theorem dX12_readPlace_147 : decode cX12_readPlace 147 = .ok (.iload_n 1, 1) := by decide +kernel
theorem dX12_readPlace_148 : decode cX12_readPlace 148 = .ok (.imul, 1) := by decide +kernel
theorem dX12_readPlace_149 : decode cX12_readPlace 149 = .ok (.iload 4, 2) := by decide +kernel
theorem dX12_readPlace_151 : decode cX12_readPlace 151 = .ok (.iadd, 1) := by decide +kernel
theorem dX12_readPlace_152 : decode cX12_readPlace 152 = .ok (.laload, 1) := by decide +kernel
theorem dX12_readPlace_153 : decode cX12_readPlace 153 = .ok (.aload_n 0, 1) := by decide +kernel
theorem dX12_readPlace_154 : decode cX12_readPlace 154 = .ok (.getfield 149, 3) := by decide +kernel
theorem dX12_readPlace_157 : decode cX12_readPlace 157 = .ok (.lcmp, 1) := by decide +kernel
theorem dX12_readPlace_158 : decode cX12_readPlace 158 = .ok (.ifCond .ne 12, 3) := by decide +kernel
theorem dX12_readPlace_161 : decode cX12_readPlace 161 = .ok (.aload_n 0, 1) := by decide +kernel
theorem dX12_readPlace_162 : decode cX12_readPlace 162 = .ok (.getfield 78, 3) := by decide +kernel
theorem dX12_readPlace_165 : decode cX12_readPlace 165 = .ok (.iload_n 3, 1) := by decide +kernel
theorem dX12_readPlace_166 : decode cX12_readPlace 166 = .ok (.iload 4, 2) := by decide +kernel
theorem dX12_readPlace_168 : decode cX12_readPlace 168 = .ok (.i2l, 1) := by decide +kernel
theorem dX12_readPlace_169 : decode cX12_readPlace 169 = .ok (.lastore, 1) := by decide +kernel
theorem dX12_readPlace_170 : decode cX12_readPlace 170 = .ok (.iinc 4 1, 3) := by decide +kernel
theorem dX12_readPlace_173 : decode cX12_readPlace 173 = .ok (.goto (-43), 3) := by decide +kernel
theorem dX12_readPlace_176 : decode cX12_readPlace 176 = .ok (.aload_n 0, 1) := by decide +kernel
theorem dX12_readPlace_177 : decode cX12_readPlace 177 = .ok (.getfield 78, 3) := by decide +kernel
theorem dX12_readPlace_180 : decode cX12_readPlace 180 = .ok (.iload_n 3, 1) := by decide +kernel
theorem dX12_readPlace_181 : decode cX12_readPlace 181 = .ok (.laload, 1) := by decide +kernel
theorem dX12_readPlace_182 : decode cX12_readPlace 182 = .ok (.ldc2_w 334, 3) := by decide +kernel
theorem dX12_readPlace_185 : decode cX12_readPlace 185 = .ok (.lcmp, 1) := by decide +kernel
theorem dX12_readPlace_186 : decode cX12_readPlace 186 = .ok (.ifCond .ne 15, 3) := by decide +kernel
theorem dX12_readPlace_189 : decode cX12_readPlace 189 = .ok (.aload_n 0, 1) := by decide +kernel
theorem dX12_readPlace_190 : decode cX12_readPlace 190 = .ok (.iconst 2, 1) := by decide +kernel
theorem dX12_readPlace_191 : decode cX12_readPlace 191 = .ok (.aload_n 0, 1) := by decide +kernel
theorem dX12_readPlace_192 : decode cX12_readPlace 192 = .ok (.getfield 140, 3) := by decide +kernel
theorem dX12_readPlace_195 : decode cX12_readPlace 195 = .ok (.invokevirtual 196, 3) := by decide +kernel
theorem dX12_readPlace_198 : decode cX12_readPlace 198 = .ok (.pop, 1) := by decide +kernel
theorem dX12_readPlace_199 : decode cX12_readPlace 199 = .ok (.iconst (-1), 1) := by decide +kernel
theorem dX12_readPlace_200 : decode cX12_readPlace 200 = .ok (.ireturn, 1) := by decide +kernel
theorem dX12_readPlace_201 : decode cX12_readPlace 201 = .ok (.aload_n 0, 1) := by decide +kernel
theorem dX12_readPlace_202 : decode cX12_readPlace 202 = .ok (.invokevirtual 200, 3) := by decide +kernel
theorem dX12_readPlace_205 : decode cX12_readPlace 205 = .ok (.iload_n 3, 1) := by decide +kernel
theorem dX12_readPlace_206 : decode cX12_readPlace 206 = .ok (.ireturn, 1) := by decide +kernel
abbrev GT_A : Type := (ae_S → Option (Int32 × ae_S)) × (ae_S → Option (Int32 × ae_S)) × (ae_S → Option (Int32 × ae_S)) × (ae_S → Option (Int32 × ae_S)) × (ae_S → Option (Int32 × ae_S))
def GH_A (l : Launch) (G : ae_G) (D : Nat) (g : GT_A) : Prop := (∀ (s0 : ae_S) (rr : Int32) (ss : ae_S), g.1 s0 = some (rr, ss) → ae_Met l G D yX12_readAll mX12_readAll [ae_r (some (30, 0))] s0 (ae_Po (some (ae_i rr)) ss)) ∧ (∀ (s0 : ae_S) (rr : Int32) (ss : ae_S), g.2.1 s0 = some (rr, ss) → ae_Met l G D yX12_readSum mX12_readSum [ae_r (some (30, 0))] s0 (ae_Po (some (ae_i rr)) ss)) ∧ (∀ (s0 : ae_S) (rr : Int32) (ss : ae_S), g.2.2.1 s0 = some (rr, ss) → ae_Met l G D yX12_readTerm mX12_readTerm [ae_r (some (30, 0))] s0 (ae_Po (some (ae_i rr)) ss)) ∧ (∀ (s0 : ae_S) (rr : Int32) (ss : ae_S), g.2.2.2.1 s0 = some (rr, ss) → ae_Met l G D yX12_readFactor mX12_readFactor [ae_r (some (30, 0))] s0 (ae_Po (some (ae_i rr)) ss)) ∧ (∀ (s0 : ae_S) (rr : Int32) (ss : ae_S), g.2.2.2.2 s0 = some (rr, ss) → ae_Met l G D yX12_readPlace mX12_readPlace [ae_r (some (30, 0))] s0 (ae_Po (some (ae_i rr)) ss))
def F_X12_readAll_39 (g : GT_A) (v1 : Int32) (s0 : ae_S) : Option (Int32 × ae_S) := some (v1, s0)
set_option maxHeartbeats 4000000 in
set_option maxRecDepth 100000 in
theorem t_X12_readAll_39 {l : Launch} {G : ae_G} (d nn : Nat) (g : GT_A) (hg : GH_A l G (d + nn + 9) g) {rr : Int32} {ss : ae_S} (v1 : Int32) (s0 : ae_S) (hF : F_X12_readAll_39 g v1 s0 = some (rr, ss)) : ae_T l G (d + (nn + 1) + 9) mX12_readAll (ae_Po (some (ae_i rr)) ss) 39 [(1, ae_i v1)] [] s0 := by
  unfold F_X12_readAll_39 at hF
  refine ae_iload_n 0 dX12_readAll_39 rfl ?_
  obtain ⟨rfl, rfl⟩ := ae_retI hF
  exact ae_iret dX12_readAll_40 rfl rfl ⟨rfl, rfl⟩
def F_X12_readAll_41 (g : GT_A) (v1 : Int32) (s0 : ae_S) : Option (Int32 × ae_S) := ae_lt (s0.1 30 0 31) (fun x1 => ae_bd (F_X12_next s0) (fun (r3 : Unit) s4 => ae_bd (g.2.1 s4) (fun (r7 : Int32) s8 => ae_bd (F_X12_node x1 v1 r7 s8) (fun (r11 : Int32) s12 => some (r11, s12)))))
set_option maxHeartbeats 4000000 in
set_option maxRecDepth 100000 in
theorem t_X12_readAll_41 {l : Launch} {G : ae_G} (d nn : Nat) (g : GT_A) (hg : GH_A l G (d + nn + 9) g) {rr : Int32} {ss : ae_S} (v1 : Int32) (s0 : ae_S) (hF : F_X12_readAll_41 g v1 s0 = some (rr, ss)) : ae_T l G (d + (nn + 1) + 9) mX12_readAll (ae_Po (some (ae_i rr)) ss) 41 [(0, ae_r (some (30, 0))), (1, ae_i v1)] [] s0 := by
  unfold F_X12_readAll_41 at hF
  refine ae_aload_n 0 dX12_readAll_41 rfl ?_
  refine ae_getI (q := (30, 0)) dX12_readAll_42 fl_RX12_166 rfl rfl ?_
  obtain ⟨x1, hx1, hF2⟩ := ae_ltI hF
  refine ae_nmI hx1 ?_
  refine ae_istore_n (lv' := [(2, ae_i x1), (0, ae_r (some (30, 0))), (1, ae_i v1)]) dX12_readAll_45 (by decide) rfl ?_
  refine ae_aload_n 1 dX12_readAll_46 rfl ?_
  obtain ⟨r3, s4, hc5, hF6⟩ := ae_bdI hF2
  refine ae_cV0 (q := (30, 0)) (As := []) dX12_readAll_47 ww_1508 vy_X12_next rfl rfl rfl rfl rfl (Nat.le_of_ble_eq_true rfl) (c_X12_next (d + (nn + 1) + 7) hc5) ?_
  refine ae_aload_n 1 dX12_readAll_50 rfl ?_
  refine ae_iload_n 0 dX12_readAll_51 rfl ?_
  refine ae_iload_n 2 dX12_readAll_52 rfl ?_
  refine ae_aload_n 1 dX12_readAll_53 rfl ?_
  obtain ⟨r7, s8, hc9, hF10⟩ := ae_bdI hF6
  refine ae_cV1 (q := (30, 0)) (As := []) dX12_readAll_54 ww_1735 vy_X12_readSum rfl rfl rfl rfl rfl (Nat.le_of_ble_eq_true rfl) (hg.2.1 _ _ _ hc9) ?_
  obtain ⟨r11, s12, hc13, hF14⟩ := ae_bdI hF10
  refine ae_cV1 (q := (30, 0)) (As := [ae_i x1, ae_i v1, ae_i r7]) dX12_readAll_57 ww_1751 vy_X12_node rfl rfl rfl rfl rfl (Nat.le_of_ble_eq_true rfl) (c_X12_node (d + (nn + 1) + 8) hc13) ?_
  obtain ⟨rfl, rfl⟩ := ae_retI hF14
  exact ae_iret dX12_readAll_60 rfl rfl ⟨rfl, rfl⟩
def FZ_X12_readAll (g : GT_A) (s0 : ae_S) : Option (Int32 × ae_S) := ae_bd (g.2.1 s0) (fun (r15 : Int32) s16 => ae_bd (F_X12_isFine s16) (fun (r19 : Int32) s20 => if r19 = 0 then (F_X12_readAll_39 g r15 s20) else (ae_bd (F_X12_isSign (60 : Int32) s20) (fun (r25 : Int32) s26 => if r25 = 0 then (ae_bd (F_X12_isSign (62 : Int32) s26) (fun (r31 : Int32) s32 => if r31 = 0 then (ae_bd (F_X12_isSign (126 : Int32) s32) (fun (r37 : Int32) s38 => if r37 = 0 then (F_X12_readAll_39 g r15 s38) else (F_X12_readAll_41 g r15 s38))) else (F_X12_readAll_41 g r15 s32))) else (F_X12_readAll_41 g r15 s26)))))
set_option maxHeartbeats 4000000 in
set_option maxRecDepth 100000 in
theorem cZ_X12_readAll {l : Launch} {G : ae_G} (d nn : Nat) (g : GT_A) (hg : GH_A l G (d + nn + 9) g) {s0 ss : ae_S} {rr : Int32} (hF : FZ_X12_readAll g s0 = some (rr, ss)) : ae_Met l G (d + (nn + 1) + 9) yX12_readAll mX12_readAll [ae_r (some (30, 0))] s0 (ae_Po (some (ae_i rr)) ss) := by
  refine ae_enter (by decide) rfl (Nat.le_of_ble_eq_true rfl) ?_
  show ae_T l G (d + (nn + 1) + 9) mX12_readAll (ae_Po (some (ae_i rr)) ss) 0 [(0, ae_r (some (30, 0)))] [] s0
  unfold FZ_X12_readAll at hF
  refine ae_aload_n 0 dX12_readAll_0 rfl ?_
  obtain ⟨r15, s16, hc17, hF18⟩ := ae_bdI hF
  refine ae_cV1 (q := (30, 0)) (As := []) dX12_readAll_1 ww_1735 vy_X12_readSum rfl rfl rfl rfl rfl (Nat.le_of_ble_eq_true rfl) (hg.2.1 _ _ _ hc17) ?_
  refine ae_istore_n (lv' := [(1, ae_i r15), (0, ae_r (some (30, 0)))]) dX12_readAll_4 (by decide) rfl ?_
  refine ae_aload_n 1 dX12_readAll_5 rfl ?_
  obtain ⟨r19, s20, hc21, hF22⟩ := ae_bdI hF18
  refine ae_cV1 (q := (30, 0)) (As := []) dX12_readAll_6 ww_1586 vy_X12_isFine rfl rfl rfl rfl rfl (Nat.le_of_ble_eq_true rfl) (c_X12_isFine (d + (nn + 1) + 8) hc21) ?_
  refine ae_if_eq 39 dX12_readAll_9 rfl (fun hb23 => ?_) (fun hb23 => ?_)
  · have hF24 := ae_ifT hb23 hF22
    refine ae_pick (lv' := [(1, ae_i r15)]) [0] rfl ?_
    exact t_X12_readAll_39 d nn g hg r15 s20 hF24
  · have hF24 := ae_ifF hb23 hF22
    refine ae_aload_n 1 dX12_readAll_12 rfl ?_
    refine ae_bipush (60 : Int32) dX12_readAll_13 (by decide) ?_
    obtain ⟨r25, s26, hc27, hF28⟩ := ae_bdI hF24
    refine ae_cV1 (q := (30, 0)) (As := [ae_i (60 : Int32)]) dX12_readAll_15 ww_1598 vy_X12_isSign rfl rfl rfl rfl rfl (Nat.le_of_ble_eq_true rfl) (c_X12_isSign (d + (nn + 1) + 8) hc27) ?_
    refine ae_if_ne 41 dX12_readAll_18 rfl (fun hb29 => ?_) (fun hb29 => ?_)
    · have hF30 := ae_ifF hb29 hF28
      refine ae_pick (lv' := [(0, ae_r (some (30, 0))), (1, ae_i r15)]) [1, 0] rfl ?_
      exact t_X12_readAll_41 d nn g hg r15 s26 hF30
    · have hF30 := ae_ifT hb29 hF28
      refine ae_aload_n 1 dX12_readAll_21 rfl ?_
      refine ae_bipush (62 : Int32) dX12_readAll_22 (by decide) ?_
      obtain ⟨r31, s32, hc33, hF34⟩ := ae_bdI hF30
      refine ae_cV1 (q := (30, 0)) (As := [ae_i (62 : Int32)]) dX12_readAll_24 ww_1598 vy_X12_isSign rfl rfl rfl rfl rfl (Nat.le_of_ble_eq_true rfl) (c_X12_isSign (d + (nn + 1) + 8) hc33) ?_
      refine ae_if_ne 41 dX12_readAll_27 rfl (fun hb35 => ?_) (fun hb35 => ?_)
      · have hF36 := ae_ifF hb35 hF34
        refine ae_pick (lv' := [(0, ae_r (some (30, 0))), (1, ae_i r15)]) [1, 0] rfl ?_
        exact t_X12_readAll_41 d nn g hg r15 s32 hF36
      · have hF36 := ae_ifT hb35 hF34
        refine ae_aload_n 1 dX12_readAll_30 rfl ?_
        refine ae_bipush (126 : Int32) dX12_readAll_31 (by decide) ?_
        obtain ⟨r37, s38, hc39, hF40⟩ := ae_bdI hF36
        refine ae_cV1 (q := (30, 0)) (As := [ae_i (126 : Int32)]) dX12_readAll_33 ww_1598 vy_X12_isSign rfl rfl rfl rfl rfl (Nat.le_of_ble_eq_true rfl) (c_X12_isSign (d + (nn + 1) + 8) hc39) ?_
        refine ae_if_ne 41 dX12_readAll_36 rfl (fun hb41 => ?_) (fun hb41 => ?_)
        · have hF42 := ae_ifF hb41 hF40
          refine ae_pick (lv' := [(0, ae_r (some (30, 0))), (1, ae_i r15)]) [1, 0] rfl ?_
          exact t_X12_readAll_41 d nn g hg r15 s38 hF42
        · have hF42 := ae_ifT hb41 hF40
          refine ae_pick (lv' := [(1, ae_i r15)]) [0] rfl ?_
          exact t_X12_readAll_39 d nn g hg r15 s38 hF42
def F_X12_readSum_53 (g : GT_A) (v1 : Int32) (s0 : ae_S) : Option (Int32 × ae_S) := some (v1, s0)
set_option maxHeartbeats 4000000 in
set_option maxRecDepth 100000 in
theorem t_X12_readSum_53 {l : Launch} {G : ae_G} (d nn : Nat) (g : GT_A) (hg : GH_A l G (d + nn + 9) g) {rr : Int32} {ss : ae_S} (v1 : Int32) (s0 : ae_S) (hF : F_X12_readSum_53 g v1 s0 = some (rr, ss)) : ae_T l G (d + (nn + 1) + 9) mX12_readSum (ae_Po (some (ae_i rr)) ss) 53 [(1, ae_i v1)] [] s0 := by
  unfold F_X12_readSum_53 at hF
  refine ae_iload_n 0 dX12_readSum_53 rfl ?_
  obtain ⟨rfl, rfl⟩ := ae_retI hF
  exact ae_iret dX12_readSum_54 rfl rfl ⟨rfl, rfl⟩
def F_X12_readSum_30 (g : GT_A) (k5 : Int32 → ae_S → Option (Int32 × ae_S)) (v1 : Int32) (s0 : ae_S) : Option (Int32 × ae_S) := ae_lt (s0.1 30 0 31) (fun x1 => ae_bd (F_X12_next s0) (fun (r3 : Unit) s4 => ae_bd (g.2.2.1 s4) (fun (r7 : Int32) s8 => ae_bd (F_X12_node x1 v1 r7 s8) (fun (r11 : Int32) s12 => k5 r11 s12))))
set_option maxHeartbeats 4000000 in
set_option maxRecDepth 100000 in
theorem t_X12_readSum_30 {l : Launch} {G : ae_G} (d nn : Nat) (g : GT_A) (hg : GH_A l G (d + nn + 9) g) (k5 : Int32 → ae_S → Option (Int32 × ae_S)) {rr : Int32} {ss : ae_S} (hk5 : ∀ (v1 : Int32) (s0 : ae_S), k5 v1 s0 = some (rr, ss) → ae_T l G (d + (nn + 1) + 9) mX12_readSum (ae_Po (some (ae_i rr)) ss) 5 [(0, ae_r (some (30, 0))), (1, ae_i v1)] [] s0) (v1 : Int32) (s0 : ae_S) (hF : F_X12_readSum_30 g k5 v1 s0 = some (rr, ss)) : ae_T l G (d + (nn + 1) + 9) mX12_readSum (ae_Po (some (ae_i rr)) ss) 30 [(0, ae_r (some (30, 0))), (1, ae_i v1)] [] s0 := by
  unfold F_X12_readSum_30 at hF
  refine ae_aload_n 0 dX12_readSum_30 rfl ?_
  refine ae_getI (q := (30, 0)) dX12_readSum_31 fl_RX12_166 rfl rfl ?_
  obtain ⟨x1, hx1, hF2⟩ := ae_ltI hF
  refine ae_nmI hx1 ?_
  refine ae_istore_n (lv' := [(2, ae_i x1), (0, ae_r (some (30, 0))), (1, ae_i v1)]) dX12_readSum_34 (by decide) rfl ?_
  refine ae_aload_n 1 dX12_readSum_35 rfl ?_
  obtain ⟨r3, s4, hc5, hF6⟩ := ae_bdI hF2
  refine ae_cV0 (q := (30, 0)) (As := []) dX12_readSum_36 ww_1508 vy_X12_next rfl rfl rfl rfl rfl (Nat.le_of_ble_eq_true rfl) (c_X12_next (d + (nn + 1) + 7) hc5) ?_
  refine ae_aload_n 1 dX12_readSum_39 rfl ?_
  refine ae_iload_n 0 dX12_readSum_40 rfl ?_
  refine ae_iload_n 2 dX12_readSum_41 rfl ?_
  refine ae_aload_n 1 dX12_readSum_42 rfl ?_
  obtain ⟨r7, s8, hc9, hF10⟩ := ae_bdI hF6
  refine ae_cV1 (q := (30, 0)) (As := []) dX12_readSum_43 ww_1739 vy_X12_readTerm rfl rfl rfl rfl rfl (Nat.le_of_ble_eq_true rfl) (hg.2.2.1 _ _ _ hc9) ?_
  obtain ⟨r11, s12, hc13, hF14⟩ := ae_bdI hF10
  refine ae_cV1 (q := (30, 0)) (As := [ae_i x1, ae_i v1, ae_i r7]) dX12_readSum_46 ww_1751 vy_X12_node rfl rfl rfl rfl rfl (Nat.le_of_ble_eq_true rfl) (c_X12_node (d + (nn + 1) + 8) hc13) ?_
  refine ae_istore_n (lv' := [(1, ae_i r11), (2, ae_i x1), (0, ae_r (some (30, 0)))]) dX12_readSum_49 (by decide) rfl ?_
  refine ae_goto 5 dX12_readSum_50 rfl ?_
  refine ae_pick (lv' := [(0, ae_r (some (30, 0))), (1, ae_i r11)]) [2, 0] rfl ?_
  exact hk5 r11 s12 hF14
def F_X12_readSum_5 (g : GT_A) : Nat → Int32 → ae_S → Option (Int32 × ae_S)
  | 0, _, _ => none
  | n + 1, v1, s0 => ae_bd (F_X12_isFine s0) (fun (r15 : Int32) s16 => if r15 = 0 then (F_X12_readSum_53 g v1 s16) else (ae_bd (F_X12_isSign (43 : Int32) s16) (fun (r21 : Int32) s22 => if r21 = 0 then (ae_bd (F_X12_isSign (45 : Int32) s22) (fun (r27 : Int32) s28 => if r27 = 0 then (F_X12_readSum_53 g v1 s28) else (F_X12_readSum_30 g (F_X12_readSum_5 g n) v1 s28))) else (F_X12_readSum_30 g (F_X12_readSum_5 g n) v1 s22))))
set_option maxHeartbeats 4000000 in
set_option maxRecDepth 100000 in
theorem t_X12_readSum_5 {l : Launch} {G : ae_G} (d nn : Nat) (g : GT_A) (hg : GH_A l G (d + nn + 9) g) {rr : Int32} {ss : ae_S} : ∀ (n : Nat) (v1 : Int32) (s0 : ae_S), F_X12_readSum_5 g n v1 s0 = some (rr, ss) → ae_T l G (d + (nn + 1) + 9) mX12_readSum (ae_Po (some (ae_i rr)) ss) 5 [(0, ae_r (some (30, 0))), (1, ae_i v1)] [] s0 := by
  intro n
  induction n with
  | zero =>
    intro v1 s0 hF
    exact absurd (show (none : Option (Int32 × ae_S)) = some (rr, ss) from hF) (by simp)
  | succ n ih =>
    intro v1 s0 hF
    unfold F_X12_readSum_5 at hF
    refine ae_aload_n 0 dX12_readSum_5 rfl ?_
    obtain ⟨r15, s16, hc17, hF18⟩ := ae_bdI hF
    refine ae_cV1 (q := (30, 0)) (As := []) dX12_readSum_6 ww_1586 vy_X12_isFine rfl rfl rfl rfl rfl (Nat.le_of_ble_eq_true rfl) (c_X12_isFine (d + (nn + 1) + 8) hc17) ?_
    refine ae_if_eq 53 dX12_readSum_9 rfl (fun hb19 => ?_) (fun hb19 => ?_)
    · have hF20 := ae_ifT hb19 hF18
      refine ae_pick (lv' := [(1, ae_i v1)]) [1] rfl ?_
      exact t_X12_readSum_53 d nn g hg v1 s16 hF20
    · have hF20 := ae_ifF hb19 hF18
      refine ae_aload_n 0 dX12_readSum_12 rfl ?_
      refine ae_bipush (43 : Int32) dX12_readSum_13 (by decide) ?_
      obtain ⟨r21, s22, hc23, hF24⟩ := ae_bdI hF20
      refine ae_cV1 (q := (30, 0)) (As := [ae_i (43 : Int32)]) dX12_readSum_15 ww_1598 vy_X12_isSign rfl rfl rfl rfl rfl (Nat.le_of_ble_eq_true rfl) (c_X12_isSign (d + (nn + 1) + 8) hc23) ?_
      refine ae_if_ne 30 dX12_readSum_18 rfl (fun hb25 => ?_) (fun hb25 => ?_)
      · have hF26 := ae_ifF hb25 hF24
        refine ae_pick (lv' := [(0, ae_r (some (30, 0))), (1, ae_i v1)]) [0, 1] rfl ?_
        exact t_X12_readSum_30 d nn g hg (F_X12_readSum_5 g n) ih v1 s22 hF26
      · have hF26 := ae_ifT hb25 hF24
        refine ae_aload_n 0 dX12_readSum_21 rfl ?_
        refine ae_bipush (45 : Int32) dX12_readSum_22 (by decide) ?_
        obtain ⟨r27, s28, hc29, hF30⟩ := ae_bdI hF26
        refine ae_cV1 (q := (30, 0)) (As := [ae_i (45 : Int32)]) dX12_readSum_24 ww_1598 vy_X12_isSign rfl rfl rfl rfl rfl (Nat.le_of_ble_eq_true rfl) (c_X12_isSign (d + (nn + 1) + 8) hc29) ?_
        refine ae_if_eq 53 dX12_readSum_27 rfl (fun hb31 => ?_) (fun hb31 => ?_)
        · have hF32 := ae_ifT hb31 hF30
          refine ae_pick (lv' := [(1, ae_i v1)]) [1] rfl ?_
          exact t_X12_readSum_53 d nn g hg v1 s28 hF32
        · have hF32 := ae_ifF hb31 hF30
          refine ae_pick (lv' := [(0, ae_r (some (30, 0))), (1, ae_i v1)]) [0, 1] rfl ?_
          exact t_X12_readSum_30 d nn g hg (F_X12_readSum_5 g n) ih v1 s28 hF32
def FZ_X12_readSum (g : GT_A) (s0 : ae_S) : Option (Int32 × ae_S) := ae_bd (g.2.2.1 s0) (fun (r33 : Int32) s34 => F_X12_readSum_5 g ae_fu r33 s34)
set_option maxHeartbeats 4000000 in
set_option maxRecDepth 100000 in
theorem cZ_X12_readSum {l : Launch} {G : ae_G} (d nn : Nat) (g : GT_A) (hg : GH_A l G (d + nn + 9) g) {s0 ss : ae_S} {rr : Int32} (hF : FZ_X12_readSum g s0 = some (rr, ss)) : ae_Met l G (d + (nn + 1) + 9) yX12_readSum mX12_readSum [ae_r (some (30, 0))] s0 (ae_Po (some (ae_i rr)) ss) := by
  refine ae_enter (by decide) rfl (Nat.le_of_ble_eq_true rfl) ?_
  show ae_T l G (d + (nn + 1) + 9) mX12_readSum (ae_Po (some (ae_i rr)) ss) 0 [(0, ae_r (some (30, 0)))] [] s0
  unfold FZ_X12_readSum at hF
  refine ae_aload_n 0 dX12_readSum_0 rfl ?_
  obtain ⟨r33, s34, hc35, hF36⟩ := ae_bdI hF
  refine ae_cV1 (q := (30, 0)) (As := []) dX12_readSum_1 ww_1739 vy_X12_readTerm rfl rfl rfl rfl rfl (Nat.le_of_ble_eq_true rfl) (hg.2.2.1 _ _ _ hc35) ?_
  refine ae_istore_n (lv' := [(1, ae_i r33), (0, ae_r (some (30, 0)))]) dX12_readSum_4 (by decide) rfl ?_
  refine ae_pick (lv' := [(0, ae_r (some (30, 0))), (1, ae_i r33)]) [1, 0] rfl ?_
  exact t_X12_readSum_5 d nn g hg ae_fu r33 s34 hF36
def F_X12_readTerm_62 (g : GT_A) (v1 : Int32) (s0 : ae_S) : Option (Int32 × ae_S) := some (v1, s0)
set_option maxHeartbeats 4000000 in
set_option maxRecDepth 100000 in
theorem t_X12_readTerm_62 {l : Launch} {G : ae_G} (d nn : Nat) (g : GT_A) (hg : GH_A l G (d + nn + 9) g) {rr : Int32} {ss : ae_S} (v1 : Int32) (s0 : ae_S) (hF : F_X12_readTerm_62 g v1 s0 = some (rr, ss)) : ae_T l G (d + (nn + 1) + 9) mX12_readTerm (ae_Po (some (ae_i rr)) ss) 62 [(1, ae_i v1)] [] s0 := by
  unfold F_X12_readTerm_62 at hF
  refine ae_iload_n 0 dX12_readTerm_62 rfl ?_
  obtain ⟨rfl, rfl⟩ := ae_retI hF
  exact ae_iret dX12_readTerm_63 rfl rfl ⟨rfl, rfl⟩
def F_X12_readTerm_39 (g : GT_A) (k5 : Int32 → ae_S → Option (Int32 × ae_S)) (v1 : Int32) (s0 : ae_S) : Option (Int32 × ae_S) := ae_lt (s0.1 30 0 31) (fun x1 => ae_bd (F_X12_next s0) (fun (r3 : Unit) s4 => ae_bd (g.2.2.2.1 s4) (fun (r7 : Int32) s8 => ae_bd (F_X12_node x1 v1 r7 s8) (fun (r11 : Int32) s12 => k5 r11 s12))))
set_option maxHeartbeats 4000000 in
set_option maxRecDepth 100000 in
theorem t_X12_readTerm_39 {l : Launch} {G : ae_G} (d nn : Nat) (g : GT_A) (hg : GH_A l G (d + nn + 9) g) (k5 : Int32 → ae_S → Option (Int32 × ae_S)) {rr : Int32} {ss : ae_S} (hk5 : ∀ (v1 : Int32) (s0 : ae_S), k5 v1 s0 = some (rr, ss) → ae_T l G (d + (nn + 1) + 9) mX12_readTerm (ae_Po (some (ae_i rr)) ss) 5 [(0, ae_r (some (30, 0))), (1, ae_i v1)] [] s0) (v1 : Int32) (s0 : ae_S) (hF : F_X12_readTerm_39 g k5 v1 s0 = some (rr, ss)) : ae_T l G (d + (nn + 1) + 9) mX12_readTerm (ae_Po (some (ae_i rr)) ss) 39 [(0, ae_r (some (30, 0))), (1, ae_i v1)] [] s0 := by
  unfold F_X12_readTerm_39 at hF
  refine ae_aload_n 0 dX12_readTerm_39 rfl ?_
  refine ae_getI (q := (30, 0)) dX12_readTerm_40 fl_RX12_166 rfl rfl ?_
  obtain ⟨x1, hx1, hF2⟩ := ae_ltI hF
  refine ae_nmI hx1 ?_
  refine ae_istore_n (lv' := [(2, ae_i x1), (0, ae_r (some (30, 0))), (1, ae_i v1)]) dX12_readTerm_43 (by decide) rfl ?_
  refine ae_aload_n 1 dX12_readTerm_44 rfl ?_
  obtain ⟨r3, s4, hc5, hF6⟩ := ae_bdI hF2
  refine ae_cV0 (q := (30, 0)) (As := []) dX12_readTerm_45 ww_1508 vy_X12_next rfl rfl rfl rfl rfl (Nat.le_of_ble_eq_true rfl) (c_X12_next (d + (nn + 1) + 7) hc5) ?_
  refine ae_aload_n 1 dX12_readTerm_48 rfl ?_
  refine ae_iload_n 0 dX12_readTerm_49 rfl ?_
  refine ae_iload_n 2 dX12_readTerm_50 rfl ?_
  refine ae_aload_n 1 dX12_readTerm_51 rfl ?_
  obtain ⟨r7, s8, hc9, hF10⟩ := ae_bdI hF6
  refine ae_cV1 (q := (30, 0)) (As := []) dX12_readTerm_52 ww_1743 vy_X12_readFactor rfl rfl rfl rfl rfl (Nat.le_of_ble_eq_true rfl) (hg.2.2.2.1 _ _ _ hc9) ?_
  obtain ⟨r11, s12, hc13, hF14⟩ := ae_bdI hF10
  refine ae_cV1 (q := (30, 0)) (As := [ae_i x1, ae_i v1, ae_i r7]) dX12_readTerm_55 ww_1751 vy_X12_node rfl rfl rfl rfl rfl (Nat.le_of_ble_eq_true rfl) (c_X12_node (d + (nn + 1) + 8) hc13) ?_
  refine ae_istore_n (lv' := [(1, ae_i r11), (2, ae_i x1), (0, ae_r (some (30, 0)))]) dX12_readTerm_58 (by decide) rfl ?_
  refine ae_goto 5 dX12_readTerm_59 rfl ?_
  refine ae_pick (lv' := [(0, ae_r (some (30, 0))), (1, ae_i r11)]) [2, 0] rfl ?_
  exact hk5 r11 s12 hF14
def F_X12_readTerm_5 (g : GT_A) : Nat → Int32 → ae_S → Option (Int32 × ae_S)
  | 0, _, _ => none
  | n + 1, v1, s0 => ae_bd (F_X12_isFine s0) (fun (r15 : Int32) s16 => if r15 = 0 then (F_X12_readTerm_62 g v1 s16) else (ae_bd (F_X12_isSign (42 : Int32) s16) (fun (r21 : Int32) s22 => if r21 = 0 then (ae_bd (F_X12_isSign (47 : Int32) s22) (fun (r27 : Int32) s28 => if r27 = 0 then (ae_bd (F_X12_isSign (37 : Int32) s28) (fun (r33 : Int32) s34 => if r33 = 0 then (F_X12_readTerm_62 g v1 s34) else (F_X12_readTerm_39 g (F_X12_readTerm_5 g n) v1 s34))) else (F_X12_readTerm_39 g (F_X12_readTerm_5 g n) v1 s28))) else (F_X12_readTerm_39 g (F_X12_readTerm_5 g n) v1 s22))))
set_option maxHeartbeats 4000000 in
set_option maxRecDepth 100000 in
theorem t_X12_readTerm_5 {l : Launch} {G : ae_G} (d nn : Nat) (g : GT_A) (hg : GH_A l G (d + nn + 9) g) {rr : Int32} {ss : ae_S} : ∀ (n : Nat) (v1 : Int32) (s0 : ae_S), F_X12_readTerm_5 g n v1 s0 = some (rr, ss) → ae_T l G (d + (nn + 1) + 9) mX12_readTerm (ae_Po (some (ae_i rr)) ss) 5 [(0, ae_r (some (30, 0))), (1, ae_i v1)] [] s0 := by
  intro n
  induction n with
  | zero =>
    intro v1 s0 hF
    exact absurd (show (none : Option (Int32 × ae_S)) = some (rr, ss) from hF) (by simp)
  | succ n ih =>
    intro v1 s0 hF
    unfold F_X12_readTerm_5 at hF
    refine ae_aload_n 0 dX12_readTerm_5 rfl ?_
    obtain ⟨r15, s16, hc17, hF18⟩ := ae_bdI hF
    refine ae_cV1 (q := (30, 0)) (As := []) dX12_readTerm_6 ww_1586 vy_X12_isFine rfl rfl rfl rfl rfl (Nat.le_of_ble_eq_true rfl) (c_X12_isFine (d + (nn + 1) + 8) hc17) ?_
    refine ae_if_eq 62 dX12_readTerm_9 rfl (fun hb19 => ?_) (fun hb19 => ?_)
    · have hF20 := ae_ifT hb19 hF18
      refine ae_pick (lv' := [(1, ae_i v1)]) [1] rfl ?_
      exact t_X12_readTerm_62 d nn g hg v1 s16 hF20
    · have hF20 := ae_ifF hb19 hF18
      refine ae_aload_n 0 dX12_readTerm_12 rfl ?_
      refine ae_bipush (42 : Int32) dX12_readTerm_13 (by decide) ?_
      obtain ⟨r21, s22, hc23, hF24⟩ := ae_bdI hF20
      refine ae_cV1 (q := (30, 0)) (As := [ae_i (42 : Int32)]) dX12_readTerm_15 ww_1598 vy_X12_isSign rfl rfl rfl rfl rfl (Nat.le_of_ble_eq_true rfl) (c_X12_isSign (d + (nn + 1) + 8) hc23) ?_
      refine ae_if_ne 39 dX12_readTerm_18 rfl (fun hb25 => ?_) (fun hb25 => ?_)
      · have hF26 := ae_ifF hb25 hF24
        refine ae_pick (lv' := [(0, ae_r (some (30, 0))), (1, ae_i v1)]) [0, 1] rfl ?_
        exact t_X12_readTerm_39 d nn g hg (F_X12_readTerm_5 g n) ih v1 s22 hF26
      · have hF26 := ae_ifT hb25 hF24
        refine ae_aload_n 0 dX12_readTerm_21 rfl ?_
        refine ae_bipush (47 : Int32) dX12_readTerm_22 (by decide) ?_
        obtain ⟨r27, s28, hc29, hF30⟩ := ae_bdI hF26
        refine ae_cV1 (q := (30, 0)) (As := [ae_i (47 : Int32)]) dX12_readTerm_24 ww_1598 vy_X12_isSign rfl rfl rfl rfl rfl (Nat.le_of_ble_eq_true rfl) (c_X12_isSign (d + (nn + 1) + 8) hc29) ?_
        refine ae_if_ne 39 dX12_readTerm_27 rfl (fun hb31 => ?_) (fun hb31 => ?_)
        · have hF32 := ae_ifF hb31 hF30
          refine ae_pick (lv' := [(0, ae_r (some (30, 0))), (1, ae_i v1)]) [0, 1] rfl ?_
          exact t_X12_readTerm_39 d nn g hg (F_X12_readTerm_5 g n) ih v1 s28 hF32
        · have hF32 := ae_ifT hb31 hF30
          refine ae_aload_n 0 dX12_readTerm_30 rfl ?_
          refine ae_bipush (37 : Int32) dX12_readTerm_31 (by decide) ?_
          obtain ⟨r33, s34, hc35, hF36⟩ := ae_bdI hF32
          refine ae_cV1 (q := (30, 0)) (As := [ae_i (37 : Int32)]) dX12_readTerm_33 ww_1598 vy_X12_isSign rfl rfl rfl rfl rfl (Nat.le_of_ble_eq_true rfl) (c_X12_isSign (d + (nn + 1) + 8) hc35) ?_
          refine ae_if_eq 62 dX12_readTerm_36 rfl (fun hb37 => ?_) (fun hb37 => ?_)
          · have hF38 := ae_ifT hb37 hF36
            refine ae_pick (lv' := [(1, ae_i v1)]) [1] rfl ?_
            exact t_X12_readTerm_62 d nn g hg v1 s34 hF38
          · have hF38 := ae_ifF hb37 hF36
            refine ae_pick (lv' := [(0, ae_r (some (30, 0))), (1, ae_i v1)]) [0, 1] rfl ?_
            exact t_X12_readTerm_39 d nn g hg (F_X12_readTerm_5 g n) ih v1 s34 hF38
def FZ_X12_readTerm (g : GT_A) (s0 : ae_S) : Option (Int32 × ae_S) := ae_bd (g.2.2.2.1 s0) (fun (r39 : Int32) s40 => F_X12_readTerm_5 g ae_fu r39 s40)
set_option maxHeartbeats 4000000 in
set_option maxRecDepth 100000 in
theorem cZ_X12_readTerm {l : Launch} {G : ae_G} (d nn : Nat) (g : GT_A) (hg : GH_A l G (d + nn + 9) g) {s0 ss : ae_S} {rr : Int32} (hF : FZ_X12_readTerm g s0 = some (rr, ss)) : ae_Met l G (d + (nn + 1) + 9) yX12_readTerm mX12_readTerm [ae_r (some (30, 0))] s0 (ae_Po (some (ae_i rr)) ss) := by
  refine ae_enter (by decide) rfl (Nat.le_of_ble_eq_true rfl) ?_
  show ae_T l G (d + (nn + 1) + 9) mX12_readTerm (ae_Po (some (ae_i rr)) ss) 0 [(0, ae_r (some (30, 0)))] [] s0
  unfold FZ_X12_readTerm at hF
  refine ae_aload_n 0 dX12_readTerm_0 rfl ?_
  obtain ⟨r39, s40, hc41, hF42⟩ := ae_bdI hF
  refine ae_cV1 (q := (30, 0)) (As := []) dX12_readTerm_1 ww_1743 vy_X12_readFactor rfl rfl rfl rfl rfl (Nat.le_of_ble_eq_true rfl) (hg.2.2.2.1 _ _ _ hc41) ?_
  refine ae_istore_n (lv' := [(1, ae_i r39), (0, ae_r (some (30, 0)))]) dX12_readTerm_4 (by decide) rfl ?_
  refine ae_pick (lv' := [(0, ae_r (some (30, 0))), (1, ae_i r39)]) [1, 0] rfl ?_
  exact t_X12_readTerm_5 d nn g hg ae_fu r39 s40 hF42
def F_X12_readFactor_111 (g : GT_A) (v3 : Int32) (s0 : ae_S) : Option (Int32 × ae_S) := some (v3, s0)
set_option maxHeartbeats 4000000 in
set_option maxRecDepth 100000 in
theorem t_X12_readFactor_111 {l : Launch} {G : ae_G} (d nn : Nat) (g : GT_A) (hg : GH_A l G (d + nn + 9) g) {rr : Int32} {ss : ae_S} (v3 : Int32) (s0 : ae_S) (hF : F_X12_readFactor_111 g v3 s0 = some (rr, ss)) : ae_T l G (d + (nn + 1) + 9) mX12_readFactor (ae_Po (some (ae_i rr)) ss) 111 [(3, ae_i v3)] [] s0 := by
  unfold F_X12_readFactor_111 at hF
  refine ae_iload_n 0 dX12_readFactor_111 rfl ?_
  obtain ⟨rfl, rfl⟩ := ae_retI hF
  exact ae_iret dX12_readFactor_112 rfl rfl ⟨rfl, rfl⟩
def F_X12_readFactor_128 (g : GT_A) (t0 : Int32) (s0 : ae_S) : Option (Int32 × ae_S) := some (t0, s0)
set_option maxHeartbeats 4000000 in
set_option maxRecDepth 100000 in
theorem t_X12_readFactor_128 {l : Launch} {G : ae_G} (d nn : Nat) (g : GT_A) (hg : GH_A l G (d + nn + 9) g) {rr : Int32} {ss : ae_S} (t0 : Int32) (s0 : ae_S) (hF : F_X12_readFactor_128 g t0 s0 = some (rr, ss)) : ae_T l G (d + (nn + 1) + 9) mX12_readFactor (ae_Po (some (ae_i rr)) ss) 128 [] [ae_i t0] s0 := by
  unfold F_X12_readFactor_128 at hF
  obtain ⟨rfl, rfl⟩ := ae_retI hF
  exact ae_iret dX12_readFactor_128 rfl rfl ⟨rfl, rfl⟩
def F_X12_readFactor_100 (g : GT_A) (v1 : Int32) (v2 : Int32) (v3 : Int32) (s0 : ae_S) : Option (Int32 × ae_S) := ae_bd (F_X12_isFine s0) (fun (r1 : Int32) s2 => if r1 = 0 then (F_X12_readFactor_111 g v3 s2) else (if v2 = 0 then (F_X12_readFactor_111 g v3 s2) else (if v1 = 0 then (F_X12_readFactor_128 g v3 s2) else (ae_bd (F_X12_node (3 : Int32) v3 (-1 : Int32) s2) (fun (r11 : Int32) s12 => F_X12_readFactor_128 g r11 s12)))))
set_option maxHeartbeats 4000000 in
set_option maxRecDepth 100000 in
theorem t_X12_readFactor_100 {l : Launch} {G : ae_G} (d nn : Nat) (g : GT_A) (hg : GH_A l G (d + nn + 9) g) {rr : Int32} {ss : ae_S} (v1 : Int32) (v2 : Int32) (v3 : Int32) (s0 : ae_S) (hF : F_X12_readFactor_100 g v1 v2 v3 s0 = some (rr, ss)) : ae_T l G (d + (nn + 1) + 9) mX12_readFactor (ae_Po (some (ae_i rr)) ss) 100 [(0, ae_r (some (30, 0))), (1, ae_i v1), (2, ae_i v2), (3, ae_i v3)] [] s0 := by
  unfold F_X12_readFactor_100 at hF
  refine ae_aload_n 0 dX12_readFactor_100 rfl ?_
  obtain ⟨r1, s2, hc3, hF4⟩ := ae_bdI hF
  refine ae_cV1 (q := (30, 0)) (As := []) dX12_readFactor_101 ww_1586 vy_X12_isFine rfl rfl rfl rfl rfl (Nat.le_of_ble_eq_true rfl) (c_X12_isFine (d + (nn + 1) + 8) hc3) ?_
  refine ae_if_eq 111 dX12_readFactor_104 rfl (fun hb5 => ?_) (fun hb5 => ?_)
  · have hF6 := ae_ifT hb5 hF4
    refine ae_pick (lv' := [(3, ae_i v3)]) [3] rfl ?_
    exact t_X12_readFactor_111 d nn g hg v3 s2 hF6
  · have hF6 := ae_ifF hb5 hF4
    refine ae_iload_n 2 dX12_readFactor_107 rfl ?_
    refine ae_if_ne 113 dX12_readFactor_108 rfl (fun hb7 => ?_) (fun hb7 => ?_)
    · have hF8 := ae_ifF hb7 hF6
      refine ae_iload_n 1 dX12_readFactor_113 rfl ?_
      refine ae_if_eq 127 dX12_readFactor_114 rfl (fun hb9 => ?_) (fun hb9 => ?_)
      · have hF10 := ae_ifT hb9 hF8
        refine ae_iload_n 3 dX12_readFactor_127 rfl ?_
        refine ae_pick (lv' := []) [] rfl ?_
        exact t_X12_readFactor_128 d nn g hg v3 s2 hF10
      · have hF10 := ae_ifF hb9 hF8
        refine ae_aload_n 0 dX12_readFactor_117 rfl ?_
        refine ae_iconst (3 : Int32) dX12_readFactor_118 (by decide) ?_
        refine ae_iload_n 3 dX12_readFactor_119 rfl ?_
        refine ae_iconst (-1 : Int32) dX12_readFactor_120 (by decide) ?_
        obtain ⟨r11, s12, hc13, hF14⟩ := ae_bdI hF10
        refine ae_cV1 (q := (30, 0)) (As := [ae_i (3 : Int32), ae_i v3, ae_i (-1 : Int32)]) dX12_readFactor_121 ww_1751 vy_X12_node rfl rfl rfl rfl rfl (Nat.le_of_ble_eq_true rfl) (c_X12_node (d + (nn + 1) + 8) hc13) ?_
        refine ae_goto 128 dX12_readFactor_124 rfl ?_
        refine ae_pick (lv' := []) [] rfl ?_
        exact t_X12_readFactor_128 d nn g hg r11 s12 hF14
    · have hF8 := ae_ifT hb7 hF6
      refine ae_pick (lv' := [(3, ae_i v3)]) [3] rfl ?_
      exact t_X12_readFactor_111 d nn g hg v3 s2 hF8
def F_X12_readFactor_22 (g : GT_A) (k4 : Int32 → Int32 → ae_S → Option (Int32 × ae_S)) (t0 : Int32) (s0 : ae_S) : Option (Int32 × ae_S) := ae_bd (F_X12_next s0) (fun (r15 : Unit) s16 => k4 t0 (1 : Int32) s16)
set_option maxHeartbeats 4000000 in
set_option maxRecDepth 100000 in
theorem t_X12_readFactor_22 {l : Launch} {G : ae_G} (d nn : Nat) (g : GT_A) (hg : GH_A l G (d + nn + 9) g) (k4 : Int32 → Int32 → ae_S → Option (Int32 × ae_S)) {rr : Int32} {ss : ae_S} (hk4 : ∀ (v1 : Int32) (v2 : Int32) (s0 : ae_S), k4 v1 v2 s0 = some (rr, ss) → ae_T l G (d + (nn + 1) + 9) mX12_readFactor (ae_Po (some (ae_i rr)) ss) 4 [(0, ae_r (some (30, 0))), (1, ae_i v1), (2, ae_i v2)] [] s0) (t0 : Int32) (s0 : ae_S) (hF : F_X12_readFactor_22 g k4 t0 s0 = some (rr, ss)) : ae_T l G (d + (nn + 1) + 9) mX12_readFactor (ae_Po (some (ae_i rr)) ss) 22 [(0, ae_r (some (30, 0)))] [ae_i t0] s0 := by
  unfold F_X12_readFactor_22 at hF
  refine ae_istore_n (lv' := [(1, ae_i t0), (0, ae_r (some (30, 0)))]) dX12_readFactor_22 (by decide) rfl ?_
  refine ae_iconst (1 : Int32) dX12_readFactor_23 (by decide) ?_
  refine ae_istore_n (lv' := [(2, ae_i (1 : Int32)), (1, ae_i t0), (0, ae_r (some (30, 0)))]) dX12_readFactor_24 (by decide) rfl ?_
  refine ae_aload_n 2 dX12_readFactor_25 rfl ?_
  obtain ⟨r15, s16, hc17, hF18⟩ := ae_bdI hF
  refine ae_cV0 (q := (30, 0)) (As := []) dX12_readFactor_26 ww_1508 vy_X12_next rfl rfl rfl rfl rfl (Nat.le_of_ble_eq_true rfl) (c_X12_next (d + (nn + 1) + 7) hc17) ?_
  refine ae_goto 4 dX12_readFactor_29 rfl ?_
  refine ae_pick (lv' := [(0, ae_r (some (30, 0))), (1, ae_i t0), (2, ae_i (1 : Int32))]) [2, 1, 0] rfl ?_
  exact hk4 t0 (1 : Int32) s16 hF18
def F_X12_readFactor_4 (g : GT_A) : Nat → Int32 → Int32 → ae_S → Option (Int32 × ae_S)
  | 0, _, _, _ => none
  | n + 1, v1, v2, s0 => ae_bd (F_X12_isSign (45 : Int32) s0) (fun (r19 : Int32) s20 => if r19 = 0 then (if (s20.1 30 0 25) = (2 : Int32) then (ae_bd (F_X12_readNumber s20) (fun (r55 : Int32) s56 => F_X12_readFactor_100 g v1 v2 r55 s56)) else (ae_bd (F_X12_isSign (40 : Int32) s20) (fun (r27 : Int32) s28 => if r27 = 0 then (ae_bd (g.2.2.2.2 s28) (fun (r33 : Int32) s34 => F_X12_readFactor_100 g v1 v2 r33 s34)) else (ae_bd (F_X12_opens s28) (fun (r37 : Int32) s38 => if r37 = 0 then (some ((-1 : Int32), s38)) else (ae_bd (g.1 s38) (fun (r43 : Int32) s44 => ae_bd (F_X12_takes (41 : Int32) s44) (fun (r47 : Int32) s48 => if r47 = 0 then (some ((-1 : Int32), s48)) else (ae_lt (ae_wI s48 30 0 39 ((s48.1 30 0 39) - (1 : Int32))) (fun s53 => F_X12_readFactor_100 g v1 v2 r43 s53)))))))))) else (if v1 = 0 then (F_X12_readFactor_22 g (F_X12_readFactor_4 g n) (1 : Int32) s20) else (F_X12_readFactor_22 g (F_X12_readFactor_4 g n) (0 : Int32) s20)))
set_option maxHeartbeats 4000000 in
set_option maxRecDepth 100000 in
theorem t_X12_readFactor_4 {l : Launch} {G : ae_G} (d nn : Nat) (g : GT_A) (hg : GH_A l G (d + nn + 9) g) {rr : Int32} {ss : ae_S} : ∀ (n : Nat) (v1 : Int32) (v2 : Int32) (s0 : ae_S), F_X12_readFactor_4 g n v1 v2 s0 = some (rr, ss) → ae_T l G (d + (nn + 1) + 9) mX12_readFactor (ae_Po (some (ae_i rr)) ss) 4 [(0, ae_r (some (30, 0))), (1, ae_i v1), (2, ae_i v2)] [] s0 := by
  intro n
  induction n with
  | zero =>
    intro v1 v2 s0 hF
    exact absurd (show (none : Option (Int32 × ae_S)) = some (rr, ss) from hF) (by simp)
  | succ n ih =>
    intro v1 v2 s0 hF
    unfold F_X12_readFactor_4 at hF
    refine ae_aload_n 0 dX12_readFactor_4 rfl ?_
    refine ae_bipush (45 : Int32) dX12_readFactor_5 (by decide) ?_
    obtain ⟨r19, s20, hc21, hF22⟩ := ae_bdI hF
    refine ae_cV1 (q := (30, 0)) (As := [ae_i (45 : Int32)]) dX12_readFactor_7 ww_1598 vy_X12_isSign rfl rfl rfl rfl rfl (Nat.le_of_ble_eq_true rfl) (c_X12_isSign (d + (nn + 1) + 8) hc21) ?_
    refine ae_if_eq 32 dX12_readFactor_10 rfl (fun hb23 => ?_) (fun hb23 => ?_)
    · have hF24 := ae_ifT hb23 hF22
      refine ae_aload_n 0 dX12_readFactor_32 rfl ?_
      refine ae_getI (q := (30, 0)) dX12_readFactor_33 fl_RX12_143 rfl rfl ?_
      refine ae_iconst (2 : Int32) dX12_readFactor_36 (by decide) ?_
      refine ae_icmp_ne 48 dX12_readFactor_37 rfl (fun hb25 => ?_) (fun hb25 => ?_)
      · have hF26 := ae_ifF hb25 hF24
        refine ae_aload_n 0 dX12_readFactor_48 rfl ?_
        refine ae_bipush (40 : Int32) dX12_readFactor_49 (by decide) ?_
        obtain ⟨r27, s28, hc29, hF30⟩ := ae_bdI hF26
        refine ae_cV1 (q := (30, 0)) (As := [ae_i (40 : Int32)]) dX12_readFactor_51 ww_1598 vy_X12_isSign rfl rfl rfl rfl rfl (Nat.le_of_ble_eq_true rfl) (c_X12_isSign (d + (nn + 1) + 8) hc29) ?_
        refine ae_if_eq 95 dX12_readFactor_54 rfl (fun hb31 => ?_) (fun hb31 => ?_)
        · have hF32 := ae_ifT hb31 hF30
          refine ae_aload_n 0 dX12_readFactor_95 rfl ?_
          obtain ⟨r33, s34, hc35, hF36⟩ := ae_bdI hF32
          refine ae_cV1 (q := (30, 0)) (As := []) dX12_readFactor_96 ww_1760 vy_X12_readPlace rfl rfl rfl rfl rfl (Nat.le_of_ble_eq_true rfl) (hg.2.2.2.2 _ _ _ hc35) ?_
          refine ae_istore_n (lv' := [(3, ae_i r33), (0, ae_r (some (30, 0))), (1, ae_i v1), (2, ae_i v2)]) dX12_readFactor_99 (by decide) rfl ?_
          refine ae_pick (lv' := [(0, ae_r (some (30, 0))), (1, ae_i v1), (2, ae_i v2), (3, ae_i r33)]) [1, 2, 3, 0] rfl ?_
          exact t_X12_readFactor_100 d nn g hg v1 v2 r33 s34 hF36
        · have hF32 := ae_ifF hb31 hF30
          refine ae_aload_n 0 dX12_readFactor_57 rfl ?_
          obtain ⟨r37, s38, hc39, hF40⟩ := ae_bdI hF32
          refine ae_cV1 (q := (30, 0)) (As := []) dX12_readFactor_58 ww_1756 vy_X12_opens rfl rfl rfl rfl rfl (Nat.le_of_ble_eq_true rfl) (c_X12_opens (d + (nn + 1) + 6) hc39) ?_
          refine ae_if_ne 66 dX12_readFactor_61 rfl (fun hb41 => ?_) (fun hb41 => ?_)
          · have hF42 := ae_ifF hb41 hF40
            refine ae_aload_n 0 dX12_readFactor_66 rfl ?_
            obtain ⟨r43, s44, hc45, hF46⟩ := ae_bdI hF42
            refine ae_cV1 (q := (30, 0)) (As := []) dX12_readFactor_67 ww_1731 vy_X12_readAll rfl rfl rfl rfl rfl (Nat.le_of_ble_eq_true rfl) (hg.1 _ _ _ hc45) ?_
            refine ae_istore_n (lv' := [(3, ae_i r43), (0, ae_r (some (30, 0))), (1, ae_i v1), (2, ae_i v2)]) dX12_readFactor_70 (by decide) rfl ?_
            refine ae_aload_n 1 dX12_readFactor_71 rfl ?_
            refine ae_bipush (41 : Int32) dX12_readFactor_72 (by decide) ?_
            obtain ⟨r47, s48, hc49, hF50⟩ := ae_bdI hF46
            refine ae_cV1 (q := (30, 0)) (As := [ae_i (41 : Int32)]) dX12_readFactor_74 ww_1610 vy_X12_takes rfl rfl rfl rfl rfl (Nat.le_of_ble_eq_true rfl) (c_X12_takes (d + (nn + 1) + 6) hc49) ?_
            refine ae_if_ne 82 dX12_readFactor_77 rfl (fun hb51 => ?_) (fun hb51 => ?_)
            · have hF52 := ae_ifF hb51 hF50
              refine ae_aload_n 1 dX12_readFactor_82 rfl ?_
              refine ae_dup dX12_readFactor_83 rfl ?_
              refine ae_getI (q := (30, 0)) dX12_readFactor_84 fl_RX12_366 rfl rfl ?_
              refine ae_iconst (1 : Int32) dX12_readFactor_87 (by decide) ?_
              refine ae_isub dX12_readFactor_88 ?_
              obtain ⟨s53, hs53, hF54⟩ := ae_ltI hF52
              refine ae_putI (q := (30, 0)) dX12_readFactor_89 fl_RX12_366 rfl rfl (ae_nmS hs53 ?_)
              refine ae_goto 100 dX12_readFactor_92 rfl ?_
              refine ae_pick (lv' := [(0, ae_r (some (30, 0))), (1, ae_i v1), (2, ae_i v2), (3, ae_i r43)]) [1, 2, 3, 0] rfl ?_
              exact t_X12_readFactor_100 d nn g hg v1 v2 r43 s53 hF54
            · have hF52 := ae_ifT hb51 hF50
              refine ae_iconst (-1 : Int32) dX12_readFactor_80 (by decide) ?_
              obtain ⟨rfl, rfl⟩ := ae_retI hF52
              exact ae_iret dX12_readFactor_81 rfl rfl ⟨rfl, rfl⟩
          · have hF42 := ae_ifT hb41 hF40
            refine ae_iconst (-1 : Int32) dX12_readFactor_64 (by decide) ?_
            obtain ⟨rfl, rfl⟩ := ae_retI hF42
            exact ae_iret dX12_readFactor_65 rfl rfl ⟨rfl, rfl⟩
      · have hF26 := ae_ifT hb25 hF24
        refine ae_aload_n 0 dX12_readFactor_40 rfl ?_
        obtain ⟨r55, s56, hc57, hF58⟩ := ae_bdI hF26
        refine ae_cV1 (q := (30, 0)) (As := []) dX12_readFactor_41 ww_1747 vy_X12_readNumber rfl rfl rfl rfl rfl (Nat.le_of_ble_eq_true rfl) (c_X12_readNumber (d + (nn + 1) + 6) hc57) ?_
        refine ae_istore_n (lv' := [(3, ae_i r55), (0, ae_r (some (30, 0))), (1, ae_i v1), (2, ae_i v2)]) dX12_readFactor_44 (by decide) rfl ?_
        refine ae_goto 100 dX12_readFactor_45 rfl ?_
        refine ae_pick (lv' := [(0, ae_r (some (30, 0))), (1, ae_i v1), (2, ae_i v2), (3, ae_i r55)]) [1, 2, 3, 0] rfl ?_
        exact t_X12_readFactor_100 d nn g hg v1 v2 r55 s56 hF58
    · have hF24 := ae_ifF hb23 hF22
      refine ae_iload_n 1 dX12_readFactor_13 rfl ?_
      refine ae_if_ne 21 dX12_readFactor_14 rfl (fun hb59 => ?_) (fun hb59 => ?_)
      · have hF60 := ae_ifF hb59 hF24
        refine ae_iconst (0 : Int32) dX12_readFactor_21 (by decide) ?_
        refine ae_pick (lv' := [(0, ae_r (some (30, 0)))]) [0] rfl ?_
        exact t_X12_readFactor_22 d nn g hg (F_X12_readFactor_4 g n) ih (0 : Int32) s20 hF60
      · have hF60 := ae_ifT hb59 hF24
        refine ae_iconst (1 : Int32) dX12_readFactor_17 (by decide) ?_
        refine ae_goto 22 dX12_readFactor_18 rfl ?_
        refine ae_pick (lv' := [(0, ae_r (some (30, 0)))]) [0] rfl ?_
        exact t_X12_readFactor_22 d nn g hg (F_X12_readFactor_4 g n) ih (1 : Int32) s20 hF60
def FZ_X12_readFactor (g : GT_A) (s0 : ae_S) : Option (Int32 × ae_S) := F_X12_readFactor_4 g ae_fu (0 : Int32) (0 : Int32) s0
set_option maxHeartbeats 4000000 in
set_option maxRecDepth 100000 in
theorem cZ_X12_readFactor {l : Launch} {G : ae_G} (d nn : Nat) (g : GT_A) (hg : GH_A l G (d + nn + 9) g) {s0 ss : ae_S} {rr : Int32} (hF : FZ_X12_readFactor g s0 = some (rr, ss)) : ae_Met l G (d + (nn + 1) + 9) yX12_readFactor mX12_readFactor [ae_r (some (30, 0))] s0 (ae_Po (some (ae_i rr)) ss) := by
  refine ae_enter (by decide) rfl (Nat.le_of_ble_eq_true rfl) ?_
  show ae_T l G (d + (nn + 1) + 9) mX12_readFactor (ae_Po (some (ae_i rr)) ss) 0 [(0, ae_r (some (30, 0)))] [] s0
  unfold FZ_X12_readFactor at hF
  refine ae_iconst (0 : Int32) dX12_readFactor_0 (by decide) ?_
  refine ae_istore_n (lv' := [(1, ae_i (0 : Int32)), (0, ae_r (some (30, 0)))]) dX12_readFactor_1 (by decide) rfl ?_
  refine ae_iconst (0 : Int32) dX12_readFactor_2 (by decide) ?_
  refine ae_istore_n (lv' := [(2, ae_i (0 : Int32)), (1, ae_i (0 : Int32)), (0, ae_r (some (30, 0)))]) dX12_readFactor_3 (by decide) rfl ?_
  refine ae_pick (lv' := [(0, ae_r (some (30, 0))), (1, ae_i (0 : Int32)), (2, ae_i (0 : Int32))]) [2, 1, 0] rfl ?_
  exact t_X12_readFactor_4 d nn g hg ae_fu (0 : Int32) (0 : Int32) s0 hF
def F_X12_readPlace_170 (g : GT_A) (k130 : Int32 → Int32 → Int32 → ae_S → Option (Int32 × ae_S)) (v1 : Int32) (v3 : Int32) (v4 : Int32) (s0 : ae_S) : Option (Int32 × ae_S) := ae_lt (v4 + (1 : Int32)) (fun x1 => k130 v1 v3 x1 s0)
set_option maxHeartbeats 4000000 in
set_option maxRecDepth 100000 in
theorem t_X12_readPlace_170 {l : Launch} {G : ae_G} (d nn : Nat) (g : GT_A) (hg : GH_A l G (d + nn + 9) g) (k130 : Int32 → Int32 → Int32 → ae_S → Option (Int32 × ae_S)) {rr : Int32} {ss : ae_S} (hk130 : ∀ (v1 : Int32) (v3 : Int32) (v4 : Int32) (s0 : ae_S), k130 v1 v3 v4 s0 = some (rr, ss) → ae_T l G (d + (nn + 1) + 9) mX12_readPlace (ae_Po (some (ae_i rr)) ss) 130 [(0, ae_r (some (30, 0))), (1, ae_i v1), (3, ae_i v3), (4, ae_i v4)] [] s0) (v1 : Int32) (v3 : Int32) (v4 : Int32) (s0 : ae_S) (hF : F_X12_readPlace_170 g k130 v1 v3 v4 s0 = some (rr, ss)) : ae_T l G (d + (nn + 1) + 9) mX12_readPlace (ae_Po (some (ae_i rr)) ss) 170 [(0, ae_r (some (30, 0))), (1, ae_i v1), (3, ae_i v3), (4, ae_i v4)] [] s0 := by
  unfold F_X12_readPlace_170 at hF
  obtain ⟨x1, hx1, hF2⟩ := ae_ltI hF
  refine ae_iinc (lv' := [(4, ae_i x1), (0, ae_r (some (30, 0))), (1, ae_i v1), (3, ae_i v3)]) 3 (1 : Int32) dX12_readPlace_170 rfl (by decide) (by decide) (by rw [hx1]; rfl) ?_
  refine ae_goto 130 dX12_readPlace_173 rfl ?_
  refine ae_pick (lv' := [(0, ae_r (some (30, 0))), (1, ae_i v1), (3, ae_i v3), (4, ae_i x1)]) [1, 2, 3, 0] rfl ?_
  exact hk130 v1 v3 x1 s0 hF2
def F_X12_readPlace_130 (g : GT_A) : Nat → Int32 → Int32 → Int32 → ae_S → Option (Int32 × ae_S)
  | 0, _, _, _, _ => none
  | n + 1, v1, v3, v4, s0 => ae_gd (ae_ib v1 32) (if (s0.1 42 0 v1.toNatClampNeg) ≤ v4 then (ae_gd (ae_ib v3 600) (if (lg_cmp (s0.2.1 51 0 v3.toNatClampNeg) (-1 : Int64)) = 0 then (ae_bd (F_X12_fails (2 : Int32) (s0.1 30 0 26) s0) (fun (r15 : Int32) s16 => some ((-1 : Int32), s16))) else (ae_bd (F_X12_next s0) (fun (r11 : Unit) s12 => some (v3, s12))))) else (ae_gd (ae_ib (((8 : Int32) * v1) + v4) 256) (if (lg_cmp (s0.2.1 43 0 (((8 : Int32) * v1) + v4).toNatClampNeg) (s0.2.1 30 0 28)) = 0 then (ae_gd (ae_ib v3 600) (ae_lt (ae_wL s0 51 0 v3.toNatClampNeg v4.toInt64) (fun s25 => F_X12_readPlace_170 g (F_X12_readPlace_130 g n) v1 v3 v4 s25))) else (F_X12_readPlace_170 g (F_X12_readPlace_130 g n) v1 v3 v4 s0))))
set_option maxHeartbeats 4000000 in
set_option maxRecDepth 100000 in
theorem t_X12_readPlace_130 {l : Launch} {G : ae_G} (d nn : Nat) (g : GT_A) (hg : GH_A l G (d + nn + 9) g) {rr : Int32} {ss : ae_S} : ∀ (n : Nat) (v1 : Int32) (v3 : Int32) (v4 : Int32) (s0 : ae_S), F_X12_readPlace_130 g n v1 v3 v4 s0 = some (rr, ss) → ae_T l G (d + (nn + 1) + 9) mX12_readPlace (ae_Po (some (ae_i rr)) ss) 130 [(0, ae_r (some (30, 0))), (1, ae_i v1), (3, ae_i v3), (4, ae_i v4)] [] s0 := by
  intro n
  induction n with
  | zero =>
    intro v1 v3 v4 s0 hF
    exact absurd (show (none : Option (Int32 × ae_S)) = some (rr, ss) from hF) (by simp)
  | succ n ih =>
    intro v1 v3 v4 s0 hF
    unfold F_X12_readPlace_130 at hF
    refine ae_iload 3 dX12_readPlace_130 rfl ?_
    refine ae_aload_n 0 dX12_readPlace_132 rfl ?_
    refine ae_getA (q := (30, 0)) (some (42, 0)) dX12_readPlace_133 fl_RX12_47 rfl rfl rfl ?_
    refine ae_iload_n 1 dX12_readPlace_136 rfl ?_
    obtain ⟨hg3, hF4⟩ := ae_gdI hF
    refine ae_iald (q := (42, 0)) dX12_readPlace_137 rfl rfl (ae_ibI hg3) ?_
    refine ae_icmp_ge 176 dX12_readPlace_138 rfl (fun hb5 => ?_) (fun hb5 => ?_)
    · have hF6 := ae_ifT hb5 hF4
      refine ae_aload_n 0 dX12_readPlace_176 rfl ?_
      refine ae_getA (q := (30, 0)) (some (51, 0)) dX12_readPlace_177 fl_RX12_78 rfl rfl rfl ?_
      refine ae_iload_n 2 dX12_readPlace_180 rfl ?_
      obtain ⟨hg7, hF8⟩ := ae_gdI hF6
      refine ae_lald (q := (51, 0)) dX12_readPlace_181 rfl rfl (ae_ibI hg7) ?_
      refine ae_ldc2 dX12_readPlace_182 ww_1706 ?_
      refine ae_lcmp dX12_readPlace_185 ?_
      refine ae_if_ne 201 dX12_readPlace_186 rfl (fun hb9 => ?_) (fun hb9 => ?_)
      · have hF10 := ae_ifF hb9 hF8
        refine ae_aload_n 0 dX12_readPlace_201 rfl ?_
        obtain ⟨r11, s12, hc13, hF14⟩ := ae_bdI hF10
        refine ae_cV0 (q := (30, 0)) (As := []) dX12_readPlace_202 ww_1508 vy_X12_next rfl rfl rfl rfl rfl (Nat.le_of_ble_eq_true rfl) (c_X12_next (d + (nn + 1) + 7) hc13) ?_
        refine ae_iload_n 2 dX12_readPlace_205 rfl ?_
        obtain ⟨rfl, rfl⟩ := ae_retI hF14
        exact ae_iret dX12_readPlace_206 rfl rfl ⟨rfl, rfl⟩
      · have hF10 := ae_ifT hb9 hF8
        refine ae_aload_n 0 dX12_readPlace_189 rfl ?_
        refine ae_iconst (2 : Int32) dX12_readPlace_190 (by decide) ?_
        refine ae_aload_n 0 dX12_readPlace_191 rfl ?_
        refine ae_getI (q := (30, 0)) dX12_readPlace_192 fl_RX12_140 rfl rfl ?_
        obtain ⟨r15, s16, hc17, hF18⟩ := ae_bdI hF10
        refine ae_cV1 (q := (30, 0)) (As := [ae_i (2 : Int32), ae_i (s0.1 30 0 26)]) dX12_readPlace_195 ww_1571 vy_X12_fails rfl rfl rfl rfl rfl (Nat.le_of_ble_eq_true rfl) (c_X12_fails (d + (nn + 1) + 8) hc17) ?_
        refine ae_pop dX12_readPlace_198 rfl ?_
        refine ae_iconst (-1 : Int32) dX12_readPlace_199 (by decide) ?_
        obtain ⟨rfl, rfl⟩ := ae_retI hF18
        exact ae_iret dX12_readPlace_200 rfl rfl ⟨rfl, rfl⟩
    · have hF6 := ae_ifF hb5 hF4
      refine ae_aload_n 0 dX12_readPlace_141 rfl ?_
      refine ae_getA (q := (30, 0)) (some (43, 0)) dX12_readPlace_142 fl_RX12_50 rfl rfl rfl ?_
      refine ae_bipush (8 : Int32) dX12_readPlace_145 (by decide) ?_
      refine ae_iload_n 1 dX12_readPlace_147 rfl ?_
      refine ae_imul dX12_readPlace_148 ?_
      refine ae_iload 3 dX12_readPlace_149 rfl ?_
      refine ae_iadd dX12_readPlace_151 ?_
      obtain ⟨hg19, hF20⟩ := ae_gdI hF6
      refine ae_lald (q := (43, 0)) dX12_readPlace_152 rfl rfl (ae_ibI hg19) ?_
      refine ae_aload_n 0 dX12_readPlace_153 rfl ?_
      refine ae_getL (q := (30, 0)) dX12_readPlace_154 fl_RX12_149 rfl rfl ?_
      refine ae_lcmp dX12_readPlace_157 ?_
      refine ae_if_ne 170 dX12_readPlace_158 rfl (fun hb21 => ?_) (fun hb21 => ?_)
      · have hF22 := ae_ifF hb21 hF20
        refine ae_pick (lv' := [(0, ae_r (some (30, 0))), (1, ae_i v1), (3, ae_i v3), (4, ae_i v4)]) [0, 1, 2, 3] rfl ?_
        exact t_X12_readPlace_170 d nn g hg (F_X12_readPlace_130 g n) ih v1 v3 v4 s0 hF22
      · have hF22 := ae_ifT hb21 hF20
        refine ae_aload_n 0 dX12_readPlace_161 rfl ?_
        refine ae_getA (q := (30, 0)) (some (51, 0)) dX12_readPlace_162 fl_RX12_78 rfl rfl rfl ?_
        refine ae_iload_n 2 dX12_readPlace_165 rfl ?_
        refine ae_iload 3 dX12_readPlace_166 rfl ?_
        refine ae_i2l dX12_readPlace_168 ?_
        obtain ⟨hg23, hF24⟩ := ae_gdI hF22
        obtain ⟨s25, hs25, hF26⟩ := ae_ltI hF24
        refine ae_last (q := (51, 0)) dX12_readPlace_169 rfl rfl (ae_ibI hg23) (ae_nmS hs25 ?_)
        refine ae_pick (lv' := [(0, ae_r (some (30, 0))), (1, ae_i v1), (3, ae_i v3), (4, ae_i v4)]) [0, 1, 2, 3] rfl ?_
        exact t_X12_readPlace_170 d nn g hg (F_X12_readPlace_130 g n) ih v1 v3 v4 s25 hF26
def F_X12_readPlace_85 (g : GT_A) (v1 : Int32) (v2 : Int32) (s0 : ae_S) : Option (Int32 × ae_S) := ae_bd (F_X12_node (2 : Int32) v1 v2 s0) (fun (r27 : Int32) s28 => ae_bd (F_X12_isSign (46 : Int32) s28) (fun (r31 : Int32) s32 => if r31 = 0 then (some (r27, s32)) else (ae_bd (F_X12_next s32) (fun (r37 : Unit) s38 => ae_bd (F_X12_isName s38) (fun (r41 : Int32) s42 => if r41 = 0 then (ae_bd (F_X12_fails (1 : Int32) (s42.1 30 0 26) s42) (fun (r47 : Int32) s48 => some ((-1 : Int32), s48))) else (F_X12_readPlace_130 g ae_fu v1 r27 (0 : Int32) s42))))))
set_option maxHeartbeats 4000000 in
set_option maxRecDepth 100000 in
theorem t_X12_readPlace_85 {l : Launch} {G : ae_G} (d nn : Nat) (g : GT_A) (hg : GH_A l G (d + nn + 9) g) {rr : Int32} {ss : ae_S} (v1 : Int32) (v2 : Int32) (s0 : ae_S) (hF : F_X12_readPlace_85 g v1 v2 s0 = some (rr, ss)) : ae_T l G (d + (nn + 1) + 9) mX12_readPlace (ae_Po (some (ae_i rr)) ss) 85 [(0, ae_r (some (30, 0))), (1, ae_i v1), (2, ae_i v2)] [] s0 := by
  unfold F_X12_readPlace_85 at hF
  refine ae_aload_n 0 dX12_readPlace_85 rfl ?_
  refine ae_iconst (2 : Int32) dX12_readPlace_86 (by decide) ?_
  refine ae_iload_n 1 dX12_readPlace_87 rfl ?_
  refine ae_iload_n 2 dX12_readPlace_88 rfl ?_
  obtain ⟨r27, s28, hc29, hF30⟩ := ae_bdI hF
  refine ae_cV1 (q := (30, 0)) (As := [ae_i (2 : Int32), ae_i v1, ae_i v2]) dX12_readPlace_89 ww_1751 vy_X12_node rfl rfl rfl rfl rfl (Nat.le_of_ble_eq_true rfl) (c_X12_node (d + (nn + 1) + 8) hc29) ?_
  refine ae_istore_n (lv' := [(3, ae_i r27), (0, ae_r (some (30, 0))), (1, ae_i v1), (2, ae_i v2)]) dX12_readPlace_92 (by decide) rfl ?_
  refine ae_aload_n 1 dX12_readPlace_93 rfl ?_
  refine ae_bipush (46 : Int32) dX12_readPlace_94 (by decide) ?_
  obtain ⟨r31, s32, hc33, hF34⟩ := ae_bdI hF30
  refine ae_cV1 (q := (30, 0)) (As := [ae_i (46 : Int32)]) dX12_readPlace_96 ww_1598 vy_X12_isSign rfl rfl rfl rfl rfl (Nat.le_of_ble_eq_true rfl) (c_X12_isSign (d + (nn + 1) + 8) hc33) ?_
  refine ae_if_ne 104 dX12_readPlace_99 rfl (fun hb35 => ?_) (fun hb35 => ?_)
  · have hF36 := ae_ifF hb35 hF34
    refine ae_aload_n 1 dX12_readPlace_104 rfl ?_
    obtain ⟨r37, s38, hc39, hF40⟩ := ae_bdI hF36
    refine ae_cV0 (q := (30, 0)) (As := []) dX12_readPlace_105 ww_1508 vy_X12_next rfl rfl rfl rfl rfl (Nat.le_of_ble_eq_true rfl) (c_X12_next (d + (nn + 1) + 7) hc39) ?_
    refine ae_aload_n 1 dX12_readPlace_108 rfl ?_
    obtain ⟨r41, s42, hc43, hF44⟩ := ae_bdI hF40
    refine ae_cV1 (q := (30, 0)) (As := []) dX12_readPlace_109 ww_1528 vy_X12_isName rfl rfl rfl rfl rfl (Nat.le_of_ble_eq_true rfl) (c_X12_isName (d + (nn + 1)) hc43) ?_
    refine ae_if_ne 127 dX12_readPlace_112 rfl (fun hb45 => ?_) (fun hb45 => ?_)
    · have hF46 := ae_ifF hb45 hF44
      refine ae_iconst (0 : Int32) dX12_readPlace_127 (by decide) ?_
      refine ae_istore (lv' := [(4, ae_i (0 : Int32)), (3, ae_i r27), (0, ae_r (some (30, 0))), (1, ae_i v1), (2, ae_i v2)]) dX12_readPlace_128 (by decide) rfl ?_
      refine ae_pick (lv' := [(0, ae_r (some (30, 0))), (1, ae_i v1), (3, ae_i r27), (4, ae_i (0 : Int32))]) [2, 3, 1, 0] rfl ?_
      exact t_X12_readPlace_130 d nn g hg ae_fu v1 r27 (0 : Int32) s42 hF46
    · have hF46 := ae_ifT hb45 hF44
      refine ae_aload_n 1 dX12_readPlace_115 rfl ?_
      refine ae_iconst (1 : Int32) dX12_readPlace_116 (by decide) ?_
      refine ae_aload_n 1 dX12_readPlace_117 rfl ?_
      refine ae_getI (q := (30, 0)) dX12_readPlace_118 fl_RX12_140 rfl rfl ?_
      obtain ⟨r47, s48, hc49, hF50⟩ := ae_bdI hF46
      refine ae_cV1 (q := (30, 0)) (As := [ae_i (1 : Int32), ae_i (s42.1 30 0 26)]) dX12_readPlace_121 ww_1571 vy_X12_fails rfl rfl rfl rfl rfl (Nat.le_of_ble_eq_true rfl) (c_X12_fails (d + (nn + 1) + 8) hc49) ?_
      refine ae_pop dX12_readPlace_124 rfl ?_
      refine ae_iconst (-1 : Int32) dX12_readPlace_125 (by decide) ?_
      obtain ⟨rfl, rfl⟩ := ae_retI hF50
      exact ae_iret dX12_readPlace_126 rfl rfl ⟨rfl, rfl⟩
  · have hF36 := ae_ifT hb35 hF34
    refine ae_iload_n 0 dX12_readPlace_102 rfl ?_
    obtain ⟨rfl, rfl⟩ := ae_retI hF36
    exact ae_iret dX12_readPlace_103 rfl rfl ⟨rfl, rfl⟩
def FZ_X12_readPlace (g : GT_A) (s0 : ae_S) : Option (Int32 × ae_S) := ae_bd (F_X12_isName s0) (fun (r51 : Int32) s52 => if r51 = 0 then (ae_bd (F_X12_fails (1 : Int32) (s52.1 30 0 26) s52) (fun (r91 : Int32) s92 => some ((-1 : Int32), s92))) else (ae_bd (F_X12_placeOf (s52.2.1 30 0 28) (0 : Int32) (s52.1 30 0 17) s52) (fun (r57 : Int32) s58 => if r57 = (-1 : Int32) then (ae_bd (F_X12_fails (2 : Int32) (s58.1 30 0 26) s58) (fun (r87 : Int32) s88 => some ((-1 : Int32), s88))) else (ae_bd (F_X12_next s58) (fun (r63 : Unit) s64 => ae_bd (F_X12_isSign (91 : Int32) s64) (fun (r67 : Int32) s68 => if r67 = 0 then (F_X12_readPlace_85 g r57 (-1 : Int32) s68) else (ae_bd (F_X12_next s68) (fun (r73 : Unit) s74 => ae_bd (g.1 s74) (fun (r77 : Int32) s78 => ae_bd (F_X12_takes (93 : Int32) s78) (fun (r81 : Int32) s82 => if r81 = 0 then (some ((-1 : Int32), s82)) else (F_X12_readPlace_85 g r57 r77 s82)))))))))))
set_option maxHeartbeats 4000000 in
set_option maxRecDepth 100000 in
theorem cZ_X12_readPlace {l : Launch} {G : ae_G} (d nn : Nat) (g : GT_A) (hg : GH_A l G (d + nn + 9) g) {s0 ss : ae_S} {rr : Int32} (hF : FZ_X12_readPlace g s0 = some (rr, ss)) : ae_Met l G (d + (nn + 1) + 9) yX12_readPlace mX12_readPlace [ae_r (some (30, 0))] s0 (ae_Po (some (ae_i rr)) ss) := by
  refine ae_enter (by decide) rfl (Nat.le_of_ble_eq_true rfl) ?_
  show ae_T l G (d + (nn + 1) + 9) mX12_readPlace (ae_Po (some (ae_i rr)) ss) 0 [(0, ae_r (some (30, 0)))] [] s0
  unfold FZ_X12_readPlace at hF
  refine ae_aload_n 0 dX12_readPlace_0 rfl ?_
  obtain ⟨r51, s52, hc53, hF54⟩ := ae_bdI hF
  refine ae_cV1 (q := (30, 0)) (As := []) dX12_readPlace_1 ww_1528 vy_X12_isName rfl rfl rfl rfl rfl (Nat.le_of_ble_eq_true rfl) (c_X12_isName (d + (nn + 1)) hc53) ?_
  refine ae_if_ne 19 dX12_readPlace_4 rfl (fun hb55 => ?_) (fun hb55 => ?_)
  · have hF56 := ae_ifF hb55 hF54
    refine ae_aload_n 0 dX12_readPlace_19 rfl ?_
    refine ae_aload_n 0 dX12_readPlace_20 rfl ?_
    refine ae_getL (q := (30, 0)) dX12_readPlace_21 fl_RX12_149 rfl rfl ?_
    refine ae_iconst (0 : Int32) dX12_readPlace_24 (by decide) ?_
    refine ae_aload_n 0 dX12_readPlace_25 rfl ?_
    refine ae_getI (q := (30, 0)) dX12_readPlace_26 fl_RX12_109 rfl rfl ?_
    obtain ⟨r57, s58, hc59, hF60⟩ := ae_bdI hF56
    refine ae_cV1 (q := (30, 0)) (As := [ae_l (s52.2.1 30 0 28), ae_i (0 : Int32), ae_i (s52.1 30 0 17)]) dX12_readPlace_29 ww_1575 vy_X12_placeOf rfl rfl rfl rfl rfl (Nat.le_of_ble_eq_true rfl) (c_X12_placeOf (d + (nn + 1) + 8) hc59) ?_
    refine ae_istore_n (lv' := [(1, ae_i r57), (0, ae_r (some (30, 0)))]) dX12_readPlace_32 (by decide) rfl ?_
    refine ae_iload_n 0 dX12_readPlace_33 rfl ?_
    refine ae_iconst (-1 : Int32) dX12_readPlace_34 (by decide) ?_
    refine ae_icmp_ne 50 dX12_readPlace_35 rfl (fun hb61 => ?_) (fun hb61 => ?_)
    · have hF62 := ae_ifF hb61 hF60
      refine ae_aload_n 1 dX12_readPlace_50 rfl ?_
      obtain ⟨r63, s64, hc65, hF66⟩ := ae_bdI hF62
      refine ae_cV0 (q := (30, 0)) (As := []) dX12_readPlace_51 ww_1508 vy_X12_next rfl rfl rfl rfl rfl (Nat.le_of_ble_eq_true rfl) (c_X12_next (d + (nn + 1) + 7) hc65) ?_
      refine ae_iconst (-1 : Int32) dX12_readPlace_54 (by decide) ?_
      refine ae_istore_n (lv' := [(2, ae_i (-1 : Int32)), (1, ae_i r57), (0, ae_r (some (30, 0)))]) dX12_readPlace_55 (by decide) rfl ?_
      refine ae_aload_n 2 dX12_readPlace_56 rfl ?_
      refine ae_bipush (91 : Int32) dX12_readPlace_57 (by decide) ?_
      obtain ⟨r67, s68, hc69, hF70⟩ := ae_bdI hF66
      refine ae_cV1 (q := (30, 0)) (As := [ae_i (91 : Int32)]) dX12_readPlace_59 ww_1598 vy_X12_isSign rfl rfl rfl rfl rfl (Nat.le_of_ble_eq_true rfl) (c_X12_isSign (d + (nn + 1) + 8) hc69) ?_
      refine ae_if_eq 85 dX12_readPlace_62 rfl (fun hb71 => ?_) (fun hb71 => ?_)
      · have hF72 := ae_ifT hb71 hF70
        refine ae_pick (lv' := [(0, ae_r (some (30, 0))), (1, ae_i r57), (2, ae_i (-1 : Int32))]) [2, 1, 0] rfl ?_
        exact t_X12_readPlace_85 d nn g hg r57 (-1 : Int32) s68 hF72
      · have hF72 := ae_ifF hb71 hF70
        refine ae_aload_n 2 dX12_readPlace_65 rfl ?_
        obtain ⟨r73, s74, hc75, hF76⟩ := ae_bdI hF72
        refine ae_cV0 (q := (30, 0)) (As := []) dX12_readPlace_66 ww_1508 vy_X12_next rfl rfl rfl rfl rfl (Nat.le_of_ble_eq_true rfl) (c_X12_next (d + (nn + 1) + 7) hc75) ?_
        refine ae_aload_n 2 dX12_readPlace_69 rfl ?_
        obtain ⟨r77, s78, hc79, hF80⟩ := ae_bdI hF76
        refine ae_cV1 (q := (30, 0)) (As := []) dX12_readPlace_70 ww_1731 vy_X12_readAll rfl rfl rfl rfl rfl (Nat.le_of_ble_eq_true rfl) (hg.1 _ _ _ hc79) ?_
        refine ae_istore_n (lv' := [(2, ae_i r77), (1, ae_i r57), (0, ae_r (some (30, 0)))]) dX12_readPlace_73 (by decide) rfl ?_
        refine ae_aload_n 2 dX12_readPlace_74 rfl ?_
        refine ae_bipush (93 : Int32) dX12_readPlace_75 (by decide) ?_
        obtain ⟨r81, s82, hc83, hF84⟩ := ae_bdI hF80
        refine ae_cV1 (q := (30, 0)) (As := [ae_i (93 : Int32)]) dX12_readPlace_77 ww_1610 vy_X12_takes rfl rfl rfl rfl rfl (Nat.le_of_ble_eq_true rfl) (c_X12_takes (d + (nn + 1) + 6) hc83) ?_
        refine ae_if_ne 85 dX12_readPlace_80 rfl (fun hb85 => ?_) (fun hb85 => ?_)
        · have hF86 := ae_ifF hb85 hF84
          refine ae_pick (lv' := [(0, ae_r (some (30, 0))), (1, ae_i r57), (2, ae_i r77)]) [2, 1, 0] rfl ?_
          exact t_X12_readPlace_85 d nn g hg r57 r77 s82 hF86
        · have hF86 := ae_ifT hb85 hF84
          refine ae_iconst (-1 : Int32) dX12_readPlace_83 (by decide) ?_
          obtain ⟨rfl, rfl⟩ := ae_retI hF86
          exact ae_iret dX12_readPlace_84 rfl rfl ⟨rfl, rfl⟩
    · have hF62 := ae_ifT hb61 hF60
      refine ae_aload_n 1 dX12_readPlace_38 rfl ?_
      refine ae_iconst (2 : Int32) dX12_readPlace_39 (by decide) ?_
      refine ae_aload_n 1 dX12_readPlace_40 rfl ?_
      refine ae_getI (q := (30, 0)) dX12_readPlace_41 fl_RX12_140 rfl rfl ?_
      obtain ⟨r87, s88, hc89, hF90⟩ := ae_bdI hF62
      refine ae_cV1 (q := (30, 0)) (As := [ae_i (2 : Int32), ae_i (s58.1 30 0 26)]) dX12_readPlace_44 ww_1571 vy_X12_fails rfl rfl rfl rfl rfl (Nat.le_of_ble_eq_true rfl) (c_X12_fails (d + (nn + 1) + 8) hc89) ?_
      refine ae_pop dX12_readPlace_47 rfl ?_
      refine ae_iconst (-1 : Int32) dX12_readPlace_48 (by decide) ?_
      obtain ⟨rfl, rfl⟩ := ae_retI hF90
      exact ae_iret dX12_readPlace_49 rfl rfl ⟨rfl, rfl⟩
  · have hF56 := ae_ifT hb55 hF54
    refine ae_aload_n 0 dX12_readPlace_7 rfl ?_
    refine ae_iconst (1 : Int32) dX12_readPlace_8 (by decide) ?_
    refine ae_aload_n 0 dX12_readPlace_9 rfl ?_
    refine ae_getI (q := (30, 0)) dX12_readPlace_10 fl_RX12_140 rfl rfl ?_
    obtain ⟨r91, s92, hc93, hF94⟩ := ae_bdI hF56
    refine ae_cV1 (q := (30, 0)) (As := [ae_i (1 : Int32), ae_i (s52.1 30 0 26)]) dX12_readPlace_13 ww_1571 vy_X12_fails rfl rfl rfl rfl rfl (Nat.le_of_ble_eq_true rfl) (c_X12_fails (d + (nn + 1) + 8) hc93) ?_
    refine ae_pop dX12_readPlace_16 rfl ?_
    refine ae_iconst (-1 : Int32) dX12_readPlace_17 (by decide) ?_
    obtain ⟨rfl, rfl⟩ := ae_retI hF94
    exact ae_iret dX12_readPlace_18 rfl rfl ⟨rfl, rfl⟩
def FG_A : Nat → GT_A
  | 0 => (fun _ => none, fun _ => none, fun _ => none, fun _ => none, fun _ => none)
  | n + 1 => (FZ_X12_readAll (FG_A n), FZ_X12_readSum (FG_A n), FZ_X12_readTerm (FG_A n), FZ_X12_readFactor (FG_A n), FZ_X12_readPlace (FG_A n))
theorem gc_A {l : Launch} {G : ae_G} (d : Nat) : ∀ n : Nat, GH_A l G (d + n + 9) (FG_A n)
  | 0 => ⟨fun _ _ _ h => absurd h (by simp [FG_A]), fun _ _ _ h => absurd h (by simp [FG_A]), fun _ _ _ h => absurd h (by simp [FG_A]), fun _ _ _ h => absurd h (by simp [FG_A]), fun _ _ _ h => absurd h (by simp [FG_A])⟩
  | n + 1 => ⟨fun _ _ _ h => cZ_X12_readAll d n (FG_A n) (gc_A d n) h, fun _ _ _ h => cZ_X12_readSum d n (FG_A n) (gc_A d n) h, fun _ _ _ h => cZ_X12_readTerm d n (FG_A n) (gc_A d n) h, fun _ _ _ h => cZ_X12_readFactor d n (FG_A n) (gc_A d n) h, fun _ _ _ h => cZ_X12_readPlace d n (FG_A n) (gc_A d n) h⟩
def F_X12_readAll (s0 : ae_S) : Option (Int32 × ae_S) := (FG_A 1300).1 s0
theorem c_X12_readAll {l : Launch} {G : ae_G} (d : Nat) {s0 ss : ae_S} {rr : Int32} (hF : F_X12_readAll s0 = some (rr, ss)) : ae_Met l G (d + 1309) yX12_readAll mX12_readAll [ae_r (some (30, 0))] s0 (ae_Po (some (ae_i rr)) ss) := by
  have h := (gc_A (l := l) (G := G) d 1300).1 _ _ _ hF
  exact h
def F_X12_readSum (s0 : ae_S) : Option (Int32 × ae_S) := (FG_A 1300).2.1 s0
theorem c_X12_readSum {l : Launch} {G : ae_G} (d : Nat) {s0 ss : ae_S} {rr : Int32} (hF : F_X12_readSum s0 = some (rr, ss)) : ae_Met l G (d + 1309) yX12_readSum mX12_readSum [ae_r (some (30, 0))] s0 (ae_Po (some (ae_i rr)) ss) := by
  have h := (gc_A (l := l) (G := G) d 1300).2.1 _ _ _ hF
  exact h
def F_X12_readTerm (s0 : ae_S) : Option (Int32 × ae_S) := (FG_A 1300).2.2.1 s0
theorem c_X12_readTerm {l : Launch} {G : ae_G} (d : Nat) {s0 ss : ae_S} {rr : Int32} (hF : F_X12_readTerm s0 = some (rr, ss)) : ae_Met l G (d + 1309) yX12_readTerm mX12_readTerm [ae_r (some (30, 0))] s0 (ae_Po (some (ae_i rr)) ss) := by
  have h := (gc_A (l := l) (G := G) d 1300).2.2.1 _ _ _ hF
  exact h
def F_X12_readFactor (s0 : ae_S) : Option (Int32 × ae_S) := (FG_A 1300).2.2.2.1 s0
theorem c_X12_readFactor {l : Launch} {G : ae_G} (d : Nat) {s0 ss : ae_S} {rr : Int32} (hF : F_X12_readFactor s0 = some (rr, ss)) : ae_Met l G (d + 1309) yX12_readFactor mX12_readFactor [ae_r (some (30, 0))] s0 (ae_Po (some (ae_i rr)) ss) := by
  have h := (gc_A (l := l) (G := G) d 1300).2.2.2.1 _ _ _ hF
  exact h
def F_X12_readPlace (s0 : ae_S) : Option (Int32 × ae_S) := (FG_A 1300).2.2.2.2 s0
theorem c_X12_readPlace {l : Launch} {G : ae_G} (d : Nat) {s0 ss : ae_S} {rr : Int32} (hF : F_X12_readPlace s0 = some (rr, ss)) : ae_Met l G (d + 1309) yX12_readPlace mX12_readPlace [ae_r (some (30, 0))] s0 (ae_Po (some (ae_i rr)) ss) := by
  have h := (gc_A (l := l) (G := G) d 1300).2.2.2.2 _ _ _ hF
  exact h
abbrev mX12_readStatement : ae_M := (RX12, cX12_readStatement, 5, some .int)
theorem vy_X12_readStatement : ae_VY yX12_readStatement mX12_readStatement 0 := ⟨ww_1729, wq_85, ww_13, ww_1730, ⟨by decide, by decide, by decide +kernel⟩, by decide⟩
theorem dX12_readStatement_0 : decode cX12_readStatement 0 = .ok (.iconst (-1), 1) := by decide +kernel
theorem dX12_readStatement_1 : decode cX12_readStatement 1 = .ok (.istore_n 1, 1) := by decide +kernel
theorem dX12_readStatement_2 : decode cX12_readStatement 2 = .ok (.iconst (-1), 1) := by decide +kernel
theorem dX12_readStatement_3 : decode cX12_readStatement 3 = .ok (.istore_n 2, 1) := by decide +kernel
theorem dX12_readStatement_4 : decode cX12_readStatement 4 = .ok (.aload_n 0, 1) := by decide +kernel
theorem dX12_readStatement_5 : decode cX12_readStatement 5 = .ok (.ldc 241, 2) := by decide +kernel
theorem dX12_readStatement_7 : decode cX12_readStatement 7 = .ok (.invokevirtual 205, 3) := by decide +kernel
theorem dX12_readStatement_10 : decode cX12_readStatement 10 = .ok (.ifCond .eq 48, 3) := by decide +kernel
theorem dX12_readStatement_13 : decode cX12_readStatement 13 = .ok (.aload_n 0, 1) := by decide +kernel
theorem dX12_readStatement_14 : decode cX12_readStatement 14 = .ok (.invokevirtual 189, 3) := by decide +kernel
theorem dX12_readStatement_17 : decode cX12_readStatement 17 = .ok (.ifCond .eq 41, 3) := by decide +kernel
theorem dX12_readStatement_20 : decode cX12_readStatement 20 = .ok (.aload_n 0, 1) := by decide +kernel
theorem dX12_readStatement_21 : decode cX12_readStatement 21 = .ok (.invokevirtual 200, 3) := by decide +kernel
theorem dX12_readStatement_24 : decode cX12_readStatement 24 = .ok (.aload_n 0, 1) := by decide +kernel
theorem dX12_readStatement_25 : decode cX12_readStatement 25 = .ok (.bipush 11, 2) := by decide +kernel
theorem dX12_readStatement_27 : decode cX12_readStatement 27 = .ok (.aload_n 0, 1) := by decide +kernel
theorem dX12_readStatement_28 : decode cX12_readStatement 28 = .ok (.invokevirtual 369, 3) := by decide +kernel
theorem dX12_readStatement_31 : decode cX12_readStatement 31 = .ok (.iconst (-1), 1) := by decide +kernel
theorem dX12_readStatement_32 : decode cX12_readStatement 32 = .ok (.invokevirtual 372, 3) := by decide +kernel
theorem dX12_readStatement_35 : decode cX12_readStatement 35 = .ok (.istore_n 3, 1) := by decide +kernel
theorem dX12_readStatement_36 : decode cX12_readStatement 36 = .ok (.iload_n 1, 1) := by decide +kernel
theorem dX12_readStatement_37 : decode cX12_readStatement 37 = .ok (.iconst (-1), 1) := by decide +kernel
theorem dX12_readStatement_38 : decode cX12_readStatement 38 = .ok (.if_icmp .ne 8, 3) := by decide +kernel
theorem dX12_readStatement_41 : decode cX12_readStatement 41 = .ok (.iload_n 3, 1) := by decide +kernel
theorem dX12_readStatement_42 : decode cX12_readStatement 42 = .ok (.istore_n 1, 1) := by decide +kernel
theorem dX12_readStatement_43 : decode cX12_readStatement 43 = .ok (.goto 10, 3) := by decide +kernel
theorem dX12_readStatement_46 : decode cX12_readStatement 46 = .ok (.aload_n 0, 1) := by decide +kernel
theorem dX12_readStatement_47 : decode cX12_readStatement 47 = .ok (.getfield 72, 3) := by decide +kernel
theorem dX12_readStatement_50 : decode cX12_readStatement 50 = .ok (.iload_n 2, 1) := by decide +kernel
theorem dX12_readStatement_51 : decode cX12_readStatement 51 = .ok (.iload_n 3, 1) := by decide +kernel
theorem dX12_readStatement_52 : decode cX12_readStatement 52 = .ok (.iastore, 1) := by decide +kernel
theorem dX12_readStatement_53 : decode cX12_readStatement 53 = .ok (.iload_n 3, 1) := by decide +kernel
theorem dX12_readStatement_54 : decode cX12_readStatement 54 = .ok (.istore_n 2, 1) := by decide +kernel
theorem dX12_readStatement_55 : decode cX12_readStatement 55 = .ok (.goto (-51), 3) := by decide +kernel
theorem dX12_readStatement_58 : decode cX12_readStatement 58 = .ok (.aload_n 0, 1) := by decide +kernel
theorem dX12_readStatement_59 : decode cX12_readStatement 59 = .ok (.invokevirtual 189, 3) := by decide +kernel
theorem dX12_readStatement_62 : decode cX12_readStatement 62 = .ok (.ifCond .ne 5, 3) := by decide +kernel
theorem dX12_readStatement_65 : decode cX12_readStatement 65 = .ok (.iconst (-1), 1) := by decide +kernel
theorem dX12_readStatement_66 : decode cX12_readStatement 66 = .ok (.ireturn, 1) := by decide +kernel
theorem dX12_readStatement_67 : decode cX12_readStatement 67 = .ok (.aload_n 0, 1) := by decide +kernel
theorem dX12_readStatement_68 : decode cX12_readStatement 68 = .ok (.bipush 40, 2) := by decide +kernel
theorem dX12_readStatement_70 : decode cX12_readStatement 70 = .ok (.invokevirtual 193, 3) := by decide +kernel
theorem dX12_readStatement_73 : decode cX12_readStatement 73 = .ok (.ifCond .eq 11, 3) := by decide +kernel
theorem dX12_readStatement_76 : decode cX12_readStatement 76 = .ok (.aload_n 0, 1) := by decide +kernel
theorem dX12_readStatement_77 : decode cX12_readStatement 77 = .ok (.invokevirtual 399, 3) := by decide +kernel
theorem dX12_readStatement_80 : decode cX12_readStatement 80 = .ok (.istore_n 3, 1) := by decide +kernel
theorem dX12_readStatement_81 : decode cX12_readStatement 81 = .ok (.goto 72, 3) := by decide +kernel
theorem dX12_readStatement_84 : decode cX12_readStatement 84 = .ok (.aload_n 0, 1) := by decide +kernel
theorem dX12_readStatement_85 : decode cX12_readStatement 85 = .ok (.ldc 243, 2) := by decide +kernel
theorem dX12_readStatement_87 : decode cX12_readStatement 87 = .ok (.invokevirtual 205, 3) := by decide +kernel
theorem dX12_readStatement_90 : decode cX12_readStatement 90 = .ok (.ifCond .eq 26, 3) := by decide +kernel
theorem dX12_readStatement_93 : decode cX12_readStatement 93 = .ok (.aload_n 0, 1) := by decide +kernel
theorem dX12_readStatement_94 : decode cX12_readStatement 94 = .ok (.invokevirtual 200, 3) := by decide +kernel
theorem dX12_readStatement_97 : decode cX12_readStatement 97 = .ok (.aload_n 0, 1) := by decide +kernel
theorem dX12_readStatement_98 : decode cX12_readStatement 98 = .ok (.bipush 12, 2) := by decide +kernel
theorem dX12_readStatement_100 : decode cX12_readStatement 100 = .ok (.iconst (-1), 1) := by decide +kernel
theorem dX12_readStatement_101 : decode cX12_readStatement 101 = .ok (.iconst (-1), 1) := by decide +kernel
theorem dX12_readStatement_102 : decode cX12_readStatement 102 = .ok (.invokevirtual 372, 3) := by decide +kernel
theorem dX12_readStatement_105 : decode cX12_readStatement 105 = .ok (.istore_n 3, 1) := by decide +kernel
theorem dX12_readStatement_106 : decode cX12_readStatement 106 = .ok (.aload_n 0, 1) := by decide +kernel
theorem dX12_readStatement_107 : decode cX12_readStatement 107 = .ok (.bipush 59, 2) := by decide +kernel
theorem dX12_readStatement_109 : decode cX12_readStatement 109 = .ok (.invokevirtual 276, 3) := by decide +kernel
theorem dX12_readStatement_112 : decode cX12_readStatement 112 = .ok (.pop, 1) := by decide +kernel
theorem dX12_readStatement_113 : decode cX12_readStatement 113 = .ok (.goto 40, 3) := by decide +kernel
theorem dX12_readStatement_116 : decode cX12_readStatement 116 = .ok (.aload_n 0, 1) := by decide +kernel
theorem dX12_readStatement_117 : decode cX12_readStatement 117 = .ok (.invokevirtual 384, 3) := by decide +kernel
theorem dX12_readStatement_120 : decode cX12_readStatement 120 = .ok (.istore 4, 2) := by decide +kernel
theorem dX12_readStatement_122 : decode cX12_readStatement 122 = .ok (.aload_n 0, 1) := by decide +kernel
theorem dX12_readStatement_123 : decode cX12_readStatement 123 = .ok (.bipush 61, 2) := by decide +kernel
theorem dX12_readStatement_125 : decode cX12_readStatement 125 = .ok (.invokevirtual 276, 3) := by decide +kernel
theorem dX12_readStatement_128 : decode cX12_readStatement 128 = .ok (.ifCond .ne 5, 3) := by decide +kernel
theorem dX12_readStatement_131 : decode cX12_readStatement 131 = .ok (.iconst (-1), 1) := by decide +kernel
theorem dX12_readStatement_132 : decode cX12_readStatement 132 = .ok (.ireturn, 1) := by decide +kernel
theorem dX12_readStatement_133 : decode cX12_readStatement 133 = .ok (.aload_n 0, 1) := by decide +kernel
theorem dX12_readStatement_134 : decode cX12_readStatement 134 = .ok (.bipush 10, 2) := by decide +kernel
theorem dX12_readStatement_136 : decode cX12_readStatement 136 = .ok (.iload 4, 2) := by decide +kernel
theorem dX12_readStatement_138 : decode cX12_readStatement 138 = .ok (.aload_n 0, 1) := by decide +kernel
theorem dX12_readStatement_139 : decode cX12_readStatement 139 = .ok (.invokevirtual 369, 3) := by decide +kernel
theorem dX12_readStatement_142 : decode cX12_readStatement 142 = .ok (.invokevirtual 372, 3) := by decide +kernel
theorem dX12_readStatement_145 : decode cX12_readStatement 145 = .ok (.istore_n 3, 1) := by decide +kernel
theorem dX12_readStatement_146 : decode cX12_readStatement 146 = .ok (.aload_n 0, 1) := by decide +kernel
theorem dX12_readStatement_147 : decode cX12_readStatement 147 = .ok (.bipush 59, 2) := by decide +kernel
theorem dX12_readStatement_149 : decode cX12_readStatement 149 = .ok (.invokevirtual 276, 3) := by decide +kernel
theorem dX12_readStatement_152 : decode cX12_readStatement 152 = .ok (.pop, 1) := by decide +kernel
theorem dX12_readStatement_153 : decode cX12_readStatement 153 = .ok (.iload_n 1, 1) := by decide +kernel
theorem dX12_readStatement_154 : decode cX12_readStatement 154 = .ok (.iconst (-1), 1) := by decide +kernel
theorem dX12_readStatement_155 : decode cX12_readStatement 155 = .ok (.if_icmp .eq 10, 3) := by decide +kernel
theorem dX12_readStatement_158 : decode cX12_readStatement 158 = .ok (.aload_n 0, 1) := by decide +kernel
theorem dX12_readStatement_159 : decode cX12_readStatement 159 = .ok (.invokevirtual 189, 3) := by decide +kernel
theorem dX12_readStatement_162 : decode cX12_readStatement 162 = .ok (.ifCond .ne 5, 3) := by decide +kernel
theorem dX12_readStatement_165 : decode cX12_readStatement 165 = .ok (.iload_n 3, 1) := by decide +kernel
theorem dX12_readStatement_166 : decode cX12_readStatement 166 = .ok (.ireturn, 1) := by decide +kernel
theorem dX12_readStatement_167 : decode cX12_readStatement 167 = .ok (.aload_n 0, 1) := by decide +kernel
theorem dX12_readStatement_168 : decode cX12_readStatement 168 = .ok (.getfield 72, 3) := by decide +kernel
theorem dX12_readStatement_171 : decode cX12_readStatement 171 = .ok (.iload_n 2, 1) := by decide +kernel
theorem dX12_readStatement_172 : decode cX12_readStatement 172 = .ok (.iload_n 3, 1) := by decide +kernel
theorem dX12_readStatement_173 : decode cX12_readStatement 173 = .ok (.iastore, 1) := by decide +kernel
theorem dX12_readStatement_174 : decode cX12_readStatement 174 = .ok (.iload_n 1, 1) := by decide +kernel
theorem dX12_readStatement_175 : decode cX12_readStatement 175 = .ok (.ireturn, 1) := by decide +kernel
abbrev mX12_readGroup : ae_M := (RX12, cX12_readGroup, 4, some .int)
theorem vy_X12_readGroup : ae_VY yX12_readGroup mX12_readGroup 0 := ⟨ww_1766, wq_94, ww_13, ww_1767, ⟨by decide, by decide, by decide +kernel⟩, by decide⟩
theorem dX12_readGroup_0 : decode cX12_readGroup 0 = .ok (.aload_n 0, 1) := by decide +kernel
theorem dX12_readGroup_1 : decode cX12_readGroup 1 = .ok (.invokevirtual 381, 3) := by decide +kernel
theorem dX12_readGroup_4 : decode cX12_readGroup 4 = .ok (.ifCond .ne 5, 3) := by decide +kernel
theorem dX12_readGroup_7 : decode cX12_readGroup 7 = .ok (.iconst (-1), 1) := by decide +kernel
theorem dX12_readGroup_8 : decode cX12_readGroup 8 = .ok (.ireturn, 1) := by decide +kernel
theorem dX12_readGroup_9 : decode cX12_readGroup 9 = .ok (.aload_n 0, 1) := by decide +kernel
theorem dX12_readGroup_10 : decode cX12_readGroup 10 = .ok (.bipush 13, 2) := by decide +kernel
theorem dX12_readGroup_12 : decode cX12_readGroup 12 = .ok (.iconst (-1), 1) := by decide +kernel
theorem dX12_readGroup_13 : decode cX12_readGroup 13 = .ok (.iconst (-1), 1) := by decide +kernel
theorem dX12_readGroup_14 : decode cX12_readGroup 14 = .ok (.invokevirtual 372, 3) := by decide +kernel
theorem dX12_readGroup_17 : decode cX12_readGroup 17 = .ok (.istore_n 1, 1) := by decide +kernel
theorem dX12_readGroup_18 : decode cX12_readGroup 18 = .ok (.iconst (-1), 1) := by decide +kernel
theorem dX12_readGroup_19 : decode cX12_readGroup 19 = .ok (.istore_n 2, 1) := by decide +kernel
theorem dX12_readGroup_20 : decode cX12_readGroup 20 = .ok (.aload_n 0, 1) := by decide +kernel
theorem dX12_readGroup_21 : decode cX12_readGroup 21 = .ok (.invokevirtual 189, 3) := by decide +kernel
theorem dX12_readGroup_24 : decode cX12_readGroup 24 = .ok (.ifCond .eq 53, 3) := by decide +kernel
theorem dX12_readGroup_27 : decode cX12_readGroup 27 = .ok (.aload_n 0, 1) := by decide +kernel
theorem dX12_readGroup_28 : decode cX12_readGroup 28 = .ok (.bipush 41, 2) := by decide +kernel
theorem dX12_readGroup_30 : decode cX12_readGroup 30 = .ok (.invokevirtual 193, 3) := by decide +kernel
theorem dX12_readGroup_33 : decode cX12_readGroup 33 = .ok (.ifCond .ne 44, 3) := by decide +kernel
theorem dX12_readGroup_36 : decode cX12_readGroup 36 = .ok (.aload_n 0, 1) := by decide +kernel
theorem dX12_readGroup_37 : decode cX12_readGroup 37 = .ok (.invokevirtual 396, 3) := by decide +kernel
theorem dX12_readGroup_40 : decode cX12_readGroup 40 = .ok (.istore_n 3, 1) := by decide +kernel
theorem dX12_readGroup_41 : decode cX12_readGroup 41 = .ok (.aload_n 0, 1) := by decide +kernel
theorem dX12_readGroup_42 : decode cX12_readGroup 42 = .ok (.invokevirtual 189, 3) := by decide +kernel
theorem dX12_readGroup_45 : decode cX12_readGroup 45 = .ok (.ifCond .ne 5, 3) := by decide +kernel
theorem dX12_readGroup_48 : decode cX12_readGroup 48 = .ok (.iconst (-1), 1) := by decide +kernel
theorem dX12_readGroup_49 : decode cX12_readGroup 49 = .ok (.ireturn, 1) := by decide +kernel
theorem dX12_readGroup_50 : decode cX12_readGroup 50 = .ok (.iload_n 2, 1) := by decide +kernel
theorem dX12_readGroup_51 : decode cX12_readGroup 51 = .ok (.iconst (-1), 1) := by decide +kernel
theorem dX12_readGroup_52 : decode cX12_readGroup 52 = .ok (.if_icmp .ne 13, 3) := by decide +kernel
theorem dX12_readGroup_55 : decode cX12_readGroup 55 = .ok (.aload_n 0, 1) := by decide +kernel
theorem dX12_readGroup_56 : decode cX12_readGroup 56 = .ok (.getfield 69, 3) := by decide +kernel
theorem dX12_readGroup_59 : decode cX12_readGroup 59 = .ok (.iload_n 1, 1) := by decide +kernel
theorem dX12_readGroup_60 : decode cX12_readGroup 60 = .ok (.iload_n 3, 1) := by decide +kernel
theorem dX12_readGroup_61 : decode cX12_readGroup 61 = .ok (.iastore, 1) := by decide +kernel
theorem dX12_readGroup_62 : decode cX12_readGroup 62 = .ok (.goto 10, 3) := by decide +kernel
theorem dX12_readGroup_65 : decode cX12_readGroup 65 = .ok (.aload_n 0, 1) := by decide +kernel
theorem dX12_readGroup_66 : decode cX12_readGroup 66 = .ok (.getfield 75, 3) := by decide +kernel
theorem dX12_readGroup_69 : decode cX12_readGroup 69 = .ok (.iload_n 2, 1) := by decide +kernel
theorem dX12_readGroup_70 : decode cX12_readGroup 70 = .ok (.iload_n 3, 1) := by decide +kernel
theorem dX12_readGroup_71 : decode cX12_readGroup 71 = .ok (.iastore, 1) := by decide +kernel
theorem dX12_readGroup_72 : decode cX12_readGroup 72 = .ok (.iload_n 3, 1) := by decide +kernel
theorem dX12_readGroup_73 : decode cX12_readGroup 73 = .ok (.istore_n 2, 1) := by decide +kernel
theorem dX12_readGroup_74 : decode cX12_readGroup 74 = .ok (.goto (-54), 3) := by decide +kernel
theorem dX12_readGroup_77 : decode cX12_readGroup 77 = .ok (.aload_n 0, 1) := by decide +kernel
theorem dX12_readGroup_78 : decode cX12_readGroup 78 = .ok (.bipush 41, 2) := by decide +kernel
theorem dX12_readGroup_80 : decode cX12_readGroup 80 = .ok (.invokevirtual 276, 3) := by decide +kernel
theorem dX12_readGroup_83 : decode cX12_readGroup 83 = .ok (.ifCond .ne 5, 3) := by decide +kernel
theorem dX12_readGroup_86 : decode cX12_readGroup 86 = .ok (.iconst (-1), 1) := by decide +kernel
theorem dX12_readGroup_87 : decode cX12_readGroup 87 = .ok (.ireturn, 1) := by decide +kernel
theorem dX12_readGroup_88 : decode cX12_readGroup 88 = .ok (.aload_n 0, 1) := by decide +kernel
theorem dX12_readGroup_89 : decode cX12_readGroup 89 = .ok (.dup, 1) := by decide +kernel
theorem dX12_readGroup_90 : decode cX12_readGroup 90 = .ok (.getfield 366, 3) := by decide +kernel
theorem dX12_readGroup_93 : decode cX12_readGroup 93 = .ok (.iconst 1, 1) := by decide +kernel
theorem dX12_readGroup_94 : decode cX12_readGroup 94 = .ok (.isub, 1) := by decide +kernel
theorem dX12_readGroup_95 : decode cX12_readGroup 95 = .ok (.putfield 366, 3) := by decide +kernel
theorem dX12_readGroup_98 : decode cX12_readGroup 98 = .ok (.iload_n 1, 1) := by decide +kernel
theorem dX12_readGroup_99 : decode cX12_readGroup 99 = .ok (.ireturn, 1) := by decide +kernel
abbrev GT_B : Type := (ae_S → Option (Int32 × ae_S)) × (ae_S → Option (Int32 × ae_S))
def GH_B (l : Launch) (G : ae_G) (D : Nat) (g : GT_B) : Prop := (∀ (s0 : ae_S) (rr : Int32) (ss : ae_S), g.1 s0 = some (rr, ss) → ae_Met l G D yX12_readStatement mX12_readStatement [ae_r (some (30, 0))] s0 (ae_Po (some (ae_i rr)) ss)) ∧ (∀ (s0 : ae_S) (rr : Int32) (ss : ae_S), g.2 s0 = some (rr, ss) → ae_Met l G D yX12_readGroup mX12_readGroup [ae_r (some (30, 0))] s0 (ae_Po (some (ae_i rr)) ss))
def F_X12_readStatement_165 (g : GT_B) (v3 : Int32) (s0 : ae_S) : Option (Int32 × ae_S) := some (v3, s0)
set_option maxHeartbeats 4000000 in
set_option maxRecDepth 100000 in
theorem t_X12_readStatement_165 {l : Launch} {G : ae_G} (d nn : Nat) (g : GT_B) (hg : GH_B l G (d + nn + 1310) g) {rr : Int32} {ss : ae_S} (v3 : Int32) (s0 : ae_S) (hF : F_X12_readStatement_165 g v3 s0 = some (rr, ss)) : ae_T l G (d + (nn + 1) + 1310) mX12_readStatement (ae_Po (some (ae_i rr)) ss) 165 [(3, ae_i v3)] [] s0 := by
  unfold F_X12_readStatement_165 at hF
  refine ae_iload_n 0 dX12_readStatement_165 rfl ?_
  obtain ⟨rfl, rfl⟩ := ae_retI hF
  exact ae_iret dX12_readStatement_166 rfl rfl ⟨rfl, rfl⟩
def F_X12_readStatement_153 (g : GT_B) (v1 : Int32) (v2 : Int32) (v3 : Int32) (s0 : ae_S) : Option (Int32 × ae_S) := if v1 = (-1 : Int32) then (F_X12_readStatement_165 g v3 s0) else (ae_bd (F_X12_isFine s0) (fun (r3 : Int32) s4 => if r3 = 0 then (F_X12_readStatement_165 g v3 s4) else (ae_gd (ae_ib v2 600) (ae_lt (ae_wI s4 49 0 v2.toNatClampNeg v3) (fun s11 => some (v1, s11))))))
set_option maxHeartbeats 4000000 in
set_option maxRecDepth 100000 in
theorem t_X12_readStatement_153 {l : Launch} {G : ae_G} (d nn : Nat) (g : GT_B) (hg : GH_B l G (d + nn + 1310) g) {rr : Int32} {ss : ae_S} (v1 : Int32) (v2 : Int32) (v3 : Int32) (s0 : ae_S) (hF : F_X12_readStatement_153 g v1 v2 v3 s0 = some (rr, ss)) : ae_T l G (d + (nn + 1) + 1310) mX12_readStatement (ae_Po (some (ae_i rr)) ss) 153 [(0, ae_r (some (30, 0))), (1, ae_i v1), (2, ae_i v2), (3, ae_i v3)] [] s0 := by
  unfold F_X12_readStatement_153 at hF
  refine ae_iload_n 1 dX12_readStatement_153 rfl ?_
  refine ae_iconst (-1 : Int32) dX12_readStatement_154 (by decide) ?_
  refine ae_icmp_eq 165 dX12_readStatement_155 rfl (fun hb1 => ?_) (fun hb1 => ?_)
  · have hF2 := ae_ifT hb1 hF
    refine ae_pick (lv' := [(3, ae_i v3)]) [3] rfl ?_
    exact t_X12_readStatement_165 d nn g hg v3 s0 hF2
  · have hF2 := ae_ifF hb1 hF
    refine ae_aload_n 0 dX12_readStatement_158 rfl ?_
    obtain ⟨r3, s4, hc5, hF6⟩ := ae_bdI hF2
    refine ae_cV1 (q := (30, 0)) (As := []) dX12_readStatement_159 ww_1586 vy_X12_isFine rfl rfl rfl rfl rfl (Nat.le_of_ble_eq_true rfl) (c_X12_isFine (d + (nn + 1) + 1309) hc5) ?_
    refine ae_if_ne 167 dX12_readStatement_162 rfl (fun hb7 => ?_) (fun hb7 => ?_)
    · have hF8 := ae_ifF hb7 hF6
      refine ae_aload_n 0 dX12_readStatement_167 rfl ?_
      refine ae_getA (q := (30, 0)) (some (49, 0)) dX12_readStatement_168 fl_RX12_72 rfl rfl rfl ?_
      refine ae_iload_n 2 dX12_readStatement_171 rfl ?_
      refine ae_iload_n 3 dX12_readStatement_172 rfl ?_
      obtain ⟨hg9, hF10⟩ := ae_gdI hF8
      obtain ⟨s11, hs11, hF12⟩ := ae_ltI hF10
      refine ae_iast (q := (49, 0)) dX12_readStatement_173 rfl rfl (ae_ibI hg9) (ae_nmS hs11 ?_)
      refine ae_iload_n 1 dX12_readStatement_174 rfl ?_
      obtain ⟨rfl, rfl⟩ := ae_retI hF12
      exact ae_iret dX12_readStatement_175 rfl rfl ⟨rfl, rfl⟩
    · have hF8 := ae_ifT hb7 hF6
      refine ae_pick (lv' := [(3, ae_i v3)]) [3] rfl ?_
      exact t_X12_readStatement_165 d nn g hg v3 s4 hF8
def F_X12_readStatement_58 (g : GT_B) (v1 : Int32) (v2 : Int32) (s0 : ae_S) : Option (Int32 × ae_S) := ae_bd (F_X12_isFine s0) (fun (r13 : Int32) s14 => if r13 = 0 then (some ((-1 : Int32), s14)) else (ae_bd (F_X12_isSign (40 : Int32) s14) (fun (r19 : Int32) s20 => if r19 = 0 then (ae_bd (F_X12_isWord (8 : Fin 32) s20) (fun (r25 : Int32) s26 => if r25 = 0 then (ae_bd (F_X12_readPlace s26) (fun (r31 : Int32) s32 => ae_bd (F_X12_takes (61 : Int32) s32) (fun (r35 : Int32) s36 => if r35 = 0 then (some ((-1 : Int32), s36)) else (ae_bd (F_X12_readAll s36) (fun (r41 : Int32) s42 => ae_bd (F_X12_node (10 : Int32) r31 r41 s42) (fun (r45 : Int32) s46 => ae_bd (F_X12_takes (59 : Int32) s46) (fun (r49 : Int32) s50 => F_X12_readStatement_153 g v1 v2 r45 s50))))))) else (ae_bd (F_X12_next s26) (fun (r53 : Unit) s54 => ae_bd (F_X12_node (12 : Int32) (-1 : Int32) (-1 : Int32) s54) (fun (r57 : Int32) s58 => ae_bd (F_X12_takes (59 : Int32) s58) (fun (r61 : Int32) s62 => F_X12_readStatement_153 g v1 v2 r57 s62)))))) else (ae_bd (g.2 s20) (fun (r65 : Int32) s66 => F_X12_readStatement_153 g v1 v2 r65 s66)))))
set_option maxHeartbeats 4000000 in
set_option maxRecDepth 100000 in
theorem t_X12_readStatement_58 {l : Launch} {G : ae_G} (d nn : Nat) (g : GT_B) (hg : GH_B l G (d + nn + 1310) g) {rr : Int32} {ss : ae_S} (v1 : Int32) (v2 : Int32) (s0 : ae_S) (hF : F_X12_readStatement_58 g v1 v2 s0 = some (rr, ss)) : ae_T l G (d + (nn + 1) + 1310) mX12_readStatement (ae_Po (some (ae_i rr)) ss) 58 [(0, ae_r (some (30, 0))), (1, ae_i v1), (2, ae_i v2)] [] s0 := by
  unfold F_X12_readStatement_58 at hF
  refine ae_aload_n 0 dX12_readStatement_58 rfl ?_
  obtain ⟨r13, s14, hc15, hF16⟩ := ae_bdI hF
  refine ae_cV1 (q := (30, 0)) (As := []) dX12_readStatement_59 ww_1586 vy_X12_isFine rfl rfl rfl rfl rfl (Nat.le_of_ble_eq_true rfl) (c_X12_isFine (d + (nn + 1) + 1309) hc15) ?_
  refine ae_if_ne 67 dX12_readStatement_62 rfl (fun hb17 => ?_) (fun hb17 => ?_)
  · have hF18 := ae_ifF hb17 hF16
    refine ae_aload_n 0 dX12_readStatement_67 rfl ?_
    refine ae_bipush (40 : Int32) dX12_readStatement_68 (by decide) ?_
    obtain ⟨r19, s20, hc21, hF22⟩ := ae_bdI hF18
    refine ae_cV1 (q := (30, 0)) (As := [ae_i (40 : Int32)]) dX12_readStatement_70 ww_1598 vy_X12_isSign rfl rfl rfl rfl rfl (Nat.le_of_ble_eq_true rfl) (c_X12_isSign (d + (nn + 1) + 1309) hc21) ?_
    refine ae_if_eq 84 dX12_readStatement_73 rfl (fun hb23 => ?_) (fun hb23 => ?_)
    · have hF24 := ae_ifT hb23 hF22
      refine ae_aload_n 0 dX12_readStatement_84 rfl ?_
      refine ae_ldcS (i := 8) (tx := "fail") 33 dX12_readStatement_85 rfl ?_
      obtain ⟨r25, s26, hc27, hF28⟩ := ae_bdI hF24
      refine ae_cV1 (q := (30, 0)) (As := [ae_r (some (62, 8))]) dX12_readStatement_87 ww_1537 vy_X12_isWord rfl rfl rfl rfl rfl (Nat.le_of_ble_eq_true rfl) (c_X12_isWord (d + (nn + 1) + 1304) hc27) ?_
      refine ae_if_eq 116 dX12_readStatement_90 rfl (fun hb29 => ?_) (fun hb29 => ?_)
      · have hF30 := ae_ifT hb29 hF28
        refine ae_aload_n 0 dX12_readStatement_116 rfl ?_
        obtain ⟨r31, s32, hc33, hF34⟩ := ae_bdI hF30
        refine ae_cV1 (q := (30, 0)) (As := []) dX12_readStatement_117 ww_1760 vy_X12_readPlace rfl rfl rfl rfl rfl (Nat.le_of_ble_eq_true rfl) (c_X12_readPlace (d + (nn + 1)) hc33) ?_
        refine ae_istore (lv' := [(4, ae_i r31), (0, ae_r (some (30, 0))), (1, ae_i v1), (2, ae_i v2)]) dX12_readStatement_120 (by decide) rfl ?_
        refine ae_aload_n 1 dX12_readStatement_122 rfl ?_
        refine ae_bipush (61 : Int32) dX12_readStatement_123 (by decide) ?_
        obtain ⟨r35, s36, hc37, hF38⟩ := ae_bdI hF34
        refine ae_cV1 (q := (30, 0)) (As := [ae_i (61 : Int32)]) dX12_readStatement_125 ww_1610 vy_X12_takes rfl rfl rfl rfl rfl (Nat.le_of_ble_eq_true rfl) (c_X12_takes (d + (nn + 1) + 1307) hc37) ?_
        refine ae_if_ne 133 dX12_readStatement_128 rfl (fun hb39 => ?_) (fun hb39 => ?_)
        · have hF40 := ae_ifF hb39 hF38
          refine ae_aload_n 1 dX12_readStatement_133 rfl ?_
          refine ae_bipush (10 : Int32) dX12_readStatement_134 (by decide) ?_
          refine ae_iload 0 dX12_readStatement_136 rfl ?_
          refine ae_aload_n 1 dX12_readStatement_138 rfl ?_
          obtain ⟨r41, s42, hc43, hF44⟩ := ae_bdI hF40
          refine ae_cV1 (q := (30, 0)) (As := []) dX12_readStatement_139 ww_1731 vy_X12_readAll rfl rfl rfl rfl rfl (Nat.le_of_ble_eq_true rfl) (c_X12_readAll (d + (nn + 1)) hc43) ?_
          obtain ⟨r45, s46, hc47, hF48⟩ := ae_bdI hF44
          refine ae_cV1 (q := (30, 0)) (As := [ae_i (10 : Int32), ae_i r31, ae_i r41]) dX12_readStatement_142 ww_1751 vy_X12_node rfl rfl rfl rfl rfl (Nat.le_of_ble_eq_true rfl) (c_X12_node (d + (nn + 1) + 1309) hc47) ?_
          refine ae_istore_n (lv' := [(3, ae_i r45), (4, ae_i r31), (0, ae_r (some (30, 0))), (1, ae_i v1), (2, ae_i v2)]) dX12_readStatement_145 (by decide) rfl ?_
          refine ae_aload_n 2 dX12_readStatement_146 rfl ?_
          refine ae_bipush (59 : Int32) dX12_readStatement_147 (by decide) ?_
          obtain ⟨r49, s50, hc51, hF52⟩ := ae_bdI hF48
          refine ae_cV1 (q := (30, 0)) (As := [ae_i (59 : Int32)]) dX12_readStatement_149 ww_1610 vy_X12_takes rfl rfl rfl rfl rfl (Nat.le_of_ble_eq_true rfl) (c_X12_takes (d + (nn + 1) + 1307) hc51) ?_
          refine ae_pop dX12_readStatement_152 rfl ?_
          refine ae_pick (lv' := [(0, ae_r (some (30, 0))), (1, ae_i v1), (2, ae_i v2), (3, ae_i r45)]) [2, 3, 4, 0] rfl ?_
          exact t_X12_readStatement_153 d nn g hg v1 v2 r45 s50 hF52
        · have hF40 := ae_ifT hb39 hF38
          refine ae_iconst (-1 : Int32) dX12_readStatement_131 (by decide) ?_
          obtain ⟨rfl, rfl⟩ := ae_retI hF40
          exact ae_iret dX12_readStatement_132 rfl rfl ⟨rfl, rfl⟩
      · have hF30 := ae_ifF hb29 hF28
        refine ae_aload_n 0 dX12_readStatement_93 rfl ?_
        obtain ⟨r53, s54, hc55, hF56⟩ := ae_bdI hF30
        refine ae_cV0 (q := (30, 0)) (As := []) dX12_readStatement_94 ww_1508 vy_X12_next rfl rfl rfl rfl rfl (Nat.le_of_ble_eq_true rfl) (c_X12_next (d + (nn + 1) + 1308) hc55) ?_
        refine ae_aload_n 0 dX12_readStatement_97 rfl ?_
        refine ae_bipush (12 : Int32) dX12_readStatement_98 (by decide) ?_
        refine ae_iconst (-1 : Int32) dX12_readStatement_100 (by decide) ?_
        refine ae_iconst (-1 : Int32) dX12_readStatement_101 (by decide) ?_
        obtain ⟨r57, s58, hc59, hF60⟩ := ae_bdI hF56
        refine ae_cV1 (q := (30, 0)) (As := [ae_i (12 : Int32), ae_i (-1 : Int32), ae_i (-1 : Int32)]) dX12_readStatement_102 ww_1751 vy_X12_node rfl rfl rfl rfl rfl (Nat.le_of_ble_eq_true rfl) (c_X12_node (d + (nn + 1) + 1309) hc59) ?_
        refine ae_istore_n (lv' := [(3, ae_i r57), (0, ae_r (some (30, 0))), (1, ae_i v1), (2, ae_i v2)]) dX12_readStatement_105 (by decide) rfl ?_
        refine ae_aload_n 1 dX12_readStatement_106 rfl ?_
        refine ae_bipush (59 : Int32) dX12_readStatement_107 (by decide) ?_
        obtain ⟨r61, s62, hc63, hF64⟩ := ae_bdI hF60
        refine ae_cV1 (q := (30, 0)) (As := [ae_i (59 : Int32)]) dX12_readStatement_109 ww_1610 vy_X12_takes rfl rfl rfl rfl rfl (Nat.le_of_ble_eq_true rfl) (c_X12_takes (d + (nn + 1) + 1307) hc63) ?_
        refine ae_pop dX12_readStatement_112 rfl ?_
        refine ae_goto 153 dX12_readStatement_113 rfl ?_
        refine ae_pick (lv' := [(0, ae_r (some (30, 0))), (1, ae_i v1), (2, ae_i v2), (3, ae_i r57)]) [1, 2, 3, 0] rfl ?_
        exact t_X12_readStatement_153 d nn g hg v1 v2 r57 s62 hF64
    · have hF24 := ae_ifF hb23 hF22
      refine ae_aload_n 0 dX12_readStatement_76 rfl ?_
      obtain ⟨r65, s66, hc67, hF68⟩ := ae_bdI hF24
      refine ae_cV1 (q := (30, 0)) (As := []) dX12_readStatement_77 ww_1764 vy_X12_readGroup rfl rfl rfl rfl rfl (Nat.le_of_ble_eq_true rfl) (hg.2 _ _ _ hc67) ?_
      refine ae_istore_n (lv' := [(3, ae_i r65), (0, ae_r (some (30, 0))), (1, ae_i v1), (2, ae_i v2)]) dX12_readStatement_80 (by decide) rfl ?_
      refine ae_goto 153 dX12_readStatement_81 rfl ?_
      refine ae_pick (lv' := [(0, ae_r (some (30, 0))), (1, ae_i v1), (2, ae_i v2), (3, ae_i r65)]) [1, 2, 3, 0] rfl ?_
      exact t_X12_readStatement_153 d nn g hg v1 v2 r65 s66 hF68
  · have hF18 := ae_ifT hb17 hF16
    refine ae_iconst (-1 : Int32) dX12_readStatement_65 (by decide) ?_
    obtain ⟨rfl, rfl⟩ := ae_retI hF18
    exact ae_iret dX12_readStatement_66 rfl rfl ⟨rfl, rfl⟩
def F_X12_readStatement_53 (g : GT_B) (k4 : Int32 → Int32 → ae_S → Option (Int32 × ae_S)) (v1 : Int32) (v3 : Int32) (s0 : ae_S) : Option (Int32 × ae_S) := k4 v1 v3 s0
set_option maxHeartbeats 4000000 in
set_option maxRecDepth 100000 in
theorem t_X12_readStatement_53 {l : Launch} {G : ae_G} (d nn : Nat) (g : GT_B) (hg : GH_B l G (d + nn + 1310) g) (k4 : Int32 → Int32 → ae_S → Option (Int32 × ae_S)) {rr : Int32} {ss : ae_S} (hk4 : ∀ (v1 : Int32) (v2 : Int32) (s0 : ae_S), k4 v1 v2 s0 = some (rr, ss) → ae_T l G (d + (nn + 1) + 1310) mX12_readStatement (ae_Po (some (ae_i rr)) ss) 4 [(0, ae_r (some (30, 0))), (1, ae_i v1), (2, ae_i v2)] [] s0) (v1 : Int32) (v3 : Int32) (s0 : ae_S) (hF : F_X12_readStatement_53 g k4 v1 v3 s0 = some (rr, ss)) : ae_T l G (d + (nn + 1) + 1310) mX12_readStatement (ae_Po (some (ae_i rr)) ss) 53 [(0, ae_r (some (30, 0))), (1, ae_i v1), (3, ae_i v3)] [] s0 := by
  unfold F_X12_readStatement_53 at hF
  refine ae_iload_n 2 dX12_readStatement_53 rfl ?_
  refine ae_istore_n (lv' := [(2, ae_i v3), (0, ae_r (some (30, 0))), (1, ae_i v1), (3, ae_i v3)]) dX12_readStatement_54 (by decide) rfl ?_
  refine ae_goto 4 dX12_readStatement_55 rfl ?_
  refine ae_pick (lv' := [(0, ae_r (some (30, 0))), (1, ae_i v1), (2, ae_i v3)]) [1, 2, 0] rfl ?_
  exact hk4 v1 v3 s0 hF
def F_X12_readStatement_4 (g : GT_B) : Nat → Int32 → Int32 → ae_S → Option (Int32 × ae_S)
  | 0, _, _, _ => none
  | n + 1, v1, v2, s0 => ae_bd (F_X12_isWord (7 : Fin 32) s0) (fun (r69 : Int32) s70 => if r69 = 0 then (F_X12_readStatement_58 g v1 v2 s70) else (ae_bd (F_X12_isFine s70) (fun (r75 : Int32) s76 => if r75 = 0 then (F_X12_readStatement_58 g v1 v2 s76) else (ae_bd (F_X12_next s76) (fun (r81 : Unit) s82 => ae_bd (F_X12_readAll s82) (fun (r85 : Int32) s86 => ae_bd (F_X12_node (11 : Int32) r85 (-1 : Int32) s86) (fun (r89 : Int32) s90 => if v1 = (-1 : Int32) then (F_X12_readStatement_53 g (F_X12_readStatement_4 g n) r89 r89 s90) else (ae_gd (ae_ib v2 600) (ae_lt (ae_wI s90 49 0 v2.toNatClampNeg r89) (fun s97 => F_X12_readStatement_53 g (F_X12_readStatement_4 g n) v1 r89 s97))))))))))
set_option maxHeartbeats 4000000 in
set_option maxRecDepth 100000 in
theorem t_X12_readStatement_4 {l : Launch} {G : ae_G} (d nn : Nat) (g : GT_B) (hg : GH_B l G (d + nn + 1310) g) {rr : Int32} {ss : ae_S} : ∀ (n : Nat) (v1 : Int32) (v2 : Int32) (s0 : ae_S), F_X12_readStatement_4 g n v1 v2 s0 = some (rr, ss) → ae_T l G (d + (nn + 1) + 1310) mX12_readStatement (ae_Po (some (ae_i rr)) ss) 4 [(0, ae_r (some (30, 0))), (1, ae_i v1), (2, ae_i v2)] [] s0 := by
  intro n
  induction n with
  | zero =>
    intro v1 v2 s0 hF
    exact absurd (show (none : Option (Int32 × ae_S)) = some (rr, ss) from hF) (by simp)
  | succ n ih =>
    intro v1 v2 s0 hF
    unfold F_X12_readStatement_4 at hF
    refine ae_aload_n 0 dX12_readStatement_4 rfl ?_
    refine ae_ldcS (i := 7) (tx := "if") 32 dX12_readStatement_5 rfl ?_
    obtain ⟨r69, s70, hc71, hF72⟩ := ae_bdI hF
    refine ae_cV1 (q := (30, 0)) (As := [ae_r (some (62, 7))]) dX12_readStatement_7 ww_1537 vy_X12_isWord rfl rfl rfl rfl rfl (Nat.le_of_ble_eq_true rfl) (c_X12_isWord (d + (nn + 1) + 1304) hc71) ?_
    refine ae_if_eq 58 dX12_readStatement_10 rfl (fun hb73 => ?_) (fun hb73 => ?_)
    · have hF74 := ae_ifT hb73 hF72
      refine ae_pick (lv' := [(0, ae_r (some (30, 0))), (1, ae_i v1), (2, ae_i v2)]) [0, 1, 2] rfl ?_
      exact t_X12_readStatement_58 d nn g hg v1 v2 s70 hF74
    · have hF74 := ae_ifF hb73 hF72
      refine ae_aload_n 0 dX12_readStatement_13 rfl ?_
      obtain ⟨r75, s76, hc77, hF78⟩ := ae_bdI hF74
      refine ae_cV1 (q := (30, 0)) (As := []) dX12_readStatement_14 ww_1586 vy_X12_isFine rfl rfl rfl rfl rfl (Nat.le_of_ble_eq_true rfl) (c_X12_isFine (d + (nn + 1) + 1309) hc77) ?_
      refine ae_if_eq 58 dX12_readStatement_17 rfl (fun hb79 => ?_) (fun hb79 => ?_)
      · have hF80 := ae_ifT hb79 hF78
        refine ae_pick (lv' := [(0, ae_r (some (30, 0))), (1, ae_i v1), (2, ae_i v2)]) [0, 1, 2] rfl ?_
        exact t_X12_readStatement_58 d nn g hg v1 v2 s76 hF80
      · have hF80 := ae_ifF hb79 hF78
        refine ae_aload_n 0 dX12_readStatement_20 rfl ?_
        obtain ⟨r81, s82, hc83, hF84⟩ := ae_bdI hF80
        refine ae_cV0 (q := (30, 0)) (As := []) dX12_readStatement_21 ww_1508 vy_X12_next rfl rfl rfl rfl rfl (Nat.le_of_ble_eq_true rfl) (c_X12_next (d + (nn + 1) + 1308) hc83) ?_
        refine ae_aload_n 0 dX12_readStatement_24 rfl ?_
        refine ae_bipush (11 : Int32) dX12_readStatement_25 (by decide) ?_
        refine ae_aload_n 0 dX12_readStatement_27 rfl ?_
        obtain ⟨r85, s86, hc87, hF88⟩ := ae_bdI hF84
        refine ae_cV1 (q := (30, 0)) (As := []) dX12_readStatement_28 ww_1731 vy_X12_readAll rfl rfl rfl rfl rfl (Nat.le_of_ble_eq_true rfl) (c_X12_readAll (d + (nn + 1)) hc87) ?_
        refine ae_iconst (-1 : Int32) dX12_readStatement_31 (by decide) ?_
        obtain ⟨r89, s90, hc91, hF92⟩ := ae_bdI hF88
        refine ae_cV1 (q := (30, 0)) (As := [ae_i (11 : Int32), ae_i r85, ae_i (-1 : Int32)]) dX12_readStatement_32 ww_1751 vy_X12_node rfl rfl rfl rfl rfl (Nat.le_of_ble_eq_true rfl) (c_X12_node (d + (nn + 1) + 1309) hc91) ?_
        refine ae_istore_n (lv' := [(3, ae_i r89), (0, ae_r (some (30, 0))), (1, ae_i v1), (2, ae_i v2)]) dX12_readStatement_35 (by decide) rfl ?_
        refine ae_iload_n 2 dX12_readStatement_36 rfl ?_
        refine ae_iconst (-1 : Int32) dX12_readStatement_37 (by decide) ?_
        refine ae_icmp_ne 46 dX12_readStatement_38 rfl (fun hb93 => ?_) (fun hb93 => ?_)
        · have hF94 := ae_ifF hb93 hF92
          refine ae_aload_n 1 dX12_readStatement_46 rfl ?_
          refine ae_getA (q := (30, 0)) (some (49, 0)) dX12_readStatement_47 fl_RX12_72 rfl rfl rfl ?_
          refine ae_iload_n 3 dX12_readStatement_50 rfl ?_
          refine ae_iload_n 0 dX12_readStatement_51 rfl ?_
          obtain ⟨hg95, hF96⟩ := ae_gdI hF94
          obtain ⟨s97, hs97, hF98⟩ := ae_ltI hF96
          refine ae_iast (q := (49, 0)) dX12_readStatement_52 rfl rfl (ae_ibI hg95) (ae_nmS hs97 ?_)
          refine ae_pick (lv' := [(0, ae_r (some (30, 0))), (1, ae_i v1), (3, ae_i r89)]) [1, 2, 0] rfl ?_
          exact t_X12_readStatement_53 d nn g hg (F_X12_readStatement_4 g n) ih v1 r89 s97 hF98
        · have hF94 := ae_ifT hb93 hF92
          refine ae_iload_n 0 dX12_readStatement_41 rfl ?_
          refine ae_istore_n (lv' := [(1, ae_i r89), (3, ae_i r89), (0, ae_r (some (30, 0))), (2, ae_i v2)]) dX12_readStatement_42 (by decide) rfl ?_
          refine ae_goto 53 dX12_readStatement_43 rfl ?_
          refine ae_pick (lv' := [(0, ae_r (some (30, 0))), (1, ae_i r89), (3, ae_i r89)]) [2, 0, 1] rfl ?_
          exact t_X12_readStatement_53 d nn g hg (F_X12_readStatement_4 g n) ih r89 r89 s90 hF94
def FZ_X12_readStatement (g : GT_B) (s0 : ae_S) : Option (Int32 × ae_S) := F_X12_readStatement_4 g ae_fu (-1 : Int32) (-1 : Int32) s0
set_option maxHeartbeats 4000000 in
set_option maxRecDepth 100000 in
theorem cZ_X12_readStatement {l : Launch} {G : ae_G} (d nn : Nat) (g : GT_B) (hg : GH_B l G (d + nn + 1310) g) {s0 ss : ae_S} {rr : Int32} (hF : FZ_X12_readStatement g s0 = some (rr, ss)) : ae_Met l G (d + (nn + 1) + 1310) yX12_readStatement mX12_readStatement [ae_r (some (30, 0))] s0 (ae_Po (some (ae_i rr)) ss) := by
  refine ae_enter (by decide) rfl (Nat.le_of_ble_eq_true rfl) ?_
  show ae_T l G (d + (nn + 1) + 1310) mX12_readStatement (ae_Po (some (ae_i rr)) ss) 0 [(0, ae_r (some (30, 0)))] [] s0
  unfold FZ_X12_readStatement at hF
  refine ae_iconst (-1 : Int32) dX12_readStatement_0 (by decide) ?_
  refine ae_istore_n (lv' := [(1, ae_i (-1 : Int32)), (0, ae_r (some (30, 0)))]) dX12_readStatement_1 (by decide) rfl ?_
  refine ae_iconst (-1 : Int32) dX12_readStatement_2 (by decide) ?_
  refine ae_istore_n (lv' := [(2, ae_i (-1 : Int32)), (1, ae_i (-1 : Int32)), (0, ae_r (some (30, 0)))]) dX12_readStatement_3 (by decide) rfl ?_
  refine ae_pick (lv' := [(0, ae_r (some (30, 0))), (1, ae_i (-1 : Int32)), (2, ae_i (-1 : Int32))]) [2, 1, 0] rfl ?_
  exact t_X12_readStatement_4 d nn g hg ae_fu (-1 : Int32) (-1 : Int32) s0 hF
def F_X12_readGroup_77 (g : GT_B) (v1 : Int32) (s0 : ae_S) : Option (Int32 × ae_S) := ae_bd (F_X12_takes (41 : Int32) s0) (fun (r1 : Int32) s2 => if r1 = 0 then (some ((-1 : Int32), s2)) else (ae_lt (ae_wI s2 30 0 39 ((s2.1 30 0 39) - (1 : Int32))) (fun s7 => some (v1, s7))))
set_option maxHeartbeats 4000000 in
set_option maxRecDepth 100000 in
theorem t_X12_readGroup_77 {l : Launch} {G : ae_G} (d nn : Nat) (g : GT_B) (hg : GH_B l G (d + nn + 1310) g) {rr : Int32} {ss : ae_S} (v1 : Int32) (s0 : ae_S) (hF : F_X12_readGroup_77 g v1 s0 = some (rr, ss)) : ae_T l G (d + (nn + 1) + 1310) mX12_readGroup (ae_Po (some (ae_i rr)) ss) 77 [(0, ae_r (some (30, 0))), (1, ae_i v1)] [] s0 := by
  unfold F_X12_readGroup_77 at hF
  refine ae_aload_n 0 dX12_readGroup_77 rfl ?_
  refine ae_bipush (41 : Int32) dX12_readGroup_78 (by decide) ?_
  obtain ⟨r1, s2, hc3, hF4⟩ := ae_bdI hF
  refine ae_cV1 (q := (30, 0)) (As := [ae_i (41 : Int32)]) dX12_readGroup_80 ww_1610 vy_X12_takes rfl rfl rfl rfl rfl (Nat.le_of_ble_eq_true rfl) (c_X12_takes (d + (nn + 1) + 1307) hc3) ?_
  refine ae_if_ne 88 dX12_readGroup_83 rfl (fun hb5 => ?_) (fun hb5 => ?_)
  · have hF6 := ae_ifF hb5 hF4
    refine ae_aload_n 0 dX12_readGroup_88 rfl ?_
    refine ae_dup dX12_readGroup_89 rfl ?_
    refine ae_getI (q := (30, 0)) dX12_readGroup_90 fl_RX12_366 rfl rfl ?_
    refine ae_iconst (1 : Int32) dX12_readGroup_93 (by decide) ?_
    refine ae_isub dX12_readGroup_94 ?_
    obtain ⟨s7, hs7, hF8⟩ := ae_ltI hF6
    refine ae_putI (q := (30, 0)) dX12_readGroup_95 fl_RX12_366 rfl rfl (ae_nmS hs7 ?_)
    refine ae_iload_n 1 dX12_readGroup_98 rfl ?_
    obtain ⟨rfl, rfl⟩ := ae_retI hF8
    exact ae_iret dX12_readGroup_99 rfl rfl ⟨rfl, rfl⟩
  · have hF6 := ae_ifT hb5 hF4
    refine ae_iconst (-1 : Int32) dX12_readGroup_86 (by decide) ?_
    obtain ⟨rfl, rfl⟩ := ae_retI hF6
    exact ae_iret dX12_readGroup_87 rfl rfl ⟨rfl, rfl⟩
def F_X12_readGroup_72 (g : GT_B) (k20 : Int32 → Int32 → ae_S → Option (Int32 × ae_S)) (v1 : Int32) (v3 : Int32) (s0 : ae_S) : Option (Int32 × ae_S) := k20 v1 v3 s0
set_option maxHeartbeats 4000000 in
set_option maxRecDepth 100000 in
theorem t_X12_readGroup_72 {l : Launch} {G : ae_G} (d nn : Nat) (g : GT_B) (hg : GH_B l G (d + nn + 1310) g) (k20 : Int32 → Int32 → ae_S → Option (Int32 × ae_S)) {rr : Int32} {ss : ae_S} (hk20 : ∀ (v1 : Int32) (v2 : Int32) (s0 : ae_S), k20 v1 v2 s0 = some (rr, ss) → ae_T l G (d + (nn + 1) + 1310) mX12_readGroup (ae_Po (some (ae_i rr)) ss) 20 [(0, ae_r (some (30, 0))), (1, ae_i v1), (2, ae_i v2)] [] s0) (v1 : Int32) (v3 : Int32) (s0 : ae_S) (hF : F_X12_readGroup_72 g k20 v1 v3 s0 = some (rr, ss)) : ae_T l G (d + (nn + 1) + 1310) mX12_readGroup (ae_Po (some (ae_i rr)) ss) 72 [(0, ae_r (some (30, 0))), (1, ae_i v1), (3, ae_i v3)] [] s0 := by
  unfold F_X12_readGroup_72 at hF
  refine ae_iload_n 2 dX12_readGroup_72 rfl ?_
  refine ae_istore_n (lv' := [(2, ae_i v3), (0, ae_r (some (30, 0))), (1, ae_i v1), (3, ae_i v3)]) dX12_readGroup_73 (by decide) rfl ?_
  refine ae_goto 20 dX12_readGroup_74 rfl ?_
  refine ae_pick (lv' := [(0, ae_r (some (30, 0))), (1, ae_i v1), (2, ae_i v3)]) [1, 2, 0] rfl ?_
  exact hk20 v1 v3 s0 hF
def F_X12_readGroup_20 (g : GT_B) : Nat → Int32 → Int32 → ae_S → Option (Int32 × ae_S)
  | 0, _, _, _ => none
  | n + 1, v1, v2, s0 => ae_bd (F_X12_isFine s0) (fun (r9 : Int32) s10 => if r9 = 0 then (F_X12_readGroup_77 g v1 s10) else (ae_bd (F_X12_isSign (41 : Int32) s10) (fun (r15 : Int32) s16 => if r15 = 0 then (ae_bd (g.1 s16) (fun (r21 : Int32) s22 => ae_bd (F_X12_isFine s22) (fun (r25 : Int32) s26 => if r25 = 0 then (some ((-1 : Int32), s26)) else (if v2 = (-1 : Int32) then (ae_gd (ae_ib v1 600) (ae_lt (ae_wI s26 48 0 v1.toNatClampNeg r21) (fun s39 => F_X12_readGroup_72 g (F_X12_readGroup_20 g n) v1 r21 s39))) else (ae_gd (ae_ib v2 600) (ae_lt (ae_wI s26 50 0 v2.toNatClampNeg r21) (fun s35 => F_X12_readGroup_72 g (F_X12_readGroup_20 g n) v1 r21 s35))))))) else (F_X12_readGroup_77 g v1 s16))))
set_option maxHeartbeats 4000000 in
set_option maxRecDepth 100000 in
theorem t_X12_readGroup_20 {l : Launch} {G : ae_G} (d nn : Nat) (g : GT_B) (hg : GH_B l G (d + nn + 1310) g) {rr : Int32} {ss : ae_S} : ∀ (n : Nat) (v1 : Int32) (v2 : Int32) (s0 : ae_S), F_X12_readGroup_20 g n v1 v2 s0 = some (rr, ss) → ae_T l G (d + (nn + 1) + 1310) mX12_readGroup (ae_Po (some (ae_i rr)) ss) 20 [(0, ae_r (some (30, 0))), (1, ae_i v1), (2, ae_i v2)] [] s0 := by
  intro n
  induction n with
  | zero =>
    intro v1 v2 s0 hF
    exact absurd (show (none : Option (Int32 × ae_S)) = some (rr, ss) from hF) (by simp)
  | succ n ih =>
    intro v1 v2 s0 hF
    unfold F_X12_readGroup_20 at hF
    refine ae_aload_n 0 dX12_readGroup_20 rfl ?_
    obtain ⟨r9, s10, hc11, hF12⟩ := ae_bdI hF
    refine ae_cV1 (q := (30, 0)) (As := []) dX12_readGroup_21 ww_1586 vy_X12_isFine rfl rfl rfl rfl rfl (Nat.le_of_ble_eq_true rfl) (c_X12_isFine (d + (nn + 1) + 1309) hc11) ?_
    refine ae_if_eq 77 dX12_readGroup_24 rfl (fun hb13 => ?_) (fun hb13 => ?_)
    · have hF14 := ae_ifT hb13 hF12
      refine ae_pick (lv' := [(0, ae_r (some (30, 0))), (1, ae_i v1)]) [0, 1] rfl ?_
      exact t_X12_readGroup_77 d nn g hg v1 s10 hF14
    · have hF14 := ae_ifF hb13 hF12
      refine ae_aload_n 0 dX12_readGroup_27 rfl ?_
      refine ae_bipush (41 : Int32) dX12_readGroup_28 (by decide) ?_
      obtain ⟨r15, s16, hc17, hF18⟩ := ae_bdI hF14
      refine ae_cV1 (q := (30, 0)) (As := [ae_i (41 : Int32)]) dX12_readGroup_30 ww_1598 vy_X12_isSign rfl rfl rfl rfl rfl (Nat.le_of_ble_eq_true rfl) (c_X12_isSign (d + (nn + 1) + 1309) hc17) ?_
      refine ae_if_ne 77 dX12_readGroup_33 rfl (fun hb19 => ?_) (fun hb19 => ?_)
      · have hF20 := ae_ifF hb19 hF18
        refine ae_pick (lv' := [(0, ae_r (some (30, 0))), (1, ae_i v1)]) [0, 1] rfl ?_
        exact t_X12_readGroup_77 d nn g hg v1 s16 hF20
      · have hF20 := ae_ifT hb19 hF18
        refine ae_aload_n 0 dX12_readGroup_36 rfl ?_
        obtain ⟨r21, s22, hc23, hF24⟩ := ae_bdI hF20
        refine ae_cV1 (q := (30, 0)) (As := []) dX12_readGroup_37 ww_1727 vy_X12_readStatement rfl rfl rfl rfl rfl (Nat.le_of_ble_eq_true rfl) (hg.1 _ _ _ hc23) ?_
        refine ae_istore_n (lv' := [(3, ae_i r21), (0, ae_r (some (30, 0))), (1, ae_i v1), (2, ae_i v2)]) dX12_readGroup_40 (by decide) rfl ?_
        refine ae_aload_n 1 dX12_readGroup_41 rfl ?_
        obtain ⟨r25, s26, hc27, hF28⟩ := ae_bdI hF24
        refine ae_cV1 (q := (30, 0)) (As := []) dX12_readGroup_42 ww_1586 vy_X12_isFine rfl rfl rfl rfl rfl (Nat.le_of_ble_eq_true rfl) (c_X12_isFine (d + (nn + 1) + 1309) hc27) ?_
        refine ae_if_ne 50 dX12_readGroup_45 rfl (fun hb29 => ?_) (fun hb29 => ?_)
        · have hF30 := ae_ifF hb29 hF28
          refine ae_iload_n 3 dX12_readGroup_50 rfl ?_
          refine ae_iconst (-1 : Int32) dX12_readGroup_51 (by decide) ?_
          refine ae_icmp_ne 65 dX12_readGroup_52 rfl (fun hb31 => ?_) (fun hb31 => ?_)
          · have hF32 := ae_ifF hb31 hF30
            refine ae_aload_n 1 dX12_readGroup_65 rfl ?_
            refine ae_getA (q := (30, 0)) (some (50, 0)) dX12_readGroup_66 fl_RX12_75 rfl rfl rfl ?_
            refine ae_iload_n 3 dX12_readGroup_69 rfl ?_
            refine ae_iload_n 0 dX12_readGroup_70 rfl ?_
            obtain ⟨hg33, hF34⟩ := ae_gdI hF32
            obtain ⟨s35, hs35, hF36⟩ := ae_ltI hF34
            refine ae_iast (q := (50, 0)) dX12_readGroup_71 rfl rfl (ae_ibI hg33) (ae_nmS hs35 ?_)
            refine ae_pick (lv' := [(0, ae_r (some (30, 0))), (1, ae_i v1), (3, ae_i r21)]) [1, 2, 0] rfl ?_
            exact t_X12_readGroup_72 d nn g hg (F_X12_readGroup_20 g n) ih v1 r21 s35 hF36
          · have hF32 := ae_ifT hb31 hF30
            refine ae_aload_n 1 dX12_readGroup_55 rfl ?_
            refine ae_getA (q := (30, 0)) (some (48, 0)) dX12_readGroup_56 fl_RX12_69 rfl rfl rfl ?_
            refine ae_iload_n 2 dX12_readGroup_59 rfl ?_
            refine ae_iload_n 0 dX12_readGroup_60 rfl ?_
            obtain ⟨hg37, hF38⟩ := ae_gdI hF32
            obtain ⟨s39, hs39, hF40⟩ := ae_ltI hF38
            refine ae_iast (q := (48, 0)) dX12_readGroup_61 rfl rfl (ae_ibI hg37) (ae_nmS hs39 ?_)
            refine ae_goto 72 dX12_readGroup_62 rfl ?_
            refine ae_pick (lv' := [(0, ae_r (some (30, 0))), (1, ae_i v1), (3, ae_i r21)]) [1, 2, 0] rfl ?_
            exact t_X12_readGroup_72 d nn g hg (F_X12_readGroup_20 g n) ih v1 r21 s39 hF40
        · have hF30 := ae_ifT hb29 hF28
          refine ae_iconst (-1 : Int32) dX12_readGroup_48 (by decide) ?_
          obtain ⟨rfl, rfl⟩ := ae_retI hF30
          exact ae_iret dX12_readGroup_49 rfl rfl ⟨rfl, rfl⟩
def FZ_X12_readGroup (g : GT_B) (s0 : ae_S) : Option (Int32 × ae_S) := ae_bd (F_X12_opens s0) (fun (r41 : Int32) s42 => if r41 = 0 then (some ((-1 : Int32), s42)) else (ae_bd (F_X12_node (13 : Int32) (-1 : Int32) (-1 : Int32) s42) (fun (r47 : Int32) s48 => F_X12_readGroup_20 g ae_fu r47 (-1 : Int32) s48)))
set_option maxHeartbeats 4000000 in
set_option maxRecDepth 100000 in
theorem cZ_X12_readGroup {l : Launch} {G : ae_G} (d nn : Nat) (g : GT_B) (hg : GH_B l G (d + nn + 1310) g) {s0 ss : ae_S} {rr : Int32} (hF : FZ_X12_readGroup g s0 = some (rr, ss)) : ae_Met l G (d + (nn + 1) + 1310) yX12_readGroup mX12_readGroup [ae_r (some (30, 0))] s0 (ae_Po (some (ae_i rr)) ss) := by
  refine ae_enter (by decide) rfl (Nat.le_of_ble_eq_true rfl) ?_
  show ae_T l G (d + (nn + 1) + 1310) mX12_readGroup (ae_Po (some (ae_i rr)) ss) 0 [(0, ae_r (some (30, 0)))] [] s0
  unfold FZ_X12_readGroup at hF
  refine ae_aload_n 0 dX12_readGroup_0 rfl ?_
  obtain ⟨r41, s42, hc43, hF44⟩ := ae_bdI hF
  refine ae_cV1 (q := (30, 0)) (As := []) dX12_readGroup_1 ww_1756 vy_X12_opens rfl rfl rfl rfl rfl (Nat.le_of_ble_eq_true rfl) (c_X12_opens (d + (nn + 1) + 1307) hc43) ?_
  refine ae_if_ne 9 dX12_readGroup_4 rfl (fun hb45 => ?_) (fun hb45 => ?_)
  · have hF46 := ae_ifF hb45 hF44
    refine ae_aload_n 0 dX12_readGroup_9 rfl ?_
    refine ae_bipush (13 : Int32) dX12_readGroup_10 (by decide) ?_
    refine ae_iconst (-1 : Int32) dX12_readGroup_12 (by decide) ?_
    refine ae_iconst (-1 : Int32) dX12_readGroup_13 (by decide) ?_
    obtain ⟨r47, s48, hc49, hF50⟩ := ae_bdI hF46
    refine ae_cV1 (q := (30, 0)) (As := [ae_i (13 : Int32), ae_i (-1 : Int32), ae_i (-1 : Int32)]) dX12_readGroup_14 ww_1751 vy_X12_node rfl rfl rfl rfl rfl (Nat.le_of_ble_eq_true rfl) (c_X12_node (d + (nn + 1) + 1309) hc49) ?_
    refine ae_istore_n (lv' := [(1, ae_i r47), (0, ae_r (some (30, 0)))]) dX12_readGroup_17 (by decide) rfl ?_
    refine ae_iconst (-1 : Int32) dX12_readGroup_18 (by decide) ?_
    refine ae_istore_n (lv' := [(2, ae_i (-1 : Int32)), (1, ae_i r47), (0, ae_r (some (30, 0)))]) dX12_readGroup_19 (by decide) rfl ?_
    refine ae_pick (lv' := [(0, ae_r (some (30, 0))), (1, ae_i r47), (2, ae_i (-1 : Int32))]) [2, 1, 0] rfl ?_
    exact t_X12_readGroup_20 d nn g hg ae_fu r47 (-1 : Int32) s48 hF50
  · have hF46 := ae_ifT hb45 hF44
    refine ae_iconst (-1 : Int32) dX12_readGroup_7 (by decide) ?_
    obtain ⟨rfl, rfl⟩ := ae_retI hF46
    exact ae_iret dX12_readGroup_8 rfl rfl ⟨rfl, rfl⟩
def FG_B : Nat → GT_B
  | 0 => (fun _ => none, fun _ => none)
  | n + 1 => (FZ_X12_readStatement (FG_B n), FZ_X12_readGroup (FG_B n))
theorem gc_B {l : Launch} {G : ae_G} (d : Nat) : ∀ n : Nat, GH_B l G (d + n + 1310) (FG_B n)
  | 0 => ⟨fun _ _ _ h => absurd h (by simp [FG_B]), fun _ _ _ h => absurd h (by simp [FG_B])⟩
  | n + 1 => ⟨fun _ _ _ h => cZ_X12_readStatement d n (FG_B n) (gc_B d n) h, fun _ _ _ h => cZ_X12_readGroup d n (FG_B n) (gc_B d n) h⟩
def F_X12_readStatement (s0 : ae_S) : Option (Int32 × ae_S) := (FG_B 16).1 s0
theorem c_X12_readStatement {l : Launch} {G : ae_G} (d : Nat) {s0 ss : ae_S} {rr : Int32} (hF : F_X12_readStatement s0 = some (rr, ss)) : ae_Met l G (d + 1326) yX12_readStatement mX12_readStatement [ae_r (some (30, 0))] s0 (ae_Po (some (ae_i rr)) ss) := by
  have h := (gc_B (l := l) (G := G) d 16).1 _ _ _ hF
  exact h
def F_X12_readGroup (s0 : ae_S) : Option (Int32 × ae_S) := (FG_B 16).2 s0
theorem c_X12_readGroup {l : Launch} {G : ae_G} (d : Nat) {s0 ss : ae_S} {rr : Int32} (hF : F_X12_readGroup s0 = some (rr, ss)) : ae_Met l G (d + 1326) yX12_readGroup mX12_readGroup [ae_r (some (30, 0))] s0 (ae_Po (some (ae_i rr)) ss) := by
  have h := (gc_B (l := l) (G := G) d 16).2 _ _ _ hF
  exact h
abbrev mX12_script : ae_M := (RX12, cX12_script, 5, some .int)
theorem vy_X12_script : ae_VY yX12_script mX12_script 0 := ⟨ww_1724, ww_1725, ww_13, ww_1726, ⟨by decide, by decide, by decide +kernel⟩, by decide⟩
theorem dX12_script_0 : decode cX12_script 0 = .ok (.aload_n 0, 1) := by decide +kernel
theorem dX12_script_1 : decode cX12_script 1 = .ok (.iconst 0, 1) := by decide +kernel
theorem dX12_script_2 : decode cX12_script 2 = .ok (.putfield 363, 3) := by decide +kernel
theorem dX12_script_5 : decode cX12_script 5 = .ok (.aload_n 0, 1) := by decide +kernel
theorem dX12_script_6 : decode cX12_script 6 = .ok (.iconst 0, 1) := by decide +kernel
theorem dX12_script_7 : decode cX12_script 7 = .ok (.putfield 366, 3) := by decide +kernel
theorem dX12_script_10 : decode cX12_script 10 = .ok (.aload_n 0, 1) := by decide +kernel
theorem dX12_script_11 : decode cX12_script 11 = .ok (.invokevirtual 289, 3) := by decide +kernel
theorem dX12_script_14 : decode cX12_script 14 = .ok (.iconst (-1), 1) := by decide +kernel
theorem dX12_script_15 : decode cX12_script 15 = .ok (.istore_n 1, 1) := by decide +kernel
theorem dX12_script_16 : decode cX12_script 16 = .ok (.iconst (-1), 1) := by decide +kernel
theorem dX12_script_17 : decode cX12_script 17 = .ok (.istore_n 2, 1) := by decide +kernel
theorem dX12_script_18 : decode cX12_script 18 = .ok (.aload_n 0, 1) := by decide +kernel
theorem dX12_script_19 : decode cX12_script 19 = .ok (.invokevirtual 189, 3) := by decide +kernel
theorem dX12_script_22 : decode cX12_script 22 = .ok (.ifCond .eq 47, 3) := by decide +kernel
theorem dX12_script_25 : decode cX12_script 25 = .ok (.aload_n 0, 1) := by decide +kernel
theorem dX12_script_26 : decode cX12_script 26 = .ok (.getfield 143, 3) := by decide +kernel
theorem dX12_script_29 : decode cX12_script 29 = .ok (.ifCond .eq 40, 3) := by decide +kernel
theorem dX12_script_32 : decode cX12_script 32 = .ok (.aload_n 0, 1) := by decide +kernel
theorem dX12_script_33 : decode cX12_script 33 = .ok (.invokevirtual 396, 3) := by decide +kernel
theorem dX12_script_36 : decode cX12_script 36 = .ok (.istore_n 3, 1) := by decide +kernel
theorem dX12_script_37 : decode cX12_script 37 = .ok (.aload_n 0, 1) := by decide +kernel
theorem dX12_script_38 : decode cX12_script 38 = .ok (.invokevirtual 189, 3) := by decide +kernel
theorem dX12_script_41 : decode cX12_script 41 = .ok (.ifCond .ne 6, 3) := by decide +kernel
theorem dX12_script_44 : decode cX12_script 44 = .ok (.goto 25, 3) := by decide +kernel
theorem dX12_script_47 : decode cX12_script 47 = .ok (.iload_n 1, 1) := by decide +kernel
theorem dX12_script_48 : decode cX12_script 48 = .ok (.iconst (-1), 1) := by decide +kernel
theorem dX12_script_49 : decode cX12_script 49 = .ok (.if_icmp .ne 8, 3) := by decide +kernel
theorem dX12_script_52 : decode cX12_script 52 = .ok (.iload_n 3, 1) := by decide +kernel
theorem dX12_script_53 : decode cX12_script 53 = .ok (.istore_n 1, 1) := by decide +kernel
theorem dX12_script_54 : decode cX12_script 54 = .ok (.goto 10, 3) := by decide +kernel
theorem dX12_script_57 : decode cX12_script 57 = .ok (.aload_n 0, 1) := by decide +kernel
theorem dX12_script_58 : decode cX12_script 58 = .ok (.getfield 75, 3) := by decide +kernel
theorem dX12_script_61 : decode cX12_script 61 = .ok (.iload_n 2, 1) := by decide +kernel
theorem dX12_script_62 : decode cX12_script 62 = .ok (.iload_n 3, 1) := by decide +kernel
theorem dX12_script_63 : decode cX12_script 63 = .ok (.iastore, 1) := by decide +kernel
theorem dX12_script_64 : decode cX12_script 64 = .ok (.iload_n 3, 1) := by decide +kernel
theorem dX12_script_65 : decode cX12_script 65 = .ok (.istore_n 2, 1) := by decide +kernel
theorem dX12_script_66 : decode cX12_script 66 = .ok (.goto (-48), 3) := by decide +kernel
theorem dX12_script_69 : decode cX12_script 69 = .ok (.aload_n 0, 1) := by decide +kernel
theorem dX12_script_70 : decode cX12_script 70 = .ok (.invokevirtual 295, 3) := by decide +kernel
theorem dX12_script_73 : decode cX12_script 73 = .ok (.ifCond .ne 5, 3) := by decide +kernel
theorem dX12_script_76 : decode cX12_script 76 = .ok (.iconst (-1), 1) := by decide +kernel
theorem dX12_script_77 : decode cX12_script 77 = .ok (.ireturn, 1) := by decide +kernel
theorem dX12_script_78 : decode cX12_script 78 = .ok (.aload_n 0, 1) := by decide +kernel
theorem dX12_script_79 : decode cX12_script 79 = .ok (.invokevirtual 115, 3) := by decide +kernel
theorem dX12_script_82 : decode cX12_script 82 = .ok (.aload_n 0, 1) := by decide +kernel
theorem dX12_script_83 : decode cX12_script 83 = .ok (.iconst 0, 1) := by decide +kernel
theorem dX12_script_84 : decode cX12_script 84 = .ok (.putfield 402, 3) := by decide +kernel
theorem dX12_script_87 : decode cX12_script 87 = .ok (.aload_n 0, 1) := by decide +kernel
theorem dX12_script_88 : decode cX12_script 88 = .ok (.iconst 0, 1) := by decide +kernel
theorem dX12_script_89 : decode cX12_script 89 = .ok (.putfield 405, 3) := by decide +kernel
theorem dX12_script_92 : decode cX12_script 92 = .ok (.aload_n 0, 1) := by decide +kernel
theorem dX12_script_93 : decode cX12_script 93 = .ok (.iconst 0, 1) := by decide +kernel
theorem dX12_script_94 : decode cX12_script 94 = .ok (.putfield 446, 3) := by decide +kernel
theorem dX12_script_97 : decode cX12_script 97 = .ok (.iload_n 1, 1) := by decide +kernel
theorem dX12_script_98 : decode cX12_script 98 = .ok (.istore_n 3, 1) := by decide +kernel
theorem dX12_script_99 : decode cX12_script 99 = .ok (.iload_n 3, 1) := by decide +kernel
theorem dX12_script_100 : decode cX12_script 100 = .ok (.iconst (-1), 1) := by decide +kernel
theorem dX12_script_101 : decode cX12_script 101 = .ok (.if_icmp .eq 58, 3) := by decide +kernel
theorem dX12_script_104 : decode cX12_script 104 = .ok (.aload_n 0, 1) := by decide +kernel
theorem dX12_script_105 : decode cX12_script 105 = .ok (.getfield 402, 3) := by decide +kernel
theorem dX12_script_108 : decode cX12_script 108 = .ok (.ifCond .ne 51, 3) := by decide +kernel
theorem dX12_script_111 : decode cX12_script 111 = .ok (.aload_n 0, 1) := by decide +kernel
theorem dX12_script_112 : decode cX12_script 112 = .ok (.getfield 446, 3) := by decide +kernel
theorem dX12_script_115 : decode cX12_script 115 = .ok (.istore 4, 2) := by decide +kernel
theorem dX12_script_117 : decode cX12_script 117 = .ok (.aload_n 0, 1) := by decide +kernel
theorem dX12_script_118 : decode cX12_script 118 = .ok (.iconst 0, 1) := by decide +kernel
theorem dX12_script_119 : decode cX12_script 119 = .ok (.invokevirtual 455, 3) := by decide +kernel
theorem dX12_script_122 : decode cX12_script 122 = .ok (.aload_n 0, 1) := by decide +kernel
theorem dX12_script_123 : decode cX12_script 123 = .ok (.iload_n 3, 1) := by decide +kernel
theorem dX12_script_124 : decode cX12_script 124 = .ok (.iconst 1, 1) := by decide +kernel
theorem dX12_script_125 : decode cX12_script 125 = .ok (.invokevirtual 458, 3) := by decide +kernel
theorem dX12_script_128 : decode cX12_script 128 = .ok (.aload_n 0, 1) := by decide +kernel
theorem dX12_script_129 : decode cX12_script 129 = .ok (.getfield 402, 3) := by decide +kernel
theorem dX12_script_132 : decode cX12_script 132 = .ok (.ifCond .ne 6, 3) := by decide +kernel
theorem dX12_script_135 : decode cX12_script 135 = .ok (.goto 14, 3) := by decide +kernel
theorem dX12_script_138 : decode cX12_script 138 = .ok (.aload_n 0, 1) := by decide +kernel
theorem dX12_script_139 : decode cX12_script 139 = .ok (.iload 4, 2) := by decide +kernel
theorem dX12_script_141 : decode cX12_script 141 = .ok (.putfield 446, 3) := by decide +kernel
theorem dX12_script_144 : decode cX12_script 144 = .ok (.aload_n 0, 1) := by decide +kernel
theorem dX12_script_145 : decode cX12_script 145 = .ok (.iconst 0, 1) := by decide +kernel
theorem dX12_script_146 : decode cX12_script 146 = .ok (.invokevirtual 462, 3) := by decide +kernel
theorem dX12_script_149 : decode cX12_script 149 = .ok (.aload_n 0, 1) := by decide +kernel
theorem dX12_script_150 : decode cX12_script 150 = .ok (.getfield 75, 3) := by decide +kernel
theorem dX12_script_153 : decode cX12_script 153 = .ok (.iload_n 3, 1) := by decide +kernel
theorem dX12_script_154 : decode cX12_script 154 = .ok (.iaload, 1) := by decide +kernel
theorem dX12_script_155 : decode cX12_script 155 = .ok (.istore_n 3, 1) := by decide +kernel
theorem dX12_script_156 : decode cX12_script 156 = .ok (.goto (-57), 3) := by decide +kernel
theorem dX12_script_159 : decode cX12_script 159 = .ok (.aload_n 0, 1) := by decide +kernel
theorem dX12_script_160 : decode cX12_script 160 = .ok (.iconst 1, 1) := by decide +kernel
theorem dX12_script_161 : decode cX12_script 161 = .ok (.invokevirtual 118, 3) := by decide +kernel
theorem dX12_script_164 : decode cX12_script 164 = .ok (.aload_n 0, 1) := by decide +kernel
theorem dX12_script_165 : decode cX12_script 165 = .ok (.getfield 446, 3) := by decide +kernel
theorem dX12_script_168 : decode cX12_script 168 = .ok (.ireturn, 1) := by decide +kernel
def F_X12_script_159 (s0 : ae_S) : Option (Int32 × ae_S) := ae_bd (F_X12_ends (1 : Int32) s0) (fun (r1 : Unit) s2 => some (s2.1 30 0 43, s2))
set_option maxHeartbeats 4000000 in
set_option maxRecDepth 100000 in
theorem t_X12_script_159 {l : Launch} {G : ae_G} (d : Nat) {rr : Int32} {ss : ae_S} (s0 : ae_S) (hF : F_X12_script_159 s0 = some (rr, ss)) : ae_T l G (d + 1327) mX12_script (ae_Po (some (ae_i rr)) ss) 159 [(0, ae_r (some (30, 0)))] [] s0 := by
  unfold F_X12_script_159 at hF
  refine ae_aload_n 0 dX12_script_159 rfl ?_
  refine ae_iconst (1 : Int32) dX12_script_160 (by decide) ?_
  obtain ⟨r1, s2, hc3, hF4⟩ := ae_bdI hF
  refine ae_cV0 (q := (30, 0)) (As := [ae_i (1 : Int32)]) dX12_script_161 ww_1472 vy_X12_ends rfl rfl rfl rfl rfl (Nat.le_of_ble_eq_true rfl) (c_X12_ends (d + 1326) hc3) ?_
  refine ae_aload_n 0 dX12_script_164 rfl ?_
  refine ae_getI (q := (30, 0)) dX12_script_165 fl_RX12_446 rfl rfl ?_
  obtain ⟨rfl, rfl⟩ := ae_retI hF4
  exact ae_iret dX12_script_168 rfl rfl ⟨rfl, rfl⟩
def F_X12_script_149 (k99 : Int32 → ae_S → Option (Int32 × ae_S)) (v3 : Int32) (s0 : ae_S) : Option (Int32 × ae_S) := ae_gd (ae_ib v3 600) (ae_lt (s0.1 50 0 v3.toNatClampNeg) (fun x7 => k99 x7 s0))
set_option maxHeartbeats 4000000 in
set_option maxRecDepth 100000 in
theorem t_X12_script_149 {l : Launch} {G : ae_G} (d : Nat) (k99 : Int32 → ae_S → Option (Int32 × ae_S)) {rr : Int32} {ss : ae_S} (hk99 : ∀ (v3 : Int32) (s0 : ae_S), k99 v3 s0 = some (rr, ss) → ae_T l G (d + 1327) mX12_script (ae_Po (some (ae_i rr)) ss) 99 [(0, ae_r (some (30, 0))), (3, ae_i v3)] [] s0) (v3 : Int32) (s0 : ae_S) (hF : F_X12_script_149 k99 v3 s0 = some (rr, ss)) : ae_T l G (d + 1327) mX12_script (ae_Po (some (ae_i rr)) ss) 149 [(0, ae_r (some (30, 0))), (3, ae_i v3)] [] s0 := by
  unfold F_X12_script_149 at hF
  refine ae_aload_n 0 dX12_script_149 rfl ?_
  refine ae_getA (q := (30, 0)) (some (50, 0)) dX12_script_150 fl_RX12_75 rfl rfl rfl ?_
  refine ae_iload_n 1 dX12_script_153 rfl ?_
  obtain ⟨hg5, hF6⟩ := ae_gdI hF
  refine ae_iald (q := (50, 0)) dX12_script_154 rfl rfl (ae_ibI hg5) ?_
  obtain ⟨x7, hx7, hF8⟩ := ae_ltI hF6
  refine ae_nmI hx7 ?_
  refine ae_istore_n (lv' := [(3, ae_i x7), (0, ae_r (some (30, 0)))]) dX12_script_155 (by decide) rfl ?_
  refine ae_goto 99 dX12_script_156 rfl ?_
  refine ae_pick (lv' := [(0, ae_r (some (30, 0))), (3, ae_i x7)]) [1, 0] rfl ?_
  exact hk99 x7 s0 hF8
def F_X12_script_99 : Nat → Int32 → ae_S → Option (Int32 × ae_S)
  | 0, _, _ => none
  | n + 1, v3, s0 => if v3 = (-1 : Int32) then (F_X12_script_159 s0) else (if (s0.1 30 0 40) = 0 then (ae_lt (s0.1 30 0 43) (fun x13 => ae_bd (F_X12_keeps (0 : Int32) s0) (fun (r15 : Unit) s16 => ae_bd (F_X12_does v3 (1 : Int32) s16) (fun (r19 : Unit) s20 => if (s20.1 30 0 40) = 0 then (F_X12_script_149 (F_X12_script_99 n) v3 s20) else (ae_lt (ae_wI s20 30 0 43 x13) (fun s25 => ae_bd (F_X12_comesBack (0 : Int32) s25) (fun (r27 : Unit) s28 => F_X12_script_149 (F_X12_script_99 n) v3 s28))))))) else (F_X12_script_159 s0))
set_option maxHeartbeats 4000000 in
set_option maxRecDepth 100000 in
theorem t_X12_script_99 {l : Launch} {G : ae_G} (d : Nat) {rr : Int32} {ss : ae_S} : ∀ (n : Nat) (v3 : Int32) (s0 : ae_S), F_X12_script_99 n v3 s0 = some (rr, ss) → ae_T l G (d + 1327) mX12_script (ae_Po (some (ae_i rr)) ss) 99 [(0, ae_r (some (30, 0))), (3, ae_i v3)] [] s0 := by
  intro n
  induction n with
  | zero =>
    intro v3 s0 hF
    exact absurd (show (none : Option (Int32 × ae_S)) = some (rr, ss) from hF) (by simp)
  | succ n ih =>
    intro v3 s0 hF
    unfold F_X12_script_99 at hF
    refine ae_iload_n 1 dX12_script_99 rfl ?_
    refine ae_iconst (-1 : Int32) dX12_script_100 (by decide) ?_
    refine ae_icmp_eq 159 dX12_script_101 rfl (fun hb9 => ?_) (fun hb9 => ?_)
    · have hF10 := ae_ifT hb9 hF
      refine ae_pick (lv' := [(0, ae_r (some (30, 0)))]) [0] rfl ?_
      exact t_X12_script_159 d s0 hF10
    · have hF10 := ae_ifF hb9 hF
      refine ae_aload_n 0 dX12_script_104 rfl ?_
      refine ae_getI (q := (30, 0)) dX12_script_105 fl_RX12_402 rfl rfl ?_
      refine ae_if_ne 159 dX12_script_108 rfl (fun hb11 => ?_) (fun hb11 => ?_)
      · have hF12 := ae_ifF hb11 hF10
        refine ae_pick (lv' := [(0, ae_r (some (30, 0)))]) [0] rfl ?_
        exact t_X12_script_159 d s0 hF12
      · have hF12 := ae_ifT hb11 hF10
        refine ae_aload_n 0 dX12_script_111 rfl ?_
        refine ae_getI (q := (30, 0)) dX12_script_112 fl_RX12_446 rfl rfl ?_
        obtain ⟨x13, hx13, hF14⟩ := ae_ltI hF12
        refine ae_nmI hx13 ?_
        refine ae_istore (lv' := [(4, ae_i x13), (0, ae_r (some (30, 0))), (3, ae_i v3)]) dX12_script_115 (by decide) rfl ?_
        refine ae_aload_n 1 dX12_script_117 rfl ?_
        refine ae_iconst (0 : Int32) dX12_script_118 (by decide) ?_
        obtain ⟨r15, s16, hc17, hF18⟩ := ae_bdI hF14
        refine ae_cV0 (q := (30, 0)) (As := [ae_i (0 : Int32)]) dX12_script_119 ww_1768 vy_X12_keeps rfl rfl rfl rfl rfl (Nat.le_of_ble_eq_true rfl) (c_X12_keeps (d + 1326) hc17) ?_
        refine ae_aload_n 1 dX12_script_122 rfl ?_
        refine ae_iload_n 2 dX12_script_123 rfl ?_
        refine ae_iconst (1 : Int32) dX12_script_124 (by decide) ?_
        obtain ⟨r19, s20, hc21, hF22⟩ := ae_bdI hF18
        refine ae_cV0 (q := (30, 0)) (As := [ae_i v3, ae_i (1 : Int32)]) dX12_script_125 ww_1772 vy_X12_does rfl rfl rfl rfl rfl (Nat.le_of_ble_eq_true rfl) (c_X12_does (d + 13) hc21) ?_
        refine ae_aload_n 1 dX12_script_128 rfl ?_
        refine ae_getI (q := (30, 0)) dX12_script_129 fl_RX12_402 rfl rfl ?_
        refine ae_if_ne 138 dX12_script_132 rfl (fun hb23 => ?_) (fun hb23 => ?_)
        · have hF24 := ae_ifF hb23 hF22
          refine ae_aload_n 1 dX12_script_138 rfl ?_
          refine ae_iload 0 dX12_script_139 rfl ?_
          obtain ⟨s25, hs25, hF26⟩ := ae_ltI hF24
          refine ae_putI (q := (30, 0)) dX12_script_141 fl_RX12_446 rfl rfl (ae_nmS hs25 ?_)
          refine ae_aload_n 1 dX12_script_144 rfl ?_
          refine ae_iconst (0 : Int32) dX12_script_145 (by decide) ?_
          obtain ⟨r27, s28, hc29, hF30⟩ := ae_bdI hF26
          refine ae_cV0 (q := (30, 0)) (As := [ae_i (0 : Int32)]) dX12_script_146 ww_1816 vy_X12_comesBack rfl rfl rfl rfl rfl (Nat.le_of_ble_eq_true rfl) (c_X12_comesBack (d + 1326) hc29) ?_
          refine ae_pick (lv' := [(0, ae_r (some (30, 0))), (3, ae_i v3)]) [1, 2] rfl ?_
          exact t_X12_script_149 d (F_X12_script_99 n) ih v3 s28 hF30
        · have hF24 := ae_ifT hb23 hF22
          refine ae_goto 149 dX12_script_135 rfl ?_
          refine ae_pick (lv' := [(0, ae_r (some (30, 0))), (3, ae_i v3)]) [1, 2] rfl ?_
          exact t_X12_script_149 d (F_X12_script_99 n) ih v3 s20 hF24
def F_X12_script_69 (v1 : Int32) (s0 : ae_S) : Option (Int32 × ae_S) := ae_bd (F_X12_isRead s0) (fun (r31 : Int32) s32 => if r31 = 0 then (some ((-1 : Int32), s32)) else (ae_bd (F_X12_begins s32) (fun (r37 : Unit) s38 => ae_lt (ae_wI s38 30 0 40 (0 : Int32)) (fun s41 => ae_lt (ae_wI s41 30 0 41 (0 : Int32)) (fun s43 => ae_lt (ae_wI s43 30 0 43 (0 : Int32)) (fun s45 => F_X12_script_99 ae_fu v1 s45))))))
set_option maxHeartbeats 4000000 in
set_option maxRecDepth 100000 in
theorem t_X12_script_69 {l : Launch} {G : ae_G} (d : Nat) {rr : Int32} {ss : ae_S} (v1 : Int32) (s0 : ae_S) (hF : F_X12_script_69 v1 s0 = some (rr, ss)) : ae_T l G (d + 1327) mX12_script (ae_Po (some (ae_i rr)) ss) 69 [(0, ae_r (some (30, 0))), (1, ae_i v1)] [] s0 := by
  unfold F_X12_script_69 at hF
  refine ae_aload_n 0 dX12_script_69 rfl ?_
  obtain ⟨r31, s32, hc33, hF34⟩ := ae_bdI hF
  refine ae_cV1 (q := (30, 0)) (As := []) dX12_script_70 ww_1615 vy_X12_isRead rfl rfl rfl rfl rfl (Nat.le_of_ble_eq_true rfl) (c_X12_isRead (d + 1326) hc33) ?_
  refine ae_if_ne 78 dX12_script_73 rfl (fun hb35 => ?_) (fun hb35 => ?_)
  · have hF36 := ae_ifF hb35 hF34
    refine ae_aload_n 0 dX12_script_78 rfl ?_
    obtain ⟨r37, s38, hc39, hF40⟩ := ae_bdI hF36
    refine ae_cV0 (q := (30, 0)) (As := []) dX12_script_79 ww_1468 vy_X12_begins rfl rfl rfl rfl rfl (Nat.le_of_ble_eq_true rfl) (c_X12_begins (d + 1326) hc39) ?_
    refine ae_aload_n 0 dX12_script_82 rfl ?_
    refine ae_iconst (0 : Int32) dX12_script_83 (by decide) ?_
    obtain ⟨s41, hs41, hF42⟩ := ae_ltI hF40
    refine ae_putI (q := (30, 0)) dX12_script_84 fl_RX12_402 rfl rfl (ae_nmS hs41 ?_)
    refine ae_aload_n 0 dX12_script_87 rfl ?_
    refine ae_iconst (0 : Int32) dX12_script_88 (by decide) ?_
    obtain ⟨s43, hs43, hF44⟩ := ae_ltI hF42
    refine ae_putI (q := (30, 0)) dX12_script_89 fl_RX12_405 rfl rfl (ae_nmS hs43 ?_)
    refine ae_aload_n 0 dX12_script_92 rfl ?_
    refine ae_iconst (0 : Int32) dX12_script_93 (by decide) ?_
    obtain ⟨s45, hs45, hF46⟩ := ae_ltI hF44
    refine ae_putI (q := (30, 0)) dX12_script_94 fl_RX12_446 rfl rfl (ae_nmS hs45 ?_)
    refine ae_iload_n 1 dX12_script_97 rfl ?_
    refine ae_istore_n (lv' := [(3, ae_i v1), (0, ae_r (some (30, 0))), (1, ae_i v1)]) dX12_script_98 (by decide) rfl ?_
    refine ae_pick (lv' := [(0, ae_r (some (30, 0))), (3, ae_i v1)]) [1, 0] rfl ?_
    exact t_X12_script_99 d ae_fu v1 s45 hF46
  · have hF36 := ae_ifT hb35 hF34
    refine ae_iconst (-1 : Int32) dX12_script_76 (by decide) ?_
    obtain ⟨rfl, rfl⟩ := ae_retI hF36
    exact ae_iret dX12_script_77 rfl rfl ⟨rfl, rfl⟩
def F_X12_script_64 (k18 : Int32 → Int32 → ae_S → Option (Int32 × ae_S)) (v1 : Int32) (v3 : Int32) (s0 : ae_S) : Option (Int32 × ae_S) := k18 v1 v3 s0
set_option maxHeartbeats 4000000 in
set_option maxRecDepth 100000 in
theorem t_X12_script_64 {l : Launch} {G : ae_G} (d : Nat) (k18 : Int32 → Int32 → ae_S → Option (Int32 × ae_S)) {rr : Int32} {ss : ae_S} (hk18 : ∀ (v1 : Int32) (v2 : Int32) (s0 : ae_S), k18 v1 v2 s0 = some (rr, ss) → ae_T l G (d + 1327) mX12_script (ae_Po (some (ae_i rr)) ss) 18 [(0, ae_r (some (30, 0))), (1, ae_i v1), (2, ae_i v2)] [] s0) (v1 : Int32) (v3 : Int32) (s0 : ae_S) (hF : F_X12_script_64 k18 v1 v3 s0 = some (rr, ss)) : ae_T l G (d + 1327) mX12_script (ae_Po (some (ae_i rr)) ss) 64 [(0, ae_r (some (30, 0))), (1, ae_i v1), (3, ae_i v3)] [] s0 := by
  unfold F_X12_script_64 at hF
  refine ae_iload_n 2 dX12_script_64 rfl ?_
  refine ae_istore_n (lv' := [(2, ae_i v3), (0, ae_r (some (30, 0))), (1, ae_i v1), (3, ae_i v3)]) dX12_script_65 (by decide) rfl ?_
  refine ae_goto 18 dX12_script_66 rfl ?_
  refine ae_pick (lv' := [(0, ae_r (some (30, 0))), (1, ae_i v1), (2, ae_i v3)]) [1, 2, 0] rfl ?_
  exact hk18 v1 v3 s0 hF
def F_X12_script_18 : Nat → Int32 → Int32 → ae_S → Option (Int32 × ae_S)
  | 0, _, _, _ => none
  | n + 1, v1, v2, s0 => ae_bd (F_X12_isFine s0) (fun (r47 : Int32) s48 => if r47 = 0 then (F_X12_script_69 v1 s48) else (if (s48.1 30 0 25) = 0 then (F_X12_script_69 v1 s48) else (ae_bd (F_X12_readStatement s48) (fun (r55 : Int32) s56 => ae_bd (F_X12_isFine s56) (fun (r59 : Int32) s60 => if r59 = 0 then (F_X12_script_69 v1 s60) else (if v1 = (-1 : Int32) then (F_X12_script_64 (F_X12_script_18 n) r55 r55 s60) else (ae_gd (ae_ib v2 600) (ae_lt (ae_wI s60 50 0 v2.toNatClampNeg r55) (fun s69 => F_X12_script_64 (F_X12_script_18 n) v1 r55 s69)))))))))
set_option maxHeartbeats 4000000 in
set_option maxRecDepth 100000 in
theorem t_X12_script_18 {l : Launch} {G : ae_G} (d : Nat) {rr : Int32} {ss : ae_S} : ∀ (n : Nat) (v1 : Int32) (v2 : Int32) (s0 : ae_S), F_X12_script_18 n v1 v2 s0 = some (rr, ss) → ae_T l G (d + 1327) mX12_script (ae_Po (some (ae_i rr)) ss) 18 [(0, ae_r (some (30, 0))), (1, ae_i v1), (2, ae_i v2)] [] s0 := by
  intro n
  induction n with
  | zero =>
    intro v1 v2 s0 hF
    exact absurd (show (none : Option (Int32 × ae_S)) = some (rr, ss) from hF) (by simp)
  | succ n ih =>
    intro v1 v2 s0 hF
    unfold F_X12_script_18 at hF
    refine ae_aload_n 0 dX12_script_18 rfl ?_
    obtain ⟨r47, s48, hc49, hF50⟩ := ae_bdI hF
    refine ae_cV1 (q := (30, 0)) (As := []) dX12_script_19 ww_1586 vy_X12_isFine rfl rfl rfl rfl rfl (Nat.le_of_ble_eq_true rfl) (c_X12_isFine (d + 1326) hc49) ?_
    refine ae_if_eq 69 dX12_script_22 rfl (fun hb51 => ?_) (fun hb51 => ?_)
    · have hF52 := ae_ifT hb51 hF50
      refine ae_pick (lv' := [(0, ae_r (some (30, 0))), (1, ae_i v1)]) [0, 1] rfl ?_
      exact t_X12_script_69 d v1 s48 hF52
    · have hF52 := ae_ifF hb51 hF50
      refine ae_aload_n 0 dX12_script_25 rfl ?_
      refine ae_getI (q := (30, 0)) dX12_script_26 fl_RX12_143 rfl rfl ?_
      refine ae_if_eq 69 dX12_script_29 rfl (fun hb53 => ?_) (fun hb53 => ?_)
      · have hF54 := ae_ifT hb53 hF52
        refine ae_pick (lv' := [(0, ae_r (some (30, 0))), (1, ae_i v1)]) [0, 1] rfl ?_
        exact t_X12_script_69 d v1 s48 hF54
      · have hF54 := ae_ifF hb53 hF52
        refine ae_aload_n 0 dX12_script_32 rfl ?_
        obtain ⟨r55, s56, hc57, hF58⟩ := ae_bdI hF54
        refine ae_cV1 (q := (30, 0)) (As := []) dX12_script_33 ww_1727 vy_X12_readStatement rfl rfl rfl rfl rfl (Nat.le_of_ble_eq_true rfl) (c_X12_readStatement d hc57) ?_
        refine ae_istore_n (lv' := [(3, ae_i r55), (0, ae_r (some (30, 0))), (1, ae_i v1), (2, ae_i v2)]) dX12_script_36 (by decide) rfl ?_
        refine ae_aload_n 1 dX12_script_37 rfl ?_
        obtain ⟨r59, s60, hc61, hF62⟩ := ae_bdI hF58
        refine ae_cV1 (q := (30, 0)) (As := []) dX12_script_38 ww_1586 vy_X12_isFine rfl rfl rfl rfl rfl (Nat.le_of_ble_eq_true rfl) (c_X12_isFine (d + 1326) hc61) ?_
        refine ae_if_ne 47 dX12_script_41 rfl (fun hb63 => ?_) (fun hb63 => ?_)
        · have hF64 := ae_ifF hb63 hF62
          refine ae_iload_n 2 dX12_script_47 rfl ?_
          refine ae_iconst (-1 : Int32) dX12_script_48 (by decide) ?_
          refine ae_icmp_ne 57 dX12_script_49 rfl (fun hb65 => ?_) (fun hb65 => ?_)
          · have hF66 := ae_ifF hb65 hF64
            refine ae_aload_n 1 dX12_script_57 rfl ?_
            refine ae_getA (q := (30, 0)) (some (50, 0)) dX12_script_58 fl_RX12_75 rfl rfl rfl ?_
            refine ae_iload_n 3 dX12_script_61 rfl ?_
            refine ae_iload_n 0 dX12_script_62 rfl ?_
            obtain ⟨hg67, hF68⟩ := ae_gdI hF66
            obtain ⟨s69, hs69, hF70⟩ := ae_ltI hF68
            refine ae_iast (q := (50, 0)) dX12_script_63 rfl rfl (ae_ibI hg67) (ae_nmS hs69 ?_)
            refine ae_pick (lv' := [(0, ae_r (some (30, 0))), (1, ae_i v1), (3, ae_i r55)]) [1, 2, 0] rfl ?_
            exact t_X12_script_64 d (F_X12_script_18 n) ih v1 r55 s69 hF70
          · have hF66 := ae_ifT hb65 hF64
            refine ae_iload_n 0 dX12_script_52 rfl ?_
            refine ae_istore_n (lv' := [(1, ae_i r55), (3, ae_i r55), (0, ae_r (some (30, 0))), (2, ae_i v2)]) dX12_script_53 (by decide) rfl ?_
            refine ae_goto 64 dX12_script_54 rfl ?_
            refine ae_pick (lv' := [(0, ae_r (some (30, 0))), (1, ae_i r55), (3, ae_i r55)]) [2, 0, 1] rfl ?_
            exact t_X12_script_64 d (F_X12_script_18 n) ih r55 r55 s60 hF66
        · have hF64 := ae_ifT hb63 hF62
          refine ae_goto 69 dX12_script_44 rfl ?_
          refine ae_pick (lv' := [(0, ae_r (some (30, 0))), (1, ae_i v1)]) [1, 2] rfl ?_
          exact t_X12_script_69 d v1 s60 hF64
def F_X12_script (s0 : ae_S) : Option (Int32 × ae_S) := ae_lt (ae_wI s0 30 0 38 (0 : Int32)) (fun s71 => ae_lt (ae_wI s71 30 0 39 (0 : Int32)) (fun s73 => ae_bd (F_X12_starts s73) (fun (r75 : Unit) s76 => F_X12_script_18 ae_fu (-1 : Int32) (-1 : Int32) s76)))
set_option maxHeartbeats 4000000 in
set_option maxRecDepth 100000 in
theorem c_X12_script {l : Launch} {G : ae_G} (d : Nat) {s0 ss : ae_S} {rr : Int32} (hF : F_X12_script s0 = some (rr, ss)) : ae_Met l G (d + 1327) yX12_script mX12_script [ae_r (some (30, 0))] s0 (ae_Po (some (ae_i rr)) ss) := by
  refine ae_enter (by decide) rfl (Nat.le_of_ble_eq_true rfl) ?_
  show ae_T l G (d + 1327) mX12_script (ae_Po (some (ae_i rr)) ss) 0 [(0, ae_r (some (30, 0)))] [] s0
  unfold F_X12_script at hF
  refine ae_aload_n 0 dX12_script_0 rfl ?_
  refine ae_iconst (0 : Int32) dX12_script_1 (by decide) ?_
  obtain ⟨s71, hs71, hF72⟩ := ae_ltI hF
  refine ae_putI (q := (30, 0)) dX12_script_2 fl_RX12_363 rfl rfl (ae_nmS hs71 ?_)
  refine ae_aload_n 0 dX12_script_5 rfl ?_
  refine ae_iconst (0 : Int32) dX12_script_6 (by decide) ?_
  obtain ⟨s73, hs73, hF74⟩ := ae_ltI hF72
  refine ae_putI (q := (30, 0)) dX12_script_7 fl_RX12_366 rfl rfl (ae_nmS hs73 ?_)
  refine ae_aload_n 0 dX12_script_10 rfl ?_
  obtain ⟨r75, s76, hc77, hF78⟩ := ae_bdI hF74
  refine ae_cV0 (q := (30, 0)) (As := []) dX12_script_11 ww_1504 vy_X12_starts rfl rfl rfl rfl rfl (Nat.le_of_ble_eq_true rfl) (c_X12_starts (d + 1324) hc77) ?_
  refine ae_iconst (-1 : Int32) dX12_script_14 (by decide) ?_
  refine ae_istore_n (lv' := [(1, ae_i (-1 : Int32)), (0, ae_r (some (30, 0)))]) dX12_script_15 (by decide) rfl ?_
  refine ae_iconst (-1 : Int32) dX12_script_16 (by decide) ?_
  refine ae_istore_n (lv' := [(2, ae_i (-1 : Int32)), (1, ae_i (-1 : Int32)), (0, ae_r (some (30, 0)))]) dX12_script_17 (by decide) rfl ?_
  refine ae_pick (lv' := [(0, ae_r (some (30, 0))), (1, ae_i (-1 : Int32)), (2, ae_i (-1 : Int32))]) [2, 1, 0] rfl ?_
  exact t_X12_script_18 d ae_fu (-1 : Int32) (-1 : Int32) s76 hF78
