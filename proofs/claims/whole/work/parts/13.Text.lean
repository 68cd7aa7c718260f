/-! methods as functions: X7_length X7_add X7_addFour X7_cut X7_get X7_addPacked X7_addWord X7_addNumber X7_has -/
theorem fl_RX7_15 : ae_FL RX7 15 5 1 (.int) false := ⟨_, _, _, rfl, by decide, ww_40, rfl, rfl, rfl⟩
theorem fl_RX7_9 : ae_FL RX7 9 5 0 (.array .int) true := ⟨_, _, _, rfl, by decide, ww_39, rfl, rfl, rfl⟩
abbrev mX7_length : ae_M := (RX7, cX7_length, 1, some .int)
theorem vy_X7_length : ae_VY yX7_length mX7_length 0 := ⟨ww_347, ww_348, ww_2, ww_349, ⟨by decide, by decide, by decide +kernel⟩, by decide⟩
theorem dX7_length_0 : decode cX7_length 0 = .ok (.aload_n 0, 1) := by decide +kernel
theorem dX7_length_1 : decode cX7_length 1 = .ok (.getfield 15, 3) := by decide +kernel
theorem dX7_length_4 : decode cX7_length 4 = .ok (.ireturn, 1) := by decide +kernel
def F_X7_length (i0 : Fin 32) (s0 : ae_S) : Option (Int32 × ae_S) := ae_gd (ae_ok (1, i0)) (some (s0.1 1 i0 1, s0))
set_option maxHeartbeats 4000000 in
set_option maxRecDepth 100000 in
theorem c_X7_length {l : Launch} {G : ae_G} (d : Nat) {i0 : Fin 32} {s0 ss : ae_S} {rr : Int32} (hF : F_X7_length i0 s0 = some (rr, ss)) : ae_Met l G d yX7_length mX7_length [ae_r (some (1, i0))] s0 (ae_Po (some (ae_i rr)) ss) := by
  refine ae_enter (by decide) rfl (Nat.le_of_ble_eq_true rfl) ?_
  show ae_T l G d mX7_length (ae_Po (some (ae_i rr)) ss) 0 [(0, ae_r (some (1, i0)))] [] s0
  unfold F_X7_length at hF
  refine ae_aload_n 0 dX7_length_0 rfl ?_
  obtain ⟨hg1, hF2⟩ := ae_gdI hF
  refine ae_getI (q := (1, i0)) dX7_length_1 fl_RX7_15 hg1 rfl ?_
  obtain ⟨rfl, rfl⟩ := ae_retI hF2
  exact ae_iret dX7_length_4 rfl rfl ⟨rfl, rfl⟩
abbrev mX7_add : ae_M := (RX7, cX7_add, 2, none)
theorem vy_X7_add : ae_VY yX7_add mX7_add 1 := ⟨ww_355, ww_356, ww_2, ww_357, ⟨by decide, by decide, by decide +kernel⟩, by decide⟩
theorem dX7_add_0 : decode cX7_add 0 = .ok (.aload_n 0, 1) := by decide +kernel
theorem dX7_add_1 : decode cX7_add 1 = .ok (.getfield 15, 3) := by decide +kernel
theorem dX7_add_4 : decode cX7_add 4 = .ok (.aload_n 0, 1) := by decide +kernel
theorem dX7_add_5 : decode cX7_add 5 = .ok (.getfield 9, 3) := by decide +kernel
theorem dX7_add_8 : decode cX7_add 8 = .ok (.arraylength, 1) := by decide +kernel
theorem dX7_add_9 : decode cX7_add 9 = .ok (.if_icmp .ge 27, 3) := by decide +kernel
theorem dX7_add_12 : decode cX7_add 12 = .ok (.aload_n 0, 1) := by decide +kernel
theorem dX7_add_13 : decode cX7_add 13 = .ok (.getfield 9, 3) := by decide +kernel
theorem dX7_add_16 : decode cX7_add 16 = .ok (.aload_n 0, 1) := by decide +kernel
theorem dX7_add_17 : decode cX7_add 17 = .ok (.getfield 15, 3) := by decide +kernel
theorem dX7_add_20 : decode cX7_add 20 = .ok (.iload_n 1, 1) := by decide +kernel
theorem dX7_add_21 : decode cX7_add 21 = .ok (.sipush 255, 3) := by decide +kernel
theorem dX7_add_24 : decode cX7_add 24 = .ok (.iand, 1) := by decide +kernel
theorem dX7_add_25 : decode cX7_add 25 = .ok (.iastore, 1) := by decide +kernel
theorem dX7_add_26 : decode cX7_add 26 = .ok (.aload_n 0, 1) := by decide +kernel
theorem dX7_add_27 : decode cX7_add 27 = .ok (.dup, 1) := by decide +kernel
theorem dX7_add_28 : decode cX7_add 28 = .ok (.getfield 15, 3) := by decide +kernel
theorem dX7_add_31 : decode cX7_add 31 = .ok (.iconst 1, 1) := by decide +kernel
theorem dX7_add_32 : decode cX7_add 32 = .ok (.iadd, 1) := by decide +kernel
theorem dX7_add_33 : decode cX7_add 33 = .ok (.putfield 15, 3) := by decide +kernel
theorem dX7_add_36 : decode cX7_add 36 = .ok (.return_, 1) := by decide +kernel
def F_X7_add_36 (s0 : ae_S) : Option (Unit × ae_S) := some ((), s0)
set_option maxHeartbeats 4000000 in
set_option maxRecDepth 100000 in
theorem t_X7_add_36 {l : Launch} {G : ae_G} (d : Nat) {rr : Unit} {ss : ae_S} (s0 : ae_S) (hF : F_X7_add_36 s0 = some (rr, ss)) : ae_T l G d mX7_add (ae_Po none ss) 36 [] [] s0 := by
  unfold F_X7_add_36 at hF
  obtain ⟨rfl, rfl⟩ := ae_retI hF
  exact ae_vret dX7_add_36 rfl ⟨rfl, rfl⟩
def F_X7_add (i0 : Fin 32) (v1 : Int32) (s0 : ae_S) : Option (Unit × ae_S) := ae_gd (ae_ok (1, i0)) (ae_gd (ae_ok (2, i0)) (if (Int32.ofNat (if (i0 : Fin 32) = 0 then 500 else 256)) ≤ (s0.1 1 i0 1) then (F_X7_add_36 s0) else (ae_gd (ae_ib (s0.1 1 i0 1) (if (i0 : Fin 32) = 0 then 500 else 256)) (ae_lt (ae_wI s0 2 i0 (s0.1 1 i0 1).toNatClampNeg (v1 &&& (255 : Int32))) (fun s9 => ae_lt (ae_wI s9 1 i0 1 ((s9.1 1 i0 1) + (1 : Int32))) (fun s11 => F_X7_add_36 s11))))))
set_option maxHeartbeats 4000000 in
set_option maxRecDepth 100000 in
theorem c_X7_add {l : Launch} {G : ae_G} (d : Nat) {i0 : Fin 32} {v1 : Int32} {s0 ss : ae_S} {rr : Unit} (hF : F_X7_add i0 v1 s0 = some (rr, ss)) : ae_Met l G d yX7_add mX7_add [ae_r (some (1, i0)), ae_i v1] s0 (ae_Po none ss) := by
  refine ae_enter (by decide) rfl (Nat.le_of_ble_eq_true rfl) ?_
  show ae_T l G d mX7_add (ae_Po none ss) 0 [(0, ae_r (some (1, i0))), (1, ae_i v1)] [] s0
  unfold F_X7_add at hF
  refine ae_aload_n 0 dX7_add_0 rfl ?_
  obtain ⟨hg1, hF2⟩ := ae_gdI hF
  refine ae_getI (q := (1, i0)) dX7_add_1 fl_RX7_15 hg1 rfl ?_
  refine ae_aload_n 0 dX7_add_4 rfl ?_
  refine ae_getA (q := (1, i0)) (some (2, i0)) dX7_add_5 fl_RX7_9 hg1 rfl rfl ?_
  obtain ⟨hg3, hF4⟩ := ae_gdI hF2
  refine ae_alen (q := (2, i0)) (Int32.ofNat (if (i0 : Fin 32) = 0 then 500 else 256)) dX7_add_8 hg3 rfl (by simp [ae_at]) rfl ?_
  refine ae_icmp_ge 36 dX7_add_9 rfl (fun hb5 => ?_) (fun hb5 => ?_)
  · have hF6 := ae_ifT hb5 hF4
    refine ae_pick (lv' := []) [] rfl ?_
    exact t_X7_add_36 d s0 hF6
  · have hF6 := ae_ifF hb5 hF4
    refine ae_aload_n 0 dX7_add_12 rfl ?_
    refine ae_getA (q := (1, i0)) (some (2, i0)) dX7_add_13 fl_RX7_9 hg1 rfl rfl ?_
    refine ae_aload_n 0 dX7_add_16 rfl ?_
    refine ae_getI (q := (1, i0)) dX7_add_17 fl_RX7_15 hg1 rfl ?_
    refine ae_iload_n 1 dX7_add_20 rfl ?_
    refine ae_sipush (255 : Int32) dX7_add_21 (by decide) ?_
    refine ae_iand dX7_add_24 ?_
    obtain ⟨hg7, hF8⟩ := ae_gdI hF6
    obtain ⟨s9, hs9, hF10⟩ := ae_ltI hF8
    refine ae_iast (q := (2, i0)) dX7_add_25 hg3 rfl (ae_ibI hg7) (ae_nmS hs9 ?_)
    refine ae_aload_n 0 dX7_add_26 rfl ?_
    refine ae_dup dX7_add_27 rfl ?_
    refine ae_getI (q := (1, i0)) dX7_add_28 fl_RX7_15 hg1 rfl ?_
    refine ae_iconst (1 : Int32) dX7_add_31 (by decide) ?_
    refine ae_iadd dX7_add_32 ?_
    obtain ⟨s11, hs11, hF12⟩ := ae_ltI hF10
    refine ae_putI (q := (1, i0)) dX7_add_33 fl_RX7_15 hg1 rfl (ae_nmS hs11 ?_)
    refine ae_pick (lv' := []) [] rfl ?_
    exact t_X7_add_36 d s11 hF12
abbrev mX7_addFour : ae_M := (RX7, cX7_addFour, 2, none)
theorem vy_X7_addFour : ae_VY yX7_addFour mX7_addFour 1 := ⟨ww_351, ww_352, ww_2, ww_353, ⟨by decide, by decide, by decide +kernel⟩, by decide⟩
theorem dX7_addFour_0 : decode cX7_addFour 0 = .ok (.aload_n 0, 1) := by decide +kernel
theorem dX7_addFour_1 : decode cX7_addFour 1 = .ok (.iload_n 1, 1) := by decide +kernel
theorem dX7_addFour_2 : decode cX7_addFour 2 = .ok (.bipush 24, 2) := by decide +kernel
theorem dX7_addFour_4 : decode cX7_addFour 4 = .ok (.iushr, 1) := by decide +kernel
theorem dX7_addFour_5 : decode cX7_addFour 5 = .ok (.invokevirtual 19, 3) := by decide +kernel
theorem dX7_addFour_8 : decode cX7_addFour 8 = .ok (.aload_n 0, 1) := by decide +kernel
theorem dX7_addFour_9 : decode cX7_addFour 9 = .ok (.iload_n 1, 1) := by decide +kernel
theorem dX7_addFour_10 : decode cX7_addFour 10 = .ok (.bipush 16, 2) := by decide +kernel
theorem dX7_addFour_12 : decode cX7_addFour 12 = .ok (.iushr, 1) := by decide +kernel
theorem dX7_addFour_13 : decode cX7_addFour 13 = .ok (.invokevirtual 19, 3) := by decide +kernel
theorem dX7_addFour_16 : decode cX7_addFour 16 = .ok (.aload_n 0, 1) := by decide +kernel
theorem dX7_addFour_17 : decode cX7_addFour 17 = .ok (.iload_n 1, 1) := by decide +kernel
theorem dX7_addFour_18 : decode cX7_addFour 18 = .ok (.bipush 8, 2) := by decide +kernel
theorem dX7_addFour_20 : decode cX7_addFour 20 = .ok (.iushr, 1) := by decide +kernel
theorem dX7_addFour_21 : decode cX7_addFour 21 = .ok (.invokevirtual 19, 3) := by decide +kernel
theorem dX7_addFour_24 : decode cX7_addFour 24 = .ok (.aload_n 0, 1) := by decide +kernel
theorem dX7_addFour_25 : decode cX7_addFour 25 = .ok (.iload_n 1, 1) := by decide +kernel
theorem dX7_addFour_26 : decode cX7_addFour 26 = .ok (.invokevirtual 19, 3) := by decide +kernel
theorem dX7_addFour_29 : decode cX7_addFour 29 = .ok (.return_, 1) := by decide +kernel
def F_X7_addFour (i0 : Fin 32) (v1 : Int32) (s0 : ae_S) : Option (Unit × ae_S) := ae_gd (ae_ok (1, i0)) (ae_bd (F_X7_add i0 ((v1.toUInt32 >>> ((24 : Int32).toUInt32 &&& Int32.toUInt32 31)).toInt32) s0) (fun (r3 : Unit) s4 => ae_bd (F_X7_add i0 ((v1.toUInt32 >>> ((16 : Int32).toUInt32 &&& Int32.toUInt32 31)).toInt32) s4) (fun (r7 : Unit) s8 => ae_bd (F_X7_add i0 ((v1.toUInt32 >>> ((8 : Int32).toUInt32 &&& Int32.toUInt32 31)).toInt32) s8) (fun (r11 : Unit) s12 => ae_bd (F_X7_add i0 v1 s12) (fun (r15 : Unit) s16 => some ((), s16))))))
set_option maxHeartbeats 4000000 in
set_option maxRecDepth 100000 in
theorem c_X7_addFour {l : Launch} {G : ae_G} (d : Nat) {i0 : Fin 32} {v1 : Int32} {s0 ss : ae_S} {rr : Unit} (hF : F_X7_addFour i0 v1 s0 = some (rr, ss)) : ae_Met l G (d + 1) yX7_addFour mX7_addFour [ae_r (some (1, i0)), ae_i v1] s0 (ae_Po none ss) := by
  refine ae_enter (by decide) rfl (Nat.le_of_ble_eq_true rfl) ?_
  show ae_T l G (d + 1) mX7_addFour (ae_Po none ss) 0 [(0, ae_r (some (1, i0))), (1, ae_i v1)] [] s0
  unfold F_X7_addFour at hF
  refine ae_aload_n 0 dX7_addFour_0 rfl ?_
  refine ae_iload_n 1 dX7_addFour_1 rfl ?_
  refine ae_bipush (24 : Int32) dX7_addFour_2 (by decide) ?_
  refine ae_iushr dX7_addFour_4 ?_
  obtain ⟨hg1, hF2⟩ := ae_gdI hF
  obtain ⟨r3, s4, hc5, hF6⟩ := ae_bdI hF2
  refine ae_cV0 (q := (1, i0)) (As := [ae_i ((v1.toUInt32 >>> ((24 : Int32).toUInt32 &&& Int32.toUInt32 31)).toInt32)]) dX7_addFour_5 ww_354 vy_X7_add hg1 rfl rfl rfl rfl (Nat.le_of_ble_eq_true rfl) (c_X7_add d hc5) ?_
  refine ae_aload_n 0 dX7_addFour_8 rfl ?_
  refine ae_iload_n 1 dX7_addFour_9 rfl ?_
  refine ae_bipush (16 : Int32) dX7_addFour_10 (by decide) ?_
  refine ae_iushr dX7_addFour_12 ?_
  obtain ⟨r7, s8, hc9, hF10⟩ := ae_bdI hF6
  refine ae_cV0 (q := (1, i0)) (As := [ae_i ((v1.toUInt32 >>> ((16 : Int32).toUInt32 &&& Int32.toUInt32 31)).toInt32)]) dX7_addFour_13 ww_354 vy_X7_add hg1 rfl rfl rfl rfl (Nat.le_of_ble_eq_true rfl) (c_X7_add d hc9) ?_
  refine ae_aload_n 0 dX7_addFour_16 rfl ?_
  refine ae_iload_n 1 dX7_addFour_17 rfl ?_
  refine ae_bipush (8 : Int32) dX7_addFour_18 (by decide) ?_
  refine ae_iushr dX7_addFour_20 ?_
  obtain ⟨r11, s12, hc13, hF14⟩ := ae_bdI hF10
  refine ae_cV0 (q := (1, i0)) (As := [ae_i ((v1.toUInt32 >>> ((8 : Int32).toUInt32 &&& Int32.toUInt32 31)).toInt32)]) dX7_addFour_21 ww_354 vy_X7_add hg1 rfl rfl rfl rfl (Nat.le_of_ble_eq_true rfl) (c_X7_add d hc13) ?_
  refine ae_aload_n 0 dX7_addFour_24 rfl ?_
  refine ae_iload_n 1 dX7_addFour_25 rfl ?_
  obtain ⟨r15, s16, hc17, hF18⟩ := ae_bdI hF14
  refine ae_cV0 (q := (1, i0)) (As := [ae_i v1]) dX7_addFour_26 ww_354 vy_X7_add hg1 rfl rfl rfl rfl (Nat.le_of_ble_eq_true rfl) (c_X7_add d hc17) ?_
  obtain ⟨rfl, rfl⟩ := ae_retI hF18
  exact ae_vret dX7_addFour_29 rfl ⟨rfl, rfl⟩
abbrev mX7_cut : ae_M := (RX7, cX7_cut, 2, none)
theorem vy_X7_cut : ae_VY yX7_cut mX7_cut 1 := ⟨ww_363, ww_364, ww_2, ww_365, ⟨by decide, by decide, by decide +kernel⟩, by decide⟩
theorem dX7_cut_0 : decode cX7_cut 0 = .ok (.aload_n 0, 1) := by decide +kernel
theorem dX7_cut_1 : decode cX7_cut 1 = .ok (.iload_n 1, 1) := by decide +kernel
theorem dX7_cut_2 : decode cX7_cut 2 = .ok (.putfield 15, 3) := by decide +kernel
theorem dX7_cut_5 : decode cX7_cut 5 = .ok (.return_, 1) := by decide +kernel
def F_X7_cut (i0 : Fin 32) (v1 : Int32) (s0 : ae_S) : Option (Unit × ae_S) := ae_gd (ae_ok (1, i0)) (ae_lt (ae_wI s0 1 i0 1 v1) (fun s3 => some ((), s3)))
set_option maxHeartbeats 4000000 in
set_option maxRecDepth 100000 in
theorem c_X7_cut {l : Launch} {G : ae_G} (d : Nat) {i0 : Fin 32} {v1 : Int32} {s0 ss : ae_S} {rr : Unit} (hF : F_X7_cut i0 v1 s0 = some (rr, ss)) : ae_Met l G d yX7_cut mX7_cut [ae_r (some (1, i0)), ae_i v1] s0 (ae_Po none ss) := by
  refine ae_enter (by decide) rfl (Nat.le_of_ble_eq_true rfl) ?_
  show ae_T l G d mX7_cut (ae_Po none ss) 0 [(0, ae_r (some (1, i0))), (1, ae_i v1)] [] s0
  unfold F_X7_cut at hF
  refine ae_aload_n 0 dX7_cut_0 rfl ?_
  refine ae_iload_n 1 dX7_cut_1 rfl ?_
  obtain ⟨hg1, hF2⟩ := ae_gdI hF
  obtain ⟨s3, hs3, hF4⟩ := ae_ltI hF2
  refine ae_putI (q := (1, i0)) dX7_cut_2 fl_RX7_15 hg1 rfl (ae_nmS hs3 ?_)
  obtain ⟨rfl, rfl⟩ := ae_retI hF4
  exact ae_vret dX7_cut_5 rfl ⟨rfl, rfl⟩
abbrev mX7_get : ae_M := (RX7, cX7_get, 2, some .int)
theorem vy_X7_get : ae_VY yX7_get mX7_get 1 := ⟨ww_380, ww_381, ww_2, ww_382, ⟨by decide, by decide, by decide +kernel⟩, by decide⟩
theorem dX7_get_0 : decode cX7_get 0 = .ok (.iload_n 1, 1) := by decide +kernel
theorem dX7_get_1 : decode cX7_get 1 = .ok (.ifCond .lt 21, 3) := by decide +kernel
theorem dX7_get_4 : decode cX7_get 4 = .ok (.iload_n 1, 1) := by decide +kernel
theorem dX7_get_5 : decode cX7_get 5 = .ok (.aload_n 0, 1) := by decide +kernel
theorem dX7_get_6 : decode cX7_get 6 = .ok (.getfield 9, 3) := by decide +kernel
theorem dX7_get_9 : decode cX7_get 9 = .ok (.arraylength, 1) := by decide +kernel
theorem dX7_get_10 : decode cX7_get 10 = .ok (.if_icmp .ge 12, 3) := by decide +kernel
theorem dX7_get_13 : decode cX7_get 13 = .ok (.aload_n 0, 1) := by decide +kernel
theorem dX7_get_14 : decode cX7_get 14 = .ok (.getfield 9, 3) := by decide +kernel
theorem dX7_get_17 : decode cX7_get 17 = .ok (.iload_n 1, 1) := by decide +kernel
theorem dX7_get_18 : decode cX7_get 18 = .ok (.iaload, 1) := by decide +kernel
theorem dX7_get_19 : decode cX7_get 19 = .ok (.goto 4, 3) := by decide +kernel
theorem dX7_get_22 : decode cX7_get 22 = .ok (.iconst 0, 1) := by decide +kernel
theorem dX7_get_23 : decode cX7_get 23 = .ok (.ireturn, 1) := by decide +kernel
def F_X7_get_23 (t0 : Int32) (s0 : ae_S) : Option (Int32 × ae_S) := some (t0, s0)
set_option maxHeartbeats 4000000 in
set_option maxRecDepth 100000 in
theorem t_X7_get_23 {l : Launch} {G : ae_G} (d : Nat) {rr : Int32} {ss : ae_S} (t0 : Int32) (s0 : ae_S) (hF : F_X7_get_23 t0 s0 = some (rr, ss)) : ae_T l G d mX7_get (ae_Po (some (ae_i rr)) ss) 23 [] [ae_i t0] s0 := by
  unfold F_X7_get_23 at hF
  obtain ⟨rfl, rfl⟩ := ae_retI hF
  exact ae_iret dX7_get_23 rfl rfl ⟨rfl, rfl⟩
def F_X7_get_22 (s0 : ae_S) : Option (Int32 × ae_S) := F_X7_get_23 (0 : Int32) s0
set_option maxHeartbeats 4000000 in
set_option maxRecDepth 100000 in
theorem t_X7_get_22 {l : Launch} {G : ae_G} (d : Nat) {rr : Int32} {ss : ae_S} (s0 : ae_S) (hF : F_X7_get_22 s0 = some (rr, ss)) : ae_T l G d mX7_get (ae_Po (some (ae_i rr)) ss) 22 [] [] s0 := by
  unfold F_X7_get_22 at hF
  refine ae_iconst (0 : Int32) dX7_get_22 (by decide) ?_
  refine ae_pick (lv' := []) [] rfl ?_
  exact t_X7_get_23 d (0 : Int32) s0 hF
def F_X7_get (i0 : Fin 32) (v1 : Int32) (s0 : ae_S) : Option (Int32 × ae_S) := if v1 < 0 then (F_X7_get_22 s0) else (ae_gd (ae_ok (1, i0)) (ae_gd (ae_ok (2, i0)) (if (Int32.ofNat (if (i0 : Fin 32) = 0 then 500 else 256)) ≤ v1 then (F_X7_get_22 s0) else (ae_gd (ae_ib v1 (if (i0 : Fin 32) = 0 then 500 else 256)) (F_X7_get_23 (s0.1 2 i0 v1.toNatClampNeg) s0)))))
set_option maxHeartbeats 4000000 in
set_option maxRecDepth 100000 in
theorem c_X7_get {l : Launch} {G : ae_G} (d : Nat) {i0 : Fin 32} {v1 : Int32} {s0 ss : ae_S} {rr : Int32} (hF : F_X7_get i0 v1 s0 = some (rr, ss)) : ae_Met l G d yX7_get mX7_get [ae_r (some (1, i0)), ae_i v1] s0 (ae_Po (some (ae_i rr)) ss) := by
  refine ae_enter (by decide) rfl (Nat.le_of_ble_eq_true rfl) ?_
  show ae_T l G d mX7_get (ae_Po (some (ae_i rr)) ss) 0 [(0, ae_r (some (1, i0))), (1, ae_i v1)] [] s0
  unfold F_X7_get at hF
  refine ae_iload_n 1 dX7_get_0 rfl ?_
  refine ae_if_lt 22 dX7_get_1 rfl (fun hb1 => ?_) (fun hb1 => ?_)
  · have hF2 := ae_ifT hb1 hF
    refine ae_pick (lv' := []) [] rfl ?_
    exact t_X7_get_22 d s0 hF2
  · have hF2 := ae_ifF hb1 hF
    refine ae_iload_n 1 dX7_get_4 rfl ?_
    refine ae_aload_n 0 dX7_get_5 rfl ?_
    obtain ⟨hg3, hF4⟩ := ae_gdI hF2
    refine ae_getA (q := (1, i0)) (some (2, i0)) dX7_get_6 fl_RX7_9 hg3 rfl rfl ?_
    obtain ⟨hg5, hF6⟩ := ae_gdI hF4
    refine ae_alen (q := (2, i0)) (Int32.ofNat (if (i0 : Fin 32) = 0 then 500 else 256)) dX7_get_9 hg5 rfl (by simp [ae_at]) rfl ?_
    refine ae_icmp_ge 22 dX7_get_10 rfl (fun hb7 => ?_) (fun hb7 => ?_)
    · have hF8 := ae_ifT hb7 hF6
      refine ae_pick (lv' := []) [] rfl ?_
      exact t_X7_get_22 d s0 hF8
    · have hF8 := ae_ifF hb7 hF6
      refine ae_aload_n 0 dX7_get_13 rfl ?_
      refine ae_getA (q := (1, i0)) (some (2, i0)) dX7_get_14 fl_RX7_9 hg3 rfl rfl ?_
      refine ae_iload_n 1 dX7_get_17 rfl ?_
      obtain ⟨hg9, hF10⟩ := ae_gdI hF8
      refine ae_iald (q := (2, i0)) dX7_get_18 hg5 rfl (ae_ibI hg9) ?_
      refine ae_goto 23 dX7_get_19 rfl ?_
      refine ae_pick (lv' := []) [] rfl ?_
      exact t_X7_get_23 d (s0.1 2 i0 v1.toNatClampNeg) s0 hF10
abbrev mX7_addPacked : ae_M := (RX7, cX7_addPacked, 5, none)
theorem vy_X7_addPacked : ae_VY yX7_addPacked mX7_addPacked 1 := ⟨ww_1208, ww_1209, ww_2, ww_1210, ⟨by decide, by decide, by decide +kernel⟩, by decide⟩
theorem dX7_addPacked_0 : decode cX7_addPacked 0 = .ok (.bipush 40, 2) := by decide +kernel
theorem dX7_addPacked_2 : decode cX7_addPacked 2 = .ok (.istore_n 3, 1) := by decide +kernel
theorem dX7_addPacked_3 : decode cX7_addPacked 3 = .ok (.iload_n 3, 1) := by decide +kernel
theorem dX7_addPacked_4 : decode cX7_addPacked 4 = .ok (.ifCond .lt 30, 3) := by decide +kernel
theorem dX7_addPacked_7 : decode cX7_addPacked 7 = .ok (.lload_n 1, 1) := by decide +kernel
theorem dX7_addPacked_8 : decode cX7_addPacked 8 = .ok (.iload_n 3, 1) := by decide +kernel
theorem dX7_addPacked_9 : decode cX7_addPacked 9 = .ok (.lushr, 1) := by decide +kernel
theorem dX7_addPacked_10 : decode cX7_addPacked 10 = .ok (.l2i, 1) := by decide +kernel
theorem dX7_addPacked_11 : decode cX7_addPacked 11 = .ok (.sipush 255, 3) := by decide +kernel
theorem dX7_addPacked_14 : decode cX7_addPacked 14 = .ok (.iand, 1) := by decide +kernel
theorem dX7_addPacked_15 : decode cX7_addPacked 15 = .ok (.istore 4, 2) := by decide +kernel
theorem dX7_addPacked_17 : decode cX7_addPacked 17 = .ok (.iload 4, 2) := by decide +kernel
theorem dX7_addPacked_19 : decode cX7_addPacked 19 = .ok (.ifCond .eq 9, 3) := by decide +kernel
theorem dX7_addPacked_22 : decode cX7_addPacked 22 = .ok (.aload_n 0, 1) := by decide +kernel
theorem dX7_addPacked_23 : decode cX7_addPacked 23 = .ok (.iload 4, 2) := by decide +kernel
theorem dX7_addPacked_25 : decode cX7_addPacked 25 = .ok (.invokevirtual 19, 3) := by decide +kernel
theorem dX7_addPacked_28 : decode cX7_addPacked 28 = .ok (.iinc 3 (-8), 3) := by decide +kernel
theorem dX7_addPacked_31 : decode cX7_addPacked 31 = .ok (.goto (-28), 3) := by decide +kernel
theorem dX7_addPacked_34 : decode cX7_addPacked 34 = .ok (.return_, 1) := by decide +kernel
def F_X7_addPacked_28 (k3 : Fin 32 → Int64 → Int32 → ae_S → Option (Unit × ae_S)) (i0 : Fin 32) (v1 : Int64) (v3 : Int32) (s0 : ae_S) : Option (Unit × ae_S) := ae_lt (v3 + (-8 : Int32)) (fun x1 => k3 i0 v1 x1 s0)
set_option maxHeartbeats 4000000 in
set_option maxRecDepth 100000 in
theorem t_X7_addPacked_28 {l : Launch} {G : ae_G} (d : Nat) (k3 : Fin 32 → Int64 → Int32 → ae_S → Option (Unit × ae_S)) {rr : Unit} {ss : ae_S} (hk3 : ∀ (i0 : Fin 32) (v1 : Int64) (v3 : Int32) (s0 : ae_S), k3 i0 v1 v3 s0 = some (rr, ss) → ae_T l G (d + 1) mX7_addPacked (ae_Po none ss) 3 [(0, ae_r (some (1, i0))), (1, ae_l v1), (3, ae_i v3)] [] s0) (i0 : Fin 32) (v1 : Int64) (v3 : Int32) (s0 : ae_S) (hF : F_X7_addPacked_28 k3 i0 v1 v3 s0 = some (rr, ss)) : ae_T l G (d + 1) mX7_addPacked (ae_Po none ss) 28 [(0, ae_r (some (1, i0))), (1, ae_l v1), (3, ae_i v3)] [] s0 := by
  unfold F_X7_addPacked_28 at hF
  obtain ⟨x1, hx1, hF2⟩ := ae_ltI hF
  refine ae_iinc (lv' := [(3, ae_i x1), (0, ae_r (some (1, i0))), (1, ae_l v1)]) 2 (-8 : Int32) dX7_addPacked_28 rfl (by decide) (by decide) (by rw [hx1]; rfl) ?_
  refine ae_goto 3 dX7_addPacked_31 rfl ?_
  refine ae_pick (lv' := [(0, ae_r (some (1, i0))), (1, ae_l v1), (3, ae_i x1)]) [1, 2, 0] rfl ?_
  exact hk3 i0 v1 x1 s0 hF2
def F_X7_addPacked_3 : Nat → Fin 32 → Int64 → Int32 → ae_S → Option (Unit × ae_S)
  | 0, _, _, _, _ => none
  | n + 1, i0, v1, v3, s0 => if v3 < 0 then (some ((), s0)) else (ae_lt ((((v1.toUInt64 >>> (v3.toInt64.toUInt64 &&& Int64.toUInt64 63)).toInt64).toInt32) &&& (255 : Int32)) (fun x5 => if x5 = 0 then (F_X7_addPacked_28 (F_X7_addPacked_3 n) i0 v1 v3 s0) else (ae_gd (ae_ok (1, i0)) (ae_bd (F_X7_add i0 x5 s0) (fun (r11 : Unit) s12 => F_X7_addPacked_28 (F_X7_addPacked_3 n) i0 v1 v3 s12)))))
set_option maxHeartbeats 4000000 in
set_option maxRecDepth 100000 in
theorem t_X7_addPacked_3 {l : Launch} {G : ae_G} (d : Nat) {rr : Unit} {ss : ae_S} : ∀ (n : Nat) (i0 : Fin 32) (v1 : Int64) (v3 : Int32) (s0 : ae_S), F_X7_addPacked_3 n i0 v1 v3 s0 = some (rr, ss) → ae_T l G (d + 1) mX7_addPacked (ae_Po none ss) 3 [(0, ae_r (some (1, i0))), (1, ae_l v1), (3, ae_i v3)] [] s0 := by
  intro n
  induction n with
  | zero =>
    intro i0 v1 v3 s0 hF
    exact absurd (show (none : Option (Unit × ae_S)) = some (rr, ss) from hF) (by simp)
  | succ n ih =>
    intro i0 v1 v3 s0 hF
    unfold F_X7_addPacked_3 at hF
    refine ae_iload_n 2 dX7_addPacked_3 rfl ?_
    refine ae_if_lt 34 dX7_addPacked_4 rfl (fun hb3 => ?_) (fun hb3 => ?_)
    · have hF4 := ae_ifT hb3 hF
      obtain ⟨rfl, rfl⟩ := ae_retI hF4
      exact ae_vret dX7_addPacked_34 rfl ⟨rfl, rfl⟩
    · have hF4 := ae_ifF hb3 hF
      refine ae_lload_n 1 dX7_addPacked_7 rfl ?_
      refine ae_iload_n 2 dX7_addPacked_8 rfl ?_
      refine ae_lushr dX7_addPacked_9 ?_
      refine ae_l2i dX7_addPacked_10 ?_
      refine ae_sipush (255 : Int32) dX7_addPacked_11 (by decide) ?_
      refine ae_iand dX7_addPacked_14 ?_
      obtain ⟨x5, hx5, hF6⟩ := ae_ltI hF4
      refine ae_nmI hx5 ?_
      refine ae_istore (lv' := [(4, ae_i x5), (0, ae_r (some (1, i0))), (1, ae_l v1), (3, ae_i v3)]) dX7_addPacked_15 (by decide) rfl ?_
      refine ae_iload 0 dX7_addPacked_17 rfl ?_
      refine ae_if_eq 28 dX7_addPacked_19 rfl (fun hb7 => ?_) (fun hb7 => ?_)
      · have hF8 := ae_ifT hb7 hF6
        refine ae_pick (lv' := [(0, ae_r (some (1, i0))), (1, ae_l v1), (3, ae_i v3)]) [1, 2, 3] rfl ?_
        exact t_X7_addPacked_28 d (F_X7_addPacked_3 n) ih i0 v1 v3 s0 hF8
      · have hF8 := ae_ifF hb7 hF6
        refine ae_aload_n 1 dX7_addPacked_22 rfl ?_
        refine ae_iload 0 dX7_addPacked_23 rfl ?_
        obtain ⟨hg9, hF10⟩ := ae_gdI hF8
        obtain ⟨r11, s12, hc13, hF14⟩ := ae_bdI hF10
        refine ae_cV0 (q := (1, i0)) (As := [ae_i x5]) dX7_addPacked_25 ww_354 vy_X7_add hg9 rfl rfl rfl rfl (Nat.le_of_ble_eq_true rfl) (c_X7_add d hc13) ?_
        refine ae_pick (lv' := [(0, ae_r (some (1, i0))), (1, ae_l v1), (3, ae_i v3)]) [1, 2, 3] rfl ?_
        exact t_X7_addPacked_28 d (F_X7_addPacked_3 n) ih i0 v1 v3 s12 hF14
def F_X7_addPacked (i0 : Fin 32) (v1 : Int64) (s0 : ae_S) : Option (Unit × ae_S) := F_X7_addPacked_3 ae_fu i0 v1 (40 : Int32) s0
set_option maxHeartbeats 4000000 in
set_option maxRecDepth 100000 in
theorem c_X7_addPacked {l : Launch} {G : ae_G} (d : Nat) {i0 : Fin 32} {v1 : Int64} {s0 ss : ae_S} {rr : Unit} (hF : F_X7_addPacked i0 v1 s0 = some (rr, ss)) : ae_Met l G (d + 1) yX7_addPacked mX7_addPacked [ae_r (some (1, i0)), ae_l v1] s0 (ae_Po none ss) := by
  refine ae_enter (by decide) rfl (Nat.le_of_ble_eq_true rfl) ?_
  show ae_T l G (d + 1) mX7_addPacked (ae_Po none ss) 0 [(0, ae_r (some (1, i0))), (1, ae_l v1)] [] s0
  unfold F_X7_addPacked at hF
  refine ae_bipush (40 : Int32) dX7_addPacked_0 (by decide) ?_
  refine ae_istore_n (lv' := [(3, ae_i (40 : Int32)), (0, ae_r (some (1, i0))), (1, ae_l v1)]) dX7_addPacked_2 (by decide) rfl ?_
  refine ae_pick (lv' := [(0, ae_r (some (1, i0))), (1, ae_l v1), (3, ae_i (40 : Int32))]) [1, 2, 0] rfl ?_
  exact t_X7_addPacked_3 d ae_fu i0 v1 (40 : Int32) s0 hF
abbrev mX7_addWord : ae_M := (RX7, cX7_addWord, 3, none)
theorem vy_X7_addWord : ae_VY yX7_addWord mX7_addWord 1 := ⟨ww_1213, ww_1214, ww_2, ww_1215, ⟨by decide, by decide, by decide +kernel⟩, by decide⟩
theorem dX7_addWord_0 : decode cX7_addWord 0 = .ok (.iconst 0, 1) := by decide +kernel
theorem dX7_addWord_1 : decode cX7_addWord 1 = .ok (.istore_n 2, 1) := by decide +kernel
theorem dX7_addWord_2 : decode cX7_addWord 2 = .ok (.iload_n 2, 1) := by decide +kernel
theorem dX7_addWord_3 : decode cX7_addWord 3 = .ok (.aload_n 1, 1) := by decide +kernel
theorem dX7_addWord_4 : decode cX7_addWord 4 = .ok (.invokevirtual 23, 3) := by decide +kernel
theorem dX7_addWord_7 : decode cX7_addWord 7 = .ok (.if_icmp .ge 18, 3) := by decide +kernel
theorem dX7_addWord_10 : decode cX7_addWord 10 = .ok (.aload_n 0, 1) := by decide +kernel
theorem dX7_addWord_11 : decode cX7_addWord 11 = .ok (.aload_n 1, 1) := by decide +kernel
theorem dX7_addWord_12 : decode cX7_addWord 12 = .ok (.iload_n 2, 1) := by decide +kernel
theorem dX7_addWord_13 : decode cX7_addWord 13 = .ok (.invokevirtual 28, 3) := by decide +kernel
theorem dX7_addWord_16 : decode cX7_addWord 16 = .ok (.invokevirtual 19, 3) := by decide +kernel
theorem dX7_addWord_19 : decode cX7_addWord 19 = .ok (.iinc 2 1, 3) := by decide +kernel
theorem dX7_addWord_22 : decode cX7_addWord 22 = .ok (.goto (-20), 3) := by decide +kernel
theorem dX7_addWord_25 : decode cX7_addWord 25 = .ok (.return_, 1) := by decide +kernel
def F_X7_addWord_2 : Nat → Fin 32 → Fin 32 → Int32 → ae_S → Option (Unit × ae_S)
  | 0, _, _, _, _ => none
  | n + 1, i0, i1, v2, s0 => ae_gd (decide ((i1 : Fin 32).val < 28)) (if (Int32.ofNat (ae_sln i1)) ≤ v2 then (some ((), s0)) else (ae_gd (ae_ib v2 (ae_sln i1)) (ae_gd (ae_ok (1, i0)) (ae_bd (F_X7_add i0 (ae_sch i1 v2.toNatClampNeg) s0) (fun (r9 : Unit) s10 => ae_lt (v2 + (1 : Int32)) (fun x13 => F_X7_addWord_2 n i0 i1 x13 s10))))))
set_option maxHeartbeats 4000000 in
set_option maxRecDepth 100000 in
theorem t_X7_addWord_2 {l : Launch} {G : ae_G} (d : Nat) {rr : Unit} {ss : ae_S} : ∀ (n : Nat) (i0 : Fin 32) (i1 : Fin 32) (v2 : Int32) (s0 : ae_S), F_X7_addWord_2 n i0 i1 v2 s0 = some (rr, ss) → ae_T l G (d + 4) mX7_addWord (ae_Po none ss) 2 [(0, ae_r (some (1, i0))), (1, ae_r (some (62, i1))), (2, ae_i v2)] [] s0 := by
  intro n
  induction n with
  | zero =>
    intro i0 i1 v2 s0 hF
    exact absurd (show (none : Option (Unit × ae_S)) = some (rr, ss) from hF) (by simp)
  | succ n ih =>
    intro i0 i1 v2 s0 hF
    unfold F_X7_addWord_2 at hF
    refine ae_iload_n 2 dX7_addWord_2 rfl ?_
    refine ae_aload_n 1 dX7_addWord_3 rfl ?_
    obtain ⟨hg1, hF2⟩ := ae_gdI hF
    refine ae_strlen (i := i1) hg1 dX7_addWord_4 ww_1216 (Nat.le_of_ble_eq_true rfl) ?_
    refine ae_icmp_ge 25 dX7_addWord_7 rfl (fun hb3 => ?_) (fun hb3 => ?_)
    · have hF4 := ae_ifT hb3 hF2
      obtain ⟨rfl, rfl⟩ := ae_retI hF4
      exact ae_vret dX7_addWord_25 rfl ⟨rfl, rfl⟩
    · have hF4 := ae_ifF hb3 hF2
      refine ae_aload_n 0 dX7_addWord_10 rfl ?_
      refine ae_aload_n 1 dX7_addWord_11 rfl ?_
      refine ae_iload_n 2 dX7_addWord_12 rfl ?_
      obtain ⟨hg5, hF6⟩ := ae_gdI hF4
      refine ae_strchar (i := i1) hg1 (ae_ibI hg5) dX7_addWord_13 ww_1217 (Nat.le_of_ble_eq_true rfl) ?_
      obtain ⟨hg7, hF8⟩ := ae_gdI hF6
      obtain ⟨r9, s10, hc11, hF12⟩ := ae_bdI hF8
      refine ae_cV0 (q := (1, i0)) (As := [ae_i (ae_sch i1 v2.toNatClampNeg)]) dX7_addWord_16 ww_354 vy_X7_add hg7 rfl rfl rfl rfl (Nat.le_of_ble_eq_true rfl) (c_X7_add (d + 3) hc11) ?_
      obtain ⟨x13, hx13, hF14⟩ := ae_ltI hF12
      refine ae_iinc (lv' := [(2, ae_i x13), (0, ae_r (some (1, i0))), (1, ae_r (some (62, i1)))]) 2 (1 : Int32) dX7_addWord_19 rfl (by decide) (by decide) (by rw [hx13]; rfl) ?_
      refine ae_goto 2 dX7_addWord_22 rfl ?_
      refine ae_pick (lv' := [(0, ae_r (some (1, i0))), (1, ae_r (some (62, i1))), (2, ae_i x13)]) [1, 2, 0] rfl ?_
      exact ih i0 i1 x13 s10 hF14
def F_X7_addWord (i0 : Fin 32) (i1 : Fin 32) (s0 : ae_S) : Option (Unit × ae_S) := F_X7_addWord_2 ae_fu i0 i1 (0 : Int32) s0
set_option maxHeartbeats 4000000 in
set_option maxRecDepth 100000 in
theorem c_X7_addWord {l : Launch} {G : ae_G} (d : Nat) {i0 : Fin 32} {i1 : Fin 32} {s0 ss : ae_S} {rr : Unit} (hF : F_X7_addWord i0 i1 s0 = some (rr, ss)) : ae_Met l G (d + 4) yX7_addWord mX7_addWord [ae_r (some (1, i0)), ae_r (some (62, i1))] s0 (ae_Po none ss) := by
  refine ae_enter (by decide) rfl (Nat.le_of_ble_eq_true rfl) ?_
  show ae_T l G (d + 4) mX7_addWord (ae_Po none ss) 0 [(0, ae_r (some (1, i0))), (1, ae_r (some (62, i1)))] [] s0
  unfold F_X7_addWord at hF
  refine ae_iconst (0 : Int32) dX7_addWord_0 (by decide) ?_
  refine ae_istore_n (lv' := [(2, ae_i (0 : Int32)), (0, ae_r (some (1, i0))), (1, ae_r (some (62, i1)))]) dX7_addWord_1 (by decide) rfl ?_
  refine ae_pick (lv' := [(0, ae_r (some (1, i0))), (1, ae_r (some (62, i1))), (2, ae_i (0 : Int32))]) [1, 2, 0] rfl ?_
  exact t_X7_addWord_2 d ae_fu i0 i1 (0 : Int32) s0 hF
abbrev mX7_addNumber : ae_M := (RX7, cX7_addNumber, 2, none)
theorem vy_X7_addNumber : ae_VY yX7_addNumber mX7_addNumber 1 := ⟨ww_1221, ww_1222, ww_2, ww_1223, ⟨by decide, by decide, by decide +kernel⟩, by decide⟩
theorem dX7_addNumber_0 : decode cX7_addNumber 0 = .ok (.iload_n 1, 1) := by decide +kernel
theorem dX7_addNumber_1 : decode cX7_addNumber 1 = .ok (.bipush 100, 2) := by decide +kernel
theorem dX7_addNumber_3 : decode cX7_addNumber 3 = .ok (.if_icmp .lt 17, 3) := by decide +kernel
theorem dX7_addNumber_6 : decode cX7_addNumber 6 = .ok (.aload_n 0, 1) := by decide +kernel
theorem dX7_addNumber_7 : decode cX7_addNumber 7 = .ok (.bipush 48, 2) := by decide +kernel
theorem dX7_addNumber_9 : decode cX7_addNumber 9 = .ok (.iload_n 1, 1) := by decide +kernel
theorem dX7_addNumber_10 : decode cX7_addNumber 10 = .ok (.bipush 100, 2) := by decide +kernel
theorem dX7_addNumber_12 : decode cX7_addNumber 12 = .ok (.idiv, 1) := by decide +kernel
theorem dX7_addNumber_13 : decode cX7_addNumber 13 = .ok (.bipush 10, 2) := by decide +kernel
theorem dX7_addNumber_15 : decode cX7_addNumber 15 = .ok (.irem, 1) := by decide +kernel
theorem dX7_addNumber_16 : decode cX7_addNumber 16 = .ok (.iadd, 1) := by decide +kernel
theorem dX7_addNumber_17 : decode cX7_addNumber 17 = .ok (.invokevirtual 19, 3) := by decide +kernel
theorem dX7_addNumber_20 : decode cX7_addNumber 20 = .ok (.iload_n 1, 1) := by decide +kernel
theorem dX7_addNumber_21 : decode cX7_addNumber 21 = .ok (.bipush 10, 2) := by decide +kernel
theorem dX7_addNumber_23 : decode cX7_addNumber 23 = .ok (.if_icmp .lt 17, 3) := by decide +kernel
theorem dX7_addNumber_26 : decode cX7_addNumber 26 = .ok (.aload_n 0, 1) := by decide +kernel
theorem dX7_addNumber_27 : decode cX7_addNumber 27 = .ok (.bipush 48, 2) := by decide +kernel
theorem dX7_addNumber_29 : decode cX7_addNumber 29 = .ok (.iload_n 1, 1) := by decide +kernel
theorem dX7_addNumber_30 : decode cX7_addNumber 30 = .ok (.bipush 10, 2) := by decide +kernel
theorem dX7_addNumber_32 : decode cX7_addNumber 32 = .ok (.idiv, 1) := by decide +kernel
theorem dX7_addNumber_33 : decode cX7_addNumber 33 = .ok (.bipush 10, 2) := by decide +kernel
theorem dX7_addNumber_35 : decode cX7_addNumber 35 = .ok (.irem, 1) := by decide +kernel
theorem dX7_addNumber_36 : decode cX7_addNumber 36 = .ok (.iadd, 1) := by decide +kernel
theorem dX7_addNumber_37 : decode cX7_addNumber 37 = .ok (.invokevirtual 19, 3) := by decide +kernel
theorem dX7_addNumber_40 : decode cX7_addNumber 40 = .ok (.aload_n 0, 1) := by decide +kernel
theorem dX7_addNumber_41 : decode cX7_addNumber 41 = .ok (.bipush 48, 2) := by decide +kernel
theorem dX7_addNumber_43 : decode cX7_addNumber 43 = .ok (.iload_n 1, 1) := by decide +kernel
theorem dX7_addNumber_44 : decode cX7_addNumber 44 = .ok (.bipush 10, 2) := by decide +kernel
theorem dX7_addNumber_46 : decode cX7_addNumber 46 = .ok (.irem, 1) := by decide +kernel
theorem dX7_addNumber_47 : decode cX7_addNumber 47 = .ok (.iadd, 1) := by decide +kernel
theorem dX7_addNumber_48 : decode cX7_addNumber 48 = .ok (.invokevirtual 19, 3) := by decide +kernel
theorem dX7_addNumber_51 : decode cX7_addNumber 51 = .ok (.return_, 1) := by decide +kernel
def F_X7_addNumber_40 (i0 : Fin 32) (v1 : Int32) (s0 : ae_S) : Option (Unit × ae_S) := ae_gd (ae_ok (1, i0)) (ae_bd (F_X7_add i0 ((48 : Int32) + (v1 - v1 / (10 : Int32) * (10 : Int32))) s0) (fun (r3 : Unit) s4 => some ((), s4)))
set_option maxHeartbeats 4000000 in
set_option maxRecDepth 100000 in
theorem t_X7_addNumber_40 {l : Launch} {G : ae_G} (d : Nat) {rr : Unit} {ss : ae_S} (i0 : Fin 32) (v1 : Int32) (s0 : ae_S) (hF : F_X7_addNumber_40 i0 v1 s0 = some (rr, ss)) : ae_T l G (d + 1) mX7_addNumber (ae_Po none ss) 40 [(0, ae_r (some (1, i0))), (1, ae_i v1)] [] s0 := by
  unfold F_X7_addNumber_40 at hF
  refine ae_aload_n 0 dX7_addNumber_40 rfl ?_
  refine ae_bipush (48 : Int32) dX7_addNumber_41 (by decide) ?_
  refine ae_iload_n 1 dX7_addNumber_43 rfl ?_
  refine ae_bipush (10 : Int32) dX7_addNumber_44 (by decide) ?_
  refine ae_irem dX7_addNumber_46 (by decide) ?_
  refine ae_iadd dX7_addNumber_47 ?_
  obtain ⟨hg1, hF2⟩ := ae_gdI hF
  obtain ⟨r3, s4, hc5, hF6⟩ := ae_bdI hF2
  refine ae_cV0 (q := (1, i0)) (As := [ae_i ((48 : Int32) + (v1 - v1 / (10 : Int32) * (10 : Int32)))]) dX7_addNumber_48 ww_354 vy_X7_add hg1 rfl rfl rfl rfl (Nat.le_of_ble_eq_true rfl) (c_X7_add d hc5) ?_
  obtain ⟨rfl, rfl⟩ := ae_retI hF6
  exact ae_vret dX7_addNumber_51 rfl ⟨rfl, rfl⟩
def F_X7_addNumber_20 (i0 : Fin 32) (v1 : Int32) (s0 : ae_S) : Option (Unit × ae_S) := if v1 < (10 : Int32) then (F_X7_addNumber_40 i0 v1 s0) else (ae_gd (ae_ok (1, i0)) (ae_bd (F_X7_add i0 ((48 : Int32) + ((v1 / (10 : Int32)) - (v1 / (10 : Int32)) / (10 : Int32) * (10 : Int32))) s0) (fun (r11 : Unit) s12 => F_X7_addNumber_40 i0 v1 s12)))
set_option maxHeartbeats 4000000 in
set_option maxRecDepth 100000 in
theorem t_X7_addNumber_20 {l : Launch} {G : ae_G} (d : Nat) {rr : Unit} {ss : ae_S} (i0 : Fin 32) (v1 : Int32) (s0 : ae_S) (hF : F_X7_addNumber_20 i0 v1 s0 = some (rr, ss)) : ae_T l G (d + 1) mX7_addNumber (ae_Po none ss) 20 [(0, ae_r (some (1, i0))), (1, ae_i v1)] [] s0 := by
  unfold F_X7_addNumber_20 at hF
  refine ae_iload_n 1 dX7_addNumber_20 rfl ?_
  refine ae_bipush (10 : Int32) dX7_addNumber_21 (by decide) ?_
  refine ae_icmp_lt 40 dX7_addNumber_23 rfl (fun hb7 => ?_) (fun hb7 => ?_)
  · have hF8 := ae_ifT hb7 hF
    refine ae_pick (lv' := [(0, ae_r (some (1, i0))), (1, ae_i v1)]) [0, 1] rfl ?_
    exact t_X7_addNumber_40 d i0 v1 s0 hF8
  · have hF8 := ae_ifF hb7 hF
    refine ae_aload_n 0 dX7_addNumber_26 rfl ?_
    refine ae_bipush (48 : Int32) dX7_addNumber_27 (by decide) ?_
    refine ae_iload_n 1 dX7_addNumber_29 rfl ?_
    refine ae_bipush (10 : Int32) dX7_addNumber_30 (by decide) ?_
    refine ae_idiv dX7_addNumber_32 (by decide) ?_
    refine ae_bipush (10 : Int32) dX7_addNumber_33 (by decide) ?_
    refine ae_irem dX7_addNumber_35 (by decide) ?_
    refine ae_iadd dX7_addNumber_36 ?_
    obtain ⟨hg9, hF10⟩ := ae_gdI hF8
    obtain ⟨r11, s12, hc13, hF14⟩ := ae_bdI hF10
    refine ae_cV0 (q := (1, i0)) (As := [ae_i ((48 : Int32) + ((v1 / (10 : Int32)) - (v1 / (10 : Int32)) / (10 : Int32) * (10 : Int32)))]) dX7_addNumber_37 ww_354 vy_X7_add hg9 rfl rfl rfl rfl (Nat.le_of_ble_eq_true rfl) (c_X7_add d hc13) ?_
    refine ae_pick (lv' := [(0, ae_r (some (1, i0))), (1, ae_i v1)]) [0, 1] rfl ?_
    exact t_X7_addNumber_40 d i0 v1 s12 hF14
def F_X7_addNumber (i0 : Fin 32) (v1 : Int32) (s0 : ae_S) : Option (Unit × ae_S) := if v1 < (100 : Int32) then (F_X7_addNumber_20 i0 v1 s0) else (ae_gd (ae_ok (1, i0)) (ae_bd (F_X7_add i0 ((48 : Int32) + ((v1 / (100 : Int32)) - (v1 / (100 : Int32)) / (10 : Int32) * (10 : Int32))) s0) (fun (r19 : Unit) s20 => F_X7_addNumber_20 i0 v1 s20)))
set_option maxHeartbeats 4000000 in
set_option maxRecDepth 100000 in
theorem c_X7_addNumber {l : Launch} {G : ae_G} (d : Nat) {i0 : Fin 32} {v1 : Int32} {s0 ss : ae_S} {rr : Unit} (hF : F_X7_addNumber i0 v1 s0 = some (rr, ss)) : ae_Met l G (d + 1) yX7_addNumber mX7_addNumber [ae_r (some (1, i0)), ae_i v1] s0 (ae_Po none ss) := by
  refine ae_enter (by decide) rfl (Nat.le_of_ble_eq_true rfl) ?_
  show ae_T l G (d + 1) mX7_addNumber (ae_Po none ss) 0 [(0, ae_r (some (1, i0))), (1, ae_i v1)] [] s0
  unfold F_X7_addNumber at hF
  refine ae_iload_n 1 dX7_addNumber_0 rfl ?_
  refine ae_bipush (100 : Int32) dX7_addNumber_1 (by decide) ?_
  refine ae_icmp_lt 20 dX7_addNumber_3 rfl (fun hb15 => ?_) (fun hb15 => ?_)
  · have hF16 := ae_ifT hb15 hF
    refine ae_pick (lv' := [(0, ae_r (some (1, i0))), (1, ae_i v1)]) [0, 1] rfl ?_
    exact t_X7_addNumber_20 d i0 v1 s0 hF16
  · have hF16 := ae_ifF hb15 hF
    refine ae_aload_n 0 dX7_addNumber_6 rfl ?_
    refine ae_bipush (48 : Int32) dX7_addNumber_7 (by decide) ?_
    refine ae_iload_n 1 dX7_addNumber_9 rfl ?_
    refine ae_bipush (100 : Int32) dX7_addNumber_10 (by decide) ?_
    refine ae_idiv dX7_addNumber_12 (by decide) ?_
    refine ae_bipush (10 : Int32) dX7_addNumber_13 (by decide) ?_
    refine ae_irem dX7_addNumber_15 (by decide) ?_
    refine ae_iadd dX7_addNumber_16 ?_
    obtain ⟨hg17, hF18⟩ := ae_gdI hF16
    obtain ⟨r19, s20, hc21, hF22⟩ := ae_bdI hF18
    refine ae_cV0 (q := (1, i0)) (As := [ae_i ((48 : Int32) + ((v1 / (100 : Int32)) - (v1 / (100 : Int32)) / (10 : Int32) * (10 : Int32)))]) dX7_addNumber_17 ww_354 vy_X7_add hg17 rfl rfl rfl rfl (Nat.le_of_ble_eq_true rfl) (c_X7_add d hc21) ?_
    refine ae_pick (lv' := [(0, ae_r (some (1, i0))), (1, ae_i v1)]) [0, 1] rfl ?_
    exact t_X7_addNumber_20 d i0 v1 s20 hF22
abbrev mX7_has : ae_M := (RX7, cX7_has, 2, some .boolean)
theorem vy_X7_has : ae_VY yX7_has mX7_has 1 := ⟨ww_1238, ww_1239, ww_2, ww_1240, ⟨by decide, by decide, by decide +kernel⟩, by decide⟩
theorem dX7_has_0 : decode cX7_has 0 = .ok (.iload_n 1, 1) := by decide +kernel
theorem dX7_has_1 : decode cX7_has 1 = .ok (.ifCond .lt 15, 3) := by decide +kernel
theorem dX7_has_4 : decode cX7_has 4 = .ok (.iload_n 1, 1) := by decide +kernel
theorem dX7_has_5 : decode cX7_has 5 = .ok (.aload_n 0, 1) := by decide +kernel
theorem dX7_has_6 : decode cX7_has 6 = .ok (.getfield 15, 3) := by decide +kernel
theorem dX7_has_9 : decode cX7_has 9 = .ok (.if_icmp .ge 7, 3) := by decide +kernel
theorem dX7_has_12 : decode cX7_has 12 = .ok (.iconst 1, 1) := by decide +kernel
theorem dX7_has_13 : decode cX7_has 13 = .ok (.goto 4, 3) := by decide +kernel
theorem dX7_has_16 : decode cX7_has 16 = .ok (.iconst 0, 1) := by decide +kernel
theorem dX7_has_17 : decode cX7_has 17 = .ok (.ireturn, 1) := by decide +kernel
def F_X7_has_17 (t0 : Int32) (s0 : ae_S) : Option (Int32 × ae_S) := ae_gd (ae_zz t0) (some (t0, s0))
set_option maxHeartbeats 4000000 in
set_option maxRecDepth 100000 in
theorem t_X7_has_17 {l : Launch} {G : ae_G} (d : Nat) {rr : Int32} {ss : ae_S} (t0 : Int32) (s0 : ae_S) (hF : F_X7_has_17 t0 s0 = some (rr, ss)) : ae_T l G d mX7_has (ae_Po (some (ae_i rr)) ss) 17 [] [ae_i t0] s0 := by
  unfold F_X7_has_17 at hF
  obtain ⟨hg1, hF2⟩ := ae_gdI hF
  obtain ⟨rfl, rfl⟩ := ae_retI hF2
  exact ae_iret dX7_has_17 rfl (ae_zzN (ae_zzI hg1)) ⟨rfl, rfl⟩
def F_X7_has_16 (s0 : ae_S) : Option (Int32 × ae_S) := F_X7_has_17 (0 : Int32) s0
set_option maxHeartbeats 4000000 in
set_option maxRecDepth 100000 in
theorem t_X7_has_16 {l : Launch} {G : ae_G} (d : Nat) {rr : Int32} {ss : ae_S} (s0 : ae_S) (hF : F_X7_has_16 s0 = some (rr, ss)) : ae_T l G d mX7_has (ae_Po (some (ae_i rr)) ss) 16 [] [] s0 := by
  unfold F_X7_has_16 at hF
  refine ae_iconst (0 : Int32) dX7_has_16 (by decide) ?_
  refine ae_pick (lv' := []) [] rfl ?_
  exact t_X7_has_17 d (0 : Int32) s0 hF
def F_X7_has (i0 : Fin 32) (v1 : Int32) (s0 : ae_S) : Option (Int32 × ae_S) := if v1 < 0 then (F_X7_has_16 s0) else (ae_gd (ae_ok (1, i0)) (if (s0.1 1 i0 1) ≤ v1 then (F_X7_has_16 s0) else (F_X7_has_17 (1 : Int32) s0)))
set_option maxHeartbeats 4000000 in
set_option maxRecDepth 100000 in
theorem c_X7_has {l : Launch} {G : ae_G} (d : Nat) {i0 : Fin 32} {v1 : Int32} {s0 ss : ae_S} {rr : Int32} (hF : F_X7_has i0 v1 s0 = some (rr, ss)) : ae_Met l G d yX7_has mX7_has [ae_r (some (1, i0)), ae_i v1] s0 (ae_Po (some (ae_i rr)) ss) := by
  refine ae_enter (by decide) rfl (Nat.le_of_ble_eq_true rfl) ?_
  show ae_T l G d mX7_has (ae_Po (some (ae_i rr)) ss) 0 [(0, ae_r (some (1, i0))), (1, ae_i v1)] [] s0
  unfold F_X7_has at hF
  refine ae_iload_n 1 dX7_has_0 rfl ?_
  refine ae_if_lt 16 dX7_has_1 rfl (fun hb3 => ?_) (fun hb3 => ?_)
  · have hF4 := ae_ifT hb3 hF
    refine ae_pick (lv' := []) [] rfl ?_
    exact t_X7_has_16 d s0 hF4
  · have hF4 := ae_ifF hb3 hF
    refine ae_iload_n 1 dX7_has_4 rfl ?_
    refine ae_aload_n 0 dX7_has_5 rfl ?_
    obtain ⟨hg5, hF6⟩ := ae_gdI hF4
    refine ae_getI (q := (1, i0)) dX7_has_6 fl_RX7_15 hg5 rfl ?_
    refine ae_icmp_ge 16 dX7_has_9 rfl (fun hb7 => ?_) (fun hb7 => ?_)
    · have hF8 := ae_ifT hb7 hF6
      refine ae_pick (lv' := []) [] rfl ?_
      exact t_X7_has_16 d s0 hF8
    · have hF8 := ae_ifF hb7 hF6
      refine ae_iconst (1 : Int32) dX7_has_12 (by decide) ?_
      refine ae_goto 17 dX7_has_13 rfl ?_
      refine ae_pick (lv' := []) [] rfl ?_
      exact t_X7_has_17 d (1 : Int32) s0 hF8
