/-! methods as functions: X11_memory X11_feed X11_end X11_views X11_script X11_fault X11_trouble X11_view X11_named X11_read X11_peek X11_field X11_write X11_writeFloat X11_at X11_poke X11_changed X11_seen X11_over X11_here X11_copy X11_turn X11_sort X11_fill X11_roll X11_show X11_out X11_find X11_sum X11_rest X11_undo X11_uncovered X11_look -/
theorem fl_RX11_26 : ae_FL RX11 26 9 2 (.object "ByteViews$Bytes") true := ⟨_, _, _, rfl, by decide, ww_304, rfl, rfl, rfl⟩
theorem fl_RX11_33 : ae_FL RX11 33 9 3 (.object "ByteViews$Shelf") true := ⟨_, _, _, rfl, by decide, ww_305, rfl, rfl, rfl⟩
theorem fl_RX11_16 : ae_FL RX11 16 9 0 (.object "ByteViews$Text") true := ⟨_, _, _, rfl, by decide, ww_302, rfl, rfl, rfl⟩
theorem fl_RX11_42 : ae_FL RX11 42 9 4 (.object "ByteViews$Tokens") true := ⟨_, _, _, rfl, by decide, ww_306, rfl, rfl, rfl⟩
theorem fl_RX11_54 : ae_FL RX11 54 9 5 (.object "ByteViews$ViewReader") true := ⟨_, _, _, rfl, by decide, ww_307, rfl, rfl, rfl⟩
theorem fl_RX11_63 : ae_FL RX11 63 9 6 (.object "ByteViews$ScriptReader") true := ⟨_, _, _, rfl, by decide, ww_308, rfl, rfl, rfl⟩
theorem fl_RX11_72 : ae_FL RX11 72 9 7 (.object "ByteViews$Machine") true := ⟨_, _, _, rfl, by decide, ww_309, rfl, rfl, rfl⟩
theorem fl_RX11_216 : ae_FL RX11 216 7 7 (.int) false := ⟨_, _, _, rfl, by decide, ww_105, rfl, rfl, rfl⟩
theorem fl_RX11_238 : ae_FL RX11 238 7 4 (.object "ByteViews$Kind") false := ⟨_, _, _, rfl, by decide, ww_97, rfl, rfl, rfl⟩
theorem fl_RX11_76 : ae_FL RX11 76 9 8 (.array .long) true := ⟨_, _, _, rfl, by decide, ww_310, rfl, rfl, rfl⟩
theorem fl_RX11_256 : ae_FL RX11 256 7 5 (.boolean) false := ⟨_, _, _, rfl, by decide, ww_100, rfl, rfl, rfl⟩
theorem fl_RX11_263 : ae_FL RX11 263 7 9 (.int) false := ⟨_, _, _, rfl, by decide, ww_111, rfl, rfl, rfl⟩
theorem fl_RX11_266 : ae_FL RX11 266 7 8 (.int) false := ⟨_, _, _, rfl, by decide, ww_108, rfl, rfl, rfl⟩
theorem fl_RX11_20 : ae_FL RX11 20 9 1 (.object "ByteViews$Text") true := ⟨_, _, _, rfl, by decide, ww_303, rfl, rfl, rfl⟩
abbrev mX11_memory : ae_M := (RX11, cX11_memory, 2, some .boolean)
theorem vy_X11_memory : ae_VY yX11_memory mX11_memory 1 := ⟨ww_331, ww_332, ww_1, ww_333, ⟨by decide, by decide, by decide +kernel⟩, by decide⟩
theorem dX11_memory_0 : decode cX11_memory 0 = .ok (.iload_n 1, 1) := by decide +kernel
theorem dX11_memory_1 : decode cX11_memory 1 = .ok (.iconst 1, 1) := by decide +kernel
theorem dX11_memory_2 : decode cX11_memory 2 = .ok (.if_icmp .lt 10, 3) := by decide +kernel
theorem dX11_memory_5 : decode cX11_memory 5 = .ok (.iload_n 1, 1) := by decide +kernel
theorem dX11_memory_6 : decode cX11_memory 6 = .ok (.sipush 256, 3) := by decide +kernel
theorem dX11_memory_9 : decode cX11_memory 9 = .ok (.if_icmp .le 5, 3) := by decide +kernel
theorem dX11_memory_12 : decode cX11_memory 12 = .ok (.iconst 0, 1) := by decide +kernel
theorem dX11_memory_13 : decode cX11_memory 13 = .ok (.ireturn, 1) := by decide +kernel
theorem dX11_memory_14 : decode cX11_memory 14 = .ok (.aload_n 0, 1) := by decide +kernel
theorem dX11_memory_15 : decode cX11_memory 15 = .ok (.getfield 26, 3) := by decide +kernel
theorem dX11_memory_18 : decode cX11_memory 18 = .ok (.iload_n 1, 1) := by decide +kernel
theorem dX11_memory_19 : decode cX11_memory 19 = .ok (.invokevirtual 80, 3) := by decide +kernel
theorem dX11_memory_22 : decode cX11_memory 22 = .ok (.aload_n 0, 1) := by decide +kernel
theorem dX11_memory_23 : decode cX11_memory 23 = .ok (.getfield 33, 3) := by decide +kernel
theorem dX11_memory_26 : decode cX11_memory 26 = .ok (.invokevirtual 83, 3) := by decide +kernel
theorem dX11_memory_29 : decode cX11_memory 29 = .ok (.iconst 1, 1) := by decide +kernel
theorem dX11_memory_30 : decode cX11_memory 30 = .ok (.ireturn, 1) := by decide +kernel
def F_X11_memory_12 (s0 : ae_S) : Option (Int32 × ae_S) := some ((0 : Int32), s0)
set_option maxHeartbeats 4000000 in
set_option maxRecDepth 100000 in
theorem t_X11_memory_12 {l : Launch} {G : ae_G} (d : Nat) {rr : Int32} {ss : ae_S} (s0 : ae_S) (hF : F_X11_memory_12 s0 = some (rr, ss)) : ae_T l G (d + 1) mX11_memory (ae_Po (some (ae_i rr)) ss) 12 [] [] s0 := by
  unfold F_X11_memory_12 at hF
  refine ae_iconst (0 : Int32) dX11_memory_12 (by decide) ?_
  obtain ⟨rfl, rfl⟩ := ae_retI hF
  exact ae_iret dX11_memory_13 rfl (by decide) ⟨rfl, rfl⟩
def F_X11_memory (v1 : Int32) (s0 : ae_S) : Option (Int32 × ae_S) := if v1 < (1 : Int32) then (F_X11_memory_12 s0) else (if v1 ≤ (256 : Int32) then (ae_bd (F_X0_restart v1 s0) (fun (r5 : Unit) s6 => ae_bd (F_X6_empty s6) (fun (r9 : Unit) s10 => some ((1 : Int32), s10)))) else (F_X11_memory_12 s0))
set_option maxHeartbeats 4000000 in
set_option maxRecDepth 100000 in
theorem c_X11_memory {l : Launch} {G : ae_G} (d : Nat) {v1 : Int32} {s0 ss : ae_S} {rr : Int32} (hF : F_X11_memory v1 s0 = some (rr, ss)) : ae_Met l G (d + 1) yX11_memory mX11_memory [ae_r (some (0, 0)), ae_i v1] s0 (ae_Po (some (ae_i rr)) ss) := by
  refine ae_enter (by decide) rfl (Nat.le_of_ble_eq_true rfl) ?_
  show ae_T l G (d + 1) mX11_memory (ae_Po (some (ae_i rr)) ss) 0 [(0, ae_r (some (0, 0))), (1, ae_i v1)] [] s0
  unfold F_X11_memory at hF
  refine ae_iload_n 1 dX11_memory_0 rfl ?_
  refine ae_iconst (1 : Int32) dX11_memory_1 (by decide) ?_
  refine ae_icmp_lt 12 dX11_memory_2 rfl (fun hb1 => ?_) (fun hb1 => ?_)
  · have hF2 := ae_ifT hb1 hF
    refine ae_pick (lv' := []) [] rfl ?_
    exact t_X11_memory_12 d s0 hF2
  · have hF2 := ae_ifF hb1 hF
    refine ae_iload_n 1 dX11_memory_5 rfl ?_
    refine ae_sipush (256 : Int32) dX11_memory_6 (by decide) ?_
    refine ae_icmp_le 14 dX11_memory_9 rfl (fun hb3 => ?_) (fun hb3 => ?_)
    · have hF4 := ae_ifT hb3 hF2
      refine ae_aload_n 0 dX11_memory_14 rfl ?_
      refine ae_getO (q := (0, 0)) (some (3, 0)) dX11_memory_15 fl_RX11_26 rfl rfl rfl ?_
      refine ae_iload_n 1 dX11_memory_18 rfl ?_
      obtain ⟨r5, s6, hc7, hF8⟩ := ae_bdI hF4
      refine ae_cV0 (q := (3, 0)) (As := [ae_i v1]) dX11_memory_19 ww_334 vy_X0_restart rfl rfl rfl rfl rfl (Nat.le_of_ble_eq_true rfl) (c_X0_restart d hc7) ?_
      refine ae_aload_n 0 dX11_memory_22 rfl ?_
      refine ae_getO (q := (0, 0)) (some (6, 0)) dX11_memory_23 fl_RX11_33 rfl rfl rfl ?_
      obtain ⟨r9, s10, hc11, hF12⟩ := ae_bdI hF8
      refine ae_cV0 (q := (6, 0)) (As := []) dX11_memory_26 ww_338 vy_X6_empty rfl rfl rfl rfl rfl (Nat.le_of_ble_eq_true rfl) (c_X6_empty d hc11) ?_
      refine ae_iconst (1 : Int32) dX11_memory_29 (by decide) ?_
      obtain ⟨rfl, rfl⟩ := ae_retI hF12
      exact ae_iret dX11_memory_30 rfl (by decide) ⟨rfl, rfl⟩
    · have hF4 := ae_ifF hb3 hF2
      refine ae_pick (lv' := []) [] rfl ?_
      exact t_X11_memory_12 d s0 hF4
abbrev mX11_feed : ae_M := (RX11, cX11_feed, 6, some .int)
theorem vy_X11_feed : ae_VY yX11_feed mX11_feed 5 := ⟨ww_343, ww_344, ww_1, ww_345, ⟨by decide, by decide, by decide +kernel⟩, by decide⟩
theorem dX11_feed_0 : decode cX11_feed 0 = .ok (.aload_n 0, 1) := by decide +kernel
theorem dX11_feed_1 : decode cX11_feed 1 = .ok (.getfield 16, 3) := by decide +kernel
theorem dX11_feed_4 : decode cX11_feed 4 = .ok (.invokevirtual 86, 3) := by decide +kernel
theorem dX11_feed_7 : decode cX11_feed 7 = .ok (.bipush 20, 2) := by decide +kernel
theorem dX11_feed_9 : decode cX11_feed 9 = .ok (.iadd, 1) := by decide +kernel
theorem dX11_feed_10 : decode cX11_feed 10 = .ok (.sipush 500, 3) := by decide +kernel
theorem dX11_feed_13 : decode cX11_feed 13 = .ok (.if_icmp .le 5, 3) := by decide +kernel
theorem dX11_feed_16 : decode cX11_feed 16 = .ok (.iconst (-1), 1) := by decide +kernel
theorem dX11_feed_17 : decode cX11_feed 17 = .ok (.ireturn, 1) := by decide +kernel
theorem dX11_feed_18 : decode cX11_feed 18 = .ok (.aload_n 0, 1) := by decide +kernel
theorem dX11_feed_19 : decode cX11_feed 19 = .ok (.getfield 16, 3) := by decide +kernel
theorem dX11_feed_22 : decode cX11_feed 22 = .ok (.iload_n 1, 1) := by decide +kernel
theorem dX11_feed_23 : decode cX11_feed 23 = .ok (.invokevirtual 90, 3) := by decide +kernel
theorem dX11_feed_26 : decode cX11_feed 26 = .ok (.aload_n 0, 1) := by decide +kernel
theorem dX11_feed_27 : decode cX11_feed 27 = .ok (.getfield 16, 3) := by decide +kernel
theorem dX11_feed_30 : decode cX11_feed 30 = .ok (.iload_n 2, 1) := by decide +kernel
theorem dX11_feed_31 : decode cX11_feed 31 = .ok (.invokevirtual 90, 3) := by decide +kernel
theorem dX11_feed_34 : decode cX11_feed 34 = .ok (.aload_n 0, 1) := by decide +kernel
theorem dX11_feed_35 : decode cX11_feed 35 = .ok (.getfield 16, 3) := by decide +kernel
theorem dX11_feed_38 : decode cX11_feed 38 = .ok (.iload_n 3, 1) := by decide +kernel
theorem dX11_feed_39 : decode cX11_feed 39 = .ok (.invokevirtual 90, 3) := by decide +kernel
theorem dX11_feed_42 : decode cX11_feed 42 = .ok (.aload_n 0, 1) := by decide +kernel
theorem dX11_feed_43 : decode cX11_feed 43 = .ok (.getfield 16, 3) := by decide +kernel
theorem dX11_feed_46 : decode cX11_feed 46 = .ok (.iload 4, 2) := by decide +kernel
theorem dX11_feed_48 : decode cX11_feed 48 = .ok (.invokevirtual 90, 3) := by decide +kernel
theorem dX11_feed_51 : decode cX11_feed 51 = .ok (.aload_n 0, 1) := by decide +kernel
theorem dX11_feed_52 : decode cX11_feed 52 = .ok (.getfield 16, 3) := by decide +kernel
theorem dX11_feed_55 : decode cX11_feed 55 = .ok (.iload 5, 2) := by decide +kernel
theorem dX11_feed_57 : decode cX11_feed 57 = .ok (.invokevirtual 90, 3) := by decide +kernel
theorem dX11_feed_60 : decode cX11_feed 60 = .ok (.aload_n 0, 1) := by decide +kernel
theorem dX11_feed_61 : decode cX11_feed 61 = .ok (.getfield 16, 3) := by decide +kernel
theorem dX11_feed_64 : decode cX11_feed 64 = .ok (.invokevirtual 86, 3) := by decide +kernel
theorem dX11_feed_67 : decode cX11_feed 67 = .ok (.ireturn, 1) := by decide +kernel
def F_X11_feed (v1 : Int32) (v2 : Int32) (v3 : Int32) (v4 : Int32) (v5 : Int32) (s0 : ae_S) : Option (Int32 × ae_S) := ae_bd (F_X7_length (0 : Fin 32) s0) (fun (r1 : Int32) s2 => if (r1 + (20 : Int32)) ≤ (500 : Int32) then (ae_bd (F_X7_addFour (0 : Fin 32) v1 s2) (fun (r7 : Unit) s8 => ae_bd (F_X7_addFour (0 : Fin 32) v2 s8) (fun (r11 : Unit) s12 => ae_bd (F_X7_addFour (0 : Fin 32) v3 s12) (fun (r15 : Unit) s16 => ae_bd (F_X7_addFour (0 : Fin 32) v4 s16) (fun (r19 : Unit) s20 => ae_bd (F_X7_addFour (0 : Fin 32) v5 s20) (fun (r23 : Unit) s24 => ae_bd (F_X7_length (0 : Fin 32) s24) (fun (r27 : Int32) s28 => some (r27, s28)))))))) else (some ((-1 : Int32), s2)))
set_option maxHeartbeats 4000000 in
set_option maxRecDepth 100000 in
theorem c_X11_feed {l : Launch} {G : ae_G} (d : Nat) {v1 : Int32} {v2 : Int32} {v3 : Int32} {v4 : Int32} {v5 : Int32} {s0 ss : ae_S} {rr : Int32} (hF : F_X11_feed v1 v2 v3 v4 v5 s0 = some (rr, ss)) : ae_Met l G (d + 2) yX11_feed mX11_feed [ae_r (some (0, 0)), ae_i v1, ae_i v2, ae_i v3, ae_i v4, ae_i v5] s0 (ae_Po (some (ae_i rr)) ss) := by
  refine ae_enter (by decide) rfl (Nat.le_of_ble_eq_true rfl) ?_
  show ae_T l G (d + 2) mX11_feed (ae_Po (some (ae_i rr)) ss) 0 [(0, ae_r (some (0, 0))), (1, ae_i v1), (2, ae_i v2), (3, ae_i v3), (4, ae_i v4), (5, ae_i v5)] [] s0
  unfold F_X11_feed at hF
  refine ae_aload_n 0 dX11_feed_0 rfl ?_
  refine ae_getO (q := (0, 0)) (some (1, 0)) dX11_feed_1 fl_RX11_16 rfl rfl rfl ?_
  obtain ⟨r1, s2, hc3, hF4⟩ := ae_bdI hF
  refine ae_cV1 (q := (1, 0)) (As := []) dX11_feed_4 ww_346 vy_X7_length rfl rfl rfl rfl rfl (Nat.le_of_ble_eq_true rfl) (c_X7_length (d + 1) hc3) ?_
  refine ae_bipush (20 : Int32) dX11_feed_7 (by decide) ?_
  refine ae_iadd dX11_feed_9 ?_
  refine ae_sipush (500 : Int32) dX11_feed_10 (by decide) ?_
  refine ae_icmp_le 18 dX11_feed_13 rfl (fun hb5 => ?_) (fun hb5 => ?_)
  · have hF6 := ae_ifT hb5 hF4
    refine ae_aload_n 0 dX11_feed_18 rfl ?_
    refine ae_getO (q := (0, 0)) (some (1, 0)) dX11_feed_19 fl_RX11_16 rfl rfl rfl ?_
    refine ae_iload_n 1 dX11_feed_22 rfl ?_
    obtain ⟨r7, s8, hc9, hF10⟩ := ae_bdI hF6
    refine ae_cV0 (q := (1, 0)) (As := [ae_i v1]) dX11_feed_23 ww_350 vy_X7_addFour rfl rfl rfl rfl rfl (Nat.le_of_ble_eq_true rfl) (c_X7_addFour d hc9) ?_
    refine ae_aload_n 0 dX11_feed_26 rfl ?_
    refine ae_getO (q := (0, 0)) (some (1, 0)) dX11_feed_27 fl_RX11_16 rfl rfl rfl ?_
    refine ae_iload_n 2 dX11_feed_30 rfl ?_
    obtain ⟨r11, s12, hc13, hF14⟩ := ae_bdI hF10
    refine ae_cV0 (q := (1, 0)) (As := [ae_i v2]) dX11_feed_31 ww_350 vy_X7_addFour rfl rfl rfl rfl rfl (Nat.le_of_ble_eq_true rfl) (c_X7_addFour d hc13) ?_
    refine ae_aload_n 0 dX11_feed_34 rfl ?_
    refine ae_getO (q := (0, 0)) (some (1, 0)) dX11_feed_35 fl_RX11_16 rfl rfl rfl ?_
    refine ae_iload_n 3 dX11_feed_38 rfl ?_
    obtain ⟨r15, s16, hc17, hF18⟩ := ae_bdI hF14
    refine ae_cV0 (q := (1, 0)) (As := [ae_i v3]) dX11_feed_39 ww_350 vy_X7_addFour rfl rfl rfl rfl rfl (Nat.le_of_ble_eq_true rfl) (c_X7_addFour d hc17) ?_
    refine ae_aload_n 0 dX11_feed_42 rfl ?_
    refine ae_getO (q := (0, 0)) (some (1, 0)) dX11_feed_43 fl_RX11_16 rfl rfl rfl ?_
    refine ae_iload 4 dX11_feed_46 rfl ?_
    obtain ⟨r19, s20, hc21, hF22⟩ := ae_bdI hF18
    refine ae_cV0 (q := (1, 0)) (As := [ae_i v4]) dX11_feed_48 ww_350 vy_X7_addFour rfl rfl rfl rfl rfl (Nat.le_of_ble_eq_true rfl) (c_X7_addFour d hc21) ?_
    refine ae_aload_n 0 dX11_feed_51 rfl ?_
    refine ae_getO (q := (0, 0)) (some (1, 0)) dX11_feed_52 fl_RX11_16 rfl rfl rfl ?_
    refine ae_iload 5 dX11_feed_55 rfl ?_
    obtain ⟨r23, s24, hc25, hF26⟩ := ae_bdI hF22
    refine ae_cV0 (q := (1, 0)) (As := [ae_i v5]) dX11_feed_57 ww_350 vy_X7_addFour rfl rfl rfl rfl rfl (Nat.le_of_ble_eq_true rfl) (c_X7_addFour d hc25) ?_
    refine ae_aload_n 0 dX11_feed_60 rfl ?_
    refine ae_getO (q := (0, 0)) (some (1, 0)) dX11_feed_61 fl_RX11_16 rfl rfl rfl ?_
    obtain ⟨r27, s28, hc29, hF30⟩ := ae_bdI hF26
    refine ae_cV1 (q := (1, 0)) (As := []) dX11_feed_64 ww_346 vy_X7_length rfl rfl rfl rfl rfl (Nat.le_of_ble_eq_true rfl) (c_X7_length (d + 1) hc29) ?_
    obtain ⟨rfl, rfl⟩ := ae_retI hF30
    exact ae_iret dX11_feed_67 rfl rfl ⟨rfl, rfl⟩
  · have hF6 := ae_ifF hb5 hF4
    refine ae_iconst (-1 : Int32) dX11_feed_16 (by decide) ?_
    obtain ⟨rfl, rfl⟩ := ae_retI hF6
    exact ae_iret dX11_feed_17 rfl rfl ⟨rfl, rfl⟩
abbrev mX11_end : ae_M := (RX11, cX11_end, 2, some .boolean)
theorem vy_X11_end : ae_VY yX11_end mX11_end 1 := ⟨ww_359, ww_360, ww_1, ww_361, ⟨by decide, by decide, by decide +kernel⟩, by decide⟩
theorem dX11_end_0 : decode cX11_end 0 = .ok (.iload_n 1, 1) := by decide +kernel
theorem dX11_end_1 : decode cX11_end 1 = .ok (.ifCond .lt 14, 3) := by decide +kernel
theorem dX11_end_4 : decode cX11_end 4 = .ok (.iload_n 1, 1) := by decide +kernel
theorem dX11_end_5 : decode cX11_end 5 = .ok (.aload_n 0, 1) := by decide +kernel
theorem dX11_end_6 : decode cX11_end 6 = .ok (.getfield 16, 3) := by decide +kernel
theorem dX11_end_9 : decode cX11_end 9 = .ok (.invokevirtual 86, 3) := by decide +kernel
theorem dX11_end_12 : decode cX11_end 12 = .ok (.if_icmp .le 5, 3) := by decide +kernel
theorem dX11_end_15 : decode cX11_end 15 = .ok (.iconst 0, 1) := by decide +kernel
theorem dX11_end_16 : decode cX11_end 16 = .ok (.ireturn, 1) := by decide +kernel
theorem dX11_end_17 : decode cX11_end 17 = .ok (.aload_n 0, 1) := by decide +kernel
theorem dX11_end_18 : decode cX11_end 18 = .ok (.getfield 16, 3) := by decide +kernel
theorem dX11_end_21 : decode cX11_end 21 = .ok (.iload_n 1, 1) := by decide +kernel
theorem dX11_end_22 : decode cX11_end 22 = .ok (.invokevirtual 93, 3) := by decide +kernel
theorem dX11_end_25 : decode cX11_end 25 = .ok (.iconst 1, 1) := by decide +kernel
theorem dX11_end_26 : decode cX11_end 26 = .ok (.ireturn, 1) := by decide +kernel
def F_X11_end_15 (s0 : ae_S) : Option (Int32 × ae_S) := some ((0 : Int32), s0)
set_option maxHeartbeats 4000000 in
set_option maxRecDepth 100000 in
theorem t_X11_end_15 {l : Launch} {G : ae_G} (d : Nat) {rr : Int32} {ss : ae_S} (s0 : ae_S) (hF : F_X11_end_15 s0 = some (rr, ss)) : ae_T l G (d + 1) mX11_end (ae_Po (some (ae_i rr)) ss) 15 [] [] s0 := by
  unfold F_X11_end_15 at hF
  refine ae_iconst (0 : Int32) dX11_end_15 (by decide) ?_
  obtain ⟨rfl, rfl⟩ := ae_retI hF
  exact ae_iret dX11_end_16 rfl (by decide) ⟨rfl, rfl⟩
def F_X11_end (v1 : Int32) (s0 : ae_S) : Option (Int32 × ae_S) := if v1 < 0 then (F_X11_end_15 s0) else (ae_bd (F_X7_length (0 : Fin 32) s0) (fun (r3 : Int32) s4 => if v1 ≤ r3 then (ae_bd (F_X7_cut (0 : Fin 32) v1 s4) (fun (r9 : Unit) s10 => some ((1 : Int32), s10))) else (F_X11_end_15 s4)))
set_option maxHeartbeats 4000000 in
set_option maxRecDepth 100000 in
theorem c_X11_end {l : Launch} {G : ae_G} (d : Nat) {v1 : Int32} {s0 ss : ae_S} {rr : Int32} (hF : F_X11_end v1 s0 = some (rr, ss)) : ae_Met l G (d + 1) yX11_end mX11_end [ae_r (some (0, 0)), ae_i v1] s0 (ae_Po (some (ae_i rr)) ss) := by
  refine ae_enter (by decide) rfl (Nat.le_of_ble_eq_true rfl) ?_
  show ae_T l G (d + 1) mX11_end (ae_Po (some (ae_i rr)) ss) 0 [(0, ae_r (some (0, 0))), (1, ae_i v1)] [] s0
  unfold F_X11_end at hF
  refine ae_iload_n 1 dX11_end_0 rfl ?_
  refine ae_if_lt 15 dX11_end_1 rfl (fun hb1 => ?_) (fun hb1 => ?_)
  · have hF2 := ae_ifT hb1 hF
    refine ae_pick (lv' := []) [] rfl ?_
    exact t_X11_end_15 d s0 hF2
  · have hF2 := ae_ifF hb1 hF
    refine ae_iload_n 1 dX11_end_4 rfl ?_
    refine ae_aload_n 0 dX11_end_5 rfl ?_
    refine ae_getO (q := (0, 0)) (some (1, 0)) dX11_end_6 fl_RX11_16 rfl rfl rfl ?_
    obtain ⟨r3, s4, hc5, hF6⟩ := ae_bdI hF2
    refine ae_cV1 (q := (1, 0)) (As := []) dX11_end_9 ww_346 vy_X7_length rfl rfl rfl rfl rfl (Nat.le_of_ble_eq_true rfl) (c_X7_length d hc5) ?_
    refine ae_icmp_le 17 dX11_end_12 rfl (fun hb7 => ?_) (fun hb7 => ?_)
    · have hF8 := ae_ifT hb7 hF6
      refine ae_aload_n 0 dX11_end_17 rfl ?_
      refine ae_getO (q := (0, 0)) (some (1, 0)) dX11_end_18 fl_RX11_16 rfl rfl rfl ?_
      refine ae_iload_n 1 dX11_end_21 rfl ?_
      obtain ⟨r9, s10, hc11, hF12⟩ := ae_bdI hF8
      refine ae_cV0 (q := (1, 0)) (As := [ae_i v1]) dX11_end_22 ww_362 vy_X7_cut rfl rfl rfl rfl rfl (Nat.le_of_ble_eq_true rfl) (c_X7_cut d hc11) ?_
      refine ae_iconst (1 : Int32) dX11_end_25 (by decide) ?_
      obtain ⟨rfl, rfl⟩ := ae_retI hF12
      exact ae_iret dX11_end_26 rfl (by decide) ⟨rfl, rfl⟩
    · have hF8 := ae_ifF hb7 hF6
      refine ae_pick (lv' := []) [] rfl ?_
      exact t_X11_end_15 d s4 hF8
abbrev mX11_views : ae_M := (RX11, cX11_views, 1, some .int)
theorem vy_X11_views : ae_VY yX11_views mX11_views 0 := ⟨ww_367, ww_368, ww_1, ww_369, ⟨by decide, by decide, by decide +kernel⟩, by decide⟩
theorem dX11_views_0 : decode cX11_views 0 = .ok (.aload_n 0, 1) := by decide +kernel
theorem dX11_views_1 : decode cX11_views 1 = .ok (.getfield 42, 3) := by decide +kernel
theorem dX11_views_4 : decode cX11_views 4 = .ok (.invokevirtual 96, 3) := by decide +kernel
theorem dX11_views_7 : decode cX11_views 7 = .ok (.aload_n 0, 1) := by decide +kernel
theorem dX11_views_8 : decode cX11_views 8 = .ok (.getfield 42, 3) := by decide +kernel
theorem dX11_views_11 : decode cX11_views 11 = .ok (.iconst 3, 1) := by decide +kernel
theorem dX11_views_12 : decode cX11_views 12 = .ok (.invokevirtual 99, 3) := by decide +kernel
theorem dX11_views_15 : decode cX11_views 15 = .ok (.aload_n 0, 1) := by decide +kernel
theorem dX11_views_16 : decode cX11_views 16 = .ok (.getfield 16, 3) := by decide +kernel
theorem dX11_views_19 : decode cX11_views 19 = .ok (.iconst 0, 1) := by decide +kernel
theorem dX11_views_20 : decode cX11_views 20 = .ok (.invokevirtual 93, 3) := by decide +kernel
theorem dX11_views_23 : decode cX11_views 23 = .ok (.aload_n 0, 1) := by decide +kernel
theorem dX11_views_24 : decode cX11_views 24 = .ok (.getfield 54, 3) := by decide +kernel
theorem dX11_views_27 : decode cX11_views 27 = .ok (.aload_n 0, 1) := by decide +kernel
theorem dX11_views_28 : decode cX11_views 28 = .ok (.getfield 26, 3) := by decide +kernel
theorem dX11_views_31 : decode cX11_views 31 = .ok (.invokevirtual 102, 3) := by decide +kernel
theorem dX11_views_34 : decode cX11_views 34 = .ok (.invokevirtual 105, 3) := by decide +kernel
theorem dX11_views_37 : decode cX11_views 37 = .ok (.ifCond .eq 13, 3) := by decide +kernel
theorem dX11_views_40 : decode cX11_views 40 = .ok (.aload_n 0, 1) := by decide +kernel
theorem dX11_views_41 : decode cX11_views 41 = .ok (.getfield 33, 3) := by decide +kernel
theorem dX11_views_44 : decode cX11_views 44 = .ok (.invokevirtual 109, 3) := by decide +kernel
theorem dX11_views_47 : decode cX11_views 47 = .ok (.goto 4, 3) := by decide +kernel
theorem dX11_views_50 : decode cX11_views 50 = .ok (.iconst (-1), 1) := by decide +kernel
theorem dX11_views_51 : decode cX11_views 51 = .ok (.ireturn, 1) := by decide +kernel
def F_X11_views_51 (t0 : Int32) (s0 : ae_S) : Option (Int32 × ae_S) := some (t0, s0)
set_option maxHeartbeats 4000000 in
set_option maxRecDepth 100000 in
theorem t_X11_views_51 {l : Launch} {G : ae_G} (d : Nat) {rr : Int32} {ss : ae_S} (t0 : Int32) (s0 : ae_S) (hF : F_X11_views_51 t0 s0 = some (rr, ss)) : ae_T l G (d + 10) mX11_views (ae_Po (some (ae_i rr)) ss) 51 [] [ae_i t0] s0 := by
  unfold F_X11_views_51 at hF
  obtain ⟨rfl, rfl⟩ := ae_retI hF
  exact ae_iret dX11_views_51 rfl rfl ⟨rfl, rfl⟩
def F_X11_views (s0 : ae_S) : Option (Int32 × ae_S) := ae_bd (F_X8_forgetFault s0) (fun (r1 : Unit) s2 => ae_bd (F_X8_scan (3 : Int32) s2) (fun (r5 : Unit) s6 => ae_bd (F_X7_cut (0 : Fin 32) (0 : Int32) s6) (fun (r9 : Unit) s10 => ae_bd (F_X0_size s10) (fun (r13 : Int32) s14 => ae_bd (F_X10_tellAll r13 s14) (fun (r17 : Int32) s18 => if r17 = 0 then (F_X11_views_51 (-1 : Int32) s18) else (ae_bd (F_X6_count s18) (fun (r23 : Int32) s24 => F_X11_views_51 r23 s24)))))))
set_option maxHeartbeats 4000000 in
set_option maxRecDepth 100000 in
theorem c_X11_views {l : Launch} {G : ae_G} (d : Nat) {s0 ss : ae_S} {rr : Int32} (hF : F_X11_views s0 = some (rr, ss)) : ae_Met l G (d + 10) yX11_views mX11_views [ae_r (some (0, 0))] s0 (ae_Po (some (ae_i rr)) ss) := by
  refine ae_enter (by decide) rfl (Nat.le_of_ble_eq_true rfl) ?_
  show ae_T l G (d + 10) mX11_views (ae_Po (some (ae_i rr)) ss) 0 [(0, ae_r (some (0, 0)))] [] s0
  unfold F_X11_views at hF
  refine ae_aload_n 0 dX11_views_0 rfl ?_
  refine ae_getO (q := (0, 0)) (some (12, 0)) dX11_views_1 fl_RX11_42 rfl rfl rfl ?_
  obtain ⟨r1, s2, hc3, hF4⟩ := ae_bdI hF
  refine ae_cV0 (q := (12, 0)) (As := []) dX11_views_4 ww_370 vy_X8_forgetFault rfl rfl rfl rfl rfl (Nat.le_of_ble_eq_true rfl) (c_X8_forgetFault (d + 9) hc3) ?_
  refine ae_aload_n 0 dX11_views_7 rfl ?_
  refine ae_getO (q := (0, 0)) (some (12, 0)) dX11_views_8 fl_RX11_42 rfl rfl rfl ?_
  refine ae_iconst (3 : Int32) dX11_views_11 (by decide) ?_
  obtain ⟨r5, s6, hc7, hF8⟩ := ae_bdI hF4
  refine ae_cV0 (q := (12, 0)) (As := [ae_i (3 : Int32)]) dX11_views_12 ww_374 vy_X8_scan rfl rfl rfl rfl rfl (Nat.le_of_ble_eq_true rfl) (c_X8_scan (d + 1) hc7) ?_
  refine ae_aload_n 0 dX11_views_15 rfl ?_
  refine ae_getO (q := (0, 0)) (some (1, 0)) dX11_views_16 fl_RX11_16 rfl rfl rfl ?_
  refine ae_iconst (0 : Int32) dX11_views_19 (by decide) ?_
  obtain ⟨r9, s10, hc11, hF12⟩ := ae_bdI hF8
  refine ae_cV0 (q := (1, 0)) (As := [ae_i (0 : Int32)]) dX11_views_20 ww_362 vy_X7_cut rfl rfl rfl rfl rfl (Nat.le_of_ble_eq_true rfl) (c_X7_cut (d + 9) hc11) ?_
  refine ae_aload_n 0 dX11_views_23 rfl ?_
  refine ae_getO (q := (0, 0)) (some (18, 0)) dX11_views_24 fl_RX11_54 rfl rfl rfl ?_
  refine ae_aload_n 0 dX11_views_27 rfl ?_
  refine ae_getO (q := (0, 0)) (some (3, 0)) dX11_views_28 fl_RX11_26 rfl rfl rfl ?_
  obtain ⟨r13, s14, hc15, hF16⟩ := ae_bdI hF12
  refine ae_cV1 (q := (3, 0)) (As := []) dX11_views_31 ww_473 vy_X0_size rfl rfl rfl rfl rfl (Nat.le_of_ble_eq_true rfl) (c_X0_size (d + 9) hc15) ?_
  obtain ⟨r17, s18, hc19, hF20⟩ := ae_bdI hF16
  refine ae_cV1 (q := (18, 0)) (As := [ae_i r13]) dX11_views_34 ww_477 vy_X10_tellAll rfl rfl rfl rfl rfl (Nat.le_of_ble_eq_true rfl) (c_X10_tellAll d hc19) ?_
  refine ae_if_eq 50 dX11_views_37 rfl (fun hb21 => ?_) (fun hb21 => ?_)
  · have hF22 := ae_ifT hb21 hF20
    refine ae_iconst (-1 : Int32) dX11_views_50 (by decide) ?_
    refine ae_pick (lv' := []) [] rfl ?_
    exact t_X11_views_51 d (-1 : Int32) s18 hF22
  · have hF22 := ae_ifF hb21 hF20
    refine ae_aload_n 0 dX11_views_40 rfl ?_
    refine ae_getO (q := (0, 0)) (some (6, 0)) dX11_views_41 fl_RX11_33 rfl rfl rfl ?_
    obtain ⟨r23, s24, hc25, hF26⟩ := ae_bdI hF22
    refine ae_cV1 (q := (6, 0)) (As := []) dX11_views_44 ww_620 vy_X6_count rfl rfl rfl rfl rfl (Nat.le_of_ble_eq_true rfl) (c_X6_count (d + 9) hc25) ?_
    refine ae_goto 51 dX11_views_47 rfl ?_
    refine ae_pick (lv' := []) [] rfl ?_
    exact t_X11_views_51 d r23 s24 hF26
abbrev mX11_script : ae_M := (RX11, cX11_script, 2, some .int)
theorem vy_X11_script : ae_VY yX11_script mX11_script 0 := ⟨ww_626, ww_627, ww_1, ww_628, ⟨by decide, by decide, by decide +kernel⟩, by decide⟩
theorem dX11_script_0 : decode cX11_script 0 = .ok (.aload_n 0, 1) := by decide +kernel
theorem dX11_script_1 : decode cX11_script 1 = .ok (.getfield 42, 3) := by decide +kernel
theorem dX11_script_4 : decode cX11_script 4 = .ok (.invokevirtual 96, 3) := by decide +kernel
theorem dX11_script_7 : decode cX11_script 7 = .ok (.aload_n 0, 1) := by decide +kernel
theorem dX11_script_8 : decode cX11_script 8 = .ok (.getfield 42, 3) := by decide +kernel
theorem dX11_script_11 : decode cX11_script 11 = .ok (.bipush 9, 2) := by decide +kernel
theorem dX11_script_13 : decode cX11_script 13 = .ok (.invokevirtual 99, 3) := by decide +kernel
theorem dX11_script_16 : decode cX11_script 16 = .ok (.aload_n 0, 1) := by decide +kernel
theorem dX11_script_17 : decode cX11_script 17 = .ok (.getfield 16, 3) := by decide +kernel
theorem dX11_script_20 : decode cX11_script 20 = .ok (.iconst 0, 1) := by decide +kernel
theorem dX11_script_21 : decode cX11_script 21 = .ok (.invokevirtual 93, 3) := by decide +kernel
theorem dX11_script_24 : decode cX11_script 24 = .ok (.aload_n 0, 1) := by decide +kernel
theorem dX11_script_25 : decode cX11_script 25 = .ok (.getfield 63, 3) := by decide +kernel
theorem dX11_script_28 : decode cX11_script 28 = .ok (.invokevirtual 112, 3) := by decide +kernel
theorem dX11_script_31 : decode cX11_script 31 = .ok (.ifCond .ne 5, 3) := by decide +kernel
theorem dX11_script_34 : decode cX11_script 34 = .ok (.iconst (-1), 1) := by decide +kernel
theorem dX11_script_35 : decode cX11_script 35 = .ok (.ireturn, 1) := by decide +kernel
theorem dX11_script_36 : decode cX11_script 36 = .ok (.aload_n 0, 1) := by decide +kernel
theorem dX11_script_37 : decode cX11_script 37 = .ok (.getfield 26, 3) := by decide +kernel
theorem dX11_script_40 : decode cX11_script 40 = .ok (.invokevirtual 116, 3) := by decide +kernel
theorem dX11_script_43 : decode cX11_script 43 = .ok (.aload_n 0, 1) := by decide +kernel
theorem dX11_script_44 : decode cX11_script 44 = .ok (.getfield 72, 3) := by decide +kernel
theorem dX11_script_47 : decode cX11_script 47 = .ok (.invokevirtual 119, 3) := by decide +kernel
theorem dX11_script_50 : decode cX11_script 50 = .ok (.istore_n 1, 1) := by decide +kernel
theorem dX11_script_51 : decode cX11_script 51 = .ok (.aload_n 0, 1) := by decide +kernel
theorem dX11_script_52 : decode cX11_script 52 = .ok (.getfield 26, 3) := by decide +kernel
theorem dX11_script_55 : decode cX11_script 55 = .ok (.invokevirtual 122, 3) := by decide +kernel
theorem dX11_script_58 : decode cX11_script 58 = .ok (.iload_n 1, 1) := by decide +kernel
theorem dX11_script_59 : decode cX11_script 59 = .ok (.ireturn, 1) := by decide +kernel
def F_X11_script (s0 : ae_S) : Option (Int32 × ae_S) := ae_bd (F_X8_forgetFault s0) (fun (r1 : Unit) s2 => ae_bd (F_X8_scan (9 : Int32) s2) (fun (r5 : Unit) s6 => ae_bd (F_X7_cut (0 : Fin 32) (0 : Int32) s6) (fun (r9 : Unit) s10 => ae_bd (F_X5_compile s10) (fun (r13 : Int32) s14 => if r13 = 0 then (some ((-1 : Int32), s14)) else (ae_bd (F_X0_begin s14) (fun (r19 : Unit) s20 => ae_bd (F_X4_run s20) (fun (r23 : Int32) s24 => ae_bd (F_X0_keep s24) (fun (r27 : Unit) s28 => some (r23, s28)))))))))
set_option maxHeartbeats 4000000 in
set_option maxRecDepth 100000 in
theorem c_X11_script {l : Launch} {G : ae_G} (d : Nat) {s0 ss : ae_S} {rr : Int32} (hF : F_X11_script s0 = some (rr, ss)) : ae_Met l G (d + 9) yX11_script mX11_script [ae_r (some (0, 0))] s0 (ae_Po (some (ae_i rr)) ss) := by
  refine ae_enter (by decide) rfl (Nat.le_of_ble_eq_true rfl) ?_
  show ae_T l G (d + 9) mX11_script (ae_Po (some (ae_i rr)) ss) 0 [(0, ae_r (some (0, 0)))] [] s0
  unfold F_X11_script at hF
  refine ae_aload_n 0 dX11_script_0 rfl ?_
  refine ae_getO (q := (0, 0)) (some (12, 0)) dX11_script_1 fl_RX11_42 rfl rfl rfl ?_
  obtain ⟨r1, s2, hc3, hF4⟩ := ae_bdI hF
  refine ae_cV0 (q := (12, 0)) (As := []) dX11_script_4 ww_370 vy_X8_forgetFault rfl rfl rfl rfl rfl (Nat.le_of_ble_eq_true rfl) (c_X8_forgetFault (d + 8) hc3) ?_
  refine ae_aload_n 0 dX11_script_7 rfl ?_
  refine ae_getO (q := (0, 0)) (some (12, 0)) dX11_script_8 fl_RX11_42 rfl rfl rfl ?_
  refine ae_bipush (9 : Int32) dX11_script_11 (by decide) ?_
  obtain ⟨r5, s6, hc7, hF8⟩ := ae_bdI hF4
  refine ae_cV0 (q := (12, 0)) (As := [ae_i (9 : Int32)]) dX11_script_13 ww_374 vy_X8_scan rfl rfl rfl rfl rfl (Nat.le_of_ble_eq_true rfl) (c_X8_scan d hc7) ?_
  refine ae_aload_n 0 dX11_script_16 rfl ?_
  refine ae_getO (q := (0, 0)) (some (1, 0)) dX11_script_17 fl_RX11_16 rfl rfl rfl ?_
  refine ae_iconst (0 : Int32) dX11_script_20 (by decide) ?_
  obtain ⟨r9, s10, hc11, hF12⟩ := ae_bdI hF8
  refine ae_cV0 (q := (1, 0)) (As := [ae_i (0 : Int32)]) dX11_script_21 ww_362 vy_X7_cut rfl rfl rfl rfl rfl (Nat.le_of_ble_eq_true rfl) (c_X7_cut (d + 8) hc11) ?_
  refine ae_aload_n 0 dX11_script_24 rfl ?_
  refine ae_getO (q := (0, 0)) (some (19, 0)) dX11_script_25 fl_RX11_63 rfl rfl rfl ?_
  obtain ⟨r13, s14, hc15, hF16⟩ := ae_bdI hF12
  refine ae_cV1 (q := (19, 0)) (As := []) dX11_script_28 ww_629 vy_X5_compile rfl rfl rfl rfl rfl (Nat.le_of_ble_eq_true rfl) (c_X5_compile (d + 1) hc15) ?_
  refine ae_if_ne 36 dX11_script_31 rfl (fun hb17 => ?_) (fun hb17 => ?_)
  · have hF18 := ae_ifF hb17 hF16
    refine ae_aload_n 0 dX11_script_36 rfl ?_
    refine ae_getO (q := (0, 0)) (some (3, 0)) dX11_script_37 fl_RX11_26 rfl rfl rfl ?_
    obtain ⟨r19, s20, hc21, hF22⟩ := ae_bdI hF18
    refine ae_cV0 (q := (3, 0)) (As := []) dX11_script_40 ww_809 vy_X0_begin rfl rfl rfl rfl rfl (Nat.le_of_ble_eq_true rfl) (c_X0_begin (d + 7) hc21) ?_
    refine ae_aload_n 0 dX11_script_43 rfl ?_
    refine ae_getO (q := (0, 0)) (some (21, 0)) dX11_script_44 fl_RX11_72 rfl rfl rfl ?_
    obtain ⟨r23, s24, hc25, hF26⟩ := ae_bdI hF22
    refine ae_cV1 (q := (21, 0)) (As := []) dX11_script_47 ww_816 vy_X4_run rfl rfl rfl rfl rfl (Nat.le_of_ble_eq_true rfl) (c_X4_run (d + 1) hc25) ?_
    refine ae_istore_n (lv' := [(1, ae_i r23), (0, ae_r (some (0, 0)))]) dX11_script_50 (by decide) rfl ?_
    refine ae_aload_n 1 dX11_script_51 rfl ?_
    refine ae_getO (q := (0, 0)) (some (3, 0)) dX11_script_52 fl_RX11_26 rfl rfl rfl ?_
    obtain ⟨r27, s28, hc29, hF30⟩ := ae_bdI hF26
    refine ae_cV0 (q := (3, 0)) (As := []) dX11_script_55 ww_1021 vy_X0_keep rfl rfl rfl rfl rfl (Nat.le_of_ble_eq_true rfl) (c_X0_keep (d + 7) hc29) ?_
    refine ae_iload_n 0 dX11_script_58 rfl ?_
    obtain ⟨rfl, rfl⟩ := ae_retI hF30
    exact ae_iret dX11_script_59 rfl rfl ⟨rfl, rfl⟩
  · have hF18 := ae_ifT hb17 hF16
    refine ae_iconst (-1 : Int32) dX11_script_34 (by decide) ?_
    obtain ⟨rfl, rfl⟩ := ae_retI hF18
    exact ae_iret dX11_script_35 rfl rfl ⟨rfl, rfl⟩
abbrev mX11_fault : ae_M := (RX11, cX11_fault, 2, some .int)
theorem vy_X11_fault : ae_VY yX11_fault mX11_fault 1 := ⟨ww_1030, ww_1031, ww_1, ww_1032, ⟨by decide, by decide, by decide +kernel⟩, by decide⟩
theorem dX11_fault_0 : decode cX11_fault 0 = .ok (.iload_n 1, 1) := by decide +kernel
theorem dX11_fault_1 : decode cX11_fault 1 = .ok (.ifCond .ne 11, 3) := by decide +kernel
theorem dX11_fault_4 : decode cX11_fault 4 = .ok (.aload_n 0, 1) := by decide +kernel
theorem dX11_fault_5 : decode cX11_fault 5 = .ok (.getfield 42, 3) := by decide +kernel
theorem dX11_fault_8 : decode cX11_fault 8 = .ok (.invokevirtual 125, 3) := by decide +kernel
theorem dX11_fault_11 : decode cX11_fault 11 = .ok (.ireturn, 1) := by decide +kernel
theorem dX11_fault_12 : decode cX11_fault 12 = .ok (.iload_n 1, 1) := by decide +kernel
theorem dX11_fault_13 : decode cX11_fault 13 = .ok (.iconst 1, 1) := by decide +kernel
theorem dX11_fault_14 : decode cX11_fault 14 = .ok (.if_icmp .ne 13, 3) := by decide +kernel
theorem dX11_fault_17 : decode cX11_fault 17 = .ok (.aload_n 0, 1) := by decide +kernel
theorem dX11_fault_18 : decode cX11_fault 18 = .ok (.getfield 42, 3) := by decide +kernel
theorem dX11_fault_21 : decode cX11_fault 21 = .ok (.invokevirtual 128, 3) := by decide +kernel
theorem dX11_fault_24 : decode cX11_fault 24 = .ok (.goto 4, 3) := by decide +kernel
theorem dX11_fault_27 : decode cX11_fault 27 = .ok (.iconst (-1), 1) := by decide +kernel
theorem dX11_fault_28 : decode cX11_fault 28 = .ok (.ireturn, 1) := by decide +kernel
def F_X11_fault_28 (t0 : Int32) (s0 : ae_S) : Option (Int32 × ae_S) := some (t0, s0)
set_option maxHeartbeats 4000000 in
set_option maxRecDepth 100000 in
theorem t_X11_fault_28 {l : Launch} {G : ae_G} (d : Nat) {rr : Int32} {ss : ae_S} (t0 : Int32) (s0 : ae_S) (hF : F_X11_fault_28 t0 s0 = some (rr, ss)) : ae_T l G (d + 1) mX11_fault (ae_Po (some (ae_i rr)) ss) 28 [] [ae_i t0] s0 := by
  unfold F_X11_fault_28 at hF
  obtain ⟨rfl, rfl⟩ := ae_retI hF
  exact ae_iret dX11_fault_28 rfl rfl ⟨rfl, rfl⟩
def F_X11_fault (v1 : Int32) (s0 : ae_S) : Option (Int32 × ae_S) := if v1 = 0 then (ae_bd (F_X8_faultNumber s0) (fun (r9 : Int32) s10 => some (r9, s10))) else (if v1 = (1 : Int32) then (ae_bd (F_X8_faultPlace s0) (fun (r5 : Int32) s6 => F_X11_fault_28 r5 s6)) else (F_X11_fault_28 (-1 : Int32) s0))
set_option maxHeartbeats 4000000 in
set_option maxRecDepth 100000 in
theorem c_X11_fault {l : Launch} {G : ae_G} (d : Nat) {v1 : Int32} {s0 ss : ae_S} {rr : Int32} (hF : F_X11_fault v1 s0 = some (rr, ss)) : ae_Met l G (d + 1) yX11_fault mX11_fault [ae_r (some (0, 0)), ae_i v1] s0 (ae_Po (some (ae_i rr)) ss) := by
  refine ae_enter (by decide) rfl (Nat.le_of_ble_eq_true rfl) ?_
  show ae_T l G (d + 1) mX11_fault (ae_Po (some (ae_i rr)) ss) 0 [(0, ae_r (some (0, 0))), (1, ae_i v1)] [] s0
  unfold F_X11_fault at hF
  refine ae_iload_n 1 dX11_fault_0 rfl ?_
  refine ae_if_ne 12 dX11_fault_1 rfl (fun hb1 => ?_) (fun hb1 => ?_)
  · have hF2 := ae_ifF hb1 hF
    refine ae_iload_n 1 dX11_fault_12 rfl ?_
    refine ae_iconst (1 : Int32) dX11_fault_13 (by decide) ?_
    refine ae_icmp_ne 27 dX11_fault_14 rfl (fun hb3 => ?_) (fun hb3 => ?_)
    · have hF4 := ae_ifF hb3 hF2
      refine ae_iconst (-1 : Int32) dX11_fault_27 (by decide) ?_
      refine ae_pick (lv' := []) [] rfl ?_
      exact t_X11_fault_28 d (-1 : Int32) s0 hF4
    · have hF4 := ae_ifT hb3 hF2
      refine ae_aload_n 0 dX11_fault_17 rfl ?_
      refine ae_getO (q := (0, 0)) (some (12, 0)) dX11_fault_18 fl_RX11_42 rfl rfl rfl ?_
      obtain ⟨r5, s6, hc7, hF8⟩ := ae_bdI hF4
      refine ae_cV1 (q := (12, 0)) (As := []) dX11_fault_21 ww_1037 vy_X8_faultPlace rfl rfl rfl rfl rfl (Nat.le_of_ble_eq_true rfl) (c_X8_faultPlace d hc7) ?_
      refine ae_goto 28 dX11_fault_24 rfl ?_
      refine ae_pick (lv' := []) [] rfl ?_
      exact t_X11_fault_28 d r5 s6 hF8
  · have hF2 := ae_ifT hb1 hF
    refine ae_aload_n 0 dX11_fault_4 rfl ?_
    refine ae_getO (q := (0, 0)) (some (12, 0)) dX11_fault_5 fl_RX11_42 rfl rfl rfl ?_
    obtain ⟨r9, s10, hc11, hF12⟩ := ae_bdI hF2
    refine ae_cV1 (q := (12, 0)) (As := []) dX11_fault_8 ww_1033 vy_X8_faultNumber rfl rfl rfl rfl rfl (Nat.le_of_ble_eq_true rfl) (c_X8_faultNumber d hc11) ?_
    obtain ⟨rfl, rfl⟩ := ae_retI hF12
    exact ae_iret dX11_fault_11 rfl rfl ⟨rfl, rfl⟩
abbrev mX11_trouble : ae_M := (RX11, cX11_trouble, 2, some .int)
theorem vy_X11_trouble : ae_VY yX11_trouble mX11_trouble 1 := ⟨ww_1042, ww_1043, ww_1, ww_1044, ⟨by decide, by decide, by decide +kernel⟩, by decide⟩
theorem dX11_trouble_0 : decode cX11_trouble 0 = .ok (.iload_n 1, 1) := by decide +kernel
theorem dX11_trouble_1 : decode cX11_trouble 1 = .ok (.iconst (-1), 1) := by decide +kernel
theorem dX11_trouble_2 : decode cX11_trouble 2 = .ok (.if_icmp .ne 13, 3) := by decide +kernel
theorem dX11_trouble_5 : decode cX11_trouble 5 = .ok (.aload_n 0, 1) := by decide +kernel
theorem dX11_trouble_6 : decode cX11_trouble 6 = .ok (.getfield 72, 3) := by decide +kernel
theorem dX11_trouble_9 : decode cX11_trouble 9 = .ok (.invokevirtual 131, 3) := by decide +kernel
theorem dX11_trouble_12 : decode cX11_trouble 12 = .ok (.goto 11, 3) := by decide +kernel
theorem dX11_trouble_15 : decode cX11_trouble 15 = .ok (.aload_n 0, 1) := by decide +kernel
theorem dX11_trouble_16 : decode cX11_trouble 16 = .ok (.getfield 72, 3) := by decide +kernel
theorem dX11_trouble_19 : decode cX11_trouble 19 = .ok (.iload_n 1, 1) := by decide +kernel
theorem dX11_trouble_20 : decode cX11_trouble 20 = .ok (.invokevirtual 134, 3) := by decide +kernel
theorem dX11_trouble_23 : decode cX11_trouble 23 = .ok (.ireturn, 1) := by decide +kernel
def F_X11_trouble_23 (t0 : Int32) (s0 : ae_S) : Option (Int32 × ae_S) := some (t0, s0)
set_option maxHeartbeats 4000000 in
set_option maxRecDepth 100000 in
theorem t_X11_trouble_23 {l : Launch} {G : ae_G} (d : Nat) {rr : Int32} {ss : ae_S} (t0 : Int32) (s0 : ae_S) (hF : F_X11_trouble_23 t0 s0 = some (rr, ss)) : ae_T l G (d + 1) mX11_trouble (ae_Po (some (ae_i rr)) ss) 23 [] [ae_i t0] s0 := by
  unfold F_X11_trouble_23 at hF
  obtain ⟨rfl, rfl⟩ := ae_retI hF
  exact ae_iret dX11_trouble_23 rfl rfl ⟨rfl, rfl⟩
def F_X11_trouble (v1 : Int32) (s0 : ae_S) : Option (Int32 × ae_S) := if v1 = (-1 : Int32) then (ae_bd (F_X4_troubleCount s0) (fun (r7 : Int32) s8 => F_X11_trouble_23 r7 s8)) else (ae_bd (F_X4_troubleAt v1 s0) (fun (r3 : Int32) s4 => F_X11_trouble_23 r3 s4))
set_option maxHeartbeats 4000000 in
set_option maxRecDepth 100000 in
theorem c_X11_trouble {l : Launch} {G : ae_G} (d : Nat) {v1 : Int32} {s0 ss : ae_S} {rr : Int32} (hF : F_X11_trouble v1 s0 = some (rr, ss)) : ae_Met l G (d + 1) yX11_trouble mX11_trouble [ae_r (some (0, 0)), ae_i v1] s0 (ae_Po (some (ae_i rr)) ss) := by
  refine ae_enter (by decide) rfl (Nat.le_of_ble_eq_true rfl) ?_
  show ae_T l G (d + 1) mX11_trouble (ae_Po (some (ae_i rr)) ss) 0 [(0, ae_r (some (0, 0))), (1, ae_i v1)] [] s0
  unfold F_X11_trouble at hF
  refine ae_iload_n 1 dX11_trouble_0 rfl ?_
  refine ae_iconst (-1 : Int32) dX11_trouble_1 (by decide) ?_
  refine ae_icmp_ne 15 dX11_trouble_2 rfl (fun hb1 => ?_) (fun hb1 => ?_)
  · have hF2 := ae_ifF hb1 hF
    refine ae_aload_n 0 dX11_trouble_15 rfl ?_
    refine ae_getO (q := (0, 0)) (some (21, 0)) dX11_trouble_16 fl_RX11_72 rfl rfl rfl ?_
    refine ae_iload_n 1 dX11_trouble_19 rfl ?_
    obtain ⟨r3, s4, hc5, hF6⟩ := ae_bdI hF2
    refine ae_cV1 (q := (21, 0)) (As := [ae_i v1]) dX11_trouble_20 ww_1049 vy_X4_troubleAt rfl rfl rfl rfl rfl (Nat.le_of_ble_eq_true rfl) (c_X4_troubleAt d hc5) ?_
    refine ae_pick (lv' := []) [] rfl ?_
    exact t_X11_trouble_23 d r3 s4 hF6
  · have hF2 := ae_ifT hb1 hF
    refine ae_aload_n 0 dX11_trouble_5 rfl ?_
    refine ae_getO (q := (0, 0)) (some (21, 0)) dX11_trouble_6 fl_RX11_72 rfl rfl rfl ?_
    obtain ⟨r7, s8, hc9, hF10⟩ := ae_bdI hF2
    refine ae_cV1 (q := (21, 0)) (As := []) dX11_trouble_9 ww_1045 vy_X4_troubleCount rfl rfl rfl rfl rfl (Nat.le_of_ble_eq_true rfl) (c_X4_troubleCount d hc9) ?_
    refine ae_goto 23 dX11_trouble_12 rfl ?_
    refine ae_pick (lv' := []) [] rfl ?_
    exact t_X11_trouble_23 d r7 s8 hF10
abbrev mX11_view : ae_M := (RX11, cX11_view, 4, some .int)
theorem vy_X11_view : ae_VY yX11_view mX11_view 2 := ⟨ww_1054, ww_1055, ww_1, ww_1056, ⟨by decide, by decide, by decide +kernel⟩, by decide⟩
theorem dX11_view_0 : decode cX11_view 0 = .ok (.aload_n 0, 1) := by decide +kernel
theorem dX11_view_1 : decode cX11_view 1 = .ok (.getfield 33, 3) := by decide +kernel
theorem dX11_view_4 : decode cX11_view 4 = .ok (.iload_n 1, 1) := by decide +kernel
theorem dX11_view_5 : decode cX11_view 5 = .ok (.invokevirtual 138, 3) := by decide +kernel
theorem dX11_view_8 : decode cX11_view 8 = .ok (.astore_n 3, 1) := by decide +kernel
theorem dX11_view_9 : decode cX11_view 9 = .ok (.aload_n 3, 1) := by decide +kernel
theorem dX11_view_10 : decode cX11_view 10 = .ok (.ifnonnull 7, 3) := by decide +kernel
theorem dX11_view_13 : decode cX11_view 13 = .ok (.iconst (-1), 1) := by decide +kernel
theorem dX11_view_14 : decode cX11_view 14 = .ok (.goto 8, 3) := by decide +kernel
theorem dX11_view_17 : decode cX11_view 17 = .ok (.aload_n 3, 1) := by decide +kernel
theorem dX11_view_18 : decode cX11_view 18 = .ok (.iload_n 2, 1) := by decide +kernel
theorem dX11_view_19 : decode cX11_view 19 = .ok (.invokevirtual 142, 3) := by decide +kernel
theorem dX11_view_22 : decode cX11_view 22 = .ok (.ireturn, 1) := by decide +kernel
def F_X11_view_22 (t0 : Int32) (s0 : ae_S) : Option (Int32 × ae_S) := some (t0, s0)
set_option maxHeartbeats 4000000 in
set_option maxRecDepth 100000 in
theorem t_X11_view_22 {l : Launch} {G : ae_G} (d : Nat) {rr : Int32} {ss : ae_S} (t0 : Int32) (s0 : ae_S) (hF : F_X11_view_22 t0 s0 = some (rr, ss)) : ae_T l G (d + 1) mX11_view (ae_Po (some (ae_i rr)) ss) 22 [] [ae_i t0] s0 := by
  unfold F_X11_view_22 at hF
  obtain ⟨rfl, rfl⟩ := ae_retI hF
  exact ae_iret dX11_view_22 rfl rfl ⟨rfl, rfl⟩
def F_X11_view (v1 : Int32) (v2 : Int32) (s0 : ae_S) : Option (Int32 × ae_S) := ae_bd (F_X6_get v1 s0) (fun (r1 : Option (Fin 32)) s2 => ae_mo r1 (F_X11_view_22 (-1 : Int32) s2) (fun i5 => ae_bd (F_X9_told i5 v2 s2) (fun (r7 : Int32) s8 => F_X11_view_22 r7 s8)))
set_option maxHeartbeats 4000000 in
set_option maxRecDepth 100000 in
theorem c_X11_view {l : Launch} {G : ae_G} (d : Nat) {v1 : Int32} {v2 : Int32} {s0 ss : ae_S} {rr : Int32} (hF : F_X11_view v1 v2 s0 = some (rr, ss)) : ae_Met l G (d + 1) yX11_view mX11_view [ae_r (some (0, 0)), ae_i v1, ae_i v2] s0 (ae_Po (some (ae_i rr)) ss) := by
  refine ae_enter (by decide) rfl (Nat.le_of_ble_eq_true rfl) ?_
  show ae_T l G (d + 1) mX11_view (ae_Po (some (ae_i rr)) ss) 0 [(0, ae_r (some (0, 0))), (1, ae_i v1), (2, ae_i v2)] [] s0
  unfold F_X11_view at hF
  refine ae_aload_n 0 dX11_view_0 rfl ?_
  refine ae_getO (q := (0, 0)) (some (6, 0)) dX11_view_1 fl_RX11_33 rfl rfl rfl ?_
  refine ae_iload_n 1 dX11_view_4 rfl ?_
  obtain ⟨r1, s2, hc3, hF4⟩ := ae_bdI hF
  refine ae_cV1 (q := (6, 0)) (As := [ae_i v1]) dX11_view_5 ww_1057 vy_X6_get rfl rfl rfl rfl rfl (Nat.le_of_ble_eq_true rfl) (c_X6_get d hc3) ?_
  refine ae_astore_n (lv' := [(3, ae_r (ae_ro 8 r1)), (0, ae_r (some (0, 0))), (1, ae_i v1), (2, ae_i v2)]) dX11_view_8 (by decide) rfl ?_
  refine ae_aload_n 0 dX11_view_9 rfl ?_
  cases r1 with
  | none =>
    have hF6 := ae_moN hF4
    refine ae_ifnonnull 17 dX11_view_10 rfl (fun h => absurd rfl h) (fun _ => ?_)
    refine ae_iconst (-1 : Int32) dX11_view_13 (by decide) ?_
    refine ae_goto 22 dX11_view_14 rfl ?_
    refine ae_pick (lv' := []) [] rfl ?_
    exact t_X11_view_22 d (-1 : Int32) s2 hF6
  | some i5 =>
    have hF6 := ae_moS hF4
    refine ae_ifnonnull 17 dX11_view_10 rfl (fun _ => ?_) (fun h => absurd h (by simp [ae_ro]))
    refine ae_aload_n 0 dX11_view_17 rfl ?_
    refine ae_iload_n 3 dX11_view_18 rfl ?_
    obtain ⟨r7, s8, hc9, hF10⟩ := ae_bdI hF6
    refine ae_cV1 (q := (8, i5)) (As := [ae_i v2]) dX11_view_19 ww_1058 vy_X9_told rfl rfl rfl rfl rfl (Nat.le_of_ble_eq_true rfl) (c_X9_told d hc9) ?_
    refine ae_pick (lv' := []) [] rfl ?_
    exact t_X11_view_22 d r7 s8 hF10
abbrev mX11_named : ae_M := (RX11, cX11_named, 3, some .int)
theorem vy_X11_named : ae_VY yX11_named mX11_named 0 := ⟨ww_1063, ww_1064, ww_1, ww_1065, ⟨by decide, by decide, by decide +kernel⟩, by decide⟩
theorem dX11_named_0 : decode cX11_named 0 = .ok (.aload_n 0, 1) := by decide +kernel
theorem dX11_named_1 : decode cX11_named 1 = .ok (.getfield 42, 3) := by decide +kernel
theorem dX11_named_4 : decode cX11_named 4 = .ok (.iconst 3, 1) := by decide +kernel
theorem dX11_named_5 : decode cX11_named 5 = .ok (.invokevirtual 99, 3) := by decide +kernel
theorem dX11_named_8 : decode cX11_named 8 = .ok (.aload_n 0, 1) := by decide +kernel
theorem dX11_named_9 : decode cX11_named 9 = .ok (.getfield 16, 3) := by decide +kernel
theorem dX11_named_12 : decode cX11_named 12 = .ok (.iconst 0, 1) := by decide +kernel
theorem dX11_named_13 : decode cX11_named 13 = .ok (.invokevirtual 93, 3) := by decide +kernel
theorem dX11_named_16 : decode cX11_named 16 = .ok (.aload_n 0, 1) := by decide +kernel
theorem dX11_named_17 : decode cX11_named 17 = .ok (.getfield 42, 3) := by decide +kernel
theorem dX11_named_20 : decode cX11_named 20 = .ok (.invokevirtual 147, 3) := by decide +kernel
theorem dX11_named_23 : decode cX11_named 23 = .ok (.ifCond .ne 5, 3) := by decide +kernel
theorem dX11_named_26 : decode cX11_named 26 = .ok (.iconst (-1), 1) := by decide +kernel
theorem dX11_named_27 : decode cX11_named 27 = .ok (.ireturn, 1) := by decide +kernel
theorem dX11_named_28 : decode cX11_named 28 = .ok (.aload_n 0, 1) := by decide +kernel
theorem dX11_named_29 : decode cX11_named 29 = .ok (.getfield 42, 3) := by decide +kernel
theorem dX11_named_32 : decode cX11_named 32 = .ok (.invokevirtual 150, 3) := by decide +kernel
theorem dX11_named_35 : decode cX11_named 35 = .ok (.lstore_n 1, 1) := by decide +kernel
theorem dX11_named_36 : decode cX11_named 36 = .ok (.aload_n 0, 1) := by decide +kernel
theorem dX11_named_37 : decode cX11_named 37 = .ok (.getfield 42, 3) := by decide +kernel
theorem dX11_named_40 : decode cX11_named 40 = .ok (.invokevirtual 154, 3) := by decide +kernel
theorem dX11_named_43 : decode cX11_named 43 = .ok (.aload_n 0, 1) := by decide +kernel
theorem dX11_named_44 : decode cX11_named 44 = .ok (.getfield 42, 3) := by decide +kernel
theorem dX11_named_47 : decode cX11_named 47 = .ok (.invokevirtual 157, 3) := by decide +kernel
theorem dX11_named_50 : decode cX11_named 50 = .ok (.ifCond .eq 14, 3) := by decide +kernel
theorem dX11_named_53 : decode cX11_named 53 = .ok (.aload_n 0, 1) := by decide +kernel
theorem dX11_named_54 : decode cX11_named 54 = .ok (.getfield 33, 3) := by decide +kernel
theorem dX11_named_57 : decode cX11_named 57 = .ok (.lload_n 1, 1) := by decide +kernel
theorem dX11_named_58 : decode cX11_named 58 = .ok (.invokevirtual 160, 3) := by decide +kernel
theorem dX11_named_61 : decode cX11_named 61 = .ok (.goto 4, 3) := by decide +kernel
theorem dX11_named_64 : decode cX11_named 64 = .ok (.iconst (-1), 1) := by decide +kernel
theorem dX11_named_65 : decode cX11_named 65 = .ok (.ireturn, 1) := by decide +kernel
def F_X11_named_65 (t0 : Int32) (s0 : ae_S) : Option (Int32 × ae_S) := some (t0, s0)
set_option maxHeartbeats 4000000 in
set_option maxRecDepth 100000 in
theorem t_X11_named_65 {l : Launch} {G : ae_G} (d : Nat) {rr : Int32} {ss : ae_S} (t0 : Int32) (s0 : ae_S) (hF : F_X11_named_65 t0 s0 = some (rr, ss)) : ae_T l G (d + 9) mX11_named (ae_Po (some (ae_i rr)) ss) 65 [] [ae_i t0] s0 := by
  unfold F_X11_named_65 at hF
  obtain ⟨rfl, rfl⟩ := ae_retI hF
  exact ae_iret dX11_named_65 rfl rfl ⟨rfl, rfl⟩
def F_X11_named (s0 : ae_S) : Option (Int32 × ae_S) := ae_bd (F_X8_scan (3 : Int32) s0) (fun (r1 : Unit) s2 => ae_bd (F_X7_cut (0 : Fin 32) (0 : Int32) s2) (fun (r5 : Unit) s6 => ae_bd (F_X8_isName s6) (fun (r9 : Int32) s10 => if r9 = 0 then (some ((-1 : Int32), s10)) else (ae_bd (F_X8_value s10) (fun (r15 : Int64) s16 => ae_bd (F_X8_advance s16) (fun (r19 : Unit) s20 => ae_bd (F_X8_isEnd s20) (fun (r23 : Int32) s24 => if r23 = 0 then (F_X11_named_65 (-1 : Int32) s24) else (ae_bd (F_X6_numberOf r15 s24) (fun (r29 : Int32) s30 => F_X11_named_65 r29 s30)))))))))
set_option maxHeartbeats 4000000 in
set_option maxRecDepth 100000 in
theorem c_X11_named {l : Launch} {G : ae_G} (d : Nat) {s0 ss : ae_S} {rr : Int32} (hF : F_X11_named s0 = some (rr, ss)) : ae_Met l G (d + 9) yX11_named mX11_named [ae_r (some (0, 0))] s0 (ae_Po (some (ae_i rr)) ss) := by
  refine ae_enter (by decide) rfl (Nat.le_of_ble_eq_true rfl) ?_
  show ae_T l G (d + 9) mX11_named (ae_Po (some (ae_i rr)) ss) 0 [(0, ae_r (some (0, 0)))] [] s0
  unfold F_X11_named at hF
  refine ae_aload_n 0 dX11_named_0 rfl ?_
  refine ae_getO (q := (0, 0)) (some (12, 0)) dX11_named_1 fl_RX11_42 rfl rfl rfl ?_
  refine ae_iconst (3 : Int32) dX11_named_4 (by decide) ?_
  obtain ⟨r1, s2, hc3, hF4⟩ := ae_bdI hF
  refine ae_cV0 (q := (12, 0)) (As := [ae_i (3 : Int32)]) dX11_named_5 ww_374 vy_X8_scan rfl rfl rfl rfl rfl (Nat.le_of_ble_eq_true rfl) (c_X8_scan d hc3) ?_
  refine ae_aload_n 0 dX11_named_8 rfl ?_
  refine ae_getO (q := (0, 0)) (some (1, 0)) dX11_named_9 fl_RX11_16 rfl rfl rfl ?_
  refine ae_iconst (0 : Int32) dX11_named_12 (by decide) ?_
  obtain ⟨r5, s6, hc7, hF8⟩ := ae_bdI hF4
  refine ae_cV0 (q := (1, 0)) (As := [ae_i (0 : Int32)]) dX11_named_13 ww_362 vy_X7_cut rfl rfl rfl rfl rfl (Nat.le_of_ble_eq_true rfl) (c_X7_cut (d + 8) hc7) ?_
  refine ae_aload_n 0 dX11_named_16 rfl ?_
  refine ae_getO (q := (0, 0)) (some (12, 0)) dX11_named_17 fl_RX11_42 rfl rfl rfl ?_
  obtain ⟨r9, s10, hc11, hF12⟩ := ae_bdI hF8
  refine ae_cV1 (q := (12, 0)) (As := []) dX11_named_20 ww_1066 vy_X8_isName rfl rfl rfl rfl rfl (Nat.le_of_ble_eq_true rfl) (c_X8_isName (d + 7) hc11) ?_
  refine ae_if_ne 28 dX11_named_23 rfl (fun hb13 => ?_) (fun hb13 => ?_)
  · have hF14 := ae_ifF hb13 hF12
    refine ae_aload_n 0 dX11_named_28 rfl ?_
    refine ae_getO (q := (0, 0)) (some (12, 0)) dX11_named_29 fl_RX11_42 rfl rfl rfl ?_
    obtain ⟨r15, s16, hc17, hF18⟩ := ae_bdI hF14
    refine ae_cV1 (q := (12, 0)) (As := []) dX11_named_32 ww_1067 vy_X8_value rfl rfl rfl rfl rfl (Nat.le_of_ble_eq_true rfl) (c_X8_value (d + 8) hc17) ?_
    refine ae_lstore_n (lv' := [(1, ae_l r15), (0, ae_r (some (0, 0)))]) dX11_named_35 (by decide) rfl ?_
    refine ae_aload_n 1 dX11_named_36 rfl ?_
    refine ae_getO (q := (0, 0)) (some (12, 0)) dX11_named_37 fl_RX11_42 rfl rfl rfl ?_
    obtain ⟨r19, s20, hc21, hF22⟩ := ae_bdI hF18
    refine ae_cV0 (q := (12, 0)) (As := []) dX11_named_40 ww_1068 vy_X8_advance rfl rfl rfl rfl rfl (Nat.le_of_ble_eq_true rfl) (c_X8_advance (d + 8) hc21) ?_
    refine ae_aload_n 1 dX11_named_43 rfl ?_
    refine ae_getO (q := (0, 0)) (some (12, 0)) dX11_named_44 fl_RX11_42 rfl rfl rfl ?_
    obtain ⟨r23, s24, hc25, hF26⟩ := ae_bdI hF22
    refine ae_cV1 (q := (12, 0)) (As := []) dX11_named_47 ww_1069 vy_X8_isEnd rfl rfl rfl rfl rfl (Nat.le_of_ble_eq_true rfl) (c_X8_isEnd (d + 7) hc25) ?_
    refine ae_if_eq 64 dX11_named_50 rfl (fun hb27 => ?_) (fun hb27 => ?_)
    · have hF28 := ae_ifT hb27 hF26
      refine ae_iconst (-1 : Int32) dX11_named_64 (by decide) ?_
      refine ae_pick (lv' := []) [] rfl ?_
      exact t_X11_named_65 d (-1 : Int32) s24 hF28
    · have hF28 := ae_ifF hb27 hF26
      refine ae_aload_n 1 dX11_named_53 rfl ?_
      refine ae_getO (q := (0, 0)) (some (6, 0)) dX11_named_54 fl_RX11_33 rfl rfl rfl ?_
      refine ae_lload_n 0 dX11_named_57 rfl ?_
      obtain ⟨r29, s30, hc31, hF32⟩ := ae_bdI hF28
      refine ae_cV1 (q := (6, 0)) (As := [ae_l r15]) dX11_named_58 ww_1070 vy_X6_numberOf rfl rfl rfl rfl rfl (Nat.le_of_ble_eq_true rfl) (c_X6_numberOf (d + 7) hc31) ?_
      refine ae_goto 65 dX11_named_61 rfl ?_
      refine ae_pick (lv' := []) [] rfl ?_
      exact t_X11_named_65 d r29 s30 hF32
  · have hF14 := ae_ifT hb13 hF12
    refine ae_iconst (-1 : Int32) dX11_named_26 (by decide) ?_
    obtain ⟨rfl, rfl⟩ := ae_retI hF14
    exact ae_iret dX11_named_27 rfl rfl ⟨rfl, rfl⟩
abbrev mX11_read : ae_M := (RX11, cX11_read, 6, some .long)
theorem vy_X11_read : ae_VY yX11_read mX11_read 2 := ⟨ww_1072, ww_1073, ww_1, ww_1074, ⟨by decide, by decide, by decide +kernel⟩, by decide⟩
theorem dX11_read_0 : decode cX11_read 0 = .ok (.aload_n 0, 1) := by decide +kernel
theorem dX11_read_1 : decode cX11_read 1 = .ok (.getfield 33, 3) := by decide +kernel
theorem dX11_read_4 : decode cX11_read 4 = .ok (.iload_n 1, 1) := by decide +kernel
theorem dX11_read_5 : decode cX11_read 5 = .ok (.invokevirtual 138, 3) := by decide +kernel
theorem dX11_read_8 : decode cX11_read 8 = .ok (.astore_n 3, 1) := by decide +kernel
theorem dX11_read_9 : decode cX11_read 9 = .ok (.aload_n 3, 1) := by decide +kernel
theorem dX11_read_10 : decode cX11_read 10 = .ok (.ifnull 12, 3) := by decide +kernel
theorem dX11_read_13 : decode cX11_read 13 = .ok (.aload_n 3, 1) := by decide +kernel
theorem dX11_read_14 : decode cX11_read 14 = .ok (.iload_n 2, 1) := by decide +kernel
theorem dX11_read_15 : decode cX11_read 15 = .ok (.i2l, 1) := by decide +kernel
theorem dX11_read_16 : decode cX11_read 16 = .ok (.invokevirtual 164, 3) := by decide +kernel
theorem dX11_read_19 : decode cX11_read 19 = .ok (.ifCond .ne 7, 3) := by decide +kernel
theorem dX11_read_22 : decode cX11_read 22 = .ok (.ldc2_w 168, 3) := by decide +kernel
theorem dX11_read_25 : decode cX11_read 25 = .ok (.lreturn, 1) := by decide +kernel
theorem dX11_read_26 : decode cX11_read 26 = .ok (.aload_n 0, 1) := by decide +kernel
theorem dX11_read_27 : decode cX11_read 27 = .ok (.getfield 26, 3) := by decide +kernel
theorem dX11_read_30 : decode cX11_read 30 = .ok (.invokevirtual 116, 3) := by decide +kernel
theorem dX11_read_33 : decode cX11_read 33 = .ok (.aload_n 3, 1) := by decide +kernel
theorem dX11_read_34 : decode cX11_read 34 = .ok (.aload_n 3, 1) := by decide +kernel
theorem dX11_read_35 : decode cX11_read 35 = .ok (.aload_n 0, 1) := by decide +kernel
theorem dX11_read_36 : decode cX11_read 36 = .ok (.getfield 26, 3) := by decide +kernel
theorem dX11_read_39 : decode cX11_read 39 = .ok (.iload_n 2, 1) := by decide +kernel
theorem dX11_read_40 : decode cX11_read 40 = .ok (.invokevirtual 170, 3) := by decide +kernel
theorem dX11_read_43 : decode cX11_read 43 = .ok (.invokevirtual 174, 3) := by decide +kernel
theorem dX11_read_46 : decode cX11_read 46 = .ok (.lstore 4, 2) := by decide +kernel
theorem dX11_read_48 : decode cX11_read 48 = .ok (.aload_n 3, 1) := by decide +kernel
theorem dX11_read_49 : decode cX11_read 49 = .ok (.aload_n 0, 1) := by decide +kernel
theorem dX11_read_50 : decode cX11_read 50 = .ok (.getfield 26, 3) := by decide +kernel
theorem dX11_read_53 : decode cX11_read 53 = .ok (.iload_n 2, 1) := by decide +kernel
theorem dX11_read_54 : decode cX11_read 54 = .ok (.invokevirtual 178, 3) := by decide +kernel
theorem dX11_read_57 : decode cX11_read 57 = .ok (.aload_n 0, 1) := by decide +kernel
theorem dX11_read_58 : decode cX11_read 58 = .ok (.getfield 26, 3) := by decide +kernel
theorem dX11_read_61 : decode cX11_read 61 = .ok (.invokevirtual 122, 3) := by decide +kernel
theorem dX11_read_64 : decode cX11_read 64 = .ok (.lload 4, 2) := by decide +kernel
theorem dX11_read_66 : decode cX11_read 66 = .ok (.lreturn, 1) := by decide +kernel
def F_X11_read_22 (s0 : ae_S) : Option (Int64 × ae_S) := some ((-9223372036854775801 : Int64), s0)
set_option maxHeartbeats 4000000 in
set_option maxRecDepth 100000 in
theorem t_X11_read_22 {l : Launch} {G : ae_G} (d : Nat) {rr : Int64} {ss : ae_S} (s0 : ae_S) (hF : F_X11_read_22 s0 = some (rr, ss)) : ae_T l G (d + 6) mX11_read (ae_Po (some (ae_l rr)) ss) 22 [] [] s0 := by
  unfold F_X11_read_22 at hF
  refine ae_ldc2 dX11_read_22 ww_1076 ?_
  obtain ⟨rfl, rfl⟩ := ae_retI hF
  exact ae_lret dX11_read_25 rfl ⟨rfl, rfl⟩
def F_X11_read (v1 : Int32) (v2 : Int32) (s0 : ae_S) : Option (Int64 × ae_S) := ae_bd (F_X6_get v1 s0) (fun (r1 : Option (Fin 32)) s2 => ae_mo r1 (F_X11_read_22 s2) (fun i5 => ae_bd (F_X9_hasElement i5 v2.toInt64 s2) (fun (r7 : Int32) s8 => if r7 = 0 then (F_X11_read_22 s8) else (ae_bd (F_X0_begin s8) (fun (r13 : Unit) s14 => ae_bd (F_X9_bitsAt i5 v2 s14) (fun (r17 : Int64) s18 => ae_bd (F_X9_answerOf i5 r17 s18) (fun (r21 : Int64) s22 => ae_bd (F_X9_clearIfRead i5 v2 s22) (fun (r25 : Unit) s26 => ae_bd (F_X0_keep s26) (fun (r29 : Unit) s30 => some (r21, s30))))))))))
set_option maxHeartbeats 4000000 in
set_option maxRecDepth 100000 in
theorem c_X11_read {l : Launch} {G : ae_G} (d : Nat) {v1 : Int32} {v2 : Int32} {s0 ss : ae_S} {rr : Int64} (hF : F_X11_read v1 v2 s0 = some (rr, ss)) : ae_Met l G (d + 6) yX11_read mX11_read [ae_r (some (0, 0)), ae_i v1, ae_i v2] s0 (ae_Po (some (ae_l rr)) ss) := by
  refine ae_enter (by decide) rfl (Nat.le_of_ble_eq_true rfl) ?_
  show ae_T l G (d + 6) mX11_read (ae_Po (some (ae_l rr)) ss) 0 [(0, ae_r (some (0, 0))), (1, ae_i v1), (2, ae_i v2)] [] s0
  unfold F_X11_read at hF
  refine ae_aload_n 0 dX11_read_0 rfl ?_
  refine ae_getO (q := (0, 0)) (some (6, 0)) dX11_read_1 fl_RX11_33 rfl rfl rfl ?_
  refine ae_iload_n 1 dX11_read_4 rfl ?_
  obtain ⟨r1, s2, hc3, hF4⟩ := ae_bdI hF
  refine ae_cV1 (q := (6, 0)) (As := [ae_i v1]) dX11_read_5 ww_1057 vy_X6_get rfl rfl rfl rfl rfl (Nat.le_of_ble_eq_true rfl) (c_X6_get (d + 5) hc3) ?_
  refine ae_astore_n (lv' := [(3, ae_r (ae_ro 8 r1)), (0, ae_r (some (0, 0))), (1, ae_i v1), (2, ae_i v2)]) dX11_read_8 (by decide) rfl ?_
  refine ae_aload_n 0 dX11_read_9 rfl ?_
  cases r1 with
  | none =>
    have hF6 := ae_moN hF4
    refine ae_ifnull 22 dX11_read_10 rfl (fun _ => ?_) (fun h => absurd rfl h)
    refine ae_pick (lv' := []) [] rfl ?_
    exact t_X11_read_22 d s2 hF6
  | some i5 =>
    have hF6 := ae_moS hF4
    refine ae_ifnull 22 dX11_read_10 rfl (fun h => absurd h (by simp [ae_ro])) (fun _ => ?_)
    refine ae_aload_n 0 dX11_read_13 rfl ?_
    refine ae_iload_n 3 dX11_read_14 rfl ?_
    refine ae_i2l dX11_read_15 ?_
    obtain ⟨r7, s8, hc9, hF10⟩ := ae_bdI hF6
    refine ae_cV1 (q := (8, i5)) (As := [ae_l v2.toInt64]) dX11_read_16 ww_1075 vy_X9_hasElement rfl rfl rfl rfl rfl (Nat.le_of_ble_eq_true rfl) (c_X9_hasElement (d + 5) hc9) ?_
    refine ae_if_ne 26 dX11_read_19 rfl (fun hb11 => ?_) (fun hb11 => ?_)
    · have hF12 := ae_ifF hb11 hF10
      refine ae_aload_n 1 dX11_read_26 rfl ?_
      refine ae_getO (q := (0, 0)) (some (3, 0)) dX11_read_27 fl_RX11_26 rfl rfl rfl ?_
      obtain ⟨r13, s14, hc15, hF16⟩ := ae_bdI hF12
      refine ae_cV0 (q := (3, 0)) (As := []) dX11_read_30 ww_809 vy_X0_begin rfl rfl rfl rfl rfl (Nat.le_of_ble_eq_true rfl) (c_X0_begin (d + 4) hc15) ?_
      refine ae_aload_n 0 dX11_read_33 rfl ?_
      refine ae_aload_n 0 dX11_read_34 rfl ?_
      refine ae_aload_n 1 dX11_read_35 rfl ?_
      refine ae_getO (q := (0, 0)) (some (3, 0)) dX11_read_36 fl_RX11_26 rfl rfl rfl ?_
      refine ae_iload_n 3 dX11_read_39 rfl ?_
      obtain ⟨r17, s18, hc19, hF20⟩ := ae_bdI hF16
      refine ae_cV1 (q := (8, i5)) (As := [ae_r (some (3, 0)), ae_i v2]) dX11_read_40 ww_1077 vy_X9_bitsAt rfl rfl rfl rfl rfl (Nat.le_of_ble_eq_true rfl) (c_X9_bitsAt (d + 4) hc19) ?_
      obtain ⟨r21, s22, hc23, hF24⟩ := ae_bdI hF20
      refine ae_cV1 (q := (8, i5)) (As := [ae_l r17]) dX11_read_43 ww_1078 vy_X9_answerOf rfl rfl rfl rfl rfl (Nat.le_of_ble_eq_true rfl) (c_X9_answerOf d hc23) ?_
      refine ae_lstore (lv' := [(4, ae_l r21), (3, ae_r (some (8, i5))), (0, ae_r (some (0, 0))), (1, ae_i v1), (2, ae_i v2)]) dX11_read_46 (by decide) rfl ?_
      refine ae_aload_n 1 dX11_read_48 rfl ?_
      refine ae_aload_n 2 dX11_read_49 rfl ?_
      refine ae_getO (q := (0, 0)) (some (3, 0)) dX11_read_50 fl_RX11_26 rfl rfl rfl ?_
      refine ae_iload_n 4 dX11_read_53 rfl ?_
      obtain ⟨r25, s26, hc27, hF28⟩ := ae_bdI hF24
      refine ae_cV0 (q := (8, i5)) (As := [ae_r (some (3, 0)), ae_i v2]) dX11_read_54 ww_1083 vy_X9_clearIfRead rfl rfl rfl rfl rfl (Nat.le_of_ble_eq_true rfl) (c_X9_clearIfRead (d + 3) hc27) ?_
      refine ae_aload_n 2 dX11_read_57 rfl ?_
      refine ae_getO (q := (0, 0)) (some (3, 0)) dX11_read_58 fl_RX11_26 rfl rfl rfl ?_
      obtain ⟨r29, s30, hc31, hF32⟩ := ae_bdI hF28
      refine ae_cV0 (q := (3, 0)) (As := []) dX11_read_61 ww_1021 vy_X0_keep rfl rfl rfl rfl rfl (Nat.le_of_ble_eq_true rfl) (c_X0_keep (d + 4) hc31) ?_
      refine ae_lload 0 dX11_read_64 rfl ?_
      obtain ⟨rfl, rfl⟩ := ae_retI hF32
      exact ae_lret dX11_read_66 rfl ⟨rfl, rfl⟩
    · have hF12 := ae_ifT hb11 hF10
      refine ae_pick (lv' := []) [] rfl ?_
      exact t_X11_read_22 d s8 hF12
abbrev mX11_peek : ae_M := (RX11, cX11_peek, 4, some .long)
theorem vy_X11_peek : ae_VY yX11_peek mX11_peek 2 := ⟨ww_1085, ww_1086, ww_1, ww_1087, ⟨by decide, by decide, by decide +kernel⟩, by decide⟩
theorem dX11_peek_0 : decode cX11_peek 0 = .ok (.aload_n 0, 1) := by decide +kernel
theorem dX11_peek_1 : decode cX11_peek 1 = .ok (.getfield 33, 3) := by decide +kernel
theorem dX11_peek_4 : decode cX11_peek 4 = .ok (.iload_n 1, 1) := by decide +kernel
theorem dX11_peek_5 : decode cX11_peek 5 = .ok (.invokevirtual 138, 3) := by decide +kernel
theorem dX11_peek_8 : decode cX11_peek 8 = .ok (.astore_n 3, 1) := by decide +kernel
theorem dX11_peek_9 : decode cX11_peek 9 = .ok (.aload_n 3, 1) := by decide +kernel
theorem dX11_peek_10 : decode cX11_peek 10 = .ok (.ifnull 12, 3) := by decide +kernel
theorem dX11_peek_13 : decode cX11_peek 13 = .ok (.aload_n 3, 1) := by decide +kernel
theorem dX11_peek_14 : decode cX11_peek 14 = .ok (.iload_n 2, 1) := by decide +kernel
theorem dX11_peek_15 : decode cX11_peek 15 = .ok (.i2l, 1) := by decide +kernel
theorem dX11_peek_16 : decode cX11_peek 16 = .ok (.invokevirtual 164, 3) := by decide +kernel
theorem dX11_peek_19 : decode cX11_peek 19 = .ok (.ifCond .ne 7, 3) := by decide +kernel
theorem dX11_peek_22 : decode cX11_peek 22 = .ok (.ldc2_w 168, 3) := by decide +kernel
theorem dX11_peek_25 : decode cX11_peek 25 = .ok (.lreturn, 1) := by decide +kernel
theorem dX11_peek_26 : decode cX11_peek 26 = .ok (.aload_n 3, 1) := by decide +kernel
theorem dX11_peek_27 : decode cX11_peek 27 = .ok (.aload_n 3, 1) := by decide +kernel
theorem dX11_peek_28 : decode cX11_peek 28 = .ok (.aload_n 0, 1) := by decide +kernel
theorem dX11_peek_29 : decode cX11_peek 29 = .ok (.getfield 26, 3) := by decide +kernel
theorem dX11_peek_32 : decode cX11_peek 32 = .ok (.iload_n 2, 1) := by decide +kernel
theorem dX11_peek_33 : decode cX11_peek 33 = .ok (.invokevirtual 170, 3) := by decide +kernel
theorem dX11_peek_36 : decode cX11_peek 36 = .ok (.invokevirtual 174, 3) := by decide +kernel
theorem dX11_peek_39 : decode cX11_peek 39 = .ok (.lreturn, 1) := by decide +kernel
def F_X11_peek_22 (s0 : ae_S) : Option (Int64 × ae_S) := some ((-9223372036854775801 : Int64), s0)
set_option maxHeartbeats 4000000 in
set_option maxRecDepth 100000 in
theorem t_X11_peek_22 {l : Launch} {G : ae_G} (d : Nat) {rr : Int64} {ss : ae_S} (s0 : ae_S) (hF : F_X11_peek_22 s0 = some (rr, ss)) : ae_T l G (d + 6) mX11_peek (ae_Po (some (ae_l rr)) ss) 22 [] [] s0 := by
  unfold F_X11_peek_22 at hF
  refine ae_ldc2 dX11_peek_22 ww_1076 ?_
  obtain ⟨rfl, rfl⟩ := ae_retI hF
  exact ae_lret dX11_peek_25 rfl ⟨rfl, rfl⟩
def F_X11_peek (v1 : Int32) (v2 : Int32) (s0 : ae_S) : Option (Int64 × ae_S) := ae_bd (F_X6_get v1 s0) (fun (r1 : Option (Fin 32)) s2 => ae_mo r1 (F_X11_peek_22 s2) (fun i5 => ae_bd (F_X9_hasElement i5 v2.toInt64 s2) (fun (r7 : Int32) s8 => if r7 = 0 then (F_X11_peek_22 s8) else (ae_bd (F_X9_bitsAt i5 v2 s8) (fun (r13 : Int64) s14 => ae_bd (F_X9_answerOf i5 r13 s14) (fun (r17 : Int64) s18 => some (r17, s18)))))))
set_option maxHeartbeats 4000000 in
set_option maxRecDepth 100000 in
theorem c_X11_peek {l : Launch} {G : ae_G} (d : Nat) {v1 : Int32} {v2 : Int32} {s0 ss : ae_S} {rr : Int64} (hF : F_X11_peek v1 v2 s0 = some (rr, ss)) : ae_Met l G (d + 6) yX11_peek mX11_peek [ae_r (some (0, 0)), ae_i v1, ae_i v2] s0 (ae_Po (some (ae_l rr)) ss) := by
  refine ae_enter (by decide) rfl (Nat.le_of_ble_eq_true rfl) ?_
  show ae_T l G (d + 6) mX11_peek (ae_Po (some (ae_l rr)) ss) 0 [(0, ae_r (some (0, 0))), (1, ae_i v1), (2, ae_i v2)] [] s0
  unfold F_X11_peek at hF
  refine ae_aload_n 0 dX11_peek_0 rfl ?_
  refine ae_getO (q := (0, 0)) (some (6, 0)) dX11_peek_1 fl_RX11_33 rfl rfl rfl ?_
  refine ae_iload_n 1 dX11_peek_4 rfl ?_
  obtain ⟨r1, s2, hc3, hF4⟩ := ae_bdI hF
  refine ae_cV1 (q := (6, 0)) (As := [ae_i v1]) dX11_peek_5 ww_1057 vy_X6_get rfl rfl rfl rfl rfl (Nat.le_of_ble_eq_true rfl) (c_X6_get (d + 5) hc3) ?_
  refine ae_astore_n (lv' := [(3, ae_r (ae_ro 8 r1)), (0, ae_r (some (0, 0))), (1, ae_i v1), (2, ae_i v2)]) dX11_peek_8 (by decide) rfl ?_
  refine ae_aload_n 0 dX11_peek_9 rfl ?_
  cases r1 with
  | none =>
    have hF6 := ae_moN hF4
    refine ae_ifnull 22 dX11_peek_10 rfl (fun _ => ?_) (fun h => absurd rfl h)
    refine ae_pick (lv' := []) [] rfl ?_
    exact t_X11_peek_22 d s2 hF6
  | some i5 =>
    have hF6 := ae_moS hF4
    refine ae_ifnull 22 dX11_peek_10 rfl (fun h => absurd h (by simp [ae_ro])) (fun _ => ?_)
    refine ae_aload_n 0 dX11_peek_13 rfl ?_
    refine ae_iload_n 3 dX11_peek_14 rfl ?_
    refine ae_i2l dX11_peek_15 ?_
    obtain ⟨r7, s8, hc9, hF10⟩ := ae_bdI hF6
    refine ae_cV1 (q := (8, i5)) (As := [ae_l v2.toInt64]) dX11_peek_16 ww_1075 vy_X9_hasElement rfl rfl rfl rfl rfl (Nat.le_of_ble_eq_true rfl) (c_X9_hasElement (d + 5) hc9) ?_
    refine ae_if_ne 26 dX11_peek_19 rfl (fun hb11 => ?_) (fun hb11 => ?_)
    · have hF12 := ae_ifF hb11 hF10
      refine ae_aload_n 0 dX11_peek_26 rfl ?_
      refine ae_aload_n 0 dX11_peek_27 rfl ?_
      refine ae_aload_n 1 dX11_peek_28 rfl ?_
      refine ae_getO (q := (0, 0)) (some (3, 0)) dX11_peek_29 fl_RX11_26 rfl rfl rfl ?_
      refine ae_iload_n 3 dX11_peek_32 rfl ?_
      obtain ⟨r13, s14, hc15, hF16⟩ := ae_bdI hF12
      refine ae_cV1 (q := (8, i5)) (As := [ae_r (some (3, 0)), ae_i v2]) dX11_peek_33 ww_1077 vy_X9_bitsAt rfl rfl rfl rfl rfl (Nat.le_of_ble_eq_true rfl) (c_X9_bitsAt (d + 4) hc15) ?_
      obtain ⟨r17, s18, hc19, hF20⟩ := ae_bdI hF16
      refine ae_cV1 (q := (8, i5)) (As := [ae_l r13]) dX11_peek_36 ww_1078 vy_X9_answerOf rfl rfl rfl rfl rfl (Nat.le_of_ble_eq_true rfl) (c_X9_answerOf d hc19) ?_
      obtain ⟨rfl, rfl⟩ := ae_retI hF20
      exact ae_lret dX11_peek_39 rfl ⟨rfl, rfl⟩
    · have hF12 := ae_ifT hb11 hF10
      refine ae_pick (lv' := []) [] rfl ?_
      exact t_X11_peek_22 d s8 hF12
abbrev mX11_field : ae_M := (RX11, cX11_field, 5, some .long)
theorem vy_X11_field : ae_VY yX11_field mX11_field 3 := ⟨ww_1089, ww_1090, ww_1, ww_1091, ⟨by decide, by decide, by decide +kernel⟩, by decide⟩
theorem dX11_field_0 : decode cX11_field 0 = .ok (.aload_n 0, 1) := by decide +kernel
theorem dX11_field_1 : decode cX11_field 1 = .ok (.getfield 33, 3) := by decide +kernel
theorem dX11_field_4 : decode cX11_field 4 = .ok (.iload_n 1, 1) := by decide +kernel
theorem dX11_field_5 : decode cX11_field 5 = .ok (.invokevirtual 138, 3) := by decide +kernel
theorem dX11_field_8 : decode cX11_field 8 = .ok (.astore 4, 2) := by decide +kernel
theorem dX11_field_10 : decode cX11_field 10 = .ok (.aload 4, 2) := by decide +kernel
theorem dX11_field_12 : decode cX11_field 12 = .ok (.ifnull 22, 3) := by decide +kernel
theorem dX11_field_15 : decode cX11_field 15 = .ok (.aload 4, 2) := by decide +kernel
theorem dX11_field_17 : decode cX11_field 17 = .ok (.iload_n 2, 1) := by decide +kernel
theorem dX11_field_18 : decode cX11_field 18 = .ok (.i2l, 1) := by decide +kernel
theorem dX11_field_19 : decode cX11_field 19 = .ok (.invokevirtual 164, 3) := by decide +kernel
theorem dX11_field_22 : decode cX11_field 22 = .ok (.ifCond .eq 12, 3) := by decide +kernel
theorem dX11_field_25 : decode cX11_field 25 = .ok (.aload 4, 2) := by decide +kernel
theorem dX11_field_27 : decode cX11_field 27 = .ok (.iload_n 3, 1) := by decide +kernel
theorem dX11_field_28 : decode cX11_field 28 = .ok (.invokevirtual 182, 3) := by decide +kernel
theorem dX11_field_31 : decode cX11_field 31 = .ok (.ifCond .ne 7, 3) := by decide +kernel
theorem dX11_field_34 : decode cX11_field 34 = .ok (.ldc2_w 185, 3) := by decide +kernel
theorem dX11_field_37 : decode cX11_field 37 = .ok (.lreturn, 1) := by decide +kernel
theorem dX11_field_38 : decode cX11_field 38 = .ok (.aload 4, 2) := by decide +kernel
theorem dX11_field_40 : decode cX11_field 40 = .ok (.iload_n 3, 1) := by decide +kernel
theorem dX11_field_41 : decode cX11_field 41 = .ok (.aload 4, 2) := by decide +kernel
theorem dX11_field_43 : decode cX11_field 43 = .ok (.aload_n 0, 1) := by decide +kernel
theorem dX11_field_44 : decode cX11_field 44 = .ok (.getfield 26, 3) := by decide +kernel
theorem dX11_field_47 : decode cX11_field 47 = .ok (.iload_n 2, 1) := by decide +kernel
theorem dX11_field_48 : decode cX11_field 48 = .ok (.invokevirtual 170, 3) := by decide +kernel
theorem dX11_field_51 : decode cX11_field 51 = .ok (.invokevirtual 187, 3) := by decide +kernel
theorem dX11_field_54 : decode cX11_field 54 = .ok (.lreturn, 1) := by decide +kernel
def F_X11_field_34 (s0 : ae_S) : Option (Int64 × ae_S) := some ((-1 : Int64), s0)
set_option maxHeartbeats 4000000 in
set_option maxRecDepth 100000 in
theorem t_X11_field_34 {l : Launch} {G : ae_G} (d : Nat) {rr : Int64} {ss : ae_S} (s0 : ae_S) (hF : F_X11_field_34 s0 = some (rr, ss)) : ae_T l G (d + 2) mX11_field (ae_Po (some (ae_l rr)) ss) 34 [] [] s0 := by
  unfold F_X11_field_34 at hF
  refine ae_ldc2 dX11_field_34 ww_1093 ?_
  obtain ⟨rfl, rfl⟩ := ae_retI hF
  exact ae_lret dX11_field_37 rfl ⟨rfl, rfl⟩
def F_X11_field (v1 : Int32) (v2 : Int32) (v3 : Int32) (s0 : ae_S) : Option (Int64 × ae_S) := ae_bd (F_X6_get v1 s0) (fun (r1 : Option (Fin 32)) s2 => ae_mo r1 (F_X11_field_34 s2) (fun i5 => ae_bd (F_X9_hasElement i5 v2.toInt64 s2) (fun (r7 : Int32) s8 => if r7 = 0 then (F_X11_field_34 s8) else (ae_bd (F_X9_hasField i5 v3 s8) (fun (r13 : Int32) s14 => if r13 = 0 then (F_X11_field_34 s14) else (ae_bd (F_X9_bitsAt i5 v2 s14) (fun (r19 : Int64) s20 => ae_bd (F_X9_fieldOf i5 v3 r19 s20) (fun (r23 : Int64) s24 => some (r23, s24)))))))))
set_option maxHeartbeats 4000000 in
set_option maxRecDepth 100000 in
theorem c_X11_field {l : Launch} {G : ae_G} (d : Nat) {v1 : Int32} {v2 : Int32} {v3 : Int32} {s0 ss : ae_S} {rr : Int64} (hF : F_X11_field v1 v2 v3 s0 = some (rr, ss)) : ae_Met l G (d + 2) yX11_field mX11_field [ae_r (some (0, 0)), ae_i v1, ae_i v2, ae_i v3] s0 (ae_Po (some (ae_l rr)) ss) := by
  refine ae_enter (by decide) rfl (Nat.le_of_ble_eq_true rfl) ?_
  show ae_T l G (d + 2) mX11_field (ae_Po (some (ae_l rr)) ss) 0 [(0, ae_r (some (0, 0))), (1, ae_i v1), (2, ae_i v2), (3, ae_i v3)] [] s0
  unfold F_X11_field at hF
  refine ae_aload_n 0 dX11_field_0 rfl ?_
  refine ae_getO (q := (0, 0)) (some (6, 0)) dX11_field_1 fl_RX11_33 rfl rfl rfl ?_
  refine ae_iload_n 1 dX11_field_4 rfl ?_
  obtain ⟨r1, s2, hc3, hF4⟩ := ae_bdI hF
  refine ae_cV1 (q := (6, 0)) (As := [ae_i v1]) dX11_field_5 ww_1057 vy_X6_get rfl rfl rfl rfl rfl (Nat.le_of_ble_eq_true rfl) (c_X6_get (d + 1) hc3) ?_
  refine ae_astore (lv' := [(4, ae_r (ae_ro 8 r1)), (0, ae_r (some (0, 0))), (1, ae_i v1), (2, ae_i v2), (3, ae_i v3)]) dX11_field_8 (by decide) rfl ?_
  refine ae_aload 0 dX11_field_10 rfl ?_
  cases r1 with
  | none =>
    have hF6 := ae_moN hF4
    refine ae_ifnull 34 dX11_field_12 rfl (fun _ => ?_) (fun h => absurd rfl h)
    refine ae_pick (lv' := []) [] rfl ?_
    exact t_X11_field_34 d s2 hF6
  | some i5 =>
    have hF6 := ae_moS hF4
    refine ae_ifnull 34 dX11_field_12 rfl (fun h => absurd h (by simp [ae_ro])) (fun _ => ?_)
    refine ae_aload 0 dX11_field_15 rfl ?_
    refine ae_iload_n 3 dX11_field_17 rfl ?_
    refine ae_i2l dX11_field_18 ?_
    obtain ⟨r7, s8, hc9, hF10⟩ := ae_bdI hF6
    refine ae_cV1 (q := (8, i5)) (As := [ae_l v2.toInt64]) dX11_field_19 ww_1075 vy_X9_hasElement rfl rfl rfl rfl rfl (Nat.le_of_ble_eq_true rfl) (c_X9_hasElement (d + 1) hc9) ?_
    refine ae_if_eq 34 dX11_field_22 rfl (fun hb11 => ?_) (fun hb11 => ?_)
    · have hF12 := ae_ifT hb11 hF10
      refine ae_pick (lv' := []) [] rfl ?_
      exact t_X11_field_34 d s8 hF12
    · have hF12 := ae_ifF hb11 hF10
      refine ae_aload 0 dX11_field_25 rfl ?_
      refine ae_iload_n 4 dX11_field_27 rfl ?_
      obtain ⟨r13, s14, hc15, hF16⟩ := ae_bdI hF12
      refine ae_cV1 (q := (8, i5)) (As := [ae_i v3]) dX11_field_28 ww_1092 vy_X9_hasField rfl rfl rfl rfl rfl (Nat.le_of_ble_eq_true rfl) (c_X9_hasField (d + 1) hc15) ?_
      refine ae_if_ne 38 dX11_field_31 rfl (fun hb17 => ?_) (fun hb17 => ?_)
      · have hF18 := ae_ifF hb17 hF16
        refine ae_aload 0 dX11_field_38 rfl ?_
        refine ae_iload_n 4 dX11_field_40 rfl ?_
        refine ae_aload 0 dX11_field_41 rfl ?_
        refine ae_aload_n 1 dX11_field_43 rfl ?_
        refine ae_getO (q := (0, 0)) (some (3, 0)) dX11_field_44 fl_RX11_26 rfl rfl rfl ?_
        refine ae_iload_n 3 dX11_field_47 rfl ?_
        obtain ⟨r19, s20, hc21, hF22⟩ := ae_bdI hF18
        refine ae_cV1 (q := (8, i5)) (As := [ae_r (some (3, 0)), ae_i v2]) dX11_field_48 ww_1077 vy_X9_bitsAt rfl rfl rfl rfl rfl (Nat.le_of_ble_eq_true rfl) (c_X9_bitsAt d hc21) ?_
        obtain ⟨r23, s24, hc25, hF26⟩ := ae_bdI hF22
        refine ae_cV1 (q := (8, i5)) (As := [ae_i v3, ae_l r19]) dX11_field_51 ww_1094 vy_X9_fieldOf rfl rfl rfl rfl rfl (Nat.le_of_ble_eq_true rfl) (c_X9_fieldOf d hc25) ?_
        obtain ⟨rfl, rfl⟩ := ae_retI hF26
        exact ae_lret dX11_field_54 rfl ⟨rfl, rfl⟩
      · have hF18 := ae_ifT hb17 hF16
        refine ae_pick (lv' := []) [] rfl ?_
        exact t_X11_field_34 d s14 hF18
abbrev mX11_write : ae_M := (RX11, cX11_write, 6, some .boolean)
theorem vy_X11_write : ae_VY yX11_write mX11_write 3 := ⟨ww_1096, ww_1097, ww_1, ww_1098, ⟨by decide, by decide, by decide +kernel⟩, by decide⟩
theorem dX11_write_0 : decode cX11_write 0 = .ok (.aload_n 0, 1) := by decide +kernel
theorem dX11_write_1 : decode cX11_write 1 = .ok (.getfield 33, 3) := by decide +kernel
theorem dX11_write_4 : decode cX11_write 4 = .ok (.iload_n 1, 1) := by decide +kernel
theorem dX11_write_5 : decode cX11_write 5 = .ok (.invokevirtual 138, 3) := by decide +kernel
theorem dX11_write_8 : decode cX11_write 8 = .ok (.astore 5, 2) := by decide +kernel
theorem dX11_write_10 : decode cX11_write 10 = .ok (.aload 5, 2) := by decide +kernel
theorem dX11_write_12 : decode cX11_write 12 = .ok (.ifnull 21, 3) := by decide +kernel
theorem dX11_write_15 : decode cX11_write 15 = .ok (.aload 5, 2) := by decide +kernel
theorem dX11_write_17 : decode cX11_write 17 = .ok (.iload_n 2, 1) := by decide +kernel
theorem dX11_write_18 : decode cX11_write 18 = .ok (.i2l, 1) := by decide +kernel
theorem dX11_write_19 : decode cX11_write 19 = .ok (.invokevirtual 164, 3) := by decide +kernel
theorem dX11_write_22 : decode cX11_write 22 = .ok (.ifCond .eq 11, 3) := by decide +kernel
theorem dX11_write_25 : decode cX11_write 25 = .ok (.aload 5, 2) := by decide +kernel
theorem dX11_write_27 : decode cX11_write 27 = .ok (.invokevirtual 191, 3) := by decide +kernel
theorem dX11_write_30 : decode cX11_write 30 = .ok (.ifCond .eq 5, 3) := by decide +kernel
theorem dX11_write_33 : decode cX11_write 33 = .ok (.iconst 0, 1) := by decide +kernel
theorem dX11_write_34 : decode cX11_write 34 = .ok (.ireturn, 1) := by decide +kernel
theorem dX11_write_35 : decode cX11_write 35 = .ok (.aload_n 0, 1) := by decide +kernel
theorem dX11_write_36 : decode cX11_write 36 = .ok (.getfield 26, 3) := by decide +kernel
theorem dX11_write_39 : decode cX11_write 39 = .ok (.invokevirtual 116, 3) := by decide +kernel
theorem dX11_write_42 : decode cX11_write 42 = .ok (.aload 5, 2) := by decide +kernel
theorem dX11_write_44 : decode cX11_write 44 = .ok (.aload_n 0, 1) := by decide +kernel
theorem dX11_write_45 : decode cX11_write 45 = .ok (.getfield 26, 3) := by decide +kernel
theorem dX11_write_48 : decode cX11_write 48 = .ok (.iload_n 2, 1) := by decide +kernel
theorem dX11_write_49 : decode cX11_write 49 = .ok (.aload 5, 2) := by decide +kernel
theorem dX11_write_51 : decode cX11_write 51 = .ok (.lload_n 3, 1) := by decide +kernel
theorem dX11_write_52 : decode cX11_write 52 = .ok (.invokevirtual 194, 3) := by decide +kernel
theorem dX11_write_55 : decode cX11_write 55 = .ok (.invokevirtual 197, 3) := by decide +kernel
theorem dX11_write_58 : decode cX11_write 58 = .ok (.aload_n 0, 1) := by decide +kernel
theorem dX11_write_59 : decode cX11_write 59 = .ok (.getfield 26, 3) := by decide +kernel
theorem dX11_write_62 : decode cX11_write 62 = .ok (.invokevirtual 122, 3) := by decide +kernel
theorem dX11_write_65 : decode cX11_write 65 = .ok (.iconst 1, 1) := by decide +kernel
theorem dX11_write_66 : decode cX11_write 66 = .ok (.ireturn, 1) := by decide +kernel
def F_X11_write_33 (s0 : ae_S) : Option (Int32 × ae_S) := some ((0 : Int32), s0)
set_option maxHeartbeats 4000000 in
set_option maxRecDepth 100000 in
theorem t_X11_write_33 {l : Launch} {G : ae_G} (d : Nat) {rr : Int32} {ss : ae_S} (s0 : ae_S) (hF : F_X11_write_33 s0 = some (rr, ss)) : ae_T l G (d + 5) mX11_write (ae_Po (some (ae_i rr)) ss) 33 [] [] s0 := by
  unfold F_X11_write_33 at hF
  refine ae_iconst (0 : Int32) dX11_write_33 (by decide) ?_
  obtain ⟨rfl, rfl⟩ := ae_retI hF
  exact ae_iret dX11_write_34 rfl (by decide) ⟨rfl, rfl⟩
def F_X11_write (v1 : Int32) (v2 : Int32) (v3 : Int64) (s0 : ae_S) : Option (Int32 × ae_S) := ae_bd (F_X6_get v1 s0) (fun (r1 : Option (Fin 32)) s2 => ae_mo r1 (F_X11_write_33 s2) (fun i5 => ae_bd (F_X9_hasElement i5 v2.toInt64 s2) (fun (r7 : Int32) s8 => if r7 = 0 then (F_X11_write_33 s8) else (ae_bd (F_X9_isReadOnly i5 s8) (fun (r13 : Int32) s14 => if r13 = 0 then (ae_bd (F_X0_begin s14) (fun (r19 : Unit) s20 => ae_bd (F_X9_bitsOfWhole i5 v3 s20) (fun (r23 : Int64) s24 => ae_bd (F_X9_put i5 v2 r23 s24) (fun (r27 : Unit) s28 => ae_bd (F_X0_keep s28) (fun (r31 : Unit) s32 => some ((1 : Int32), s32)))))) else (F_X11_write_33 s14))))))
set_option maxHeartbeats 4000000 in
set_option maxRecDepth 100000 in
theorem c_X11_write {l : Launch} {G : ae_G} (d : Nat) {v1 : Int32} {v2 : Int32} {v3 : Int64} {s0 ss : ae_S} {rr : Int32} (hF : F_X11_write v1 v2 v3 s0 = some (rr, ss)) : ae_Met l G (d + 5) yX11_write mX11_write [ae_r (some (0, 0)), ae_i v1, ae_i v2, ae_l v3] s0 (ae_Po (some (ae_i rr)) ss) := by
  refine ae_enter (by decide) rfl (Nat.le_of_ble_eq_true rfl) ?_
  show ae_T l G (d + 5) mX11_write (ae_Po (some (ae_i rr)) ss) 0 [(0, ae_r (some (0, 0))), (1, ae_i v1), (2, ae_i v2), (3, ae_l v3)] [] s0
  unfold F_X11_write at hF
  refine ae_aload_n 0 dX11_write_0 rfl ?_
  refine ae_getO (q := (0, 0)) (some (6, 0)) dX11_write_1 fl_RX11_33 rfl rfl rfl ?_
  refine ae_iload_n 1 dX11_write_4 rfl ?_
  obtain ⟨r1, s2, hc3, hF4⟩ := ae_bdI hF
  refine ae_cV1 (q := (6, 0)) (As := [ae_i v1]) dX11_write_5 ww_1057 vy_X6_get rfl rfl rfl rfl rfl (Nat.le_of_ble_eq_true rfl) (c_X6_get (d + 4) hc3) ?_
  refine ae_astore (lv' := [(5, ae_r (ae_ro 8 r1)), (0, ae_r (some (0, 0))), (1, ae_i v1), (2, ae_i v2), (3, ae_l v3)]) dX11_write_8 (by decide) rfl ?_
  refine ae_aload 0 dX11_write_10 rfl ?_
  cases r1 with
  | none =>
    have hF6 := ae_moN hF4
    refine ae_ifnull 33 dX11_write_12 rfl (fun _ => ?_) (fun h => absurd rfl h)
    refine ae_pick (lv' := []) [] rfl ?_
    exact t_X11_write_33 d s2 hF6
  | some i5 =>
    have hF6 := ae_moS hF4
    refine ae_ifnull 33 dX11_write_12 rfl (fun h => absurd h (by simp [ae_ro])) (fun _ => ?_)
    refine ae_aload 0 dX11_write_15 rfl ?_
    refine ae_iload_n 3 dX11_write_17 rfl ?_
    refine ae_i2l dX11_write_18 ?_
    obtain ⟨r7, s8, hc9, hF10⟩ := ae_bdI hF6
    refine ae_cV1 (q := (8, i5)) (As := [ae_l v2.toInt64]) dX11_write_19 ww_1075 vy_X9_hasElement rfl rfl rfl rfl rfl (Nat.le_of_ble_eq_true rfl) (c_X9_hasElement (d + 4) hc9) ?_
    refine ae_if_eq 33 dX11_write_22 rfl (fun hb11 => ?_) (fun hb11 => ?_)
    · have hF12 := ae_ifT hb11 hF10
      refine ae_pick (lv' := []) [] rfl ?_
      exact t_X11_write_33 d s8 hF12
    · have hF12 := ae_ifF hb11 hF10
      refine ae_aload 0 dX11_write_25 rfl ?_
      obtain ⟨r13, s14, hc15, hF16⟩ := ae_bdI hF12
      refine ae_cV1 (q := (8, i5)) (As := []) dX11_write_27 ww_1099 vy_X9_isReadOnly rfl rfl rfl rfl rfl (Nat.le_of_ble_eq_true rfl) (c_X9_isReadOnly (d + 4) hc15) ?_
      refine ae_if_eq 35 dX11_write_30 rfl (fun hb17 => ?_) (fun hb17 => ?_)
      · have hF18 := ae_ifT hb17 hF16
        refine ae_aload_n 1 dX11_write_35 rfl ?_
        refine ae_getO (q := (0, 0)) (some (3, 0)) dX11_write_36 fl_RX11_26 rfl rfl rfl ?_
        obtain ⟨r19, s20, hc21, hF22⟩ := ae_bdI hF18
        refine ae_cV0 (q := (3, 0)) (As := []) dX11_write_39 ww_809 vy_X0_begin rfl rfl rfl rfl rfl (Nat.le_of_ble_eq_true rfl) (c_X0_begin (d + 3) hc21) ?_
        refine ae_aload 0 dX11_write_42 rfl ?_
        refine ae_aload_n 1 dX11_write_44 rfl ?_
        refine ae_getO (q := (0, 0)) (some (3, 0)) dX11_write_45 fl_RX11_26 rfl rfl rfl ?_
        refine ae_iload_n 3 dX11_write_48 rfl ?_
        refine ae_aload 0 dX11_write_49 rfl ?_
        refine ae_lload_n 4 dX11_write_51 rfl ?_
        obtain ⟨r23, s24, hc25, hF26⟩ := ae_bdI hF22
        refine ae_cV1 (q := (8, i5)) (As := [ae_l v3]) dX11_write_52 ww_1100 vy_X9_bitsOfWhole rfl rfl rfl rfl rfl (Nat.le_of_ble_eq_true rfl) (c_X9_bitsOfWhole d hc25) ?_
        obtain ⟨r27, s28, hc29, hF30⟩ := ae_bdI hF26
        refine ae_cV0 (q := (8, i5)) (As := [ae_r (some (3, 0)), ae_i v2, ae_l r23]) dX11_write_55 ww_1101 vy_X9_put rfl rfl rfl rfl rfl (Nat.le_of_ble_eq_true rfl) (c_X9_put (d + 2) hc29) ?_
        refine ae_aload_n 1 dX11_write_58 rfl ?_
        refine ae_getO (q := (0, 0)) (some (3, 0)) dX11_write_59 fl_RX11_26 rfl rfl rfl ?_
        obtain ⟨r31, s32, hc33, hF34⟩ := ae_bdI hF30
        refine ae_cV0 (q := (3, 0)) (As := []) dX11_write_62 ww_1021 vy_X0_keep rfl rfl rfl rfl rfl (Nat.le_of_ble_eq_true rfl) (c_X0_keep (d + 3) hc33) ?_
        refine ae_iconst (1 : Int32) dX11_write_65 (by decide) ?_
        obtain ⟨rfl, rfl⟩ := ae_retI hF34
        exact ae_iret dX11_write_66 rfl (by decide) ⟨rfl, rfl⟩
      · have hF18 := ae_ifF hb17 hF16
        refine ae_pick (lv' := []) [] rfl ?_
        exact t_X11_write_33 d s14 hF18
abbrev mX11_writeFloat : ae_M := (RX11, cX11_writeFloat, 6, some .boolean)
theorem vy_X11_writeFloat : ae_VY yX11_writeFloat mX11_writeFloat 3 := ⟨ww_1103, ww_1104, ww_1, ww_1105, ⟨by decide, by decide, by decide +kernel⟩, by decide⟩
theorem dX11_writeFloat_0 : decode cX11_writeFloat 0 = .ok (.aload_n 0, 1) := by decide +kernel
theorem dX11_writeFloat_1 : decode cX11_writeFloat 1 = .ok (.getfield 33, 3) := by decide +kernel
theorem dX11_writeFloat_4 : decode cX11_writeFloat 4 = .ok (.iload_n 1, 1) := by decide +kernel
theorem dX11_writeFloat_5 : decode cX11_writeFloat 5 = .ok (.invokevirtual 138, 3) := by decide +kernel
theorem dX11_writeFloat_8 : decode cX11_writeFloat 8 = .ok (.astore 5, 2) := by decide +kernel
theorem dX11_writeFloat_10 : decode cX11_writeFloat 10 = .ok (.aload 5, 2) := by decide +kernel
theorem dX11_writeFloat_12 : decode cX11_writeFloat 12 = .ok (.ifnull 21, 3) := by decide +kernel
theorem dX11_writeFloat_15 : decode cX11_writeFloat 15 = .ok (.aload 5, 2) := by decide +kernel
theorem dX11_writeFloat_17 : decode cX11_writeFloat 17 = .ok (.iload_n 2, 1) := by decide +kernel
theorem dX11_writeFloat_18 : decode cX11_writeFloat 18 = .ok (.i2l, 1) := by decide +kernel
theorem dX11_writeFloat_19 : decode cX11_writeFloat 19 = .ok (.invokevirtual 164, 3) := by decide +kernel
theorem dX11_writeFloat_22 : decode cX11_writeFloat 22 = .ok (.ifCond .eq 11, 3) := by decide +kernel
theorem dX11_writeFloat_25 : decode cX11_writeFloat 25 = .ok (.aload 5, 2) := by decide +kernel
theorem dX11_writeFloat_27 : decode cX11_writeFloat 27 = .ok (.invokevirtual 191, 3) := by decide +kernel
theorem dX11_writeFloat_30 : decode cX11_writeFloat 30 = .ok (.ifCond .eq 5, 3) := by decide +kernel
theorem dX11_writeFloat_33 : decode cX11_writeFloat 33 = .ok (.iconst 0, 1) := by decide +kernel
theorem dX11_writeFloat_34 : decode cX11_writeFloat 34 = .ok (.ireturn, 1) := by decide +kernel
theorem dX11_writeFloat_35 : decode cX11_writeFloat 35 = .ok (.aload_n 0, 1) := by decide +kernel
theorem dX11_writeFloat_36 : decode cX11_writeFloat 36 = .ok (.getfield 26, 3) := by decide +kernel
theorem dX11_writeFloat_39 : decode cX11_writeFloat 39 = .ok (.invokevirtual 116, 3) := by decide +kernel
theorem dX11_writeFloat_42 : decode cX11_writeFloat 42 = .ok (.aload 5, 2) := by decide +kernel
theorem dX11_writeFloat_44 : decode cX11_writeFloat 44 = .ok (.aload_n 0, 1) := by decide +kernel
theorem dX11_writeFloat_45 : decode cX11_writeFloat 45 = .ok (.getfield 26, 3) := by decide +kernel
theorem dX11_writeFloat_48 : decode cX11_writeFloat 48 = .ok (.iload_n 2, 1) := by decide +kernel
theorem dX11_writeFloat_49 : decode cX11_writeFloat 49 = .ok (.aload 5, 2) := by decide +kernel
theorem dX11_writeFloat_51 : decode cX11_writeFloat 51 = .ok (.lload_n 3, 1) := by decide +kernel
theorem dX11_writeFloat_52 : decode cX11_writeFloat 52 = .ok (.invokevirtual 201, 3) := by decide +kernel
theorem dX11_writeFloat_55 : decode cX11_writeFloat 55 = .ok (.invokevirtual 197, 3) := by decide +kernel
theorem dX11_writeFloat_58 : decode cX11_writeFloat 58 = .ok (.aload_n 0, 1) := by decide +kernel
theorem dX11_writeFloat_59 : decode cX11_writeFloat 59 = .ok (.getfield 26, 3) := by decide +kernel
theorem dX11_writeFloat_62 : decode cX11_writeFloat 62 = .ok (.invokevirtual 122, 3) := by decide +kernel
theorem dX11_writeFloat_65 : decode cX11_writeFloat 65 = .ok (.iconst 1, 1) := by decide +kernel
theorem dX11_writeFloat_66 : decode cX11_writeFloat 66 = .ok (.ireturn, 1) := by decide +kernel
def F_X11_writeFloat_33 (s0 : ae_S) : Option (Int32 × ae_S) := some ((0 : Int32), s0)
set_option maxHeartbeats 4000000 in
set_option maxRecDepth 100000 in
theorem t_X11_writeFloat_33 {l : Launch} {G : ae_G} (d : Nat) {rr : Int32} {ss : ae_S} (s0 : ae_S) (hF : F_X11_writeFloat_33 s0 = some (rr, ss)) : ae_T l G (d + 5) mX11_writeFloat (ae_Po (some (ae_i rr)) ss) 33 [] [] s0 := by
  unfold F_X11_writeFloat_33 at hF
  refine ae_iconst (0 : Int32) dX11_writeFloat_33 (by decide) ?_
  obtain ⟨rfl, rfl⟩ := ae_retI hF
  exact ae_iret dX11_writeFloat_34 rfl (by decide) ⟨rfl, rfl⟩
def F_X11_writeFloat (v1 : Int32) (v2 : Int32) (v3 : Int64) (s0 : ae_S) : Option (Int32 × ae_S) := ae_bd (F_X6_get v1 s0) (fun (r1 : Option (Fin 32)) s2 => ae_mo r1 (F_X11_writeFloat_33 s2) (fun i5 => ae_bd (F_X9_hasElement i5 v2.toInt64 s2) (fun (r7 : Int32) s8 => if r7 = 0 then (F_X11_writeFloat_33 s8) else (ae_bd (F_X9_isReadOnly i5 s8) (fun (r13 : Int32) s14 => if r13 = 0 then (ae_bd (F_X0_begin s14) (fun (r19 : Unit) s20 => ae_bd (F_X9_bitsOfFloat i5 v3 s20) (fun (r23 : Int64) s24 => ae_bd (F_X9_put i5 v2 r23 s24) (fun (r27 : Unit) s28 => ae_bd (F_X0_keep s28) (fun (r31 : Unit) s32 => some ((1 : Int32), s32)))))) else (F_X11_writeFloat_33 s14))))))
set_option maxHeartbeats 4000000 in
set_option maxRecDepth 100000 in
theorem c_X11_writeFloat {l : Launch} {G : ae_G} (d : Nat) {v1 : Int32} {v2 : Int32} {v3 : Int64} {s0 ss : ae_S} {rr : Int32} (hF : F_X11_writeFloat v1 v2 v3 s0 = some (rr, ss)) : ae_Met l G (d + 5) yX11_writeFloat mX11_writeFloat [ae_r (some (0, 0)), ae_i v1, ae_i v2, ae_l v3] s0 (ae_Po (some (ae_i rr)) ss) := by
  refine ae_enter (by decide) rfl (Nat.le_of_ble_eq_true rfl) ?_
  show ae_T l G (d + 5) mX11_writeFloat (ae_Po (some (ae_i rr)) ss) 0 [(0, ae_r (some (0, 0))), (1, ae_i v1), (2, ae_i v2), (3, ae_l v3)] [] s0
  unfold F_X11_writeFloat at hF
  refine ae_aload_n 0 dX11_writeFloat_0 rfl ?_
  refine ae_getO (q := (0, 0)) (some (6, 0)) dX11_writeFloat_1 fl_RX11_33 rfl rfl rfl ?_
  refine ae_iload_n 1 dX11_writeFloat_4 rfl ?_
  obtain ⟨r1, s2, hc3, hF4⟩ := ae_bdI hF
  refine ae_cV1 (q := (6, 0)) (As := [ae_i v1]) dX11_writeFloat_5 ww_1057 vy_X6_get rfl rfl rfl rfl rfl (Nat.le_of_ble_eq_true rfl) (c_X6_get (d + 4) hc3) ?_
  refine ae_astore (lv' := [(5, ae_r (ae_ro 8 r1)), (0, ae_r (some (0, 0))), (1, ae_i v1), (2, ae_i v2), (3, ae_l v3)]) dX11_writeFloat_8 (by decide) rfl ?_
  refine ae_aload 0 dX11_writeFloat_10 rfl ?_
  cases r1 with
  | none =>
    have hF6 := ae_moN hF4
    refine ae_ifnull 33 dX11_writeFloat_12 rfl (fun _ => ?_) (fun h => absurd rfl h)
    refine ae_pick (lv' := []) [] rfl ?_
    exact t_X11_writeFloat_33 d s2 hF6
  | some i5 =>
    have hF6 := ae_moS hF4
    refine ae_ifnull 33 dX11_writeFloat_12 rfl (fun h => absurd h (by simp [ae_ro])) (fun _ => ?_)
    refine ae_aload 0 dX11_writeFloat_15 rfl ?_
    refine ae_iload_n 3 dX11_writeFloat_17 rfl ?_
    refine ae_i2l dX11_writeFloat_18 ?_
    obtain ⟨r7, s8, hc9, hF10⟩ := ae_bdI hF6
    refine ae_cV1 (q := (8, i5)) (As := [ae_l v2.toInt64]) dX11_writeFloat_19 ww_1075 vy_X9_hasElement rfl rfl rfl rfl rfl (Nat.le_of_ble_eq_true rfl) (c_X9_hasElement (d + 4) hc9) ?_
    refine ae_if_eq 33 dX11_writeFloat_22 rfl (fun hb11 => ?_) (fun hb11 => ?_)
    · have hF12 := ae_ifT hb11 hF10
      refine ae_pick (lv' := []) [] rfl ?_
      exact t_X11_writeFloat_33 d s8 hF12
    · have hF12 := ae_ifF hb11 hF10
      refine ae_aload 0 dX11_writeFloat_25 rfl ?_
      obtain ⟨r13, s14, hc15, hF16⟩ := ae_bdI hF12
      refine ae_cV1 (q := (8, i5)) (As := []) dX11_writeFloat_27 ww_1099 vy_X9_isReadOnly rfl rfl rfl rfl rfl (Nat.le_of_ble_eq_true rfl) (c_X9_isReadOnly (d + 4) hc15) ?_
      refine ae_if_eq 35 dX11_writeFloat_30 rfl (fun hb17 => ?_) (fun hb17 => ?_)
      · have hF18 := ae_ifT hb17 hF16
        refine ae_aload_n 1 dX11_writeFloat_35 rfl ?_
        refine ae_getO (q := (0, 0)) (some (3, 0)) dX11_writeFloat_36 fl_RX11_26 rfl rfl rfl ?_
        obtain ⟨r19, s20, hc21, hF22⟩ := ae_bdI hF18
        refine ae_cV0 (q := (3, 0)) (As := []) dX11_writeFloat_39 ww_809 vy_X0_begin rfl rfl rfl rfl rfl (Nat.le_of_ble_eq_true rfl) (c_X0_begin (d + 3) hc21) ?_
        refine ae_aload 0 dX11_writeFloat_42 rfl ?_
        refine ae_aload_n 1 dX11_writeFloat_44 rfl ?_
        refine ae_getO (q := (0, 0)) (some (3, 0)) dX11_writeFloat_45 fl_RX11_26 rfl rfl rfl ?_
        refine ae_iload_n 3 dX11_writeFloat_48 rfl ?_
        refine ae_aload 0 dX11_writeFloat_49 rfl ?_
        refine ae_lload_n 4 dX11_writeFloat_51 rfl ?_
        obtain ⟨r23, s24, hc25, hF26⟩ := ae_bdI hF22
        refine ae_cV1 (q := (8, i5)) (As := [ae_l v3]) dX11_writeFloat_52 ww_1106 vy_X9_bitsOfFloat rfl rfl rfl rfl rfl (Nat.le_of_ble_eq_true rfl) (c_X9_bitsOfFloat d hc25) ?_
        obtain ⟨r27, s28, hc29, hF30⟩ := ae_bdI hF26
        refine ae_cV0 (q := (8, i5)) (As := [ae_r (some (3, 0)), ae_i v2, ae_l r23]) dX11_writeFloat_55 ww_1101 vy_X9_put rfl rfl rfl rfl rfl (Nat.le_of_ble_eq_true rfl) (c_X9_put (d + 2) hc29) ?_
        refine ae_aload_n 1 dX11_writeFloat_58 rfl ?_
        refine ae_getO (q := (0, 0)) (some (3, 0)) dX11_writeFloat_59 fl_RX11_26 rfl rfl rfl ?_
        obtain ⟨r31, s32, hc33, hF34⟩ := ae_bdI hF30
        refine ae_cV0 (q := (3, 0)) (As := []) dX11_writeFloat_62 ww_1021 vy_X0_keep rfl rfl rfl rfl rfl (Nat.le_of_ble_eq_true rfl) (c_X0_keep (d + 3) hc33) ?_
        refine ae_iconst (1 : Int32) dX11_writeFloat_65 (by decide) ?_
        obtain ⟨rfl, rfl⟩ := ae_retI hF34
        exact ae_iret dX11_writeFloat_66 rfl (by decide) ⟨rfl, rfl⟩
      · have hF18 := ae_ifF hb17 hF16
        refine ae_pick (lv' := []) [] rfl ?_
        exact t_X11_writeFloat_33 d s14 hF18
abbrev mX11_at : ae_M := (RX11, cX11_at, 2, some .int)
theorem vy_X11_at : ae_VY yX11_at mX11_at 1 := ⟨ww_1108, ww_1109, ww_1, ww_1110, ⟨by decide, by decide, by decide +kernel⟩, by decide⟩
theorem dX11_at_0 : decode cX11_at 0 = .ok (.aload_n 0, 1) := by decide +kernel
theorem dX11_at_1 : decode cX11_at 1 = .ok (.getfield 26, 3) := by decide +kernel
theorem dX11_at_4 : decode cX11_at 4 = .ok (.iload_n 1, 1) := by decide +kernel
theorem dX11_at_5 : decode cX11_at 5 = .ok (.invokevirtual 204, 3) := by decide +kernel
theorem dX11_at_8 : decode cX11_at 8 = .ok (.ifCond .eq 14, 3) := by decide +kernel
theorem dX11_at_11 : decode cX11_at 11 = .ok (.aload_n 0, 1) := by decide +kernel
theorem dX11_at_12 : decode cX11_at 12 = .ok (.getfield 26, 3) := by decide +kernel
theorem dX11_at_15 : decode cX11_at 15 = .ok (.iload_n 1, 1) := by decide +kernel
theorem dX11_at_16 : decode cX11_at 16 = .ok (.invokevirtual 207, 3) := by decide +kernel
theorem dX11_at_19 : decode cX11_at 19 = .ok (.goto 4, 3) := by decide +kernel
theorem dX11_at_22 : decode cX11_at 22 = .ok (.iconst (-1), 1) := by decide +kernel
theorem dX11_at_23 : decode cX11_at 23 = .ok (.ireturn, 1) := by decide +kernel
def F_X11_at_23 (t0 : Int32) (s0 : ae_S) : Option (Int32 × ae_S) := some (t0, s0)
set_option maxHeartbeats 4000000 in
set_option maxRecDepth 100000 in
theorem t_X11_at_23 {l : Launch} {G : ae_G} (d : Nat) {rr : Int32} {ss : ae_S} (t0 : Int32) (s0 : ae_S) (hF : F_X11_at_23 t0 s0 = some (rr, ss)) : ae_T l G (d + 1) mX11_at (ae_Po (some (ae_i rr)) ss) 23 [] [ae_i t0] s0 := by
  unfold F_X11_at_23 at hF
  obtain ⟨rfl, rfl⟩ := ae_retI hF
  exact ae_iret dX11_at_23 rfl rfl ⟨rfl, rfl⟩
def F_X11_at (v1 : Int32) (s0 : ae_S) : Option (Int32 × ae_S) := ae_bd (F_X0_has v1 s0) (fun (r1 : Int32) s2 => if r1 = 0 then (F_X11_at_23 (-1 : Int32) s2) else (ae_bd (F_X0_get v1 s2) (fun (r7 : Int32) s8 => F_X11_at_23 r7 s8)))
set_option maxHeartbeats 4000000 in
set_option maxRecDepth 100000 in
theorem c_X11_at {l : Launch} {G : ae_G} (d : Nat) {v1 : Int32} {s0 ss : ae_S} {rr : Int32} (hF : F_X11_at v1 s0 = some (rr, ss)) : ae_Met l G (d + 1) yX11_at mX11_at [ae_r (some (0, 0)), ae_i v1] s0 (ae_Po (some (ae_i rr)) ss) := by
  refine ae_enter (by decide) rfl (Nat.le_of_ble_eq_true rfl) ?_
  show ae_T l G (d + 1) mX11_at (ae_Po (some (ae_i rr)) ss) 0 [(0, ae_r (some (0, 0))), (1, ae_i v1)] [] s0
  unfold F_X11_at at hF
  refine ae_aload_n 0 dX11_at_0 rfl ?_
  refine ae_getO (q := (0, 0)) (some (3, 0)) dX11_at_1 fl_RX11_26 rfl rfl rfl ?_
  refine ae_iload_n 1 dX11_at_4 rfl ?_
  obtain ⟨r1, s2, hc3, hF4⟩ := ae_bdI hF
  refine ae_cV1 (q := (3, 0)) (As := [ae_i v1]) dX11_at_5 ww_1111 vy_X0_has rfl rfl rfl rfl rfl (Nat.le_of_ble_eq_true rfl) (c_X0_has d hc3) ?_
  refine ae_if_eq 22 dX11_at_8 rfl (fun hb5 => ?_) (fun hb5 => ?_)
  · have hF6 := ae_ifT hb5 hF4
    refine ae_iconst (-1 : Int32) dX11_at_22 (by decide) ?_
    refine ae_pick (lv' := []) [] rfl ?_
    exact t_X11_at_23 d (-1 : Int32) s2 hF6
  · have hF6 := ae_ifF hb5 hF4
    refine ae_aload_n 0 dX11_at_11 rfl ?_
    refine ae_getO (q := (0, 0)) (some (3, 0)) dX11_at_12 fl_RX11_26 rfl rfl rfl ?_
    refine ae_iload_n 1 dX11_at_15 rfl ?_
    obtain ⟨r7, s8, hc9, hF10⟩ := ae_bdI hF6
    refine ae_cV1 (q := (3, 0)) (As := [ae_i v1]) dX11_at_16 ww_1115 vy_X0_get rfl rfl rfl rfl rfl (Nat.le_of_ble_eq_true rfl) (c_X0_get d hc9) ?_
    refine ae_goto 23 dX11_at_19 rfl ?_
    refine ae_pick (lv' := []) [] rfl ?_
    exact t_X11_at_23 d r7 s8 hF10
abbrev mX11_poke : ae_M := (RX11, cX11_poke, 3, some .boolean)
theorem vy_X11_poke : ae_VY yX11_poke mX11_poke 2 := ⟨ww_1117, ww_1118, ww_1, ww_1119, ⟨by decide, by decide, by decide +kernel⟩, by decide⟩
theorem dX11_poke_0 : decode cX11_poke 0 = .ok (.aload_n 0, 1) := by decide +kernel
theorem dX11_poke_1 : decode cX11_poke 1 = .ok (.getfield 26, 3) := by decide +kernel
theorem dX11_poke_4 : decode cX11_poke 4 = .ok (.iload_n 1, 1) := by decide +kernel
theorem dX11_poke_5 : decode cX11_poke 5 = .ok (.invokevirtual 204, 3) := by decide +kernel
theorem dX11_poke_8 : decode cX11_poke 8 = .ok (.ifCond .ne 5, 3) := by decide +kernel
theorem dX11_poke_11 : decode cX11_poke 11 = .ok (.iconst 0, 1) := by decide +kernel
theorem dX11_poke_12 : decode cX11_poke 12 = .ok (.ireturn, 1) := by decide +kernel
theorem dX11_poke_13 : decode cX11_poke 13 = .ok (.aload_n 0, 1) := by decide +kernel
theorem dX11_poke_14 : decode cX11_poke 14 = .ok (.getfield 26, 3) := by decide +kernel
theorem dX11_poke_17 : decode cX11_poke 17 = .ok (.invokevirtual 116, 3) := by decide +kernel
theorem dX11_poke_20 : decode cX11_poke 20 = .ok (.aload_n 0, 1) := by decide +kernel
theorem dX11_poke_21 : decode cX11_poke 21 = .ok (.getfield 26, 3) := by decide +kernel
theorem dX11_poke_24 : decode cX11_poke 24 = .ok (.iload_n 1, 1) := by decide +kernel
theorem dX11_poke_25 : decode cX11_poke 25 = .ok (.iload_n 2, 1) := by decide +kernel
theorem dX11_poke_26 : decode cX11_poke 26 = .ok (.invokevirtual 209, 3) := by decide +kernel
theorem dX11_poke_29 : decode cX11_poke 29 = .ok (.aload_n 0, 1) := by decide +kernel
theorem dX11_poke_30 : decode cX11_poke 30 = .ok (.getfield 26, 3) := by decide +kernel
theorem dX11_poke_33 : decode cX11_poke 33 = .ok (.invokevirtual 122, 3) := by decide +kernel
theorem dX11_poke_36 : decode cX11_poke 36 = .ok (.iconst 1, 1) := by decide +kernel
theorem dX11_poke_37 : decode cX11_poke 37 = .ok (.ireturn, 1) := by decide +kernel
def F_X11_poke (v1 : Int32) (v2 : Int32) (s0 : ae_S) : Option (Int32 × ae_S) := ae_bd (F_X0_has v1 s0) (fun (r1 : Int32) s2 => if r1 = 0 then (some ((0 : Int32), s2)) else (ae_bd (F_X0_begin s2) (fun (r7 : Unit) s8 => ae_bd (F_X0_set v1 v2 s8) (fun (r11 : Unit) s12 => ae_bd (F_X0_keep s12) (fun (r15 : Unit) s16 => some ((1 : Int32), s16))))))
set_option maxHeartbeats 4000000 in
set_option maxRecDepth 100000 in
theorem c_X11_poke {l : Launch} {G : ae_G} (d : Nat) {v1 : Int32} {v2 : Int32} {s0 ss : ae_S} {rr : Int32} (hF : F_X11_poke v1 v2 s0 = some (rr, ss)) : ae_Met l G (d + 2) yX11_poke mX11_poke [ae_r (some (0, 0)), ae_i v1, ae_i v2] s0 (ae_Po (some (ae_i rr)) ss) := by
  refine ae_enter (by decide) rfl (Nat.le_of_ble_eq_true rfl) ?_
  show ae_T l G (d + 2) mX11_poke (ae_Po (some (ae_i rr)) ss) 0 [(0, ae_r (some (0, 0))), (1, ae_i v1), (2, ae_i v2)] [] s0
  unfold F_X11_poke at hF
  refine ae_aload_n 0 dX11_poke_0 rfl ?_
  refine ae_getO (q := (0, 0)) (some (3, 0)) dX11_poke_1 fl_RX11_26 rfl rfl rfl ?_
  refine ae_iload_n 1 dX11_poke_4 rfl ?_
  obtain ⟨r1, s2, hc3, hF4⟩ := ae_bdI hF
  refine ae_cV1 (q := (3, 0)) (As := [ae_i v1]) dX11_poke_5 ww_1111 vy_X0_has rfl rfl rfl rfl rfl (Nat.le_of_ble_eq_true rfl) (c_X0_has (d + 1) hc3) ?_
  refine ae_if_ne 13 dX11_poke_8 rfl (fun hb5 => ?_) (fun hb5 => ?_)
  · have hF6 := ae_ifF hb5 hF4
    refine ae_aload_n 0 dX11_poke_13 rfl ?_
    refine ae_getO (q := (0, 0)) (some (3, 0)) dX11_poke_14 fl_RX11_26 rfl rfl rfl ?_
    obtain ⟨r7, s8, hc9, hF10⟩ := ae_bdI hF6
    refine ae_cV0 (q := (3, 0)) (As := []) dX11_poke_17 ww_809 vy_X0_begin rfl rfl rfl rfl rfl (Nat.le_of_ble_eq_true rfl) (c_X0_begin d hc9) ?_
    refine ae_aload_n 0 dX11_poke_20 rfl ?_
    refine ae_getO (q := (0, 0)) (some (3, 0)) dX11_poke_21 fl_RX11_26 rfl rfl rfl ?_
    refine ae_iload_n 1 dX11_poke_24 rfl ?_
    refine ae_iload_n 2 dX11_poke_25 rfl ?_
    obtain ⟨r11, s12, hc13, hF14⟩ := ae_bdI hF10
    refine ae_cV0 (q := (3, 0)) (As := [ae_i v1, ae_i v2]) dX11_poke_26 ww_1120 vy_X0_set rfl rfl rfl rfl rfl (Nat.le_of_ble_eq_true rfl) (c_X0_set (d + 1) hc13) ?_
    refine ae_aload_n 0 dX11_poke_29 rfl ?_
    refine ae_getO (q := (0, 0)) (some (3, 0)) dX11_poke_30 fl_RX11_26 rfl rfl rfl ?_
    obtain ⟨r15, s16, hc17, hF18⟩ := ae_bdI hF14
    refine ae_cV0 (q := (3, 0)) (As := []) dX11_poke_33 ww_1021 vy_X0_keep rfl rfl rfl rfl rfl (Nat.le_of_ble_eq_true rfl) (c_X0_keep d hc17) ?_
    refine ae_iconst (1 : Int32) dX11_poke_36 (by decide) ?_
    obtain ⟨rfl, rfl⟩ := ae_retI hF18
    exact ae_iret dX11_poke_37 rfl (by decide) ⟨rfl, rfl⟩
  · have hF6 := ae_ifT hb5 hF4
    refine ae_iconst (0 : Int32) dX11_poke_11 (by decide) ?_
    obtain ⟨rfl, rfl⟩ := ae_retI hF6
    exact ae_iret dX11_poke_12 rfl (by decide) ⟨rfl, rfl⟩
abbrev mX11_changed : ae_M := (RX11, cX11_changed, 4, some .int)
theorem vy_X11_changed : ae_VY yX11_changed mX11_changed 1 := ⟨ww_1122, ww_1123, ww_1, ww_1124, ⟨by decide, by decide, by decide +kernel⟩, by decide⟩
theorem dX11_changed_0 : decode cX11_changed 0 = .ok (.iconst 0, 1) := by decide +kernel
theorem dX11_changed_1 : decode cX11_changed 1 = .ok (.istore_n 2, 1) := by decide +kernel
theorem dX11_changed_2 : decode cX11_changed 2 = .ok (.iconst 0, 1) := by decide +kernel
theorem dX11_changed_3 : decode cX11_changed 3 = .ok (.istore_n 3, 1) := by decide +kernel
theorem dX11_changed_4 : decode cX11_changed 4 = .ok (.iload_n 3, 1) := by decide +kernel
theorem dX11_changed_5 : decode cX11_changed 5 = .ok (.aload_n 0, 1) := by decide +kernel
theorem dX11_changed_6 : decode cX11_changed 6 = .ok (.getfield 26, 3) := by decide +kernel
theorem dX11_changed_9 : decode cX11_changed 9 = .ok (.invokevirtual 102, 3) := by decide +kernel
theorem dX11_changed_12 : decode cX11_changed 12 = .ok (.if_icmp .ge 30, 3) := by decide +kernel
theorem dX11_changed_15 : decode cX11_changed 15 = .ok (.aload_n 0, 1) := by decide +kernel
theorem dX11_changed_16 : decode cX11_changed 16 = .ok (.getfield 26, 3) := by decide +kernel
theorem dX11_changed_19 : decode cX11_changed 19 = .ok (.iload_n 3, 1) := by decide +kernel
theorem dX11_changed_20 : decode cX11_changed 20 = .ok (.invokevirtual 213, 3) := by decide +kernel
theorem dX11_changed_23 : decode cX11_changed 23 = .ok (.ifCond .eq 13, 3) := by decide +kernel
theorem dX11_changed_26 : decode cX11_changed 26 = .ok (.iload_n 2, 1) := by decide +kernel
theorem dX11_changed_27 : decode cX11_changed 27 = .ok (.iload_n 1, 1) := by decide +kernel
theorem dX11_changed_28 : decode cX11_changed 28 = .ok (.if_icmp .ne 5, 3) := by decide +kernel
theorem dX11_changed_31 : decode cX11_changed 31 = .ok (.iload_n 3, 1) := by decide +kernel
theorem dX11_changed_32 : decode cX11_changed 32 = .ok (.ireturn, 1) := by decide +kernel
theorem dX11_changed_33 : decode cX11_changed 33 = .ok (.iinc 2 1, 3) := by decide +kernel
theorem dX11_changed_36 : decode cX11_changed 36 = .ok (.iinc 3 1, 3) := by decide +kernel
theorem dX11_changed_39 : decode cX11_changed 39 = .ok (.goto (-35), 3) := by decide +kernel
theorem dX11_changed_42 : decode cX11_changed 42 = .ok (.iload_n 1, 1) := by decide +kernel
theorem dX11_changed_43 : decode cX11_changed 43 = .ok (.iconst (-1), 1) := by decide +kernel
theorem dX11_changed_44 : decode cX11_changed 44 = .ok (.if_icmp .ne 7, 3) := by decide +kernel
theorem dX11_changed_47 : decode cX11_changed 47 = .ok (.iload_n 2, 1) := by decide +kernel
theorem dX11_changed_48 : decode cX11_changed 48 = .ok (.goto 4, 3) := by decide +kernel
theorem dX11_changed_51 : decode cX11_changed 51 = .ok (.iconst (-1), 1) := by decide +kernel
theorem dX11_changed_52 : decode cX11_changed 52 = .ok (.ireturn, 1) := by decide +kernel
def F_X11_changed_52 (t0 : Int32) (s0 : ae_S) : Option (Int32 × ae_S) := some (t0, s0)
set_option maxHeartbeats 4000000 in
set_option maxRecDepth 100000 in
theorem t_X11_changed_52 {l : Launch} {G : ae_G} (d : Nat) {rr : Int32} {ss : ae_S} (t0 : Int32) (s0 : ae_S) (hF : F_X11_changed_52 t0 s0 = some (rr, ss)) : ae_T l G (d + 1) mX11_changed (ae_Po (some (ae_i rr)) ss) 52 [] [ae_i t0] s0 := by
  unfold F_X11_changed_52 at hF
  obtain ⟨rfl, rfl⟩ := ae_retI hF
  exact ae_iret dX11_changed_52 rfl rfl ⟨rfl, rfl⟩
def F_X11_changed_36 (k4 : Int32 → Int32 → Int32 → ae_S → Option (Int32 × ae_S)) (v1 : Int32) (v2 : Int32) (v3 : Int32) (s0 : ae_S) : Option (Int32 × ae_S) := ae_lt (v3 + (1 : Int32)) (fun x1 => k4 v1 v2 x1 s0)
set_option maxHeartbeats 4000000 in
set_option maxRecDepth 100000 in
theorem t_X11_changed_36 {l : Launch} {G : ae_G} (d : Nat) (k4 : Int32 → Int32 → Int32 → ae_S → Option (Int32 × ae_S)) {rr : Int32} {ss : ae_S} (hk4 : ∀ (v1 : Int32) (v2 : Int32) (v3 : Int32) (s0 : ae_S), k4 v1 v2 v3 s0 = some (rr, ss) → ae_T l G (d + 1) mX11_changed (ae_Po (some (ae_i rr)) ss) 4 [(0, ae_r (some (0, 0))), (1, ae_i v1), (2, ae_i v2), (3, ae_i v3)] [] s0) (v1 : Int32) (v2 : Int32) (v3 : Int32) (s0 : ae_S) (hF : F_X11_changed_36 k4 v1 v2 v3 s0 = some (rr, ss)) : ae_T l G (d + 1) mX11_changed (ae_Po (some (ae_i rr)) ss) 36 [(0, ae_r (some (0, 0))), (1, ae_i v1), (2, ae_i v2), (3, ae_i v3)] [] s0 := by
  unfold F_X11_changed_36 at hF
  obtain ⟨x1, hx1, hF2⟩ := ae_ltI hF
  refine ae_iinc (lv' := [(3, ae_i x1), (0, ae_r (some (0, 0))), (1, ae_i v1), (2, ae_i v2)]) 3 (1 : Int32) dX11_changed_36 rfl (by decide) (by decide) (by rw [hx1]; rfl) ?_
  refine ae_goto 4 dX11_changed_39 rfl ?_
  refine ae_pick (lv' := [(0, ae_r (some (0, 0))), (1, ae_i v1), (2, ae_i v2), (3, ae_i x1)]) [1, 2, 3, 0] rfl ?_
  exact hk4 v1 v2 x1 s0 hF2
def F_X11_changed_4 : Nat → Int32 → Int32 → Int32 → ae_S → Option (Int32 × ae_S)
  | 0, _, _, _, _ => none
  | n + 1, v1, v2, v3, s0 => ae_bd (F_X0_size s0) (fun (r3 : Int32) s4 => if r3 ≤ v3 then (if v1 = (-1 : Int32) then (F_X11_changed_52 v2 s4) else (F_X11_changed_52 (-1 : Int32) s4)) else (ae_bd (F_X0_differs v3 s4) (fun (r11 : Int32) s12 => if r11 = 0 then (F_X11_changed_36 (F_X11_changed_4 n) v1 v2 v3 s12) else (if v2 = v1 then (some (v3, s12)) else (ae_lt (v2 + (1 : Int32)) (fun x19 => F_X11_changed_36 (F_X11_changed_4 n) v1 x19 v3 s12))))))
set_option maxHeartbeats 4000000 in
set_option maxRecDepth 100000 in
theorem t_X11_changed_4 {l : Launch} {G : ae_G} (d : Nat) {rr : Int32} {ss : ae_S} : ∀ (n : Nat) (v1 : Int32) (v2 : Int32) (v3 : Int32) (s0 : ae_S), F_X11_changed_4 n v1 v2 v3 s0 = some (rr, ss) → ae_T l G (d + 1) mX11_changed (ae_Po (some (ae_i rr)) ss) 4 [(0, ae_r (some (0, 0))), (1, ae_i v1), (2, ae_i v2), (3, ae_i v3)] [] s0 := by
  intro n
  induction n with
  | zero =>
    intro v1 v2 v3 s0 hF
    exact absurd (show (none : Option (Int32 × ae_S)) = some (rr, ss) from hF) (by simp)
  | succ n ih =>
    intro v1 v2 v3 s0 hF
    unfold F_X11_changed_4 at hF
    refine ae_iload_n 3 dX11_changed_4 rfl ?_
    refine ae_aload_n 0 dX11_changed_5 rfl ?_
    refine ae_getO (q := (0, 0)) (some (3, 0)) dX11_changed_6 fl_RX11_26 rfl rfl rfl ?_
    obtain ⟨r3, s4, hc5, hF6⟩ := ae_bdI hF
    refine ae_cV1 (q := (3, 0)) (As := []) dX11_changed_9 ww_473 vy_X0_size rfl rfl rfl rfl rfl (Nat.le_of_ble_eq_true rfl) (c_X0_size d hc5) ?_
    refine ae_icmp_ge 42 dX11_changed_12 rfl (fun hb7 => ?_) (fun hb7 => ?_)
    · have hF8 := ae_ifT hb7 hF6
      refine ae_iload_n 1 dX11_changed_42 rfl ?_
      refine ae_iconst (-1 : Int32) dX11_changed_43 (by decide) ?_
      refine ae_icmp_ne 51 dX11_changed_44 rfl (fun hb9 => ?_) (fun hb9 => ?_)
      · have hF10 := ae_ifF hb9 hF8
        refine ae_iconst (-1 : Int32) dX11_changed_51 (by decide) ?_
        refine ae_pick (lv' := []) [] rfl ?_
        exact t_X11_changed_52 d (-1 : Int32) s4 hF10
      · have hF10 := ae_ifT hb9 hF8
        refine ae_iload_n 2 dX11_changed_47 rfl ?_
        refine ae_goto 52 dX11_changed_48 rfl ?_
        refine ae_pick (lv' := []) [] rfl ?_
        exact t_X11_changed_52 d v2 s4 hF10
    · have hF8 := ae_ifF hb7 hF6
      refine ae_aload_n 0 dX11_changed_15 rfl ?_
      refine ae_getO (q := (0, 0)) (some (3, 0)) dX11_changed_16 fl_RX11_26 rfl rfl rfl ?_
      refine ae_iload_n 3 dX11_changed_19 rfl ?_
      obtain ⟨r11, s12, hc13, hF14⟩ := ae_bdI hF8
      refine ae_cV1 (q := (3, 0)) (As := [ae_i v3]) dX11_changed_20 ww_1125 vy_X0_differs rfl rfl rfl rfl rfl (Nat.le_of_ble_eq_true rfl) (c_X0_differs d hc13) ?_
      refine ae_if_eq 36 dX11_changed_23 rfl (fun hb15 => ?_) (fun hb15 => ?_)
      · have hF16 := ae_ifT hb15 hF14
        refine ae_pick (lv' := [(0, ae_r (some (0, 0))), (1, ae_i v1), (2, ae_i v2), (3, ae_i v3)]) [0, 1, 2, 3] rfl ?_
        exact t_X11_changed_36 d (F_X11_changed_4 n) ih v1 v2 v3 s12 hF16
      · have hF16 := ae_ifF hb15 hF14
        refine ae_iload_n 2 dX11_changed_26 rfl ?_
        refine ae_iload_n 1 dX11_changed_27 rfl ?_
        refine ae_icmp_ne 33 dX11_changed_28 rfl (fun hb17 => ?_) (fun hb17 => ?_)
        · have hF18 := ae_ifF hb17 hF16
          obtain ⟨x19, hx19, hF20⟩ := ae_ltI hF18
          refine ae_iinc (lv' := [(2, ae_i x19), (0, ae_r (some (0, 0))), (1, ae_i v1), (3, ae_i v3)]) 2 (1 : Int32) dX11_changed_33 rfl (by decide) (by decide) (by rw [hx19]; rfl) ?_
          refine ae_pick (lv' := [(0, ae_r (some (0, 0))), (1, ae_i v1), (2, ae_i x19), (3, ae_i v3)]) [1, 2, 0, 3] rfl ?_
          exact t_X11_changed_36 d (F_X11_changed_4 n) ih v1 x19 v3 s12 hF20
        · have hF18 := ae_ifT hb17 hF16
          refine ae_iload_n 3 dX11_changed_31 rfl ?_
          obtain ⟨rfl, rfl⟩ := ae_retI hF18
          exact ae_iret dX11_changed_32 rfl rfl ⟨rfl, rfl⟩
def F_X11_changed (v1 : Int32) (s0 : ae_S) : Option (Int32 × ae_S) := F_X11_changed_4 ae_fu v1 (0 : Int32) (0 : Int32) s0
set_option maxHeartbeats 4000000 in
set_option maxRecDepth 100000 in
theorem c_X11_changed {l : Launch} {G : ae_G} (d : Nat) {v1 : Int32} {s0 ss : ae_S} {rr : Int32} (hF : F_X11_changed v1 s0 = some (rr, ss)) : ae_Met l G (d + 1) yX11_changed mX11_changed [ae_r (some (0, 0)), ae_i v1] s0 (ae_Po (some (ae_i rr)) ss) := by
  refine ae_enter (by decide) rfl (Nat.le_of_ble_eq_true rfl) ?_
  show ae_T l G (d + 1) mX11_changed (ae_Po (some (ae_i rr)) ss) 0 [(0, ae_r (some (0, 0))), (1, ae_i v1)] [] s0
  unfold F_X11_changed at hF
  refine ae_iconst (0 : Int32) dX11_changed_0 (by decide) ?_
  refine ae_istore_n (lv' := [(2, ae_i (0 : Int32)), (0, ae_r (some (0, 0))), (1, ae_i v1)]) dX11_changed_1 (by decide) rfl ?_
  refine ae_iconst (0 : Int32) dX11_changed_2 (by decide) ?_
  refine ae_istore_n (lv' := [(3, ae_i (0 : Int32)), (2, ae_i (0 : Int32)), (0, ae_r (some (0, 0))), (1, ae_i v1)]) dX11_changed_3 (by decide) rfl ?_
  refine ae_pick (lv' := [(0, ae_r (some (0, 0))), (1, ae_i v1), (2, ae_i (0 : Int32)), (3, ae_i (0 : Int32))]) [2, 3, 1, 0] rfl ?_
  exact t_X11_changed_4 d ae_fu v1 (0 : Int32) (0 : Int32) s0 hF
abbrev mX11_seen : ae_M := (RX11, cX11_seen, 6, some .int)
theorem vy_X11_seen : ae_VY yX11_seen mX11_seen 2 := ⟨ww_1130, ww_1131, ww_1, ww_1132, ⟨by decide, by decide, by decide +kernel⟩, by decide⟩
theorem dX11_seen_0 : decode cX11_seen 0 = .ok (.aload_n 0, 1) := by decide +kernel
theorem dX11_seen_1 : decode cX11_seen 1 = .ok (.getfield 33, 3) := by decide +kernel
theorem dX11_seen_4 : decode cX11_seen 4 = .ok (.iload_n 1, 1) := by decide +kernel
theorem dX11_seen_5 : decode cX11_seen 5 = .ok (.invokevirtual 138, 3) := by decide +kernel
theorem dX11_seen_8 : decode cX11_seen 8 = .ok (.astore_n 3, 1) := by decide +kernel
theorem dX11_seen_9 : decode cX11_seen 9 = .ok (.aload_n 3, 1) := by decide +kernel
theorem dX11_seen_10 : decode cX11_seen 10 = .ok (.ifnonnull 5, 3) := by decide +kernel
theorem dX11_seen_13 : decode cX11_seen 13 = .ok (.iconst (-1), 1) := by decide +kernel
theorem dX11_seen_14 : decode cX11_seen 14 = .ok (.ireturn, 1) := by decide +kernel
theorem dX11_seen_15 : decode cX11_seen 15 = .ok (.iconst 0, 1) := by decide +kernel
theorem dX11_seen_16 : decode cX11_seen 16 = .ok (.istore 4, 2) := by decide +kernel
theorem dX11_seen_18 : decode cX11_seen 18 = .ok (.iconst 0, 1) := by decide +kernel
theorem dX11_seen_19 : decode cX11_seen 19 = .ok (.istore 5, 2) := by decide +kernel
theorem dX11_seen_21 : decode cX11_seen 21 = .ok (.iload 5, 2) := by decide +kernel
theorem dX11_seen_23 : decode cX11_seen 23 = .ok (.aload_n 3, 1) := by decide +kernel
theorem dX11_seen_24 : decode cX11_seen 24 = .ok (.getfield 216, 3) := by decide +kernel
theorem dX11_seen_27 : decode cX11_seen 27 = .ok (.if_icmp .ge 34, 3) := by decide +kernel
theorem dX11_seen_30 : decode cX11_seen 30 = .ok (.aload_n 3, 1) := by decide +kernel
theorem dX11_seen_31 : decode cX11_seen 31 = .ok (.aload_n 0, 1) := by decide +kernel
theorem dX11_seen_32 : decode cX11_seen 32 = .ok (.getfield 26, 3) := by decide +kernel
theorem dX11_seen_35 : decode cX11_seen 35 = .ok (.iload 5, 2) := by decide +kernel
theorem dX11_seen_37 : decode cX11_seen 37 = .ok (.invokevirtual 219, 3) := by decide +kernel
theorem dX11_seen_40 : decode cX11_seen 40 = .ok (.ifCond .eq 15, 3) := by decide +kernel
theorem dX11_seen_43 : decode cX11_seen 43 = .ok (.iload 4, 2) := by decide +kernel
theorem dX11_seen_45 : decode cX11_seen 45 = .ok (.iload_n 2, 1) := by decide +kernel
theorem dX11_seen_46 : decode cX11_seen 46 = .ok (.if_icmp .ne 6, 3) := by decide +kernel
theorem dX11_seen_49 : decode cX11_seen 49 = .ok (.iload 5, 2) := by decide +kernel
theorem dX11_seen_51 : decode cX11_seen 51 = .ok (.ireturn, 1) := by decide +kernel
theorem dX11_seen_52 : decode cX11_seen 52 = .ok (.iinc 4 1, 3) := by decide +kernel
theorem dX11_seen_55 : decode cX11_seen 55 = .ok (.iinc 5 1, 3) := by decide +kernel
theorem dX11_seen_58 : decode cX11_seen 58 = .ok (.goto (-37), 3) := by decide +kernel
theorem dX11_seen_61 : decode cX11_seen 61 = .ok (.iload_n 2, 1) := by decide +kernel
theorem dX11_seen_62 : decode cX11_seen 62 = .ok (.iconst (-1), 1) := by decide +kernel
theorem dX11_seen_63 : decode cX11_seen 63 = .ok (.if_icmp .ne 8, 3) := by decide +kernel
theorem dX11_seen_66 : decode cX11_seen 66 = .ok (.iload 4, 2) := by decide +kernel
theorem dX11_seen_68 : decode cX11_seen 68 = .ok (.goto 4, 3) := by decide +kernel
theorem dX11_seen_71 : decode cX11_seen 71 = .ok (.iconst (-1), 1) := by decide +kernel
theorem dX11_seen_72 : decode cX11_seen 72 = .ok (.ireturn, 1) := by decide +kernel
def F_X11_seen_72 (t0 : Int32) (s0 : ae_S) : Option (Int32 × ae_S) := some (t0, s0)
set_option maxHeartbeats 4000000 in
set_option maxRecDepth 100000 in
theorem t_X11_seen_72 {l : Launch} {G : ae_G} (d : Nat) {rr : Int32} {ss : ae_S} (t0 : Int32) (s0 : ae_S) (hF : F_X11_seen_72 t0 s0 = some (rr, ss)) : ae_T l G (d + 2) mX11_seen (ae_Po (some (ae_i rr)) ss) 72 [] [ae_i t0] s0 := by
  unfold F_X11_seen_72 at hF
  obtain ⟨rfl, rfl⟩ := ae_retI hF
  exact ae_iret dX11_seen_72 rfl rfl ⟨rfl, rfl⟩
def F_X11_seen_55 (k21 : Int32 → Fin 32 → Int32 → Int32 → ae_S → Option (Int32 × ae_S)) (v2 : Int32) (i3 : Fin 32) (v4 : Int32) (v5 : Int32) (s0 : ae_S) : Option (Int32 × ae_S) := ae_lt (v5 + (1 : Int32)) (fun x1 => k21 v2 i3 v4 x1 s0)
set_option maxHeartbeats 4000000 in
set_option maxRecDepth 100000 in
theorem t_X11_seen_55 {l : Launch} {G : ae_G} (d : Nat) (k21 : Int32 → Fin 32 → Int32 → Int32 → ae_S → Option (Int32 × ae_S)) {rr : Int32} {ss : ae_S} (hk21 : ∀ (v2 : Int32) (i3 : Fin 32) (v4 : Int32) (v5 : Int32) (s0 : ae_S), k21 v2 i3 v4 v5 s0 = some (rr, ss) → ae_T l G (d + 2) mX11_seen (ae_Po (some (ae_i rr)) ss) 21 [(0, ae_r (some (0, 0))), (2, ae_i v2), (3, ae_r (some (8, i3))), (4, ae_i v4), (5, ae_i v5)] [] s0) (v2 : Int32) (i3 : Fin 32) (v4 : Int32) (v5 : Int32) (s0 : ae_S) (hF : F_X11_seen_55 k21 v2 i3 v4 v5 s0 = some (rr, ss)) : ae_T l G (d + 2) mX11_seen (ae_Po (some (ae_i rr)) ss) 55 [(0, ae_r (some (0, 0))), (2, ae_i v2), (3, ae_r (some (8, i3))), (4, ae_i v4), (5, ae_i v5)] [] s0 := by
  unfold F_X11_seen_55 at hF
  obtain ⟨x1, hx1, hF2⟩ := ae_ltI hF
  refine ae_iinc (lv' := [(5, ae_i x1), (0, ae_r (some (0, 0))), (2, ae_i v2), (3, ae_r (some (8, i3))), (4, ae_i v4)]) 4 (1 : Int32) dX11_seen_55 rfl (by decide) (by decide) (by rw [hx1]; rfl) ?_
  refine ae_goto 21 dX11_seen_58 rfl ?_
  refine ae_pick (lv' := [(0, ae_r (some (0, 0))), (2, ae_i v2), (3, ae_r (some (8, i3))), (4, ae_i v4), (5, ae_i x1)]) [1, 2, 3, 4, 0] rfl ?_
  exact hk21 v2 i3 v4 x1 s0 hF2
def F_X11_seen_21 : Nat → Int32 → Fin 32 → Int32 → Int32 → ae_S → Option (Int32 × ae_S)
  | 0, _, _, _, _, _ => none
  | n + 1, v2, i3, v4, v5, s0 => if (s0.1 8 i3 7) ≤ v5 then (if v2 = (-1 : Int32) then (F_X11_seen_72 v4 s0) else (F_X11_seen_72 (-1 : Int32) s0)) else (ae_bd (F_X9_differsAt i3 v5 s0) (fun (r7 : Int32) s8 => if r7 = 0 then (F_X11_seen_55 (F_X11_seen_21 n) v2 i3 v4 v5 s8) else (if v4 = v2 then (some (v5, s8)) else (ae_lt (v4 + (1 : Int32)) (fun x15 => F_X11_seen_55 (F_X11_seen_21 n) v2 i3 x15 v5 s8)))))
set_option maxHeartbeats 4000000 in
set_option maxRecDepth 100000 in
theorem t_X11_seen_21 {l : Launch} {G : ae_G} (d : Nat) {rr : Int32} {ss : ae_S} : ∀ (n : Nat) (v2 : Int32) (i3 : Fin 32) (v4 : Int32) (v5 : Int32) (s0 : ae_S), F_X11_seen_21 n v2 i3 v4 v5 s0 = some (rr, ss) → ae_T l G (d + 2) mX11_seen (ae_Po (some (ae_i rr)) ss) 21 [(0, ae_r (some (0, 0))), (2, ae_i v2), (3, ae_r (some (8, i3))), (4, ae_i v4), (5, ae_i v5)] [] s0 := by
  intro n
  induction n with
  | zero =>
    intro v2 i3 v4 v5 s0 hF
    exact absurd (show (none : Option (Int32 × ae_S)) = some (rr, ss) from hF) (by simp)
  | succ n ih =>
    intro v2 i3 v4 v5 s0 hF
    unfold F_X11_seen_21 at hF
    refine ae_iload 4 dX11_seen_21 rfl ?_
    refine ae_aload_n 2 dX11_seen_23 rfl ?_
    refine ae_getI (q := (8, i3)) dX11_seen_24 fl_RX11_216 rfl rfl ?_
    refine ae_icmp_ge 61 dX11_seen_27 rfl (fun hb3 => ?_) (fun hb3 => ?_)
    · have hF4 := ae_ifT hb3 hF
      refine ae_iload_n 1 dX11_seen_61 rfl ?_
      refine ae_iconst (-1 : Int32) dX11_seen_62 (by decide) ?_
      refine ae_icmp_ne 71 dX11_seen_63 rfl (fun hb5 => ?_) (fun hb5 => ?_)
      · have hF6 := ae_ifF hb5 hF4
        refine ae_iconst (-1 : Int32) dX11_seen_71 (by decide) ?_
        refine ae_pick (lv' := []) [] rfl ?_
        exact t_X11_seen_72 d (-1 : Int32) s0 hF6
      · have hF6 := ae_ifT hb5 hF4
        refine ae_iload 3 dX11_seen_66 rfl ?_
        refine ae_goto 72 dX11_seen_68 rfl ?_
        refine ae_pick (lv' := []) [] rfl ?_
        exact t_X11_seen_72 d v4 s0 hF6
    · have hF4 := ae_ifF hb3 hF
      refine ae_aload_n 2 dX11_seen_30 rfl ?_
      refine ae_aload_n 0 dX11_seen_31 rfl ?_
      refine ae_getO (q := (0, 0)) (some (3, 0)) dX11_seen_32 fl_RX11_26 rfl rfl rfl ?_
      refine ae_iload 4 dX11_seen_35 rfl ?_
      obtain ⟨r7, s8, hc9, hF10⟩ := ae_bdI hF4
      refine ae_cV1 (q := (8, i3)) (As := [ae_r (some (3, 0)), ae_i v5]) dX11_seen_37 ww_1133 vy_X9_differsAt rfl rfl rfl rfl rfl (Nat.le_of_ble_eq_true rfl) (c_X9_differsAt d hc9) ?_
      refine ae_if_eq 55 dX11_seen_40 rfl (fun hb11 => ?_) (fun hb11 => ?_)
      · have hF12 := ae_ifT hb11 hF10
        refine ae_pick (lv' := [(0, ae_r (some (0, 0))), (2, ae_i v2), (3, ae_r (some (8, i3))), (4, ae_i v4), (5, ae_i v5)]) [0, 1, 2, 3, 4] rfl ?_
        exact t_X11_seen_55 d (F_X11_seen_21 n) ih v2 i3 v4 v5 s8 hF12
      · have hF12 := ae_ifF hb11 hF10
        refine ae_iload 3 dX11_seen_43 rfl ?_
        refine ae_iload_n 1 dX11_seen_45 rfl ?_
        refine ae_icmp_ne 52 dX11_seen_46 rfl (fun hb13 => ?_) (fun hb13 => ?_)
        · have hF14 := ae_ifF hb13 hF12
          obtain ⟨x15, hx15, hF16⟩ := ae_ltI hF14
          refine ae_iinc (lv' := [(4, ae_i x15), (0, ae_r (some (0, 0))), (2, ae_i v2), (3, ae_r (some (8, i3))), (5, ae_i v5)]) 3 (1 : Int32) dX11_seen_52 rfl (by decide) (by decide) (by rw [hx15]; rfl) ?_
          refine ae_pick (lv' := [(0, ae_r (some (0, 0))), (2, ae_i v2), (3, ae_r (some (8, i3))), (4, ae_i x15), (5, ae_i v5)]) [1, 2, 3, 0, 4] rfl ?_
          exact t_X11_seen_55 d (F_X11_seen_21 n) ih v2 i3 x15 v5 s8 hF16
        · have hF14 := ae_ifT hb13 hF12
          refine ae_iload 4 dX11_seen_49 rfl ?_
          obtain ⟨rfl, rfl⟩ := ae_retI hF14
          exact ae_iret dX11_seen_51 rfl rfl ⟨rfl, rfl⟩
def F_X11_seen (v1 : Int32) (v2 : Int32) (s0 : ae_S) : Option (Int32 × ae_S) := ae_bd (F_X6_get v1 s0) (fun (r17 : Option (Fin 32)) s18 => ae_mo r17 (some ((-1 : Int32), s18)) (fun i21 => F_X11_seen_21 ae_fu v2 i21 (0 : Int32) (0 : Int32) s18))
set_option maxHeartbeats 4000000 in
set_option maxRecDepth 100000 in
theorem c_X11_seen {l : Launch} {G : ae_G} (d : Nat) {v1 : Int32} {v2 : Int32} {s0 ss : ae_S} {rr : Int32} (hF : F_X11_seen v1 v2 s0 = some (rr, ss)) : ae_Met l G (d + 2) yX11_seen mX11_seen [ae_r (some (0, 0)), ae_i v1, ae_i v2] s0 (ae_Po (some (ae_i rr)) ss) := by
  refine ae_enter (by decide) rfl (Nat.le_of_ble_eq_true rfl) ?_
  show ae_T l G (d + 2) mX11_seen (ae_Po (some (ae_i rr)) ss) 0 [(0, ae_r (some (0, 0))), (1, ae_i v1), (2, ae_i v2)] [] s0
  unfold F_X11_seen at hF
  refine ae_aload_n 0 dX11_seen_0 rfl ?_
  refine ae_getO (q := (0, 0)) (some (6, 0)) dX11_seen_1 fl_RX11_33 rfl rfl rfl ?_
  refine ae_iload_n 1 dX11_seen_4 rfl ?_
  obtain ⟨r17, s18, hc19, hF20⟩ := ae_bdI hF
  refine ae_cV1 (q := (6, 0)) (As := [ae_i v1]) dX11_seen_5 ww_1057 vy_X6_get rfl rfl rfl rfl rfl (Nat.le_of_ble_eq_true rfl) (c_X6_get (d + 1) hc19) ?_
  refine ae_astore_n (lv' := [(3, ae_r (ae_ro 8 r17)), (0, ae_r (some (0, 0))), (1, ae_i v1), (2, ae_i v2)]) dX11_seen_8 (by decide) rfl ?_
  refine ae_aload_n 0 dX11_seen_9 rfl ?_
  cases r17 with
  | none =>
    have hF22 := ae_moN hF20
    refine ae_ifnonnull 15 dX11_seen_10 rfl (fun h => absurd rfl h) (fun _ => ?_)
    refine ae_iconst (-1 : Int32) dX11_seen_13 (by decide) ?_
    obtain ⟨rfl, rfl⟩ := ae_retI hF22
    exact ae_iret dX11_seen_14 rfl rfl ⟨rfl, rfl⟩
  | some i21 =>
    have hF22 := ae_moS hF20
    refine ae_ifnonnull 15 dX11_seen_10 rfl (fun _ => ?_) (fun h => absurd h (by simp [ae_ro]))
    refine ae_iconst (0 : Int32) dX11_seen_15 (by decide) ?_
    refine ae_istore (lv' := [(4, ae_i (0 : Int32)), (3, ae_r (some (8, i21))), (0, ae_r (some (0, 0))), (1, ae_i v1), (2, ae_i v2)]) dX11_seen_16 (by decide) rfl ?_
    refine ae_iconst (0 : Int32) dX11_seen_18 (by decide) ?_
    refine ae_istore (lv' := [(5, ae_i (0 : Int32)), (4, ae_i (0 : Int32)), (3, ae_r (some (8, i21))), (0, ae_r (some (0, 0))), (1, ae_i v1), (2, ae_i v2)]) dX11_seen_19 (by decide) rfl ?_
    refine ae_pick (lv' := [(0, ae_r (some (0, 0))), (2, ae_i v2), (3, ae_r (some (8, i21))), (4, ae_i (0 : Int32)), (5, ae_i (0 : Int32))]) [3, 5, 2, 1, 0] rfl ?_
    exact t_X11_seen_21 d ae_fu v2 i21 (0 : Int32) (0 : Int32) s18 hF22
abbrev mX11_over : ae_M := (RX11, cX11_over, 7, some .int)
theorem vy_X11_over : ae_VY yX11_over mX11_over 2 := ⟨ww_1139, ww_1140, ww_1, ww_1141, ⟨by decide, by decide, by decide +kernel⟩, by decide⟩
theorem dX11_over_0 : decode cX11_over 0 = .ok (.aload_n 0, 1) := by decide +kernel
theorem dX11_over_1 : decode cX11_over 1 = .ok (.getfield 33, 3) := by decide +kernel
theorem dX11_over_4 : decode cX11_over 4 = .ok (.iload_n 1, 1) := by decide +kernel
theorem dX11_over_5 : decode cX11_over 5 = .ok (.invokevirtual 138, 3) := by decide +kernel
theorem dX11_over_8 : decode cX11_over 8 = .ok (.astore_n 3, 1) := by decide +kernel
theorem dX11_over_9 : decode cX11_over 9 = .ok (.aload_n 0, 1) := by decide +kernel
theorem dX11_over_10 : decode cX11_over 10 = .ok (.getfield 33, 3) := by decide +kernel
theorem dX11_over_13 : decode cX11_over 13 = .ok (.iload_n 2, 1) := by decide +kernel
theorem dX11_over_14 : decode cX11_over 14 = .ok (.invokevirtual 138, 3) := by decide +kernel
theorem dX11_over_17 : decode cX11_over 17 = .ok (.astore 4, 2) := by decide +kernel
theorem dX11_over_19 : decode cX11_over 19 = .ok (.aload_n 3, 1) := by decide +kernel
theorem dX11_over_20 : decode cX11_over 20 = .ok (.ifnull 8, 3) := by decide +kernel
theorem dX11_over_23 : decode cX11_over 23 = .ok (.aload 4, 2) := by decide +kernel
theorem dX11_over_25 : decode cX11_over 25 = .ok (.ifnonnull 5, 3) := by decide +kernel
theorem dX11_over_28 : decode cX11_over 28 = .ok (.iconst (-1), 1) := by decide +kernel
theorem dX11_over_29 : decode cX11_over 29 = .ok (.ireturn, 1) := by decide +kernel
theorem dX11_over_30 : decode cX11_over 30 = .ok (.iconst 0, 1) := by decide +kernel
theorem dX11_over_31 : decode cX11_over 31 = .ok (.istore 5, 2) := by decide +kernel
theorem dX11_over_33 : decode cX11_over 33 = .ok (.iconst 0, 1) := by decide +kernel
theorem dX11_over_34 : decode cX11_over 34 = .ok (.istore 6, 2) := by decide +kernel
theorem dX11_over_36 : decode cX11_over 36 = .ok (.iload 6, 2) := by decide +kernel
theorem dX11_over_38 : decode cX11_over 38 = .ok (.aload_n 0, 1) := by decide +kernel
theorem dX11_over_39 : decode cX11_over 39 = .ok (.getfield 26, 3) := by decide +kernel
theorem dX11_over_42 : decode cX11_over 42 = .ok (.invokevirtual 102, 3) := by decide +kernel
theorem dX11_over_45 : decode cX11_over 45 = .ok (.if_icmp .ge 31, 3) := by decide +kernel
theorem dX11_over_48 : decode cX11_over 48 = .ok (.aload_n 3, 1) := by decide +kernel
theorem dX11_over_49 : decode cX11_over 49 = .ok (.iload 6, 2) := by decide +kernel
theorem dX11_over_51 : decode cX11_over 51 = .ok (.invokevirtual 223, 3) := by decide +kernel
theorem dX11_over_54 : decode cX11_over 54 = .ok (.ifCond .eq 16, 3) := by decide +kernel
theorem dX11_over_57 : decode cX11_over 57 = .ok (.aload 4, 2) := by decide +kernel
theorem dX11_over_59 : decode cX11_over 59 = .ok (.iload 6, 2) := by decide +kernel
theorem dX11_over_61 : decode cX11_over 61 = .ok (.invokevirtual 223, 3) := by decide +kernel
theorem dX11_over_64 : decode cX11_over 64 = .ok (.ifCond .eq 6, 3) := by decide +kernel
theorem dX11_over_67 : decode cX11_over 67 = .ok (.iinc 5 1, 3) := by decide +kernel
theorem dX11_over_70 : decode cX11_over 70 = .ok (.iinc 6 1, 3) := by decide +kernel
theorem dX11_over_73 : decode cX11_over 73 = .ok (.goto (-37), 3) := by decide +kernel
theorem dX11_over_76 : decode cX11_over 76 = .ok (.iload 5, 2) := by decide +kernel
theorem dX11_over_78 : decode cX11_over 78 = .ok (.ireturn, 1) := by decide +kernel
def F_X11_over_28 (s0 : ae_S) : Option (Int32 × ae_S) := some ((-1 : Int32), s0)
set_option maxHeartbeats 4000000 in
set_option maxRecDepth 100000 in
theorem t_X11_over_28 {l : Launch} {G : ae_G} (d : Nat) {rr : Int32} {ss : ae_S} (s0 : ae_S) (hF : F_X11_over_28 s0 = some (rr, ss)) : ae_T l G (d + 2) mX11_over (ae_Po (some (ae_i rr)) ss) 28 [] [] s0 := by
  unfold F_X11_over_28 at hF
  refine ae_iconst (-1 : Int32) dX11_over_28 (by decide) ?_
  obtain ⟨rfl, rfl⟩ := ae_retI hF
  exact ae_iret dX11_over_29 rfl rfl ⟨rfl, rfl⟩
def F_X11_over_70 (k36 : Fin 32 → Fin 32 → Int32 → Int32 → ae_S → Option (Int32 × ae_S)) (i3 : Fin 32) (i4 : Fin 32) (v5 : Int32) (v6 : Int32) (s0 : ae_S) : Option (Int32 × ae_S) := ae_lt (v6 + (1 : Int32)) (fun x1 => k36 i3 i4 v5 x1 s0)
set_option maxHeartbeats 4000000 in
set_option maxRecDepth 100000 in
theorem t_X11_over_70 {l : Launch} {G : ae_G} (d : Nat) (k36 : Fin 32 → Fin 32 → Int32 → Int32 → ae_S → Option (Int32 × ae_S)) {rr : Int32} {ss : ae_S} (hk36 : ∀ (i3 : Fin 32) (i4 : Fin 32) (v5 : Int32) (v6 : Int32) (s0 : ae_S), k36 i3 i4 v5 v6 s0 = some (rr, ss) → ae_T l G (d + 2) mX11_over (ae_Po (some (ae_i rr)) ss) 36 [(0, ae_r (some (0, 0))), (3, ae_r (some (8, i3))), (4, ae_r (some (8, i4))), (5, ae_i v5), (6, ae_i v6)] [] s0) (i3 : Fin 32) (i4 : Fin 32) (v5 : Int32) (v6 : Int32) (s0 : ae_S) (hF : F_X11_over_70 k36 i3 i4 v5 v6 s0 = some (rr, ss)) : ae_T l G (d + 2) mX11_over (ae_Po (some (ae_i rr)) ss) 70 [(0, ae_r (some (0, 0))), (3, ae_r (some (8, i3))), (4, ae_r (some (8, i4))), (5, ae_i v5), (6, ae_i v6)] [] s0 := by
  unfold F_X11_over_70 at hF
  obtain ⟨x1, hx1, hF2⟩ := ae_ltI hF
  refine ae_iinc (lv' := [(6, ae_i x1), (0, ae_r (some (0, 0))), (3, ae_r (some (8, i3))), (4, ae_r (some (8, i4))), (5, ae_i v5)]) 4 (1 : Int32) dX11_over_70 rfl (by decide) (by decide) (by rw [hx1]; rfl) ?_
  refine ae_goto 36 dX11_over_73 rfl ?_
  refine ae_pick (lv' := [(0, ae_r (some (0, 0))), (3, ae_r (some (8, i3))), (4, ae_r (some (8, i4))), (5, ae_i v5), (6, ae_i x1)]) [1, 2, 3, 4, 0] rfl ?_
  exact hk36 i3 i4 v5 x1 s0 hF2
def F_X11_over_36 : Nat → Fin 32 → Fin 32 → Int32 → Int32 → ae_S → Option (Int32 × ae_S)
  | 0, _, _, _, _, _ => none
  | n + 1, i3, i4, v5, v6, s0 => ae_bd (F_X0_size s0) (fun (r3 : Int32) s4 => if r3 ≤ v6 then (some (v5, s4)) else (ae_bd (F_X9_covers i3 v6 s4) (fun (r9 : Int32) s10 => if r9 = 0 then (F_X11_over_70 (F_X11_over_36 n) i3 i4 v5 v6 s10) else (ae_bd (F_X9_covers i4 v6 s10) (fun (r15 : Int32) s16 => if r15 = 0 then (F_X11_over_70 (F_X11_over_36 n) i3 i4 v5 v6 s16) else (ae_lt (v5 + (1 : Int32)) (fun x21 => F_X11_over_70 (F_X11_over_36 n) i3 i4 x21 v6 s16)))))))
set_option maxHeartbeats 4000000 in
set_option maxRecDepth 100000 in
theorem t_X11_over_36 {l : Launch} {G : ae_G} (d : Nat) {rr : Int32} {ss : ae_S} : ∀ (n : Nat) (i3 : Fin 32) (i4 : Fin 32) (v5 : Int32) (v6 : Int32) (s0 : ae_S), F_X11_over_36 n i3 i4 v5 v6 s0 = some (rr, ss) → ae_T l G (d + 2) mX11_over (ae_Po (some (ae_i rr)) ss) 36 [(0, ae_r (some (0, 0))), (3, ae_r (some (8, i3))), (4, ae_r (some (8, i4))), (5, ae_i v5), (6, ae_i v6)] [] s0 := by
  intro n
  induction n with
  | zero =>
    intro i3 i4 v5 v6 s0 hF
    exact absurd (show (none : Option (Int32 × ae_S)) = some (rr, ss) from hF) (by simp)
  | succ n ih =>
    intro i3 i4 v5 v6 s0 hF
    unfold F_X11_over_36 at hF
    refine ae_iload 4 dX11_over_36 rfl ?_
    refine ae_aload_n 0 dX11_over_38 rfl ?_
    refine ae_getO (q := (0, 0)) (some (3, 0)) dX11_over_39 fl_RX11_26 rfl rfl rfl ?_
    obtain ⟨r3, s4, hc5, hF6⟩ := ae_bdI hF
    refine ae_cV1 (q := (3, 0)) (As := []) dX11_over_42 ww_473 vy_X0_size rfl rfl rfl rfl rfl (Nat.le_of_ble_eq_true rfl) (c_X0_size (d + 1) hc5) ?_
    refine ae_icmp_ge 76 dX11_over_45 rfl (fun hb7 => ?_) (fun hb7 => ?_)
    · have hF8 := ae_ifT hb7 hF6
      refine ae_iload 3 dX11_over_76 rfl ?_
      obtain ⟨rfl, rfl⟩ := ae_retI hF8
      exact ae_iret dX11_over_78 rfl rfl ⟨rfl, rfl⟩
    · have hF8 := ae_ifF hb7 hF6
      refine ae_aload_n 1 dX11_over_48 rfl ?_
      refine ae_iload 4 dX11_over_49 rfl ?_
      obtain ⟨r9, s10, hc11, hF12⟩ := ae_bdI hF8
      refine ae_cV1 (q := (8, i3)) (As := [ae_i v6]) dX11_over_51 ww_1142 vy_X9_covers rfl rfl rfl rfl rfl (Nat.le_of_ble_eq_true rfl) (c_X9_covers d hc11) ?_
      refine ae_if_eq 70 dX11_over_54 rfl (fun hb13 => ?_) (fun hb13 => ?_)
      · have hF14 := ae_ifT hb13 hF12
        refine ae_pick (lv' := [(0, ae_r (some (0, 0))), (3, ae_r (some (8, i3))), (4, ae_r (some (8, i4))), (5, ae_i v5), (6, ae_i v6)]) [0, 1, 2, 3, 4] rfl ?_
        exact t_X11_over_70 d (F_X11_over_36 n) ih i3 i4 v5 v6 s10 hF14
      · have hF14 := ae_ifF hb13 hF12
        refine ae_aload 2 dX11_over_57 rfl ?_
        refine ae_iload 4 dX11_over_59 rfl ?_
        obtain ⟨r15, s16, hc17, hF18⟩ := ae_bdI hF14
        refine ae_cV1 (q := (8, i4)) (As := [ae_i v6]) dX11_over_61 ww_1142 vy_X9_covers rfl rfl rfl rfl rfl (Nat.le_of_ble_eq_true rfl) (c_X9_covers d hc17) ?_
        refine ae_if_eq 70 dX11_over_64 rfl (fun hb19 => ?_) (fun hb19 => ?_)
        · have hF20 := ae_ifT hb19 hF18
          refine ae_pick (lv' := [(0, ae_r (some (0, 0))), (3, ae_r (some (8, i3))), (4, ae_r (some (8, i4))), (5, ae_i v5), (6, ae_i v6)]) [0, 1, 2, 3, 4] rfl ?_
          exact t_X11_over_70 d (F_X11_over_36 n) ih i3 i4 v5 v6 s16 hF20
        · have hF20 := ae_ifF hb19 hF18
          obtain ⟨x21, hx21, hF22⟩ := ae_ltI hF20
          refine ae_iinc (lv' := [(5, ae_i x21), (0, ae_r (some (0, 0))), (3, ae_r (some (8, i3))), (4, ae_r (some (8, i4))), (6, ae_i v6)]) 3 (1 : Int32) dX11_over_67 rfl (by decide) (by decide) (by rw [hx21]; rfl) ?_
          refine ae_pick (lv' := [(0, ae_r (some (0, 0))), (3, ae_r (some (8, i3))), (4, ae_r (some (8, i4))), (5, ae_i x21), (6, ae_i v6)]) [1, 2, 3, 0, 4] rfl ?_
          exact t_X11_over_70 d (F_X11_over_36 n) ih i3 i4 x21 v6 s16 hF22
def F_X11_over (v1 : Int32) (v2 : Int32) (s0 : ae_S) : Option (Int32 × ae_S) := ae_bd (F_X6_get v1 s0) (fun (r23 : Option (Fin 32)) s24 => ae_bd (F_X6_get v2 s24) (fun (r27 : Option (Fin 32)) s28 => ae_mo r23 (F_X11_over_28 s28) (fun i31 => ae_mo r27 (F_X11_over_28 s28) (fun i33 => F_X11_over_36 ae_fu i31 i33 (0 : Int32) (0 : Int32) s28))))
set_option maxHeartbeats 4000000 in
set_option maxRecDepth 100000 in
theorem c_X11_over {l : Launch} {G : ae_G} (d : Nat) {v1 : Int32} {v2 : Int32} {s0 ss : ae_S} {rr : Int32} (hF : F_X11_over v1 v2 s0 = some (rr, ss)) : ae_Met l G (d + 2) yX11_over mX11_over [ae_r (some (0, 0)), ae_i v1, ae_i v2] s0 (ae_Po (some (ae_i rr)) ss) := by
  refine ae_enter (by decide) rfl (Nat.le_of_ble_eq_true rfl) ?_
  show ae_T l G (d + 2) mX11_over (ae_Po (some (ae_i rr)) ss) 0 [(0, ae_r (some (0, 0))), (1, ae_i v1), (2, ae_i v2)] [] s0
  unfold F_X11_over at hF
  refine ae_aload_n 0 dX11_over_0 rfl ?_
  refine ae_getO (q := (0, 0)) (some (6, 0)) dX11_over_1 fl_RX11_33 rfl rfl rfl ?_
  refine ae_iload_n 1 dX11_over_4 rfl ?_
  obtain ⟨r23, s24, hc25, hF26⟩ := ae_bdI hF
  refine ae_cV1 (q := (6, 0)) (As := [ae_i v1]) dX11_over_5 ww_1057 vy_X6_get rfl rfl rfl rfl rfl (Nat.le_of_ble_eq_true rfl) (c_X6_get (d + 1) hc25) ?_
  refine ae_astore_n (lv' := [(3, ae_r (ae_ro 8 r23)), (0, ae_r (some (0, 0))), (1, ae_i v1), (2, ae_i v2)]) dX11_over_8 (by decide) rfl ?_
  refine ae_aload_n 1 dX11_over_9 rfl ?_
  refine ae_getO (q := (0, 0)) (some (6, 0)) dX11_over_10 fl_RX11_33 rfl rfl rfl ?_
  refine ae_iload_n 3 dX11_over_13 rfl ?_
  obtain ⟨r27, s28, hc29, hF30⟩ := ae_bdI hF26
  refine ae_cV1 (q := (6, 0)) (As := [ae_i v2]) dX11_over_14 ww_1057 vy_X6_get rfl rfl rfl rfl rfl (Nat.le_of_ble_eq_true rfl) (c_X6_get (d + 1) hc29) ?_
  refine ae_astore (lv' := [(4, ae_r (ae_ro 8 r27)), (3, ae_r (ae_ro 8 r23)), (0, ae_r (some (0, 0))), (1, ae_i v1), (2, ae_i v2)]) dX11_over_17 (by decide) rfl ?_
  refine ae_aload_n 1 dX11_over_19 rfl ?_
  cases r23 with
  | none =>
    have hF32 := ae_moN hF30
    refine ae_ifnull 28 dX11_over_20 rfl (fun _ => ?_) (fun h => absurd rfl h)
    refine ae_pick (lv' := []) [] rfl ?_
    exact t_X11_over_28 d s28 hF32
  | some i31 =>
    have hF32 := ae_moS hF30
    refine ae_ifnull 28 dX11_over_20 rfl (fun h => absurd h (by simp [ae_ro])) (fun _ => ?_)
    refine ae_aload 0 dX11_over_23 rfl ?_
    cases r27 with
    | none =>
      have hF34 := ae_moN hF32
      refine ae_ifnonnull 30 dX11_over_25 rfl (fun h => absurd rfl h) (fun _ => ?_)
      refine ae_pick (lv' := []) [] rfl ?_
      exact t_X11_over_28 d s28 hF34
    | some i33 =>
      have hF34 := ae_moS hF32
      refine ae_ifnonnull 30 dX11_over_25 rfl (fun _ => ?_) (fun h => absurd h (by simp [ae_ro]))
      refine ae_iconst (0 : Int32) dX11_over_30 (by decide) ?_
      refine ae_istore (lv' := [(5, ae_i (0 : Int32)), (4, ae_r (some (8, i33))), (3, ae_r (some (8, i31))), (0, ae_r (some (0, 0))), (1, ae_i v1), (2, ae_i v2)]) dX11_over_31 (by decide) rfl ?_
      refine ae_iconst (0 : Int32) dX11_over_33 (by decide) ?_
      refine ae_istore (lv' := [(6, ae_i (0 : Int32)), (5, ae_i (0 : Int32)), (4, ae_r (some (8, i33))), (3, ae_r (some (8, i31))), (0, ae_r (some (0, 0))), (1, ae_i v1), (2, ae_i v2)]) dX11_over_34 (by decide) rfl ?_
      refine ae_pick (lv' := [(0, ae_r (some (0, 0))), (3, ae_r (some (8, i31))), (4, ae_r (some (8, i33))), (5, ae_i (0 : Int32)), (6, ae_i (0 : Int32))]) [4, 3, 2, 1, 0] rfl ?_
      exact t_X11_over_36 d ae_fu i31 i33 (0 : Int32) (0 : Int32) s28 hF34
abbrev mX11_here : ae_M := (RX11, cX11_here, 2, some .int)
theorem vy_X11_here : ae_VY yX11_here mX11_here 1 := ⟨ww_1150, ww_1151, ww_1, ww_1152, ⟨by decide, by decide, by decide +kernel⟩, by decide⟩
theorem dX11_here_0 : decode cX11_here 0 = .ok (.aload_n 0, 1) := by decide +kernel
theorem dX11_here_1 : decode cX11_here 1 = .ok (.getfield 26, 3) := by decide +kernel
theorem dX11_here_4 : decode cX11_here 4 = .ok (.iload_n 1, 1) := by decide +kernel
theorem dX11_here_5 : decode cX11_here 5 = .ok (.invokevirtual 204, 3) := by decide +kernel
theorem dX11_here_8 : decode cX11_here 8 = .ok (.ifCond .eq 14, 3) := by decide +kernel
theorem dX11_here_11 : decode cX11_here 11 = .ok (.aload_n 0, 1) := by decide +kernel
theorem dX11_here_12 : decode cX11_here 12 = .ok (.getfield 33, 3) := by decide +kernel
theorem dX11_here_15 : decode cX11_here 15 = .ok (.iload_n 1, 1) := by decide +kernel
theorem dX11_here_16 : decode cX11_here 16 = .ok (.invokevirtual 226, 3) := by decide +kernel
theorem dX11_here_19 : decode cX11_here 19 = .ok (.goto 4, 3) := by decide +kernel
theorem dX11_here_22 : decode cX11_here 22 = .ok (.iconst (-1), 1) := by decide +kernel
theorem dX11_here_23 : decode cX11_here 23 = .ok (.ireturn, 1) := by decide +kernel
def F_X11_here_23 (t0 : Int32) (s0 : ae_S) : Option (Int32 × ae_S) := some (t0, s0)
set_option maxHeartbeats 4000000 in
set_option maxRecDepth 100000 in
theorem t_X11_here_23 {l : Launch} {G : ae_G} (d : Nat) {rr : Int32} {ss : ae_S} (t0 : Int32) (s0 : ae_S) (hF : F_X11_here_23 t0 s0 = some (rr, ss)) : ae_T l G (d + 3) mX11_here (ae_Po (some (ae_i rr)) ss) 23 [] [ae_i t0] s0 := by
  unfold F_X11_here_23 at hF
  obtain ⟨rfl, rfl⟩ := ae_retI hF
  exact ae_iret dX11_here_23 rfl rfl ⟨rfl, rfl⟩
def F_X11_here (v1 : Int32) (s0 : ae_S) : Option (Int32 × ae_S) := ae_bd (F_X0_has v1 s0) (fun (r1 : Int32) s2 => if r1 = 0 then (F_X11_here_23 (-1 : Int32) s2) else (ae_bd (F_X6_covering v1 s2) (fun (r7 : Int32) s8 => F_X11_here_23 r7 s8)))
set_option maxHeartbeats 4000000 in
set_option maxRecDepth 100000 in
theorem c_X11_here {l : Launch} {G : ae_G} (d : Nat) {v1 : Int32} {s0 ss : ae_S} {rr : Int32} (hF : F_X11_here v1 s0 = some (rr, ss)) : ae_Met l G (d + 3) yX11_here mX11_here [ae_r (some (0, 0)), ae_i v1] s0 (ae_Po (some (ae_i rr)) ss) := by
  refine ae_enter (by decide) rfl (Nat.le_of_ble_eq_true rfl) ?_
  show ae_T l G (d + 3) mX11_here (ae_Po (some (ae_i rr)) ss) 0 [(0, ae_r (some (0, 0))), (1, ae_i v1)] [] s0
  unfold F_X11_here at hF
  refine ae_aload_n 0 dX11_here_0 rfl ?_
  refine ae_getO (q := (0, 0)) (some (3, 0)) dX11_here_1 fl_RX11_26 rfl rfl rfl ?_
  refine ae_iload_n 1 dX11_here_4 rfl ?_
  obtain ⟨r1, s2, hc3, hF4⟩ := ae_bdI hF
  refine ae_cV1 (q := (3, 0)) (As := [ae_i v1]) dX11_here_5 ww_1111 vy_X0_has rfl rfl rfl rfl rfl (Nat.le_of_ble_eq_true rfl) (c_X0_has (d + 2) hc3) ?_
  refine ae_if_eq 22 dX11_here_8 rfl (fun hb5 => ?_) (fun hb5 => ?_)
  · have hF6 := ae_ifT hb5 hF4
    refine ae_iconst (-1 : Int32) dX11_here_22 (by decide) ?_
    refine ae_pick (lv' := []) [] rfl ?_
    exact t_X11_here_23 d (-1 : Int32) s2 hF6
  · have hF6 := ae_ifF hb5 hF4
    refine ae_aload_n 0 dX11_here_11 rfl ?_
    refine ae_getO (q := (0, 0)) (some (6, 0)) dX11_here_12 fl_RX11_33 rfl rfl rfl ?_
    refine ae_iload_n 1 dX11_here_15 rfl ?_
    obtain ⟨r7, s8, hc9, hF10⟩ := ae_bdI hF6
    refine ae_cV1 (q := (6, 0)) (As := [ae_i v1]) dX11_here_16 ww_1153 vy_X6_covering rfl rfl rfl rfl rfl (Nat.le_of_ble_eq_true rfl) (c_X6_covering d hc9) ?_
    refine ae_goto 23 dX11_here_19 rfl ?_
    refine ae_pick (lv' := []) [] rfl ?_
    exact t_X11_here_23 d r7 s8 hF10
abbrev mX11_copy : ae_M := (RX11, cX11_copy, 9, some .int)
theorem vy_X11_copy : ae_VY yX11_copy mX11_copy 2 := ⟨ww_1159, ww_1160, ww_1, ww_1161, ⟨by decide, by decide, by decide +kernel⟩, by decide⟩
theorem dX11_copy_0 : decode cX11_copy 0 = .ok (.aload_n 0, 1) := by decide +kernel
theorem dX11_copy_1 : decode cX11_copy 1 = .ok (.getfield 33, 3) := by decide +kernel
theorem dX11_copy_4 : decode cX11_copy 4 = .ok (.iload_n 1, 1) := by decide +kernel
theorem dX11_copy_5 : decode cX11_copy 5 = .ok (.invokevirtual 138, 3) := by decide +kernel
theorem dX11_copy_8 : decode cX11_copy 8 = .ok (.astore_n 3, 1) := by decide +kernel
theorem dX11_copy_9 : decode cX11_copy 9 = .ok (.aload_n 0, 1) := by decide +kernel
theorem dX11_copy_10 : decode cX11_copy 10 = .ok (.getfield 33, 3) := by decide +kernel
theorem dX11_copy_13 : decode cX11_copy 13 = .ok (.iload_n 2, 1) := by decide +kernel
theorem dX11_copy_14 : decode cX11_copy 14 = .ok (.invokevirtual 138, 3) := by decide +kernel
theorem dX11_copy_17 : decode cX11_copy 17 = .ok (.astore 4, 2) := by decide +kernel
theorem dX11_copy_19 : decode cX11_copy 19 = .ok (.aload_n 3, 1) := by decide +kernel
theorem dX11_copy_20 : decode cX11_copy 20 = .ok (.ifnull 16, 3) := by decide +kernel
theorem dX11_copy_23 : decode cX11_copy 23 = .ok (.aload 4, 2) := by decide +kernel
theorem dX11_copy_25 : decode cX11_copy 25 = .ok (.ifnull 11, 3) := by decide +kernel
theorem dX11_copy_28 : decode cX11_copy 28 = .ok (.aload 4, 2) := by decide +kernel
theorem dX11_copy_30 : decode cX11_copy 30 = .ok (.invokevirtual 191, 3) := by decide +kernel
theorem dX11_copy_33 : decode cX11_copy 33 = .ok (.ifCond .eq 5, 3) := by decide +kernel
theorem dX11_copy_36 : decode cX11_copy 36 = .ok (.iconst (-1), 1) := by decide +kernel
theorem dX11_copy_37 : decode cX11_copy 37 = .ok (.ireturn, 1) := by decide +kernel
theorem dX11_copy_38 : decode cX11_copy 38 = .ok (.aload_n 3, 1) := by decide +kernel
theorem dX11_copy_39 : decode cX11_copy 39 = .ok (.getfield 216, 3) := by decide +kernel
theorem dX11_copy_42 : decode cX11_copy 42 = .ok (.aload 4, 2) := by decide +kernel
theorem dX11_copy_44 : decode cX11_copy 44 = .ok (.getfield 216, 3) := by decide +kernel
theorem dX11_copy_47 : decode cX11_copy 47 = .ok (.invokestatic 229, 3) := by decide +kernel
theorem dX11_copy_50 : decode cX11_copy 50 = .ok (.istore 5, 2) := by decide +kernel
theorem dX11_copy_52 : decode cX11_copy 52 = .ok (.aload_n 0, 1) := by decide +kernel
theorem dX11_copy_53 : decode cX11_copy 53 = .ok (.getfield 26, 3) := by decide +kernel
theorem dX11_copy_56 : decode cX11_copy 56 = .ok (.invokevirtual 116, 3) := by decide +kernel
theorem dX11_copy_59 : decode cX11_copy 59 = .ok (.iconst 0, 1) := by decide +kernel
theorem dX11_copy_60 : decode cX11_copy 60 = .ok (.istore 6, 2) := by decide +kernel
theorem dX11_copy_62 : decode cX11_copy 62 = .ok (.iload 6, 2) := by decide +kernel
theorem dX11_copy_64 : decode cX11_copy 64 = .ok (.iload 5, 2) := by decide +kernel
theorem dX11_copy_66 : decode cX11_copy 66 = .ok (.if_icmp .ge 50, 3) := by decide +kernel
theorem dX11_copy_69 : decode cX11_copy 69 = .ok (.aload_n 3, 1) := by decide +kernel
theorem dX11_copy_70 : decode cX11_copy 70 = .ok (.aload_n 3, 1) := by decide +kernel
theorem dX11_copy_71 : decode cX11_copy 71 = .ok (.aload_n 0, 1) := by decide +kernel
theorem dX11_copy_72 : decode cX11_copy 72 = .ok (.getfield 26, 3) := by decide +kernel
theorem dX11_copy_75 : decode cX11_copy 75 = .ok (.iload 6, 2) := by decide +kernel
theorem dX11_copy_77 : decode cX11_copy 77 = .ok (.invokevirtual 170, 3) := by decide +kernel
theorem dX11_copy_80 : decode cX11_copy 80 = .ok (.invokevirtual 235, 3) := by decide +kernel
theorem dX11_copy_83 : decode cX11_copy 83 = .ok (.lstore 7, 2) := by decide +kernel
theorem dX11_copy_85 : decode cX11_copy 85 = .ok (.aload 4, 2) := by decide +kernel
theorem dX11_copy_87 : decode cX11_copy 87 = .ok (.aload_n 0, 1) := by decide +kernel
theorem dX11_copy_88 : decode cX11_copy 88 = .ok (.getfield 26, 3) := by decide +kernel
theorem dX11_copy_91 : decode cX11_copy 91 = .ok (.iload 6, 2) := by decide +kernel
theorem dX11_copy_93 : decode cX11_copy 93 = .ok (.aload 4, 2) := by decide +kernel
theorem dX11_copy_95 : decode cX11_copy 95 = .ok (.lload 7, 2) := by decide +kernel
theorem dX11_copy_97 : decode cX11_copy 97 = .ok (.aload_n 3, 1) := by decide +kernel
theorem dX11_copy_98 : decode cX11_copy 98 = .ok (.getfield 238, 3) := by decide +kernel
theorem dX11_copy_101 : decode cX11_copy 101 = .ok (.getfield 242, 3) := by decide +kernel
theorem dX11_copy_104 : decode cX11_copy 104 = .ok (.invokevirtual 248, 3) := by decide +kernel
theorem dX11_copy_107 : decode cX11_copy 107 = .ok (.invokevirtual 197, 3) := by decide +kernel
theorem dX11_copy_110 : decode cX11_copy 110 = .ok (.iinc 6 1, 3) := by decide +kernel
theorem dX11_copy_113 : decode cX11_copy 113 = .ok (.goto (-51), 3) := by decide +kernel
theorem dX11_copy_116 : decode cX11_copy 116 = .ok (.aload_n 0, 1) := by decide +kernel
theorem dX11_copy_117 : decode cX11_copy 117 = .ok (.getfield 26, 3) := by decide +kernel
theorem dX11_copy_120 : decode cX11_copy 120 = .ok (.invokevirtual 122, 3) := by decide +kernel
theorem dX11_copy_123 : decode cX11_copy 123 = .ok (.iload 5, 2) := by decide +kernel
theorem dX11_copy_125 : decode cX11_copy 125 = .ok (.ireturn, 1) := by decide +kernel
def F_X11_copy_36 (s0 : ae_S) : Option (Int32 × ae_S) := some ((-1 : Int32), s0)
set_option maxHeartbeats 4000000 in
set_option maxRecDepth 100000 in
theorem t_X11_copy_36 {l : Launch} {G : ae_G} (d : Nat) {rr : Int32} {ss : ae_S} (s0 : ae_S) (hF : F_X11_copy_36 s0 = some (rr, ss)) : ae_T l G (d + 6) mX11_copy (ae_Po (some (ae_i rr)) ss) 36 [] [] s0 := by
  unfold F_X11_copy_36 at hF
  refine ae_iconst (-1 : Int32) dX11_copy_36 (by decide) ?_
  obtain ⟨rfl, rfl⟩ := ae_retI hF
  exact ae_iret dX11_copy_37 rfl rfl ⟨rfl, rfl⟩
def F_X11_copy_62 : Nat → Fin 32 → Fin 32 → Int32 → Int32 → ae_S → Option (Int32 × ae_S)
  | 0, _, _, _, _, _ => none
  | n + 1, i3, i4, v5, v6, s0 => if v5 ≤ v6 then (ae_bd (F_X0_keep s0) (fun (r3 : Unit) s4 => some (v5, s4))) else (ae_bd (F_X9_bitsAt i3 v6 s0) (fun (r7 : Int64) s8 => ae_bd (F_X9_valueOf i3 r7 s8) (fun (r11 : Int64) s12 => ae_mo (ae_gk (s12.2.2.2 8 i3 4) 60) none (fun j15 => ae_gd (decide ((j15 : Fin 32).val < 9)) (ae_bd (F_X9_bitsOfValue i4 r11 (ae_kFlo j15) s12) (fun (r19 : Int64) s20 => ae_bd (F_X9_put i4 v6 r19 s20) (fun (r23 : Unit) s24 => ae_lt (v6 + (1 : Int32)) (fun x27 => F_X11_copy_62 n i3 i4 v5 x27 s24))))))))
set_option maxHeartbeats 4000000 in
set_option maxRecDepth 100000 in
theorem t_X11_copy_62 {l : Launch} {G : ae_G} (d : Nat) {rr : Int32} {ss : ae_S} : ∀ (n : Nat) (i3 : Fin 32) (i4 : Fin 32) (v5 : Int32) (v6 : Int32) (s0 : ae_S), F_X11_copy_62 n i3 i4 v5 v6 s0 = some (rr, ss) → ae_T l G (d + 6) mX11_copy (ae_Po (some (ae_i rr)) ss) 62 [(0, ae_r (some (0, 0))), (3, ae_r (some (8, i3))), (4, ae_r (some (8, i4))), (5, ae_i v5), (6, ae_i v6)] [] s0 := by
  intro n
  induction n with
  | zero =>
    intro i3 i4 v5 v6 s0 hF
    exact absurd (show (none : Option (Int32 × ae_S)) = some (rr, ss) from hF) (by simp)
  | succ n ih =>
    intro i3 i4 v5 v6 s0 hF
    unfold F_X11_copy_62 at hF
    refine ae_iload 4 dX11_copy_62 rfl ?_
    refine ae_iload 3 dX11_copy_64 rfl ?_
    refine ae_icmp_ge 116 dX11_copy_66 rfl (fun hb1 => ?_) (fun hb1 => ?_)
    · have hF2 := ae_ifT hb1 hF
      refine ae_aload_n 0 dX11_copy_116 rfl ?_
      refine ae_getO (q := (0, 0)) (some (3, 0)) dX11_copy_117 fl_RX11_26 rfl rfl rfl ?_
      obtain ⟨r3, s4, hc5, hF6⟩ := ae_bdI hF2
      refine ae_cV0 (q := (3, 0)) (As := []) dX11_copy_120 ww_1021 vy_X0_keep rfl rfl rfl rfl rfl (Nat.le_of_ble_eq_true rfl) (c_X0_keep (d + 4) hc5) ?_
      refine ae_iload 3 dX11_copy_123 rfl ?_
      obtain ⟨rfl, rfl⟩ := ae_retI hF6
      exact ae_iret dX11_copy_125 rfl rfl ⟨rfl, rfl⟩
    · have hF2 := ae_ifF hb1 hF
      refine ae_aload_n 1 dX11_copy_69 rfl ?_
      refine ae_aload_n 1 dX11_copy_70 rfl ?_
      refine ae_aload_n 0 dX11_copy_71 rfl ?_
      refine ae_getO (q := (0, 0)) (some (3, 0)) dX11_copy_72 fl_RX11_26 rfl rfl rfl ?_
      refine ae_iload 4 dX11_copy_75 rfl ?_
      obtain ⟨r7, s8, hc9, hF10⟩ := ae_bdI hF2
      refine ae_cV1 (q := (8, i3)) (As := [ae_r (some (3, 0)), ae_i v6]) dX11_copy_77 ww_1077 vy_X9_bitsAt rfl rfl rfl rfl rfl (Nat.le_of_ble_eq_true rfl) (c_X9_bitsAt (d + 4) hc9) ?_
      obtain ⟨r11, s12, hc13, hF14⟩ := ae_bdI hF10
      refine ae_cV1 (q := (8, i3)) (As := [ae_l r7]) dX11_copy_80 ww_1163 vy_X9_valueOf rfl rfl rfl rfl rfl (Nat.le_of_ble_eq_true rfl) (c_X9_valueOf (d + 1) hc13) ?_
      refine ae_lstore (lv' := [(7, ae_l r11), (0, ae_r (some (0, 0))), (3, ae_r (some (8, i3))), (4, ae_r (some (8, i4))), (5, ae_i v5), (6, ae_i v6)]) dX11_copy_83 (by decide) rfl ?_
      refine ae_aload 3 dX11_copy_85 rfl ?_
      refine ae_aload_n 1 dX11_copy_87 rfl ?_
      refine ae_getO (q := (0, 0)) (some (3, 0)) dX11_copy_88 fl_RX11_26 rfl rfl rfl ?_
      refine ae_iload 5 dX11_copy_91 rfl ?_
      refine ae_aload 3 dX11_copy_93 rfl ?_
      refine ae_lload 0 dX11_copy_95 rfl ?_
      refine ae_aload_n 2 dX11_copy_97 rfl ?_
      obtain ⟨j15, hj15, hF16⟩ := ae_moK hF14
      refine ae_getO (q := (8, i3)) (some (60, j15)) dX11_copy_98 fl_RX11_238 rfl rfl hj15 ?_
      obtain ⟨hg17, hF18⟩ := ae_gdI hF16
      refine ae_getK (i := j15) dX11_copy_101 (List.mem_of_getElem? (i := 3) rfl) ww_1950 hg17 (ae_nmI (y := ae_kFlo j15) rfl ?_)
      obtain ⟨r19, s20, hc21, hF22⟩ := ae_bdI hF18
      refine ae_cV1 (q := (8, i4)) (As := [ae_l r11, ae_i (ae_kFlo j15)]) dX11_copy_104 ww_1164 vy_X9_bitsOfValue rfl rfl rfl rfl rfl (Nat.le_of_ble_eq_true rfl) (c_X9_bitsOfValue d hc21) ?_
      obtain ⟨r23, s24, hc25, hF26⟩ := ae_bdI hF22
      refine ae_cV0 (q := (8, i4)) (As := [ae_r (some (3, 0)), ae_i v6, ae_l r19]) dX11_copy_107 ww_1101 vy_X9_put rfl rfl rfl rfl rfl (Nat.le_of_ble_eq_true rfl) (c_X9_put (d + 3) hc25) ?_
      obtain ⟨x27, hx27, hF28⟩ := ae_ltI hF26
      refine ae_iinc (lv' := [(6, ae_i x27), (7, ae_l r11), (0, ae_r (some (0, 0))), (3, ae_r (some (8, i3))), (4, ae_r (some (8, i4))), (5, ae_i v5)]) 5 (1 : Int32) dX11_copy_110 rfl (by decide) (by decide) (by rw [hx27]; rfl) ?_
      refine ae_goto 62 dX11_copy_113 rfl ?_
      refine ae_pick (lv' := [(0, ae_r (some (0, 0))), (3, ae_r (some (8, i3))), (4, ae_r (some (8, i4))), (5, ae_i v5), (6, ae_i x27)]) [2, 3, 4, 5, 0] rfl ?_
      exact ih i3 i4 v5 x27 s24 hF28
def F_X11_copy (v1 : Int32) (v2 : Int32) (s0 : ae_S) : Option (Int32 × ae_S) := ae_bd (F_X6_get v1 s0) (fun (r29 : Option (Fin 32)) s30 => ae_bd (F_X6_get v2 s30) (fun (r33 : Option (Fin 32)) s34 => ae_mo r29 (F_X11_copy_36 s34) (fun i37 => ae_mo r33 (F_X11_copy_36 s34) (fun i39 => ae_bd (F_X9_isReadOnly i39 s34) (fun (r41 : Int32) s42 => if r41 = 0 then (ae_lt (if (s42.1 8 i39 7) < (s42.1 8 i37 7) then (s42.1 8 i39 7) else (s42.1 8 i37 7)) (fun x47 => ae_bd (F_X0_begin s42) (fun (r49 : Unit) s50 => F_X11_copy_62 ae_fu i37 i39 x47 (0 : Int32) s50))) else (F_X11_copy_36 s42))))))
set_option maxHeartbeats 4000000 in
set_option maxRecDepth 100000 in
theorem c_X11_copy {l : Launch} {G : ae_G} (d : Nat) {v1 : Int32} {v2 : Int32} {s0 ss : ae_S} {rr : Int32} (hF : F_X11_copy v1 v2 s0 = some (rr, ss)) : ae_Met l G (d + 6) yX11_copy mX11_copy [ae_r (some (0, 0)), ae_i v1, ae_i v2] s0 (ae_Po (some (ae_i rr)) ss) := by
  refine ae_enter (by decide) rfl (Nat.le_of_ble_eq_true rfl) ?_
  show ae_T l G (d + 6) mX11_copy (ae_Po (some (ae_i rr)) ss) 0 [(0, ae_r (some (0, 0))), (1, ae_i v1), (2, ae_i v2)] [] s0
  unfold F_X11_copy at hF
  refine ae_aload_n 0 dX11_copy_0 rfl ?_
  refine ae_getO (q := (0, 0)) (some (6, 0)) dX11_copy_1 fl_RX11_33 rfl rfl rfl ?_
  refine ae_iload_n 1 dX11_copy_4 rfl ?_
  obtain ⟨r29, s30, hc31, hF32⟩ := ae_bdI hF
  refine ae_cV1 (q := (6, 0)) (As := [ae_i v1]) dX11_copy_5 ww_1057 vy_X6_get rfl rfl rfl rfl rfl (Nat.le_of_ble_eq_true rfl) (c_X6_get (d + 5) hc31) ?_
  refine ae_astore_n (lv' := [(3, ae_r (ae_ro 8 r29)), (0, ae_r (some (0, 0))), (1, ae_i v1), (2, ae_i v2)]) dX11_copy_8 (by decide) rfl ?_
  refine ae_aload_n 1 dX11_copy_9 rfl ?_
  refine ae_getO (q := (0, 0)) (some (6, 0)) dX11_copy_10 fl_RX11_33 rfl rfl rfl ?_
  refine ae_iload_n 3 dX11_copy_13 rfl ?_
  obtain ⟨r33, s34, hc35, hF36⟩ := ae_bdI hF32
  refine ae_cV1 (q := (6, 0)) (As := [ae_i v2]) dX11_copy_14 ww_1057 vy_X6_get rfl rfl rfl rfl rfl (Nat.le_of_ble_eq_true rfl) (c_X6_get (d + 5) hc35) ?_
  refine ae_astore (lv' := [(4, ae_r (ae_ro 8 r33)), (3, ae_r (ae_ro 8 r29)), (0, ae_r (some (0, 0))), (1, ae_i v1), (2, ae_i v2)]) dX11_copy_17 (by decide) rfl ?_
  refine ae_aload_n 1 dX11_copy_19 rfl ?_
  cases r29 with
  | none =>
    have hF38 := ae_moN hF36
    refine ae_ifnull 36 dX11_copy_20 rfl (fun _ => ?_) (fun h => absurd rfl h)
    refine ae_pick (lv' := []) [] rfl ?_
    exact t_X11_copy_36 d s34 hF38
  | some i37 =>
    have hF38 := ae_moS hF36
    refine ae_ifnull 36 dX11_copy_20 rfl (fun h => absurd h (by simp [ae_ro])) (fun _ => ?_)
    refine ae_aload 0 dX11_copy_23 rfl ?_
    cases r33 with
    | none =>
      have hF40 := ae_moN hF38
      refine ae_ifnull 36 dX11_copy_25 rfl (fun _ => ?_) (fun h => absurd rfl h)
      refine ae_pick (lv' := []) [] rfl ?_
      exact t_X11_copy_36 d s34 hF40
    | some i39 =>
      have hF40 := ae_moS hF38
      refine ae_ifnull 36 dX11_copy_25 rfl (fun h => absurd h (by simp [ae_ro])) (fun _ => ?_)
      refine ae_aload 0 dX11_copy_28 rfl ?_
      obtain ⟨r41, s42, hc43, hF44⟩ := ae_bdI hF40
      refine ae_cV1 (q := (8, i39)) (As := []) dX11_copy_30 ww_1099 vy_X9_isReadOnly rfl rfl rfl rfl rfl (Nat.le_of_ble_eq_true rfl) (c_X9_isReadOnly (d + 5) hc43) ?_
      refine ae_if_eq 38 dX11_copy_33 rfl (fun hb45 => ?_) (fun hb45 => ?_)
      · have hF46 := ae_ifT hb45 hF44
        refine ae_aload_n 1 dX11_copy_38 rfl ?_
        refine ae_getI (q := (8, i37)) dX11_copy_39 fl_RX11_216 rfl rfl ?_
        refine ae_aload 0 dX11_copy_42 rfl ?_
        refine ae_getI (q := (8, i39)) dX11_copy_44 fl_RX11_216 rfl rfl ?_
        refine ae_mmin dX11_copy_47 ww_1162 ww_1147 ww_21 ww_1148 (Nat.le_of_ble_eq_true rfl) ?_
        obtain ⟨x47, hx47, hF48⟩ := ae_ltI hF46
        refine ae_nmI hx47 ?_
        refine ae_istore (lv' := [(5, ae_i x47), (4, ae_r (some (8, i39))), (3, ae_r (some (8, i37))), (0, ae_r (some (0, 0))), (1, ae_i v1), (2, ae_i v2)]) dX11_copy_50 (by decide) rfl ?_
        refine ae_aload_n 3 dX11_copy_52 rfl ?_
        refine ae_getO (q := (0, 0)) (some (3, 0)) dX11_copy_53 fl_RX11_26 rfl rfl rfl ?_
        obtain ⟨r49, s50, hc51, hF52⟩ := ae_bdI hF48
        refine ae_cV0 (q := (3, 0)) (As := []) dX11_copy_56 ww_809 vy_X0_begin rfl rfl rfl rfl rfl (Nat.le_of_ble_eq_true rfl) (c_X0_begin (d + 4) hc51) ?_
        refine ae_iconst (0 : Int32) dX11_copy_59 (by decide) ?_
        refine ae_istore (lv' := [(6, ae_i (0 : Int32)), (5, ae_i x47), (4, ae_r (some (8, i39))), (3, ae_r (some (8, i37))), (0, ae_r (some (0, 0))), (1, ae_i v1), (2, ae_i v2)]) dX11_copy_60 (by decide) rfl ?_
        refine ae_pick (lv' := [(0, ae_r (some (0, 0))), (3, ae_r (some (8, i37))), (4, ae_r (some (8, i39))), (5, ae_i x47), (6, ae_i (0 : Int32))]) [4, 3, 2, 1, 0] rfl ?_
        exact t_X11_copy_62 d ae_fu i37 i39 x47 (0 : Int32) s50 hF52
      · have hF46 := ae_ifF hb45 hF44
        refine ae_pick (lv' := []) [] rfl ?_
        exact t_X11_copy_36 d s42 hF46
abbrev mX11_turn : ae_M := (RX11, cX11_turn, 3, some .boolean)
theorem vy_X11_turn : ae_VY yX11_turn mX11_turn 1 := ⟨ww_1166, ww_1167, ww_1, ww_1168, ⟨by decide, by decide, by decide +kernel⟩, by decide⟩
theorem dX11_turn_0 : decode cX11_turn 0 = .ok (.aload_n 0, 1) := by decide +kernel
theorem dX11_turn_1 : decode cX11_turn 1 = .ok (.getfield 33, 3) := by decide +kernel
theorem dX11_turn_4 : decode cX11_turn 4 = .ok (.iload_n 1, 1) := by decide +kernel
theorem dX11_turn_5 : decode cX11_turn 5 = .ok (.invokevirtual 138, 3) := by decide +kernel
theorem dX11_turn_8 : decode cX11_turn 8 = .ok (.astore_n 2, 1) := by decide +kernel
theorem dX11_turn_9 : decode cX11_turn 9 = .ok (.aload_n 2, 1) := by decide +kernel
theorem dX11_turn_10 : decode cX11_turn 10 = .ok (.ifnull 10, 3) := by decide +kernel
theorem dX11_turn_13 : decode cX11_turn 13 = .ok (.aload_n 2, 1) := by decide +kernel
theorem dX11_turn_14 : decode cX11_turn 14 = .ok (.invokevirtual 191, 3) := by decide +kernel
theorem dX11_turn_17 : decode cX11_turn 17 = .ok (.ifCond .eq 5, 3) := by decide +kernel
theorem dX11_turn_20 : decode cX11_turn 20 = .ok (.iconst 0, 1) := by decide +kernel
theorem dX11_turn_21 : decode cX11_turn 21 = .ok (.ireturn, 1) := by decide +kernel
theorem dX11_turn_22 : decode cX11_turn 22 = .ok (.aload_n 0, 1) := by decide +kernel
theorem dX11_turn_23 : decode cX11_turn 23 = .ok (.getfield 26, 3) := by decide +kernel
theorem dX11_turn_26 : decode cX11_turn 26 = .ok (.invokevirtual 116, 3) := by decide +kernel
theorem dX11_turn_29 : decode cX11_turn 29 = .ok (.aload_n 2, 1) := by decide +kernel
theorem dX11_turn_30 : decode cX11_turn 30 = .ok (.aload_n 0, 1) := by decide +kernel
theorem dX11_turn_31 : decode cX11_turn 31 = .ok (.getfield 26, 3) := by decide +kernel
theorem dX11_turn_34 : decode cX11_turn 34 = .ok (.aload_n 0, 1) := by decide +kernel
theorem dX11_turn_35 : decode cX11_turn 35 = .ok (.getfield 76, 3) := by decide +kernel
theorem dX11_turn_38 : decode cX11_turn 38 = .ok (.invokevirtual 252, 3) := by decide +kernel
theorem dX11_turn_41 : decode cX11_turn 41 = .ok (.aload_n 2, 1) := by decide +kernel
theorem dX11_turn_42 : decode cX11_turn 42 = .ok (.aload_n 2, 1) := by decide +kernel
theorem dX11_turn_43 : decode cX11_turn 43 = .ok (.getfield 256, 3) := by decide +kernel
theorem dX11_turn_46 : decode cX11_turn 46 = .ok (.ifCond .ne 7, 3) := by decide +kernel
theorem dX11_turn_49 : decode cX11_turn 49 = .ok (.iconst 1, 1) := by decide +kernel
theorem dX11_turn_50 : decode cX11_turn 50 = .ok (.goto 4, 3) := by decide +kernel
theorem dX11_turn_53 : decode cX11_turn 53 = .ok (.iconst 0, 1) := by decide +kernel
theorem dX11_turn_54 : decode cX11_turn 54 = .ok (.putfield 256, 3) := by decide +kernel
theorem dX11_turn_57 : decode cX11_turn 57 = .ok (.aload_n 2, 1) := by decide +kernel
theorem dX11_turn_58 : decode cX11_turn 58 = .ok (.aload_n 0, 1) := by decide +kernel
theorem dX11_turn_59 : decode cX11_turn 59 = .ok (.getfield 26, 3) := by decide +kernel
theorem dX11_turn_62 : decode cX11_turn 62 = .ok (.aload_n 0, 1) := by decide +kernel
theorem dX11_turn_63 : decode cX11_turn 63 = .ok (.getfield 76, 3) := by decide +kernel
theorem dX11_turn_66 : decode cX11_turn 66 = .ok (.iconst 0, 1) := by decide +kernel
theorem dX11_turn_67 : decode cX11_turn 67 = .ok (.invokevirtual 259, 3) := by decide +kernel
theorem dX11_turn_70 : decode cX11_turn 70 = .ok (.aload_n 0, 1) := by decide +kernel
theorem dX11_turn_71 : decode cX11_turn 71 = .ok (.getfield 26, 3) := by decide +kernel
theorem dX11_turn_74 : decode cX11_turn 74 = .ok (.invokevirtual 122, 3) := by decide +kernel
theorem dX11_turn_77 : decode cX11_turn 77 = .ok (.iconst 1, 1) := by decide +kernel
theorem dX11_turn_78 : decode cX11_turn 78 = .ok (.ireturn, 1) := by decide +kernel
def F_X11_turn_20 (s0 : ae_S) : Option (Int32 × ae_S) := some ((0 : Int32), s0)
set_option maxHeartbeats 4000000 in
set_option maxRecDepth 100000 in
theorem t_X11_turn_20 {l : Launch} {G : ae_G} (d : Nat) {rr : Int32} {ss : ae_S} (s0 : ae_S) (hF : F_X11_turn_20 s0 = some (rr, ss)) : ae_T l G (d + 3) mX11_turn (ae_Po (some (ae_i rr)) ss) 20 [] [] s0 := by
  unfold F_X11_turn_20 at hF
  refine ae_iconst (0 : Int32) dX11_turn_20 (by decide) ?_
  obtain ⟨rfl, rfl⟩ := ae_retI hF
  exact ae_iret dX11_turn_21 rfl (by decide) ⟨rfl, rfl⟩
def F_X11_turn_54 (i2 : Fin 32) (t0 : Int32) (ti1 : Fin 32) (s0 : ae_S) : Option (Int32 × ae_S) := ae_gd (ae_zz t0) (ae_lt (ae_wI s0 8 ti1 5 t0) (fun s3 => ae_bd (F_X9_layRow i2 (0 : Int32) s3) (fun (r5 : Unit) s6 => ae_bd (F_X0_keep s6) (fun (r9 : Unit) s10 => some ((1 : Int32), s10)))))
set_option maxHeartbeats 4000000 in
set_option maxRecDepth 100000 in
theorem t_X11_turn_54 {l : Launch} {G : ae_G} (d : Nat) {rr : Int32} {ss : ae_S} (i2 : Fin 32) (t0 : Int32) (ti1 : Fin 32) (s0 : ae_S) (hF : F_X11_turn_54 i2 t0 ti1 s0 = some (rr, ss)) : ae_T l G (d + 3) mX11_turn (ae_Po (some (ae_i rr)) ss) 54 [(0, ae_r (some (0, 0))), (2, ae_r (some (8, i2)))] [ae_i t0, ae_r (some (8, ti1))] s0 := by
  unfold F_X11_turn_54 at hF
  obtain ⟨hg1, hF2⟩ := ae_gdI hF
  obtain ⟨s3, hs3, hF4⟩ := ae_ltI hF2
  refine ae_putZ (q := (8, ti1)) dX11_turn_54 fl_RX11_256 rfl rfl (ae_zzI hg1) (ae_nmS hs3 ?_)
  refine ae_aload_n 1 dX11_turn_57 rfl ?_
  refine ae_aload_n 0 dX11_turn_58 rfl ?_
  refine ae_getO (q := (0, 0)) (some (3, 0)) dX11_turn_59 fl_RX11_26 rfl rfl rfl ?_
  refine ae_aload_n 0 dX11_turn_62 rfl ?_
  refine ae_getA (q := (0, 0)) (some (27, 0)) dX11_turn_63 fl_RX11_76 rfl rfl rfl ?_
  refine ae_iconst (0 : Int32) dX11_turn_66 (by decide) ?_
  obtain ⟨r5, s6, hc7, hF8⟩ := ae_bdI hF4
  refine ae_cV0 (q := (8, i2)) (As := [ae_r (some (3, 0)), ae_r (some (27, 0)), ae_i (0 : Int32)]) dX11_turn_67 ww_1173 vy_X9_layRow rfl rfl rfl rfl rfl (Nat.le_of_ble_eq_true rfl) (c_X9_layRow d hc7) ?_
  refine ae_aload_n 0 dX11_turn_70 rfl ?_
  refine ae_getO (q := (0, 0)) (some (3, 0)) dX11_turn_71 fl_RX11_26 rfl rfl rfl ?_
  obtain ⟨r9, s10, hc11, hF12⟩ := ae_bdI hF8
  refine ae_cV0 (q := (3, 0)) (As := []) dX11_turn_74 ww_1021 vy_X0_keep rfl rfl rfl rfl rfl (Nat.le_of_ble_eq_true rfl) (c_X0_keep (d + 1) hc11) ?_
  refine ae_iconst (1 : Int32) dX11_turn_77 (by decide) ?_
  obtain ⟨rfl, rfl⟩ := ae_retI hF12
  exact ae_iret dX11_turn_78 rfl (by decide) ⟨rfl, rfl⟩
def F_X11_turn (v1 : Int32) (s0 : ae_S) : Option (Int32 × ae_S) := ae_bd (F_X6_get v1 s0) (fun (r13 : Option (Fin 32)) s14 => ae_mo r13 (F_X11_turn_20 s14) (fun i17 => ae_bd (F_X9_isReadOnly i17 s14) (fun (r19 : Int32) s20 => if r19 = 0 then (ae_bd (F_X0_begin s20) (fun (r25 : Unit) s26 => ae_bd (F_X9_bitsInto i17 s26) (fun (r29 : Unit) s30 => if (s30.1 8 i17 5) = 0 then (F_X11_turn_54 i17 (1 : Int32) i17 s30) else (F_X11_turn_54 i17 (0 : Int32) i17 s30)))) else (F_X11_turn_20 s20))))
set_option maxHeartbeats 4000000 in
set_option maxRecDepth 100000 in
theorem c_X11_turn {l : Launch} {G : ae_G} (d : Nat) {v1 : Int32} {s0 ss : ae_S} {rr : Int32} (hF : F_X11_turn v1 s0 = some (rr, ss)) : ae_Met l G (d + 3) yX11_turn mX11_turn [ae_r (some (0, 0)), ae_i v1] s0 (ae_Po (some (ae_i rr)) ss) := by
  refine ae_enter (by decide) rfl (Nat.le_of_ble_eq_true rfl) ?_
  show ae_T l G (d + 3) mX11_turn (ae_Po (some (ae_i rr)) ss) 0 [(0, ae_r (some (0, 0))), (1, ae_i v1)] [] s0
  unfold F_X11_turn at hF
  refine ae_aload_n 0 dX11_turn_0 rfl ?_
  refine ae_getO (q := (0, 0)) (some (6, 0)) dX11_turn_1 fl_RX11_33 rfl rfl rfl ?_
  refine ae_iload_n 1 dX11_turn_4 rfl ?_
  obtain ⟨r13, s14, hc15, hF16⟩ := ae_bdI hF
  refine ae_cV1 (q := (6, 0)) (As := [ae_i v1]) dX11_turn_5 ww_1057 vy_X6_get rfl rfl rfl rfl rfl (Nat.le_of_ble_eq_true rfl) (c_X6_get (d + 2) hc15) ?_
  refine ae_astore_n (lv' := [(2, ae_r (ae_ro 8 r13)), (0, ae_r (some (0, 0))), (1, ae_i v1)]) dX11_turn_8 (by decide) rfl ?_
  refine ae_aload_n 0 dX11_turn_9 rfl ?_
  cases r13 with
  | none =>
    have hF18 := ae_moN hF16
    refine ae_ifnull 20 dX11_turn_10 rfl (fun _ => ?_) (fun h => absurd rfl h)
    refine ae_pick (lv' := []) [] rfl ?_
    exact t_X11_turn_20 d s14 hF18
  | some i17 =>
    have hF18 := ae_moS hF16
    refine ae_ifnull 20 dX11_turn_10 rfl (fun h => absurd h (by simp [ae_ro])) (fun _ => ?_)
    refine ae_aload_n 0 dX11_turn_13 rfl ?_
    obtain ⟨r19, s20, hc21, hF22⟩ := ae_bdI hF18
    refine ae_cV1 (q := (8, i17)) (As := []) dX11_turn_14 ww_1099 vy_X9_isReadOnly rfl rfl rfl rfl rfl (Nat.le_of_ble_eq_true rfl) (c_X9_isReadOnly (d + 2) hc21) ?_
    refine ae_if_eq 22 dX11_turn_17 rfl (fun hb23 => ?_) (fun hb23 => ?_)
    · have hF24 := ae_ifT hb23 hF22
      refine ae_aload_n 1 dX11_turn_22 rfl ?_
      refine ae_getO (q := (0, 0)) (some (3, 0)) dX11_turn_23 fl_RX11_26 rfl rfl rfl ?_
      obtain ⟨r25, s26, hc27, hF28⟩ := ae_bdI hF24
      refine ae_cV0 (q := (3, 0)) (As := []) dX11_turn_26 ww_809 vy_X0_begin rfl rfl rfl rfl rfl (Nat.le_of_ble_eq_true rfl) (c_X0_begin (d + 1) hc27) ?_
      refine ae_aload_n 0 dX11_turn_29 rfl ?_
      refine ae_aload_n 1 dX11_turn_30 rfl ?_
      refine ae_getO (q := (0, 0)) (some (3, 0)) dX11_turn_31 fl_RX11_26 rfl rfl rfl ?_
      refine ae_aload_n 1 dX11_turn_34 rfl ?_
      refine ae_getA (q := (0, 0)) (some (27, 0)) dX11_turn_35 fl_RX11_76 rfl rfl rfl ?_
      obtain ⟨r29, s30, hc31, hF32⟩ := ae_bdI hF28
      refine ae_cV0 (q := (8, i17)) (As := [ae_r (some (3, 0)), ae_r (some (27, 0))]) dX11_turn_38 ww_1169 vy_X9_bitsInto rfl rfl rfl rfl rfl (Nat.le_of_ble_eq_true rfl) (c_X9_bitsInto d hc31) ?_
      refine ae_aload_n 0 dX11_turn_41 rfl ?_
      refine ae_aload_n 0 dX11_turn_42 rfl ?_
      refine ae_getZ (q := (8, i17)) dX11_turn_43 fl_RX11_256 rfl rfl ?_
      refine ae_if_ne 53 dX11_turn_46 rfl (fun hb33 => ?_) (fun hb33 => ?_)
      · have hF34 := ae_ifF hb33 hF32
        refine ae_iconst (0 : Int32) dX11_turn_53 (by decide) ?_
        refine ae_pick (lv' := [(0, ae_r (some (0, 0))), (2, ae_r (some (8, i17)))]) [1, 0] rfl ?_
        exact t_X11_turn_54 d i17 (0 : Int32) i17 s30 hF34
      · have hF34 := ae_ifT hb33 hF32
        refine ae_iconst (1 : Int32) dX11_turn_49 (by decide) ?_
        refine ae_goto 54 dX11_turn_50 rfl ?_
        refine ae_pick (lv' := [(0, ae_r (some (0, 0))), (2, ae_r (some (8, i17)))]) [1, 0] rfl ?_
        exact t_X11_turn_54 d i17 (1 : Int32) i17 s30 hF34
    · have hF24 := ae_ifF hb23 hF22
      refine ae_pick (lv' := []) [] rfl ?_
      exact t_X11_turn_20 d s20 hF24
abbrev mX11_sort : ae_M := (RX11, cX11_sort, 3, some .boolean)
theorem vy_X11_sort : ae_VY yX11_sort mX11_sort 1 := ⟨ww_1178, ww_1179, ww_1, ww_1180, ⟨by decide, by decide, by decide +kernel⟩, by decide⟩
theorem dX11_sort_0 : decode cX11_sort 0 = .ok (.aload_n 0, 1) := by decide +kernel
theorem dX11_sort_1 : decode cX11_sort 1 = .ok (.getfield 33, 3) := by decide +kernel
theorem dX11_sort_4 : decode cX11_sort 4 = .ok (.iload_n 1, 1) := by decide +kernel
theorem dX11_sort_5 : decode cX11_sort 5 = .ok (.invokevirtual 138, 3) := by decide +kernel
theorem dX11_sort_8 : decode cX11_sort 8 = .ok (.astore_n 2, 1) := by decide +kernel
theorem dX11_sort_9 : decode cX11_sort 9 = .ok (.aload_n 2, 1) := by decide +kernel
theorem dX11_sort_10 : decode cX11_sort 10 = .ok (.ifnull 24, 3) := by decide +kernel
theorem dX11_sort_13 : decode cX11_sort 13 = .ok (.aload_n 2, 1) := by decide +kernel
theorem dX11_sort_14 : decode cX11_sort 14 = .ok (.getfield 263, 3) := by decide +kernel
theorem dX11_sort_17 : decode cX11_sort 17 = .ok (.ifCond .ne 17, 3) := by decide +kernel
theorem dX11_sort_20 : decode cX11_sort 20 = .ok (.aload_n 2, 1) := by decide +kernel
theorem dX11_sort_21 : decode cX11_sort 21 = .ok (.getfield 266, 3) := by decide +kernel
theorem dX11_sort_24 : decode cX11_sort 24 = .ok (.aload_n 2, 1) := by decide +kernel
theorem dX11_sort_25 : decode cX11_sort 25 = .ok (.getfield 238, 3) := by decide +kernel
theorem dX11_sort_28 : decode cX11_sort 28 = .ok (.getfield 269, 3) := by decide +kernel
theorem dX11_sort_31 : decode cX11_sort 31 = .ok (.if_icmp .ge 5, 3) := by decide +kernel
theorem dX11_sort_34 : decode cX11_sort 34 = .ok (.iconst 0, 1) := by decide +kernel
theorem dX11_sort_35 : decode cX11_sort 35 = .ok (.ireturn, 1) := by decide +kernel
theorem dX11_sort_36 : decode cX11_sort 36 = .ok (.aload_n 0, 1) := by decide +kernel
theorem dX11_sort_37 : decode cX11_sort 37 = .ok (.getfield 26, 3) := by decide +kernel
theorem dX11_sort_40 : decode cX11_sort 40 = .ok (.invokevirtual 116, 3) := by decide +kernel
theorem dX11_sort_43 : decode cX11_sort 43 = .ok (.aload_n 2, 1) := by decide +kernel
theorem dX11_sort_44 : decode cX11_sort 44 = .ok (.aload_n 0, 1) := by decide +kernel
theorem dX11_sort_45 : decode cX11_sort 45 = .ok (.getfield 26, 3) := by decide +kernel
theorem dX11_sort_48 : decode cX11_sort 48 = .ok (.aload_n 0, 1) := by decide +kernel
theorem dX11_sort_49 : decode cX11_sort 49 = .ok (.getfield 76, 3) := by decide +kernel
theorem dX11_sort_52 : decode cX11_sort 52 = .ok (.invokevirtual 252, 3) := by decide +kernel
theorem dX11_sort_55 : decode cX11_sort 55 = .ok (.aload_n 2, 1) := by decide +kernel
theorem dX11_sort_56 : decode cX11_sort 56 = .ok (.aload_n 0, 1) := by decide +kernel
theorem dX11_sort_57 : decode cX11_sort 57 = .ok (.getfield 76, 3) := by decide +kernel
theorem dX11_sort_60 : decode cX11_sort 60 = .ok (.invokevirtual 271, 3) := by decide +kernel
theorem dX11_sort_63 : decode cX11_sort 63 = .ok (.aload_n 2, 1) := by decide +kernel
theorem dX11_sort_64 : decode cX11_sort 64 = .ok (.aload_n 0, 1) := by decide +kernel
theorem dX11_sort_65 : decode cX11_sort 65 = .ok (.getfield 26, 3) := by decide +kernel
theorem dX11_sort_68 : decode cX11_sort 68 = .ok (.aload_n 0, 1) := by decide +kernel
theorem dX11_sort_69 : decode cX11_sort 69 = .ok (.getfield 76, 3) := by decide +kernel
theorem dX11_sort_72 : decode cX11_sort 72 = .ok (.iconst 0, 1) := by decide +kernel
theorem dX11_sort_73 : decode cX11_sort 73 = .ok (.invokevirtual 259, 3) := by decide +kernel
theorem dX11_sort_76 : decode cX11_sort 76 = .ok (.aload_n 0, 1) := by decide +kernel
theorem dX11_sort_77 : decode cX11_sort 77 = .ok (.getfield 26, 3) := by decide +kernel
theorem dX11_sort_80 : decode cX11_sort 80 = .ok (.invokevirtual 122, 3) := by decide +kernel
theorem dX11_sort_83 : decode cX11_sort 83 = .ok (.iconst 1, 1) := by decide +kernel
theorem dX11_sort_84 : decode cX11_sort 84 = .ok (.ireturn, 1) := by decide +kernel
def F_X11_sort_34 (s0 : ae_S) : Option (Int32 × ae_S) := some ((0 : Int32), s0)
set_option maxHeartbeats 4000000 in
set_option maxRecDepth 100000 in
theorem t_X11_sort_34 {l : Launch} {G : ae_G} (d : Nat) {rr : Int32} {ss : ae_S} (s0 : ae_S) (hF : F_X11_sort_34 s0 = some (rr, ss)) : ae_T l G (d + 7) mX11_sort (ae_Po (some (ae_i rr)) ss) 34 [] [] s0 := by
  unfold F_X11_sort_34 at hF
  refine ae_iconst (0 : Int32) dX11_sort_34 (by decide) ?_
  obtain ⟨rfl, rfl⟩ := ae_retI hF
  exact ae_iret dX11_sort_35 rfl (by decide) ⟨rfl, rfl⟩
def F_X11_sort (v1 : Int32) (s0 : ae_S) : Option (Int32 × ae_S) := ae_bd (F_X6_get v1 s0) (fun (r1 : Option (Fin 32)) s2 => ae_mo r1 (F_X11_sort_34 s2) (fun i5 => if (s2.1 8 i5 9) = 0 then (ae_mo (ae_gk (s2.2.2.2 8 i5 4) 60) none (fun j9 => ae_gd (decide ((j9 : Fin 32).val < 9)) (if (ae_kByt j9) ≤ (s2.1 8 i5 8) then (ae_bd (F_X0_begin s2) (fun (r15 : Unit) s16 => ae_bd (F_X9_bitsInto i5 s16) (fun (r19 : Unit) s20 => ae_bd (F_X9_orderRow i5 s20) (fun (r23 : Unit) s24 => ae_bd (F_X9_layRow i5 (0 : Int32) s24) (fun (r27 : Unit) s28 => ae_bd (F_X0_keep s28) (fun (r31 : Unit) s32 => some ((1 : Int32), s32))))))) else (F_X11_sort_34 s2)))) else (F_X11_sort_34 s2)))
set_option maxHeartbeats 4000000 in
set_option maxRecDepth 100000 in
theorem c_X11_sort {l : Launch} {G : ae_G} (d : Nat) {v1 : Int32} {s0 ss : ae_S} {rr : Int32} (hF : F_X11_sort v1 s0 = some (rr, ss)) : ae_Met l G (d + 7) yX11_sort mX11_sort [ae_r (some (0, 0)), ae_i v1] s0 (ae_Po (some (ae_i rr)) ss) := by
  refine ae_enter (by decide) rfl (Nat.le_of_ble_eq_true rfl) ?_
  show ae_T l G (d + 7) mX11_sort (ae_Po (some (ae_i rr)) ss) 0 [(0, ae_r (some (0, 0))), (1, ae_i v1)] [] s0
  unfold F_X11_sort at hF
  refine ae_aload_n 0 dX11_sort_0 rfl ?_
  refine ae_getO (q := (0, 0)) (some (6, 0)) dX11_sort_1 fl_RX11_33 rfl rfl rfl ?_
  refine ae_iload_n 1 dX11_sort_4 rfl ?_
  obtain ⟨r1, s2, hc3, hF4⟩ := ae_bdI hF
  refine ae_cV1 (q := (6, 0)) (As := [ae_i v1]) dX11_sort_5 ww_1057 vy_X6_get rfl rfl rfl rfl rfl (Nat.le_of_ble_eq_true rfl) (c_X6_get (d + 6) hc3) ?_
  refine ae_astore_n (lv' := [(2, ae_r (ae_ro 8 r1)), (0, ae_r (some (0, 0))), (1, ae_i v1)]) dX11_sort_8 (by decide) rfl ?_
  refine ae_aload_n 0 dX11_sort_9 rfl ?_
  cases r1 with
  | none =>
    have hF6 := ae_moN hF4
    refine ae_ifnull 34 dX11_sort_10 rfl (fun _ => ?_) (fun h => absurd rfl h)
    refine ae_pick (lv' := []) [] rfl ?_
    exact t_X11_sort_34 d s2 hF6
  | some i5 =>
    have hF6 := ae_moS hF4
    refine ae_ifnull 34 dX11_sort_10 rfl (fun h => absurd h (by simp [ae_ro])) (fun _ => ?_)
    refine ae_aload_n 0 dX11_sort_13 rfl ?_
    refine ae_getI (q := (8, i5)) dX11_sort_14 fl_RX11_263 rfl rfl ?_
    refine ae_if_ne 34 dX11_sort_17 rfl (fun hb7 => ?_) (fun hb7 => ?_)
    · have hF8 := ae_ifF hb7 hF6
      refine ae_pick (lv' := []) [] rfl ?_
      exact t_X11_sort_34 d s2 hF8
    · have hF8 := ae_ifT hb7 hF6
      refine ae_aload_n 0 dX11_sort_20 rfl ?_
      refine ae_getI (q := (8, i5)) dX11_sort_21 fl_RX11_266 rfl rfl ?_
      refine ae_aload_n 0 dX11_sort_24 rfl ?_
      obtain ⟨j9, hj9, hF10⟩ := ae_moK hF8
      refine ae_getO (q := (8, i5)) (some (60, j9)) dX11_sort_25 fl_RX11_238 rfl rfl hj9 ?_
      obtain ⟨hg11, hF12⟩ := ae_gdI hF10
      refine ae_getK (i := j9) dX11_sort_28 (List.mem_of_getElem? (i := 1) rfl) ww_1951 hg11 (ae_nmI (y := ae_kByt j9) rfl ?_)
      refine ae_icmp_ge 36 dX11_sort_31 rfl (fun hb13 => ?_) (fun hb13 => ?_)
      · have hF14 := ae_ifT hb13 hF12
        refine ae_aload_n 1 dX11_sort_36 rfl ?_
        refine ae_getO (q := (0, 0)) (some (3, 0)) dX11_sort_37 fl_RX11_26 rfl rfl rfl ?_
        obtain ⟨r15, s16, hc17, hF18⟩ := ae_bdI hF14
        refine ae_cV0 (q := (3, 0)) (As := []) dX11_sort_40 ww_809 vy_X0_begin rfl rfl rfl rfl rfl (Nat.le_of_ble_eq_true rfl) (c_X0_begin (d + 5) hc17) ?_
        refine ae_aload_n 0 dX11_sort_43 rfl ?_
        refine ae_aload_n 1 dX11_sort_44 rfl ?_
        refine ae_getO (q := (0, 0)) (some (3, 0)) dX11_sort_45 fl_RX11_26 rfl rfl rfl ?_
        refine ae_aload_n 1 dX11_sort_48 rfl ?_
        refine ae_getA (q := (0, 0)) (some (27, 0)) dX11_sort_49 fl_RX11_76 rfl rfl rfl ?_
        obtain ⟨r19, s20, hc21, hF22⟩ := ae_bdI hF18
        refine ae_cV0 (q := (8, i5)) (As := [ae_r (some (3, 0)), ae_r (some (27, 0))]) dX11_sort_52 ww_1169 vy_X9_bitsInto rfl rfl rfl rfl rfl (Nat.le_of_ble_eq_true rfl) (c_X9_bitsInto (d + 4) hc21) ?_
        refine ae_aload_n 0 dX11_sort_55 rfl ?_
        refine ae_aload_n 1 dX11_sort_56 rfl ?_
        refine ae_getA (q := (0, 0)) (some (27, 0)) dX11_sort_57 fl_RX11_76 rfl rfl rfl ?_
        obtain ⟨r23, s24, hc25, hF26⟩ := ae_bdI hF22
        refine ae_cV0 (q := (8, i5)) (As := [ae_r (some (27, 0))]) dX11_sort_60 ww_1181 vy_X9_orderRow rfl rfl rfl rfl rfl (Nat.le_of_ble_eq_true rfl) (c_X9_orderRow d hc25) ?_
        refine ae_aload_n 0 dX11_sort_63 rfl ?_
        refine ae_aload_n 1 dX11_sort_64 rfl ?_
        refine ae_getO (q := (0, 0)) (some (3, 0)) dX11_sort_65 fl_RX11_26 rfl rfl rfl ?_
        refine ae_aload_n 1 dX11_sort_68 rfl ?_
        refine ae_getA (q := (0, 0)) (some (27, 0)) dX11_sort_69 fl_RX11_76 rfl rfl rfl ?_
        refine ae_iconst (0 : Int32) dX11_sort_72 (by decide) ?_
        obtain ⟨r27, s28, hc29, hF30⟩ := ae_bdI hF26
        refine ae_cV0 (q := (8, i5)) (As := [ae_r (some (3, 0)), ae_r (some (27, 0)), ae_i (0 : Int32)]) dX11_sort_73 ww_1173 vy_X9_layRow rfl rfl rfl rfl rfl (Nat.le_of_ble_eq_true rfl) (c_X9_layRow (d + 4) hc29) ?_
        refine ae_aload_n 1 dX11_sort_76 rfl ?_
        refine ae_getO (q := (0, 0)) (some (3, 0)) dX11_sort_77 fl_RX11_26 rfl rfl rfl ?_
        obtain ⟨r31, s32, hc33, hF34⟩ := ae_bdI hF30
        refine ae_cV0 (q := (3, 0)) (As := []) dX11_sort_80 ww_1021 vy_X0_keep rfl rfl rfl rfl rfl (Nat.le_of_ble_eq_true rfl) (c_X0_keep (d + 5) hc33) ?_
        refine ae_iconst (1 : Int32) dX11_sort_83 (by decide) ?_
        obtain ⟨rfl, rfl⟩ := ae_retI hF34
        exact ae_iret dX11_sort_84 rfl (by decide) ⟨rfl, rfl⟩
      · have hF14 := ae_ifF hb13 hF12
        refine ae_pick (lv' := []) [] rfl ?_
        exact t_X11_sort_34 d s2 hF14
abbrev mX11_fill : ae_M := (RX11, cX11_fill, 6, some .int)
theorem vy_X11_fill : ae_VY yX11_fill mX11_fill 2 := ⟨ww_1192, ww_1193, ww_1, ww_1194, ⟨by decide, by decide, by decide +kernel⟩, by decide⟩
theorem dX11_fill_0 : decode cX11_fill 0 = .ok (.aload_n 0, 1) := by decide +kernel
theorem dX11_fill_1 : decode cX11_fill 1 = .ok (.getfield 33, 3) := by decide +kernel
theorem dX11_fill_4 : decode cX11_fill 4 = .ok (.iload_n 1, 1) := by decide +kernel
theorem dX11_fill_5 : decode cX11_fill 5 = .ok (.invokevirtual 138, 3) := by decide +kernel
theorem dX11_fill_8 : decode cX11_fill 8 = .ok (.astore 4, 2) := by decide +kernel
theorem dX11_fill_10 : decode cX11_fill 10 = .ok (.aload 4, 2) := by decide +kernel
theorem dX11_fill_12 : decode cX11_fill 12 = .ok (.ifnull 11, 3) := by decide +kernel
theorem dX11_fill_15 : decode cX11_fill 15 = .ok (.aload 4, 2) := by decide +kernel
theorem dX11_fill_17 : decode cX11_fill 17 = .ok (.invokevirtual 191, 3) := by decide +kernel
theorem dX11_fill_20 : decode cX11_fill 20 = .ok (.ifCond .eq 5, 3) := by decide +kernel
theorem dX11_fill_23 : decode cX11_fill 23 = .ok (.iconst (-1), 1) := by decide +kernel
theorem dX11_fill_24 : decode cX11_fill 24 = .ok (.ireturn, 1) := by decide +kernel
theorem dX11_fill_25 : decode cX11_fill 25 = .ok (.aload_n 0, 1) := by decide +kernel
theorem dX11_fill_26 : decode cX11_fill 26 = .ok (.getfield 26, 3) := by decide +kernel
theorem dX11_fill_29 : decode cX11_fill 29 = .ok (.invokevirtual 116, 3) := by decide +kernel
theorem dX11_fill_32 : decode cX11_fill 32 = .ok (.iconst 0, 1) := by decide +kernel
theorem dX11_fill_33 : decode cX11_fill 33 = .ok (.istore 5, 2) := by decide +kernel
theorem dX11_fill_35 : decode cX11_fill 35 = .ok (.iload 5, 2) := by decide +kernel
theorem dX11_fill_37 : decode cX11_fill 37 = .ok (.aload 4, 2) := by decide +kernel
theorem dX11_fill_39 : decode cX11_fill 39 = .ok (.getfield 216, 3) := by decide +kernel
theorem dX11_fill_42 : decode cX11_fill 42 = .ok (.if_icmp .ge 26, 3) := by decide +kernel
theorem dX11_fill_45 : decode cX11_fill 45 = .ok (.aload 4, 2) := by decide +kernel
theorem dX11_fill_47 : decode cX11_fill 47 = .ok (.aload_n 0, 1) := by decide +kernel
theorem dX11_fill_48 : decode cX11_fill 48 = .ok (.getfield 26, 3) := by decide +kernel
theorem dX11_fill_51 : decode cX11_fill 51 = .ok (.iload 5, 2) := by decide +kernel
theorem dX11_fill_53 : decode cX11_fill 53 = .ok (.aload 4, 2) := by decide +kernel
theorem dX11_fill_55 : decode cX11_fill 55 = .ok (.lload_n 2, 1) := by decide +kernel
theorem dX11_fill_56 : decode cX11_fill 56 = .ok (.invokevirtual 194, 3) := by decide +kernel
theorem dX11_fill_59 : decode cX11_fill 59 = .ok (.invokevirtual 197, 3) := by decide +kernel
theorem dX11_fill_62 : decode cX11_fill 62 = .ok (.iinc 5 1, 3) := by decide +kernel
theorem dX11_fill_65 : decode cX11_fill 65 = .ok (.goto (-30), 3) := by decide +kernel
theorem dX11_fill_68 : decode cX11_fill 68 = .ok (.aload_n 0, 1) := by decide +kernel
theorem dX11_fill_69 : decode cX11_fill 69 = .ok (.getfield 26, 3) := by decide +kernel
theorem dX11_fill_72 : decode cX11_fill 72 = .ok (.invokevirtual 122, 3) := by decide +kernel
theorem dX11_fill_75 : decode cX11_fill 75 = .ok (.aload 4, 2) := by decide +kernel
theorem dX11_fill_77 : decode cX11_fill 77 = .ok (.getfield 216, 3) := by decide +kernel
theorem dX11_fill_80 : decode cX11_fill 80 = .ok (.ireturn, 1) := by decide +kernel
def F_X11_fill_23 (s0 : ae_S) : Option (Int32 × ae_S) := some ((-1 : Int32), s0)
set_option maxHeartbeats 4000000 in
set_option maxRecDepth 100000 in
theorem t_X11_fill_23 {l : Launch} {G : ae_G} (d : Nat) {rr : Int32} {ss : ae_S} (s0 : ae_S) (hF : F_X11_fill_23 s0 = some (rr, ss)) : ae_T l G (d + 5) mX11_fill (ae_Po (some (ae_i rr)) ss) 23 [] [] s0 := by
  unfold F_X11_fill_23 at hF
  refine ae_iconst (-1 : Int32) dX11_fill_23 (by decide) ?_
  obtain ⟨rfl, rfl⟩ := ae_retI hF
  exact ae_iret dX11_fill_24 rfl rfl ⟨rfl, rfl⟩
def F_X11_fill_35 : Nat → Int64 → Fin 32 → Int32 → ae_S → Option (Int32 × ae_S)
  | 0, _, _, _, _ => none
  | n + 1, v2, i4, v5, s0 => if (s0.1 8 i4 7) ≤ v5 then (ae_bd (F_X0_keep s0) (fun (r3 : Unit) s4 => some (s4.1 8 i4 7, s4))) else (ae_bd (F_X9_bitsOfWhole i4 v2 s0) (fun (r7 : Int64) s8 => ae_bd (F_X9_put i4 v5 r7 s8) (fun (r11 : Unit) s12 => ae_lt (v5 + (1 : Int32)) (fun x15 => F_X11_fill_35 n v2 i4 x15 s12))))
set_option maxHeartbeats 4000000 in
set_option maxRecDepth 100000 in
theorem t_X11_fill_35 {l : Launch} {G : ae_G} (d : Nat) {rr : Int32} {ss : ae_S} : ∀ (n : Nat) (v2 : Int64) (i4 : Fin 32) (v5 : Int32) (s0 : ae_S), F_X11_fill_35 n v2 i4 v5 s0 = some (rr, ss) → ae_T l G (d + 5) mX11_fill (ae_Po (some (ae_i rr)) ss) 35 [(0, ae_r (some (0, 0))), (2, ae_l v2), (4, ae_r (some (8, i4))), (5, ae_i v5)] [] s0 := by
  intro n
  induction n with
  | zero =>
    intro v2 i4 v5 s0 hF
    exact absurd (show (none : Option (Int32 × ae_S)) = some (rr, ss) from hF) (by simp)
  | succ n ih =>
    intro v2 i4 v5 s0 hF
    unfold F_X11_fill_35 at hF
    refine ae_iload 3 dX11_fill_35 rfl ?_
    refine ae_aload 2 dX11_fill_37 rfl ?_
    refine ae_getI (q := (8, i4)) dX11_fill_39 fl_RX11_216 rfl rfl ?_
    refine ae_icmp_ge 68 dX11_fill_42 rfl (fun hb1 => ?_) (fun hb1 => ?_)
    · have hF2 := ae_ifT hb1 hF
      refine ae_aload_n 0 dX11_fill_68 rfl ?_
      refine ae_getO (q := (0, 0)) (some (3, 0)) dX11_fill_69 fl_RX11_26 rfl rfl rfl ?_
      obtain ⟨r3, s4, hc5, hF6⟩ := ae_bdI hF2
      refine ae_cV0 (q := (3, 0)) (As := []) dX11_fill_72 ww_1021 vy_X0_keep rfl rfl rfl rfl rfl (Nat.le_of_ble_eq_true rfl) (c_X0_keep (d + 3) hc5) ?_
      refine ae_aload 2 dX11_fill_75 rfl ?_
      refine ae_getI (q := (8, i4)) dX11_fill_77 fl_RX11_216 rfl rfl ?_
      obtain ⟨rfl, rfl⟩ := ae_retI hF6
      exact ae_iret dX11_fill_80 rfl rfl ⟨rfl, rfl⟩
    · have hF2 := ae_ifF hb1 hF
      refine ae_aload 2 dX11_fill_45 rfl ?_
      refine ae_aload_n 0 dX11_fill_47 rfl ?_
      refine ae_getO (q := (0, 0)) (some (3, 0)) dX11_fill_48 fl_RX11_26 rfl rfl rfl ?_
      refine ae_iload 3 dX11_fill_51 rfl ?_
      refine ae_aload 2 dX11_fill_53 rfl ?_
      refine ae_lload_n 1 dX11_fill_55 rfl ?_
      obtain ⟨r7, s8, hc9, hF10⟩ := ae_bdI hF2
      refine ae_cV1 (q := (8, i4)) (As := [ae_l v2]) dX11_fill_56 ww_1100 vy_X9_bitsOfWhole rfl rfl rfl rfl rfl (Nat.le_of_ble_eq_true rfl) (c_X9_bitsOfWhole d hc9) ?_
      obtain ⟨r11, s12, hc13, hF14⟩ := ae_bdI hF10
      refine ae_cV0 (q := (8, i4)) (As := [ae_r (some (3, 0)), ae_i v5, ae_l r7]) dX11_fill_59 ww_1101 vy_X9_put rfl rfl rfl rfl rfl (Nat.le_of_ble_eq_true rfl) (c_X9_put (d + 2) hc13) ?_
      obtain ⟨x15, hx15, hF16⟩ := ae_ltI hF14
      refine ae_iinc (lv' := [(5, ae_i x15), (0, ae_r (some (0, 0))), (2, ae_l v2), (4, ae_r (some (8, i4)))]) 3 (1 : Int32) dX11_fill_62 rfl (by decide) (by decide) (by rw [hx15]; rfl) ?_
      refine ae_goto 35 dX11_fill_65 rfl ?_
      refine ae_pick (lv' := [(0, ae_r (some (0, 0))), (2, ae_l v2), (4, ae_r (some (8, i4))), (5, ae_i x15)]) [1, 2, 3, 0] rfl ?_
      exact ih v2 i4 x15 s12 hF16
def F_X11_fill (v1 : Int32) (v2 : Int64) (s0 : ae_S) : Option (Int32 × ae_S) := ae_bd (F_X6_get v1 s0) (fun (r17 : Option (Fin 32)) s18 => ae_mo r17 (F_X11_fill_23 s18) (fun i21 => ae_bd (F_X9_isReadOnly i21 s18) (fun (r23 : Int32) s24 => if r23 = 0 then (ae_bd (F_X0_begin s24) (fun (r29 : Unit) s30 => F_X11_fill_35 ae_fu v2 i21 (0 : Int32) s30)) else (F_X11_fill_23 s24))))
set_option maxHeartbeats 4000000 in
set_option maxRecDepth 100000 in
theorem c_X11_fill {l : Launch} {G : ae_G} (d : Nat) {v1 : Int32} {v2 : Int64} {s0 ss : ae_S} {rr : Int32} (hF : F_X11_fill v1 v2 s0 = some (rr, ss)) : ae_Met l G (d + 5) yX11_fill mX11_fill [ae_r (some (0, 0)), ae_i v1, ae_l v2] s0 (ae_Po (some (ae_i rr)) ss) := by
  refine ae_enter (by decide) rfl (Nat.le_of_ble_eq_true rfl) ?_
  show ae_T l G (d + 5) mX11_fill (ae_Po (some (ae_i rr)) ss) 0 [(0, ae_r (some (0, 0))), (1, ae_i v1), (2, ae_l v2)] [] s0
  unfold F_X11_fill at hF
  refine ae_aload_n 0 dX11_fill_0 rfl ?_
  refine ae_getO (q := (0, 0)) (some (6, 0)) dX11_fill_1 fl_RX11_33 rfl rfl rfl ?_
  refine ae_iload_n 1 dX11_fill_4 rfl ?_
  obtain ⟨r17, s18, hc19, hF20⟩ := ae_bdI hF
  refine ae_cV1 (q := (6, 0)) (As := [ae_i v1]) dX11_fill_5 ww_1057 vy_X6_get rfl rfl rfl rfl rfl (Nat.le_of_ble_eq_true rfl) (c_X6_get (d + 4) hc19) ?_
  refine ae_astore (lv' := [(4, ae_r (ae_ro 8 r17)), (0, ae_r (some (0, 0))), (1, ae_i v1), (2, ae_l v2)]) dX11_fill_8 (by decide) rfl ?_
  refine ae_aload 0 dX11_fill_10 rfl ?_
  cases r17 with
  | none =>
    have hF22 := ae_moN hF20
    refine ae_ifnull 23 dX11_fill_12 rfl (fun _ => ?_) (fun h => absurd rfl h)
    refine ae_pick (lv' := []) [] rfl ?_
    exact t_X11_fill_23 d s18 hF22
  | some i21 =>
    have hF22 := ae_moS hF20
    refine ae_ifnull 23 dX11_fill_12 rfl (fun h => absurd h (by simp [ae_ro])) (fun _ => ?_)
    refine ae_aload 0 dX11_fill_15 rfl ?_
    obtain ⟨r23, s24, hc25, hF26⟩ := ae_bdI hF22
    refine ae_cV1 (q := (8, i21)) (As := []) dX11_fill_17 ww_1099 vy_X9_isReadOnly rfl rfl rfl rfl rfl (Nat.le_of_ble_eq_true rfl) (c_X9_isReadOnly (d + 4) hc25) ?_
    refine ae_if_eq 25 dX11_fill_20 rfl (fun hb27 => ?_) (fun hb27 => ?_)
    · have hF28 := ae_ifT hb27 hF26
      refine ae_aload_n 1 dX11_fill_25 rfl ?_
      refine ae_getO (q := (0, 0)) (some (3, 0)) dX11_fill_26 fl_RX11_26 rfl rfl rfl ?_
      obtain ⟨r29, s30, hc31, hF32⟩ := ae_bdI hF28
      refine ae_cV0 (q := (3, 0)) (As := []) dX11_fill_29 ww_809 vy_X0_begin rfl rfl rfl rfl rfl (Nat.le_of_ble_eq_true rfl) (c_X0_begin (d + 3) hc31) ?_
      refine ae_iconst (0 : Int32) dX11_fill_32 (by decide) ?_
      refine ae_istore (lv' := [(5, ae_i (0 : Int32)), (4, ae_r (some (8, i21))), (0, ae_r (some (0, 0))), (1, ae_i v1), (2, ae_l v2)]) dX11_fill_33 (by decide) rfl ?_
      refine ae_pick (lv' := [(0, ae_r (some (0, 0))), (2, ae_l v2), (4, ae_r (some (8, i21))), (5, ae_i (0 : Int32))]) [2, 4, 1, 0] rfl ?_
      exact t_X11_fill_35 d ae_fu v2 i21 (0 : Int32) s30 hF32
    · have hF28 := ae_ifF hb27 hF26
      refine ae_pick (lv' := []) [] rfl ?_
      exact t_X11_fill_23 d s24 hF28
abbrev mX11_roll : ae_M := (RX11, cX11_roll, 4, some .boolean)
theorem vy_X11_roll : ae_VY yX11_roll mX11_roll 2 := ⟨ww_1196, ww_1197, ww_1, ww_1198, ⟨by decide, by decide, by decide +kernel⟩, by decide⟩
theorem dX11_roll_0 : decode cX11_roll 0 = .ok (.aload_n 0, 1) := by decide +kernel
theorem dX11_roll_1 : decode cX11_roll 1 = .ok (.getfield 33, 3) := by decide +kernel
theorem dX11_roll_4 : decode cX11_roll 4 = .ok (.iload_n 1, 1) := by decide +kernel
theorem dX11_roll_5 : decode cX11_roll 5 = .ok (.invokevirtual 138, 3) := by decide +kernel
theorem dX11_roll_8 : decode cX11_roll 8 = .ok (.astore_n 3, 1) := by decide +kernel
theorem dX11_roll_9 : decode cX11_roll 9 = .ok (.aload_n 3, 1) := by decide +kernel
theorem dX11_roll_10 : decode cX11_roll 10 = .ok (.ifnull 20, 3) := by decide +kernel
theorem dX11_roll_13 : decode cX11_roll 13 = .ok (.aload_n 3, 1) := by decide +kernel
theorem dX11_roll_14 : decode cX11_roll 14 = .ok (.invokevirtual 191, 3) := by decide +kernel
theorem dX11_roll_17 : decode cX11_roll 17 = .ok (.ifCond .ne 13, 3) := by decide +kernel
theorem dX11_roll_20 : decode cX11_roll 20 = .ok (.iload_n 2, 1) := by decide +kernel
theorem dX11_roll_21 : decode cX11_roll 21 = .ok (.ifCond .lt 9, 3) := by decide +kernel
theorem dX11_roll_24 : decode cX11_roll 24 = .ok (.iload_n 2, 1) := by decide +kernel
theorem dX11_roll_25 : decode cX11_roll 25 = .ok (.bipush 64, 2) := by decide +kernel
theorem dX11_roll_27 : decode cX11_roll 27 = .ok (.if_icmp .le 5, 3) := by decide +kernel
theorem dX11_roll_30 : decode cX11_roll 30 = .ok (.iconst 0, 1) := by decide +kernel
theorem dX11_roll_31 : decode cX11_roll 31 = .ok (.ireturn, 1) := by decide +kernel
theorem dX11_roll_32 : decode cX11_roll 32 = .ok (.aload_n 0, 1) := by decide +kernel
theorem dX11_roll_33 : decode cX11_roll 33 = .ok (.getfield 26, 3) := by decide +kernel
theorem dX11_roll_36 : decode cX11_roll 36 = .ok (.invokevirtual 116, 3) := by decide +kernel
theorem dX11_roll_39 : decode cX11_roll 39 = .ok (.aload_n 3, 1) := by decide +kernel
theorem dX11_roll_40 : decode cX11_roll 40 = .ok (.aload_n 0, 1) := by decide +kernel
theorem dX11_roll_41 : decode cX11_roll 41 = .ok (.getfield 26, 3) := by decide +kernel
theorem dX11_roll_44 : decode cX11_roll 44 = .ok (.aload_n 0, 1) := by decide +kernel
theorem dX11_roll_45 : decode cX11_roll 45 = .ok (.getfield 76, 3) := by decide +kernel
theorem dX11_roll_48 : decode cX11_roll 48 = .ok (.invokevirtual 252, 3) := by decide +kernel
theorem dX11_roll_51 : decode cX11_roll 51 = .ok (.aload_n 3, 1) := by decide +kernel
theorem dX11_roll_52 : decode cX11_roll 52 = .ok (.aload_n 0, 1) := by decide +kernel
theorem dX11_roll_53 : decode cX11_roll 53 = .ok (.getfield 26, 3) := by decide +kernel
theorem dX11_roll_56 : decode cX11_roll 56 = .ok (.aload_n 0, 1) := by decide +kernel
theorem dX11_roll_57 : decode cX11_roll 57 = .ok (.getfield 76, 3) := by decide +kernel
theorem dX11_roll_60 : decode cX11_roll 60 = .ok (.iload_n 2, 1) := by decide +kernel
theorem dX11_roll_61 : decode cX11_roll 61 = .ok (.invokevirtual 259, 3) := by decide +kernel
theorem dX11_roll_64 : decode cX11_roll 64 = .ok (.aload_n 0, 1) := by decide +kernel
theorem dX11_roll_65 : decode cX11_roll 65 = .ok (.getfield 26, 3) := by decide +kernel
theorem dX11_roll_68 : decode cX11_roll 68 = .ok (.invokevirtual 122, 3) := by decide +kernel
theorem dX11_roll_71 : decode cX11_roll 71 = .ok (.iconst 1, 1) := by decide +kernel
theorem dX11_roll_72 : decode cX11_roll 72 = .ok (.ireturn, 1) := by decide +kernel
def F_X11_roll_30 (s0 : ae_S) : Option (Int32 × ae_S) := some ((0 : Int32), s0)
set_option maxHeartbeats 4000000 in
set_option maxRecDepth 100000 in
theorem t_X11_roll_30 {l : Launch} {G : ae_G} (d : Nat) {rr : Int32} {ss : ae_S} (s0 : ae_S) (hF : F_X11_roll_30 s0 = some (rr, ss)) : ae_T l G (d + 3) mX11_roll (ae_Po (some (ae_i rr)) ss) 30 [] [] s0 := by
  unfold F_X11_roll_30 at hF
  refine ae_iconst (0 : Int32) dX11_roll_30 (by decide) ?_
  obtain ⟨rfl, rfl⟩ := ae_retI hF
  exact ae_iret dX11_roll_31 rfl (by decide) ⟨rfl, rfl⟩
def F_X11_roll (v1 : Int32) (v2 : Int32) (s0 : ae_S) : Option (Int32 × ae_S) := ae_bd (F_X6_get v1 s0) (fun (r1 : Option (Fin 32)) s2 => ae_mo r1 (F_X11_roll_30 s2) (fun i5 => ae_bd (F_X9_isReadOnly i5 s2) (fun (r7 : Int32) s8 => if r7 = 0 then (if v2 < 0 then (F_X11_roll_30 s8) else (if v2 ≤ (64 : Int32) then (ae_bd (F_X0_begin s8) (fun (r17 : Unit) s18 => ae_bd (F_X9_bitsInto i5 s18) (fun (r21 : Unit) s22 => ae_bd (F_X9_layRow i5 v2 s22) (fun (r25 : Unit) s26 => ae_bd (F_X0_keep s26) (fun (r29 : Unit) s30 => some ((1 : Int32), s30)))))) else (F_X11_roll_30 s8))) else (F_X11_roll_30 s8))))
set_option maxHeartbeats 4000000 in
set_option maxRecDepth 100000 in
theorem c_X11_roll {l : Launch} {G : ae_G} (d : Nat) {v1 : Int32} {v2 : Int32} {s0 ss : ae_S} {rr : Int32} (hF : F_X11_roll v1 v2 s0 = some (rr, ss)) : ae_Met l G (d + 3) yX11_roll mX11_roll [ae_r (some (0, 0)), ae_i v1, ae_i v2] s0 (ae_Po (some (ae_i rr)) ss) := by
  refine ae_enter (by decide) rfl (Nat.le_of_ble_eq_true rfl) ?_
  show ae_T l G (d + 3) mX11_roll (ae_Po (some (ae_i rr)) ss) 0 [(0, ae_r (some (0, 0))), (1, ae_i v1), (2, ae_i v2)] [] s0
  unfold F_X11_roll at hF
  refine ae_aload_n 0 dX11_roll_0 rfl ?_
  refine ae_getO (q := (0, 0)) (some (6, 0)) dX11_roll_1 fl_RX11_33 rfl rfl rfl ?_
  refine ae_iload_n 1 dX11_roll_4 rfl ?_
  obtain ⟨r1, s2, hc3, hF4⟩ := ae_bdI hF
  refine ae_cV1 (q := (6, 0)) (As := [ae_i v1]) dX11_roll_5 ww_1057 vy_X6_get rfl rfl rfl rfl rfl (Nat.le_of_ble_eq_true rfl) (c_X6_get (d + 2) hc3) ?_
  refine ae_astore_n (lv' := [(3, ae_r (ae_ro 8 r1)), (0, ae_r (some (0, 0))), (1, ae_i v1), (2, ae_i v2)]) dX11_roll_8 (by decide) rfl ?_
  refine ae_aload_n 0 dX11_roll_9 rfl ?_
  cases r1 with
  | none =>
    have hF6 := ae_moN hF4
    refine ae_ifnull 30 dX11_roll_10 rfl (fun _ => ?_) (fun h => absurd rfl h)
    refine ae_pick (lv' := []) [] rfl ?_
    exact t_X11_roll_30 d s2 hF6
  | some i5 =>
    have hF6 := ae_moS hF4
    refine ae_ifnull 30 dX11_roll_10 rfl (fun h => absurd h (by simp [ae_ro])) (fun _ => ?_)
    refine ae_aload_n 0 dX11_roll_13 rfl ?_
    obtain ⟨r7, s8, hc9, hF10⟩ := ae_bdI hF6
    refine ae_cV1 (q := (8, i5)) (As := []) dX11_roll_14 ww_1099 vy_X9_isReadOnly rfl rfl rfl rfl rfl (Nat.le_of_ble_eq_true rfl) (c_X9_isReadOnly (d + 2) hc9) ?_
    refine ae_if_ne 30 dX11_roll_17 rfl (fun hb11 => ?_) (fun hb11 => ?_)
    · have hF12 := ae_ifF hb11 hF10
      refine ae_pick (lv' := []) [] rfl ?_
      exact t_X11_roll_30 d s8 hF12
    · have hF12 := ae_ifT hb11 hF10
      refine ae_iload_n 3 dX11_roll_20 rfl ?_
      refine ae_if_lt 30 dX11_roll_21 rfl (fun hb13 => ?_) (fun hb13 => ?_)
      · have hF14 := ae_ifT hb13 hF12
        refine ae_pick (lv' := []) [] rfl ?_
        exact t_X11_roll_30 d s8 hF14
      · have hF14 := ae_ifF hb13 hF12
        refine ae_iload_n 3 dX11_roll_24 rfl ?_
        refine ae_bipush (64 : Int32) dX11_roll_25 (by decide) ?_
        refine ae_icmp_le 32 dX11_roll_27 rfl (fun hb15 => ?_) (fun hb15 => ?_)
        · have hF16 := ae_ifT hb15 hF14
          refine ae_aload_n 1 dX11_roll_32 rfl ?_
          refine ae_getO (q := (0, 0)) (some (3, 0)) dX11_roll_33 fl_RX11_26 rfl rfl rfl ?_
          obtain ⟨r17, s18, hc19, hF20⟩ := ae_bdI hF16
          refine ae_cV0 (q := (3, 0)) (As := []) dX11_roll_36 ww_809 vy_X0_begin rfl rfl rfl rfl rfl (Nat.le_of_ble_eq_true rfl) (c_X0_begin (d + 1) hc19) ?_
          refine ae_aload_n 0 dX11_roll_39 rfl ?_
          refine ae_aload_n 1 dX11_roll_40 rfl ?_
          refine ae_getO (q := (0, 0)) (some (3, 0)) dX11_roll_41 fl_RX11_26 rfl rfl rfl ?_
          refine ae_aload_n 1 dX11_roll_44 rfl ?_
          refine ae_getA (q := (0, 0)) (some (27, 0)) dX11_roll_45 fl_RX11_76 rfl rfl rfl ?_
          obtain ⟨r21, s22, hc23, hF24⟩ := ae_bdI hF20
          refine ae_cV0 (q := (8, i5)) (As := [ae_r (some (3, 0)), ae_r (some (27, 0))]) dX11_roll_48 ww_1169 vy_X9_bitsInto rfl rfl rfl rfl rfl (Nat.le_of_ble_eq_true rfl) (c_X9_bitsInto d hc23) ?_
          refine ae_aload_n 0 dX11_roll_51 rfl ?_
          refine ae_aload_n 1 dX11_roll_52 rfl ?_
          refine ae_getO (q := (0, 0)) (some (3, 0)) dX11_roll_53 fl_RX11_26 rfl rfl rfl ?_
          refine ae_aload_n 1 dX11_roll_56 rfl ?_
          refine ae_getA (q := (0, 0)) (some (27, 0)) dX11_roll_57 fl_RX11_76 rfl rfl rfl ?_
          refine ae_iload_n 3 dX11_roll_60 rfl ?_
          obtain ⟨r25, s26, hc27, hF28⟩ := ae_bdI hF24
          refine ae_cV0 (q := (8, i5)) (As := [ae_r (some (3, 0)), ae_r (some (27, 0)), ae_i v2]) dX11_roll_61 ww_1173 vy_X9_layRow rfl rfl rfl rfl rfl (Nat.le_of_ble_eq_true rfl) (c_X9_layRow d hc27) ?_
          refine ae_aload_n 1 dX11_roll_64 rfl ?_
          refine ae_getO (q := (0, 0)) (some (3, 0)) dX11_roll_65 fl_RX11_26 rfl rfl rfl ?_
          obtain ⟨r29, s30, hc31, hF32⟩ := ae_bdI hF28
          refine ae_cV0 (q := (3, 0)) (As := []) dX11_roll_68 ww_1021 vy_X0_keep rfl rfl rfl rfl rfl (Nat.le_of_ble_eq_true rfl) (c_X0_keep (d + 1) hc31) ?_
          refine ae_iconst (1 : Int32) dX11_roll_71 (by decide) ?_
          obtain ⟨rfl, rfl⟩ := ae_retI hF32
          exact ae_iret dX11_roll_72 rfl (by decide) ⟨rfl, rfl⟩
        · have hF16 := ae_ifF hb15 hF14
          refine ae_pick (lv' := []) [] rfl ?_
          exact t_X11_roll_30 d s8 hF16
abbrev mX11_show : ae_M := (RX11, cX11_show, 3, some .int)
theorem vy_X11_show : ae_VY yX11_show mX11_show 1 := ⟨ww_1200, ww_1201, ww_1, ww_1202, ⟨by decide, by decide, by decide +kernel⟩, by decide⟩
theorem dX11_show_0 : decode cX11_show 0 = .ok (.aload_n 0, 1) := by decide +kernel
theorem dX11_show_1 : decode cX11_show 1 = .ok (.getfield 33, 3) := by decide +kernel
theorem dX11_show_4 : decode cX11_show 4 = .ok (.iload_n 1, 1) := by decide +kernel
theorem dX11_show_5 : decode cX11_show 5 = .ok (.invokevirtual 138, 3) := by decide +kernel
theorem dX11_show_8 : decode cX11_show 8 = .ok (.astore_n 2, 1) := by decide +kernel
theorem dX11_show_9 : decode cX11_show 9 = .ok (.aload_n 2, 1) := by decide +kernel
theorem dX11_show_10 : decode cX11_show 10 = .ok (.ifnonnull 5, 3) := by decide +kernel
theorem dX11_show_13 : decode cX11_show 13 = .ok (.iconst (-1), 1) := by decide +kernel
theorem dX11_show_14 : decode cX11_show 14 = .ok (.ireturn, 1) := by decide +kernel
theorem dX11_show_15 : decode cX11_show 15 = .ok (.aload_n 0, 1) := by decide +kernel
theorem dX11_show_16 : decode cX11_show 16 = .ok (.getfield 20, 3) := by decide +kernel
theorem dX11_show_19 : decode cX11_show 19 = .ok (.iconst 0, 1) := by decide +kernel
theorem dX11_show_20 : decode cX11_show 20 = .ok (.invokevirtual 93, 3) := by decide +kernel
theorem dX11_show_23 : decode cX11_show 23 = .ok (.aload_n 2, 1) := by decide +kernel
theorem dX11_show_24 : decode cX11_show 24 = .ok (.aload_n 0, 1) := by decide +kernel
theorem dX11_show_25 : decode cX11_show 25 = .ok (.getfield 20, 3) := by decide +kernel
theorem dX11_show_28 : decode cX11_show 28 = .ok (.invokevirtual 275, 3) := by decide +kernel
theorem dX11_show_31 : decode cX11_show 31 = .ok (.aload_n 2, 1) := by decide +kernel
theorem dX11_show_32 : decode cX11_show 32 = .ok (.aload_n 0, 1) := by decide +kernel
theorem dX11_show_33 : decode cX11_show 33 = .ok (.getfield 20, 3) := by decide +kernel
theorem dX11_show_36 : decode cX11_show 36 = .ok (.invokevirtual 278, 3) := by decide +kernel
theorem dX11_show_39 : decode cX11_show 39 = .ok (.aload_n 0, 1) := by decide +kernel
theorem dX11_show_40 : decode cX11_show 40 = .ok (.getfield 20, 3) := by decide +kernel
theorem dX11_show_43 : decode cX11_show 43 = .ok (.invokevirtual 86, 3) := by decide +kernel
theorem dX11_show_46 : decode cX11_show 46 = .ok (.ireturn, 1) := by decide +kernel
def F_X11_show (v1 : Int32) (s0 : ae_S) : Option (Int32 × ae_S) := ae_bd (F_X6_get v1 s0) (fun (r1 : Option (Fin 32)) s2 => ae_mo r1 (some ((-1 : Int32), s2)) (fun i5 => ae_bd (F_X7_cut (1 : Fin 32) (0 : Int32) s2) (fun (r7 : Unit) s8 => ae_bd (F_X9_addHead i5 (1 : Fin 32) s8) (fun (r11 : Unit) s12 => ae_bd (F_X9_addFields i5 (1 : Fin 32) s12) (fun (r15 : Unit) s16 => ae_bd (F_X7_length (1 : Fin 32) s16) (fun (r19 : Int32) s20 => some (r19, s20)))))))
set_option maxHeartbeats 4000000 in
set_option maxRecDepth 100000 in
theorem c_X11_show {l : Launch} {G : ae_G} (d : Nat) {v1 : Int32} {s0 ss : ae_S} {rr : Int32} (hF : F_X11_show v1 s0 = some (rr, ss)) : ae_Met l G (d + 6) yX11_show mX11_show [ae_r (some (0, 0)), ae_i v1] s0 (ae_Po (some (ae_i rr)) ss) := by
  refine ae_enter (by decide) rfl (Nat.le_of_ble_eq_true rfl) ?_
  show ae_T l G (d + 6) mX11_show (ae_Po (some (ae_i rr)) ss) 0 [(0, ae_r (some (0, 0))), (1, ae_i v1)] [] s0
  unfold F_X11_show at hF
  refine ae_aload_n 0 dX11_show_0 rfl ?_
  refine ae_getO (q := (0, 0)) (some (6, 0)) dX11_show_1 fl_RX11_33 rfl rfl rfl ?_
  refine ae_iload_n 1 dX11_show_4 rfl ?_
  obtain ⟨r1, s2, hc3, hF4⟩ := ae_bdI hF
  refine ae_cV1 (q := (6, 0)) (As := [ae_i v1]) dX11_show_5 ww_1057 vy_X6_get rfl rfl rfl rfl rfl (Nat.le_of_ble_eq_true rfl) (c_X6_get (d + 5) hc3) ?_
  refine ae_astore_n (lv' := [(2, ae_r (ae_ro 8 r1)), (0, ae_r (some (0, 0))), (1, ae_i v1)]) dX11_show_8 (by decide) rfl ?_
  refine ae_aload_n 0 dX11_show_9 rfl ?_
  cases r1 with
  | none =>
    have hF6 := ae_moN hF4
    refine ae_ifnonnull 15 dX11_show_10 rfl (fun h => absurd rfl h) (fun _ => ?_)
    refine ae_iconst (-1 : Int32) dX11_show_13 (by decide) ?_
    obtain ⟨rfl, rfl⟩ := ae_retI hF6
    exact ae_iret dX11_show_14 rfl rfl ⟨rfl, rfl⟩
  | some i5 =>
    have hF6 := ae_moS hF4
    refine ae_ifnonnull 15 dX11_show_10 rfl (fun _ => ?_) (fun h => absurd h (by simp [ae_ro]))
    refine ae_aload_n 1 dX11_show_15 rfl ?_
    refine ae_getO (q := (0, 0)) (some (1, 1)) dX11_show_16 fl_RX11_20 rfl rfl rfl ?_
    refine ae_iconst (0 : Int32) dX11_show_19 (by decide) ?_
    obtain ⟨r7, s8, hc9, hF10⟩ := ae_bdI hF6
    refine ae_cV0 (q := (1, 1)) (As := [ae_i (0 : Int32)]) dX11_show_20 ww_362 vy_X7_cut rfl rfl rfl rfl rfl (Nat.le_of_ble_eq_true rfl) (c_X7_cut (d + 5) hc9) ?_
    refine ae_aload_n 0 dX11_show_23 rfl ?_
    refine ae_aload_n 1 dX11_show_24 rfl ?_
    refine ae_getO (q := (0, 0)) (some (1, 1)) dX11_show_25 fl_RX11_20 rfl rfl rfl ?_
    obtain ⟨r11, s12, hc13, hF14⟩ := ae_bdI hF10
    refine ae_cV0 (q := (8, i5)) (As := [ae_r (some (1, 1))]) dX11_show_28 ww_1203 vy_X9_addHead rfl rfl rfl rfl rfl (Nat.le_of_ble_eq_true rfl) (c_X9_addHead d hc13) ?_
    refine ae_aload_n 0 dX11_show_31 rfl ?_
    refine ae_aload_n 1 dX11_show_32 rfl ?_
    refine ae_getO (q := (0, 0)) (some (1, 1)) dX11_show_33 fl_RX11_20 rfl rfl rfl ?_
    obtain ⟨r15, s16, hc17, hF18⟩ := ae_bdI hF14
    refine ae_cV0 (q := (8, i5)) (As := [ae_r (some (1, 1))]) dX11_show_36 ww_1229 vy_X9_addFields rfl rfl rfl rfl rfl (Nat.le_of_ble_eq_true rfl) (c_X9_addFields (d + 3) hc17) ?_
    refine ae_aload_n 1 dX11_show_39 rfl ?_
    refine ae_getO (q := (0, 0)) (some (1, 1)) dX11_show_40 fl_RX11_20 rfl rfl rfl ?_
    obtain ⟨r19, s20, hc21, hF22⟩ := ae_bdI hF18
    refine ae_cV1 (q := (1, 1)) (As := []) dX11_show_43 ww_346 vy_X7_length rfl rfl rfl rfl rfl (Nat.le_of_ble_eq_true rfl) (c_X7_length (d + 5) hc21) ?_
    obtain ⟨rfl, rfl⟩ := ae_retI hF22
    exact ae_iret dX11_show_46 rfl rfl ⟨rfl, rfl⟩
abbrev mX11_out : ae_M := (RX11, cX11_out, 2, some .int)
theorem vy_X11_out : ae_VY yX11_out mX11_out 1 := ⟨ww_1234, ww_1235, ww_1, ww_1236, ⟨by decide, by decide, by decide +kernel⟩, by decide⟩
theorem dX11_out_0 : decode cX11_out 0 = .ok (.aload_n 0, 1) := by decide +kernel
theorem dX11_out_1 : decode cX11_out 1 = .ok (.getfield 20, 3) := by decide +kernel
theorem dX11_out_4 : decode cX11_out 4 = .ok (.iload_n 1, 1) := by decide +kernel
theorem dX11_out_5 : decode cX11_out 5 = .ok (.invokevirtual 281, 3) := by decide +kernel
theorem dX11_out_8 : decode cX11_out 8 = .ok (.ifCond .eq 14, 3) := by decide +kernel
theorem dX11_out_11 : decode cX11_out 11 = .ok (.aload_n 0, 1) := by decide +kernel
theorem dX11_out_12 : decode cX11_out 12 = .ok (.getfield 20, 3) := by decide +kernel
theorem dX11_out_15 : decode cX11_out 15 = .ok (.iload_n 1, 1) := by decide +kernel
theorem dX11_out_16 : decode cX11_out 16 = .ok (.invokevirtual 282, 3) := by decide +kernel
theorem dX11_out_19 : decode cX11_out 19 = .ok (.goto 4, 3) := by decide +kernel
theorem dX11_out_22 : decode cX11_out 22 = .ok (.iconst (-1), 1) := by decide +kernel
theorem dX11_out_23 : decode cX11_out 23 = .ok (.ireturn, 1) := by decide +kernel
def F_X11_out_23 (t0 : Int32) (s0 : ae_S) : Option (Int32 × ae_S) := some (t0, s0)
set_option maxHeartbeats 4000000 in
set_option maxRecDepth 100000 in
theorem t_X11_out_23 {l : Launch} {G : ae_G} (d : Nat) {rr : Int32} {ss : ae_S} (t0 : Int32) (s0 : ae_S) (hF : F_X11_out_23 t0 s0 = some (rr, ss)) : ae_T l G (d + 1) mX11_out (ae_Po (some (ae_i rr)) ss) 23 [] [ae_i t0] s0 := by
  unfold F_X11_out_23 at hF
  obtain ⟨rfl, rfl⟩ := ae_retI hF
  exact ae_iret dX11_out_23 rfl rfl ⟨rfl, rfl⟩
def F_X11_out (v1 : Int32) (s0 : ae_S) : Option (Int32 × ae_S) := ae_bd (F_X7_has (1 : Fin 32) v1 s0) (fun (r1 : Int32) s2 => if r1 = 0 then (F_X11_out_23 (-1 : Int32) s2) else (ae_bd (F_X7_get (1 : Fin 32) v1 s2) (fun (r7 : Int32) s8 => F_X11_out_23 r7 s8)))
set_option maxHeartbeats 4000000 in
set_option maxRecDepth 100000 in
theorem c_X11_out {l : Launch} {G : ae_G} (d : Nat) {v1 : Int32} {s0 ss : ae_S} {rr : Int32} (hF : F_X11_out v1 s0 = some (rr, ss)) : ae_Met l G (d + 1) yX11_out mX11_out [ae_r (some (0, 0)), ae_i v1] s0 (ae_Po (some (ae_i rr)) ss) := by
  refine ae_enter (by decide) rfl (Nat.le_of_ble_eq_true rfl) ?_
  show ae_T l G (d + 1) mX11_out (ae_Po (some (ae_i rr)) ss) 0 [(0, ae_r (some (0, 0))), (1, ae_i v1)] [] s0
  unfold F_X11_out at hF
  refine ae_aload_n 0 dX11_out_0 rfl ?_
  refine ae_getO (q := (0, 0)) (some (1, 1)) dX11_out_1 fl_RX11_20 rfl rfl rfl ?_
  refine ae_iload_n 1 dX11_out_4 rfl ?_
  obtain ⟨r1, s2, hc3, hF4⟩ := ae_bdI hF
  refine ae_cV1 (q := (1, 1)) (As := [ae_i v1]) dX11_out_5 ww_1237 vy_X7_has rfl rfl rfl rfl rfl (Nat.le_of_ble_eq_true rfl) (c_X7_has d hc3) ?_
  refine ae_if_eq 22 dX11_out_8 rfl (fun hb5 => ?_) (fun hb5 => ?_)
  · have hF6 := ae_ifT hb5 hF4
    refine ae_iconst (-1 : Int32) dX11_out_22 (by decide) ?_
    refine ae_pick (lv' := []) [] rfl ?_
    exact t_X11_out_23 d (-1 : Int32) s2 hF6
  · have hF6 := ae_ifF hb5 hF4
    refine ae_aload_n 0 dX11_out_11 rfl ?_
    refine ae_getO (q := (0, 0)) (some (1, 1)) dX11_out_12 fl_RX11_20 rfl rfl rfl ?_
    refine ae_iload_n 1 dX11_out_15 rfl ?_
    obtain ⟨r7, s8, hc9, hF10⟩ := ae_bdI hF6
    refine ae_cV1 (q := (1, 1)) (As := [ae_i v1]) dX11_out_16 ww_1241 vy_X7_get rfl rfl rfl rfl rfl (Nat.le_of_ble_eq_true rfl) (c_X7_get d hc9) ?_
    refine ae_goto 23 dX11_out_19 rfl ?_
    refine ae_pick (lv' := []) [] rfl ?_
    exact t_X11_out_23 d r7 s8 hF10
abbrev mX11_find : ae_M := (RX11, cX11_find, 7, some .int)
theorem vy_X11_find : ae_VY yX11_find mX11_find 3 := ⟨ww_1243, ww_1244, ww_1, ww_1245, ⟨by decide, by decide, by decide +kernel⟩, by decide⟩
theorem dX11_find_0 : decode cX11_find 0 = .ok (.aload_n 0, 1) := by decide +kernel
theorem dX11_find_1 : decode cX11_find 1 = .ok (.getfield 33, 3) := by decide +kernel
theorem dX11_find_4 : decode cX11_find 4 = .ok (.iload_n 1, 1) := by decide +kernel
theorem dX11_find_5 : decode cX11_find 5 = .ok (.invokevirtual 138, 3) := by decide +kernel
theorem dX11_find_8 : decode cX11_find 8 = .ok (.astore 5, 2) := by decide +kernel
theorem dX11_find_10 : decode cX11_find 10 = .ok (.aload 5, 2) := by decide +kernel
theorem dX11_find_12 : decode cX11_find 12 = .ok (.ifnull 16, 3) := by decide +kernel
theorem dX11_find_15 : decode cX11_find 15 = .ok (.iload_n 2, 1) := by decide +kernel
theorem dX11_find_16 : decode cX11_find 16 = .ok (.ifCond .lt 12, 3) := by decide +kernel
theorem dX11_find_19 : decode cX11_find 19 = .ok (.iload_n 2, 1) := by decide +kernel
theorem dX11_find_20 : decode cX11_find 20 = .ok (.aload 5, 2) := by decide +kernel
theorem dX11_find_22 : decode cX11_find 22 = .ok (.getfield 216, 3) := by decide +kernel
theorem dX11_find_25 : decode cX11_find 25 = .ok (.if_icmp .le 5, 3) := by decide +kernel
theorem dX11_find_28 : decode cX11_find 28 = .ok (.iconst (-1), 1) := by decide +kernel
theorem dX11_find_29 : decode cX11_find 29 = .ok (.ireturn, 1) := by decide +kernel
theorem dX11_find_30 : decode cX11_find 30 = .ok (.iload_n 2, 1) := by decide +kernel
theorem dX11_find_31 : decode cX11_find 31 = .ok (.istore 6, 2) := by decide +kernel
theorem dX11_find_33 : decode cX11_find 33 = .ok (.iload 6, 2) := by decide +kernel
theorem dX11_find_35 : decode cX11_find 35 = .ok (.aload 5, 2) := by decide +kernel
theorem dX11_find_37 : decode cX11_find 37 = .ok (.getfield 216, 3) := by decide +kernel
theorem dX11_find_40 : decode cX11_find 40 = .ok (.if_icmp .ge 32, 3) := by decide +kernel
theorem dX11_find_43 : decode cX11_find 43 = .ok (.aload 5, 2) := by decide +kernel
theorem dX11_find_45 : decode cX11_find 45 = .ok (.aload 5, 2) := by decide +kernel
theorem dX11_find_47 : decode cX11_find 47 = .ok (.aload_n 0, 1) := by decide +kernel
theorem dX11_find_48 : decode cX11_find 48 = .ok (.getfield 26, 3) := by decide +kernel
theorem dX11_find_51 : decode cX11_find 51 = .ok (.iload 6, 2) := by decide +kernel
theorem dX11_find_53 : decode cX11_find 53 = .ok (.invokevirtual 170, 3) := by decide +kernel
theorem dX11_find_56 : decode cX11_find 56 = .ok (.lload_n 3, 1) := by decide +kernel
theorem dX11_find_57 : decode cX11_find 57 = .ok (.invokevirtual 283, 3) := by decide +kernel
theorem dX11_find_60 : decode cX11_find 60 = .ok (.ifCond .eq 6, 3) := by decide +kernel
theorem dX11_find_63 : decode cX11_find 63 = .ok (.iload 6, 2) := by decide +kernel
theorem dX11_find_65 : decode cX11_find 65 = .ok (.ireturn, 1) := by decide +kernel
theorem dX11_find_66 : decode cX11_find 66 = .ok (.iinc 6 1, 3) := by decide +kernel
theorem dX11_find_69 : decode cX11_find 69 = .ok (.goto (-36), 3) := by decide +kernel
theorem dX11_find_72 : decode cX11_find 72 = .ok (.iconst (-1), 1) := by decide +kernel
theorem dX11_find_73 : decode cX11_find 73 = .ok (.ireturn, 1) := by decide +kernel
def F_X11_find_28 (s0 : ae_S) : Option (Int32 × ae_S) := some ((-1 : Int32), s0)
set_option maxHeartbeats 4000000 in
set_option maxRecDepth 100000 in
theorem t_X11_find_28 {l : Launch} {G : ae_G} (d : Nat) {rr : Int32} {ss : ae_S} (s0 : ae_S) (hF : F_X11_find_28 s0 = some (rr, ss)) : ae_T l G (d + 6) mX11_find (ae_Po (some (ae_i rr)) ss) 28 [] [] s0 := by
  unfold F_X11_find_28 at hF
  refine ae_iconst (-1 : Int32) dX11_find_28 (by decide) ?_
  obtain ⟨rfl, rfl⟩ := ae_retI hF
  exact ae_iret dX11_find_29 rfl rfl ⟨rfl, rfl⟩
def F_X11_find_33 : Nat → Int64 → Fin 32 → Int32 → ae_S → Option (Int32 × ae_S)
  | 0, _, _, _, _ => none
  | n + 1, v3, i5, v6, s0 => if (s0.1 8 i5 7) ≤ v6 then (some ((-1 : Int32), s0)) else (ae_bd (F_X9_bitsAt i5 v6 s0) (fun (r3 : Int64) s4 => ae_bd (F_X9_isAlike i5 r3 v3 s4) (fun (r7 : Int32) s8 => if r7 = 0 then (ae_lt (v6 + (1 : Int32)) (fun x13 => F_X11_find_33 n v3 i5 x13 s8)) else (some (v6, s8)))))
set_option maxHeartbeats 4000000 in
set_option maxRecDepth 100000 in
theorem t_X11_find_33 {l : Launch} {G : ae_G} (d : Nat) {rr : Int32} {ss : ae_S} : ∀ (n : Nat) (v3 : Int64) (i5 : Fin 32) (v6 : Int32) (s0 : ae_S), F_X11_find_33 n v3 i5 v6 s0 = some (rr, ss) → ae_T l G (d + 6) mX11_find (ae_Po (some (ae_i rr)) ss) 33 [(0, ae_r (some (0, 0))), (3, ae_l v3), (5, ae_r (some (8, i5))), (6, ae_i v6)] [] s0 := by
  intro n
  induction n with
  | zero =>
    intro v3 i5 v6 s0 hF
    exact absurd (show (none : Option (Int32 × ae_S)) = some (rr, ss) from hF) (by simp)
  | succ n ih =>
    intro v3 i5 v6 s0 hF
    unfold F_X11_find_33 at hF
    refine ae_iload 3 dX11_find_33 rfl ?_
    refine ae_aload 2 dX11_find_35 rfl ?_
    refine ae_getI (q := (8, i5)) dX11_find_37 fl_RX11_216 rfl rfl ?_
    refine ae_icmp_ge 72 dX11_find_40 rfl (fun hb1 => ?_) (fun hb1 => ?_)
    · have hF2 := ae_ifT hb1 hF
      refine ae_iconst (-1 : Int32) dX11_find_72 (by decide) ?_
      obtain ⟨rfl, rfl⟩ := ae_retI hF2
      exact ae_iret dX11_find_73 rfl rfl ⟨rfl, rfl⟩
    · have hF2 := ae_ifF hb1 hF
      refine ae_aload 2 dX11_find_43 rfl ?_
      refine ae_aload 2 dX11_find_45 rfl ?_
      refine ae_aload_n 0 dX11_find_47 rfl ?_
      refine ae_getO (q := (0, 0)) (some (3, 0)) dX11_find_48 fl_RX11_26 rfl rfl rfl ?_
      refine ae_iload 3 dX11_find_51 rfl ?_
      obtain ⟨r3, s4, hc5, hF6⟩ := ae_bdI hF2
      refine ae_cV1 (q := (8, i5)) (As := [ae_r (some (3, 0)), ae_i v6]) dX11_find_53 ww_1077 vy_X9_bitsAt rfl rfl rfl rfl rfl (Nat.le_of_ble_eq_true rfl) (c_X9_bitsAt (d + 4) hc5) ?_
      refine ae_lload_n 1 dX11_find_56 rfl ?_
      obtain ⟨r7, s8, hc9, hF10⟩ := ae_bdI hF6
      refine ae_cV1 (q := (8, i5)) (As := [ae_l r3, ae_l v3]) dX11_find_57 ww_1246 vy_X9_isAlike rfl rfl rfl rfl rfl (Nat.le_of_ble_eq_true rfl) (c_X9_isAlike d hc9) ?_
      refine ae_if_eq 66 dX11_find_60 rfl (fun hb11 => ?_) (fun hb11 => ?_)
      · have hF12 := ae_ifT hb11 hF10
        obtain ⟨x13, hx13, hF14⟩ := ae_ltI hF12
        refine ae_iinc (lv' := [(6, ae_i x13), (0, ae_r (some (0, 0))), (3, ae_l v3), (5, ae_r (some (8, i5)))]) 3 (1 : Int32) dX11_find_66 rfl (by decide) (by decide) (by rw [hx13]; rfl) ?_
        refine ae_goto 33 dX11_find_69 rfl ?_
        refine ae_pick (lv' := [(0, ae_r (some (0, 0))), (3, ae_l v3), (5, ae_r (some (8, i5))), (6, ae_i x13)]) [1, 2, 3, 0] rfl ?_
        exact ih v3 i5 x13 s8 hF14
      · have hF12 := ae_ifF hb11 hF10
        refine ae_iload 3 dX11_find_63 rfl ?_
        obtain ⟨rfl, rfl⟩ := ae_retI hF12
        exact ae_iret dX11_find_65 rfl rfl ⟨rfl, rfl⟩
def F_X11_find (v1 : Int32) (v2 : Int32) (v3 : Int64) (s0 : ae_S) : Option (Int32 × ae_S) := ae_bd (F_X6_get v1 s0) (fun (r15 : Option (Fin 32)) s16 => ae_mo r15 (F_X11_find_28 s16) (fun i19 => if v2 < 0 then (F_X11_find_28 s16) else (if v2 ≤ (s16.1 8 i19 7) then (F_X11_find_33 ae_fu v3 i19 v2 s16) else (F_X11_find_28 s16))))
set_option maxHeartbeats 4000000 in
set_option maxRecDepth 100000 in
theorem c_X11_find {l : Launch} {G : ae_G} (d : Nat) {v1 : Int32} {v2 : Int32} {v3 : Int64} {s0 ss : ae_S} {rr : Int32} (hF : F_X11_find v1 v2 v3 s0 = some (rr, ss)) : ae_Met l G (d + 6) yX11_find mX11_find [ae_r (some (0, 0)), ae_i v1, ae_i v2, ae_l v3] s0 (ae_Po (some (ae_i rr)) ss) := by
  refine ae_enter (by decide) rfl (Nat.le_of_ble_eq_true rfl) ?_
  show ae_T l G (d + 6) mX11_find (ae_Po (some (ae_i rr)) ss) 0 [(0, ae_r (some (0, 0))), (1, ae_i v1), (2, ae_i v2), (3, ae_l v3)] [] s0
  unfold F_X11_find at hF
  refine ae_aload_n 0 dX11_find_0 rfl ?_
  refine ae_getO (q := (0, 0)) (some (6, 0)) dX11_find_1 fl_RX11_33 rfl rfl rfl ?_
  refine ae_iload_n 1 dX11_find_4 rfl ?_
  obtain ⟨r15, s16, hc17, hF18⟩ := ae_bdI hF
  refine ae_cV1 (q := (6, 0)) (As := [ae_i v1]) dX11_find_5 ww_1057 vy_X6_get rfl rfl rfl rfl rfl (Nat.le_of_ble_eq_true rfl) (c_X6_get (d + 5) hc17) ?_
  refine ae_astore (lv' := [(5, ae_r (ae_ro 8 r15)), (0, ae_r (some (0, 0))), (1, ae_i v1), (2, ae_i v2), (3, ae_l v3)]) dX11_find_8 (by decide) rfl ?_
  refine ae_aload 0 dX11_find_10 rfl ?_
  cases r15 with
  | none =>
    have hF20 := ae_moN hF18
    refine ae_ifnull 28 dX11_find_12 rfl (fun _ => ?_) (fun h => absurd rfl h)
    refine ae_pick (lv' := []) [] rfl ?_
    exact t_X11_find_28 d s16 hF20
  | some i19 =>
    have hF20 := ae_moS hF18
    refine ae_ifnull 28 dX11_find_12 rfl (fun h => absurd h (by simp [ae_ro])) (fun _ => ?_)
    refine ae_iload_n 3 dX11_find_15 rfl ?_
    refine ae_if_lt 28 dX11_find_16 rfl (fun hb21 => ?_) (fun hb21 => ?_)
    · have hF22 := ae_ifT hb21 hF20
      refine ae_pick (lv' := []) [] rfl ?_
      exact t_X11_find_28 d s16 hF22
    · have hF22 := ae_ifF hb21 hF20
      refine ae_iload_n 3 dX11_find_19 rfl ?_
      refine ae_aload 0 dX11_find_20 rfl ?_
      refine ae_getI (q := (8, i19)) dX11_find_22 fl_RX11_216 rfl rfl ?_
      refine ae_icmp_le 30 dX11_find_25 rfl (fun hb23 => ?_) (fun hb23 => ?_)
      · have hF24 := ae_ifT hb23 hF22
        refine ae_iload_n 3 dX11_find_30 rfl ?_
        refine ae_istore (lv' := [(6, ae_i v2), (5, ae_r (some (8, i19))), (0, ae_r (some (0, 0))), (1, ae_i v1), (2, ae_i v2), (3, ae_l v3)]) dX11_find_31 (by decide) rfl ?_
        refine ae_pick (lv' := [(0, ae_r (some (0, 0))), (3, ae_l v3), (5, ae_r (some (8, i19))), (6, ae_i v2)]) [2, 5, 1, 0] rfl ?_
        exact t_X11_find_33 d ae_fu v3 i19 v2 s16 hF24
      · have hF24 := ae_ifF hb23 hF22
        refine ae_pick (lv' := []) [] rfl ?_
        exact t_X11_find_28 d s16 hF24
abbrev mX11_sum : ae_M := (RX11, cX11_sum, 8, some .long)
theorem vy_X11_sum : ae_VY yX11_sum mX11_sum 1 := ⟨ww_1252, ww_1253, ww_1, ww_1254, ⟨by decide, by decide, by decide +kernel⟩, by decide⟩
theorem dX11_sum_0 : decode cX11_sum 0 = .ok (.aload_n 0, 1) := by decide +kernel
theorem dX11_sum_1 : decode cX11_sum 1 = .ok (.getfield 33, 3) := by decide +kernel
theorem dX11_sum_4 : decode cX11_sum 4 = .ok (.iload_n 1, 1) := by decide +kernel
theorem dX11_sum_5 : decode cX11_sum 5 = .ok (.invokevirtual 138, 3) := by decide +kernel
theorem dX11_sum_8 : decode cX11_sum 8 = .ok (.astore_n 2, 1) := by decide +kernel
theorem dX11_sum_9 : decode cX11_sum 9 = .ok (.aload_n 2, 1) := by decide +kernel
theorem dX11_sum_10 : decode cX11_sum 10 = .ok (.ifnonnull 7, 3) := by decide +kernel
theorem dX11_sum_13 : decode cX11_sum 13 = .ok (.ldc2_w 185, 3) := by decide +kernel
theorem dX11_sum_16 : decode cX11_sum 16 = .ok (.lreturn, 1) := by decide +kernel
theorem dX11_sum_17 : decode cX11_sum 17 = .ok (.lconst 0, 1) := by decide +kernel
theorem dX11_sum_18 : decode cX11_sum 18 = .ok (.lstore_n 3, 1) := by decide +kernel
theorem dX11_sum_19 : decode cX11_sum 19 = .ok (.iconst 0, 1) := by decide +kernel
theorem dX11_sum_20 : decode cX11_sum 20 = .ok (.istore 5, 2) := by decide +kernel
theorem dX11_sum_22 : decode cX11_sum 22 = .ok (.iload 5, 2) := by decide +kernel
theorem dX11_sum_24 : decode cX11_sum 24 = .ok (.aload_n 2, 1) := by decide +kernel
theorem dX11_sum_25 : decode cX11_sum 25 = .ok (.getfield 216, 3) := by decide +kernel
theorem dX11_sum_28 : decode cX11_sum 28 = .ok (.if_icmp .ge 49, 3) := by decide +kernel
theorem dX11_sum_31 : decode cX11_sum 31 = .ok (.aload_n 2, 1) := by decide +kernel
theorem dX11_sum_32 : decode cX11_sum 32 = .ok (.aload_n 2, 1) := by decide +kernel
theorem dX11_sum_33 : decode cX11_sum 33 = .ok (.aload_n 0, 1) := by decide +kernel
theorem dX11_sum_34 : decode cX11_sum 34 = .ok (.getfield 26, 3) := by decide +kernel
theorem dX11_sum_37 : decode cX11_sum 37 = .ok (.iload 5, 2) := by decide +kernel
theorem dX11_sum_39 : decode cX11_sum 39 = .ok (.invokevirtual 170, 3) := by decide +kernel
theorem dX11_sum_42 : decode cX11_sum 42 = .ok (.invokevirtual 235, 3) := by decide +kernel
theorem dX11_sum_45 : decode cX11_sum 45 = .ok (.lstore 6, 2) := by decide +kernel
theorem dX11_sum_47 : decode cX11_sum 47 = .ok (.aload_n 2, 1) := by decide +kernel
theorem dX11_sum_48 : decode cX11_sum 48 = .ok (.getfield 238, 3) := by decide +kernel
theorem dX11_sum_51 : decode cX11_sum 51 = .ok (.getfield 242, 3) := by decide +kernel
theorem dX11_sum_54 : decode cX11_sum 54 = .ok (.ifCond .eq 12, 3) := by decide +kernel
theorem dX11_sum_57 : decode cX11_sum 57 = .ok (.lload_n 3, 1) := by decide +kernel
theorem dX11_sum_58 : decode cX11_sum 58 = .ok (.lload 6, 2) := by decide +kernel
theorem dX11_sum_60 : decode cX11_sum 60 = .ok (.invokestatic 287, 3) := by decide +kernel
theorem dX11_sum_63 : decode cX11_sum 63 = .ok (.goto 7, 3) := by decide +kernel
theorem dX11_sum_66 : decode cX11_sum 66 = .ok (.lload_n 3, 1) := by decide +kernel
theorem dX11_sum_67 : decode cX11_sum 67 = .ok (.lload 6, 2) := by decide +kernel
theorem dX11_sum_69 : decode cX11_sum 69 = .ok (.ladd, 1) := by decide +kernel
theorem dX11_sum_70 : decode cX11_sum 70 = .ok (.lstore_n 3, 1) := by decide +kernel
theorem dX11_sum_71 : decode cX11_sum 71 = .ok (.iinc 5 1, 3) := by decide +kernel
theorem dX11_sum_74 : decode cX11_sum 74 = .ok (.goto (-52), 3) := by decide +kernel
theorem dX11_sum_77 : decode cX11_sum 77 = .ok (.lload_n 3, 1) := by decide +kernel
theorem dX11_sum_78 : decode cX11_sum 78 = .ok (.lreturn, 1) := by decide +kernel
def F_X11_sum_70 (k22 : Fin 32 → Int64 → Int32 → ae_S → Option (Int64 × ae_S)) (i2 : Fin 32) (v5 : Int32) (t0 : Int64) (s0 : ae_S) : Option (Int64 × ae_S) := ae_lt (v5 + (1 : Int32)) (fun x1 => k22 i2 t0 x1 s0)
set_option maxHeartbeats 4000000 in
set_option maxRecDepth 100000 in
theorem t_X11_sum_70 {l : Launch} {G : ae_G} (d : Nat) (k22 : Fin 32 → Int64 → Int32 → ae_S → Option (Int64 × ae_S)) {rr : Int64} {ss : ae_S} (hk22 : ∀ (i2 : Fin 32) (v3 : Int64) (v5 : Int32) (s0 : ae_S), k22 i2 v3 v5 s0 = some (rr, ss) → ae_T l G (d + 5) mX11_sum (ae_Po (some (ae_l rr)) ss) 22 [(0, ae_r (some (0, 0))), (2, ae_r (some (8, i2))), (3, ae_l v3), (5, ae_i v5)] [] s0) (i2 : Fin 32) (v5 : Int32) (t0 : Int64) (s0 : ae_S) (hF : F_X11_sum_70 k22 i2 v5 t0 s0 = some (rr, ss)) : ae_T l G (d + 5) mX11_sum (ae_Po (some (ae_l rr)) ss) 70 [(0, ae_r (some (0, 0))), (2, ae_r (some (8, i2))), (5, ae_i v5)] [ae_l t0] s0 := by
  unfold F_X11_sum_70 at hF
  refine ae_lstore_n (lv' := [(3, ae_l t0), (0, ae_r (some (0, 0))), (2, ae_r (some (8, i2))), (5, ae_i v5)]) dX11_sum_70 (by decide) rfl ?_
  obtain ⟨x1, hx1, hF2⟩ := ae_ltI hF
  refine ae_iinc (lv' := [(5, ae_i x1), (3, ae_l t0), (0, ae_r (some (0, 0))), (2, ae_r (some (8, i2)))]) 3 (1 : Int32) dX11_sum_71 rfl (by decide) (by decide) (by rw [hx1]; rfl) ?_
  refine ae_goto 22 dX11_sum_74 rfl ?_
  refine ae_pick (lv' := [(0, ae_r (some (0, 0))), (2, ae_r (some (8, i2))), (3, ae_l t0), (5, ae_i x1)]) [2, 3, 1, 0] rfl ?_
  exact hk22 i2 t0 x1 s0 hF2
def F_X11_sum_22 : Nat → Fin 32 → Int64 → Int32 → ae_S → Option (Int64 × ae_S)
  | 0, _, _, _, _ => none
  | n + 1, i2, v3, v5, s0 => if (s0.1 8 i2 7) ≤ v5 then (some (v3, s0)) else (ae_bd (F_X9_bitsAt i2 v5 s0) (fun (r5 : Int64) s6 => ae_bd (F_X9_valueOf i2 r5 s6) (fun (r9 : Int64) s10 => ae_mo (ae_gk (s10.2.2.2 8 i2 4) 60) none (fun j13 => ae_gd (decide ((j13 : Fin 32).val < 9)) (if (ae_kFlo j13) = 0 then (F_X11_sum_70 (F_X11_sum_22 n) i2 v5 (v3 + r9) s10) else (ae_bd (F_X2_add v3 r9 s10) (fun (r19 : Int64) s20 => F_X11_sum_70 (F_X11_sum_22 n) i2 v5 r19 s20)))))))
set_option maxHeartbeats 4000000 in
set_option maxRecDepth 100000 in
theorem t_X11_sum_22 {l : Launch} {G : ae_G} (d : Nat) {rr : Int64} {ss : ae_S} : ∀ (n : Nat) (i2 : Fin 32) (v3 : Int64) (v5 : Int32) (s0 : ae_S), F_X11_sum_22 n i2 v3 v5 s0 = some (rr, ss) → ae_T l G (d + 5) mX11_sum (ae_Po (some (ae_l rr)) ss) 22 [(0, ae_r (some (0, 0))), (2, ae_r (some (8, i2))), (3, ae_l v3), (5, ae_i v5)] [] s0 := by
  intro n
  induction n with
  | zero =>
    intro i2 v3 v5 s0 hF
    exact absurd (show (none : Option (Int64 × ae_S)) = some (rr, ss) from hF) (by simp)
  | succ n ih =>
    intro i2 v3 v5 s0 hF
    unfold F_X11_sum_22 at hF
    refine ae_iload 3 dX11_sum_22 rfl ?_
    refine ae_aload_n 1 dX11_sum_24 rfl ?_
    refine ae_getI (q := (8, i2)) dX11_sum_25 fl_RX11_216 rfl rfl ?_
    refine ae_icmp_ge 77 dX11_sum_28 rfl (fun hb3 => ?_) (fun hb3 => ?_)
    · have hF4 := ae_ifT hb3 hF
      refine ae_lload_n 2 dX11_sum_77 rfl ?_
      obtain ⟨rfl, rfl⟩ := ae_retI hF4
      exact ae_lret dX11_sum_78 rfl ⟨rfl, rfl⟩
    · have hF4 := ae_ifF hb3 hF
      refine ae_aload_n 1 dX11_sum_31 rfl ?_
      refine ae_aload_n 1 dX11_sum_32 rfl ?_
      refine ae_aload_n 0 dX11_sum_33 rfl ?_
      refine ae_getO (q := (0, 0)) (some (3, 0)) dX11_sum_34 fl_RX11_26 rfl rfl rfl ?_
      refine ae_iload 3 dX11_sum_37 rfl ?_
      obtain ⟨r5, s6, hc7, hF8⟩ := ae_bdI hF4
      refine ae_cV1 (q := (8, i2)) (As := [ae_r (some (3, 0)), ae_i v5]) dX11_sum_39 ww_1077 vy_X9_bitsAt rfl rfl rfl rfl rfl (Nat.le_of_ble_eq_true rfl) (c_X9_bitsAt (d + 3) hc7) ?_
      obtain ⟨r9, s10, hc11, hF12⟩ := ae_bdI hF8
      refine ae_cV1 (q := (8, i2)) (As := [ae_l r5]) dX11_sum_42 ww_1163 vy_X9_valueOf rfl rfl rfl rfl rfl (Nat.le_of_ble_eq_true rfl) (c_X9_valueOf d hc11) ?_
      refine ae_lstore (lv' := [(6, ae_l r9), (0, ae_r (some (0, 0))), (2, ae_r (some (8, i2))), (3, ae_l v3), (5, ae_i v5)]) dX11_sum_45 (by decide) rfl ?_
      refine ae_aload_n 2 dX11_sum_47 rfl ?_
      obtain ⟨j13, hj13, hF14⟩ := ae_moK hF12
      refine ae_getO (q := (8, i2)) (some (60, j13)) dX11_sum_48 fl_RX11_238 rfl rfl hj13 ?_
      obtain ⟨hg15, hF16⟩ := ae_gdI hF14
      refine ae_getK (i := j13) dX11_sum_51 (List.mem_of_getElem? (i := 3) rfl) ww_1950 hg15 (ae_nmI (y := ae_kFlo j13) rfl ?_)
      refine ae_if_eq 66 dX11_sum_54 rfl (fun hb17 => ?_) (fun hb17 => ?_)
      · have hF18 := ae_ifT hb17 hF16
        refine ae_lload_n 3 dX11_sum_66 rfl ?_
        refine ae_lload 0 dX11_sum_67 rfl ?_
        refine ae_ladd dX11_sum_69 ?_
        refine ae_pick (lv' := [(0, ae_r (some (0, 0))), (2, ae_r (some (8, i2))), (5, ae_i v5)]) [1, 2, 4] rfl ?_
        exact t_X11_sum_70 d (F_X11_sum_22 n) ih i2 v5 (v3 + r9) s10 hF18
      · have hF18 := ae_ifF hb17 hF16
        refine ae_lload_n 3 dX11_sum_57 rfl ?_
        refine ae_lload 0 dX11_sum_58 rfl ?_
        obtain ⟨r19, s20, hc21, hF22⟩ := ae_bdI hF18
        refine ae_cS1 (As := [ae_l v3, ae_l r9]) dX11_sum_60 ww_1255 vy_X2_add rfl rfl (Nat.le_of_ble_eq_true rfl) (c_X2_add d hc21) ?_
        refine ae_goto 70 dX11_sum_63 rfl ?_
        refine ae_pick (lv' := [(0, ae_r (some (0, 0))), (2, ae_r (some (8, i2))), (5, ae_i v5)]) [1, 2, 4] rfl ?_
        exact t_X11_sum_70 d (F_X11_sum_22 n) ih i2 v5 r19 s20 hF22
def F_X11_sum (v1 : Int32) (s0 : ae_S) : Option (Int64 × ae_S) := ae_bd (F_X6_get v1 s0) (fun (r23 : Option (Fin 32)) s24 => ae_mo r23 (some ((-1 : Int64), s24)) (fun i27 => F_X11_sum_22 ae_fu i27 (0 : Int64) (0 : Int32) s24))
set_option maxHeartbeats 4000000 in
set_option maxRecDepth 100000 in
theorem c_X11_sum {l : Launch} {G : ae_G} (d : Nat) {v1 : Int32} {s0 ss : ae_S} {rr : Int64} (hF : F_X11_sum v1 s0 = some (rr, ss)) : ae_Met l G (d + 5) yX11_sum mX11_sum [ae_r (some (0, 0)), ae_i v1] s0 (ae_Po (some (ae_l rr)) ss) := by
  refine ae_enter (by decide) rfl (Nat.le_of_ble_eq_true rfl) ?_
  show ae_T l G (d + 5) mX11_sum (ae_Po (some (ae_l rr)) ss) 0 [(0, ae_r (some (0, 0))), (1, ae_i v1)] [] s0
  unfold F_X11_sum at hF
  refine ae_aload_n 0 dX11_sum_0 rfl ?_
  refine ae_getO (q := (0, 0)) (some (6, 0)) dX11_sum_1 fl_RX11_33 rfl rfl rfl ?_
  refine ae_iload_n 1 dX11_sum_4 rfl ?_
  obtain ⟨r23, s24, hc25, hF26⟩ := ae_bdI hF
  refine ae_cV1 (q := (6, 0)) (As := [ae_i v1]) dX11_sum_5 ww_1057 vy_X6_get rfl rfl rfl rfl rfl (Nat.le_of_ble_eq_true rfl) (c_X6_get (d + 4) hc25) ?_
  refine ae_astore_n (lv' := [(2, ae_r (ae_ro 8 r23)), (0, ae_r (some (0, 0))), (1, ae_i v1)]) dX11_sum_8 (by decide) rfl ?_
  refine ae_aload_n 0 dX11_sum_9 rfl ?_
  cases r23 with
  | none =>
    have hF28 := ae_moN hF26
    refine ae_ifnonnull 17 dX11_sum_10 rfl (fun h => absurd rfl h) (fun _ => ?_)
    refine ae_ldc2 dX11_sum_13 ww_1093 ?_
    obtain ⟨rfl, rfl⟩ := ae_retI hF28
    exact ae_lret dX11_sum_16 rfl ⟨rfl, rfl⟩
  | some i27 =>
    have hF28 := ae_moS hF26
    refine ae_ifnonnull 17 dX11_sum_10 rfl (fun _ => ?_) (fun h => absurd h (by simp [ae_ro]))
    refine ae_lconst (0 : Int64) dX11_sum_17 (by decide) ?_
    refine ae_lstore_n (lv' := [(3, ae_l (0 : Int64)), (2, ae_r (some (8, i27))), (0, ae_r (some (0, 0))), (1, ae_i v1)]) dX11_sum_18 (by decide) rfl ?_
    refine ae_iconst (0 : Int32) dX11_sum_19 (by decide) ?_
    refine ae_istore (lv' := [(5, ae_i (0 : Int32)), (3, ae_l (0 : Int64)), (2, ae_r (some (8, i27))), (0, ae_r (some (0, 0))), (1, ae_i v1)]) dX11_sum_20 (by decide) rfl ?_
    refine ae_pick (lv' := [(0, ae_r (some (0, 0))), (2, ae_r (some (8, i27))), (3, ae_l (0 : Int64)), (5, ae_i (0 : Int32))]) [3, 2, 1, 0] rfl ?_
    exact t_X11_sum_22 d ae_fu i27 (0 : Int64) (0 : Int32) s24 hF28
abbrev mX11_rest : ae_M := (RX11, cX11_rest, 6, some .long)
theorem vy_X11_rest : ae_VY yX11_rest mX11_rest 3 := ⟨ww_1257, ww_1258, ww_1, ww_1259, ⟨by decide, by decide, by decide +kernel⟩, by decide⟩
theorem dX11_rest_0 : decode cX11_rest 0 = .ok (.aload_n 0, 1) := by decide +kernel
theorem dX11_rest_1 : decode cX11_rest 1 = .ok (.getfield 33, 3) := by decide +kernel
theorem dX11_rest_4 : decode cX11_rest 4 = .ok (.iload_n 1, 1) := by decide +kernel
theorem dX11_rest_5 : decode cX11_rest 5 = .ok (.invokevirtual 138, 3) := by decide +kernel
theorem dX11_rest_8 : decode cX11_rest 8 = .ok (.astore 5, 2) := by decide +kernel
theorem dX11_rest_10 : decode cX11_rest 10 = .ok (.aload 5, 2) := by decide +kernel
theorem dX11_rest_12 : decode cX11_rest 12 = .ok (.ifnull 24, 3) := by decide +kernel
theorem dX11_rest_15 : decode cX11_rest 15 = .ok (.aload 5, 2) := by decide +kernel
theorem dX11_rest_17 : decode cX11_rest 17 = .ok (.getfield 238, 3) := by decide +kernel
theorem dX11_rest_20 : decode cX11_rest 20 = .ok (.getfield 242, 3) := by decide +kernel
theorem dX11_rest_23 : decode cX11_rest 23 = .ok (.ifCond .eq 13, 3) := by decide +kernel
theorem dX11_rest_26 : decode cX11_rest 26 = .ok (.aload 5, 2) := by decide +kernel
theorem dX11_rest_28 : decode cX11_rest 28 = .ok (.iload_n 2, 1) := by decide +kernel
theorem dX11_rest_29 : decode cX11_rest 29 = .ok (.i2l, 1) := by decide +kernel
theorem dX11_rest_30 : decode cX11_rest 30 = .ok (.invokevirtual 164, 3) := by decide +kernel
theorem dX11_rest_33 : decode cX11_rest 33 = .ok (.ifCond .ne 7, 3) := by decide +kernel
theorem dX11_rest_36 : decode cX11_rest 36 = .ok (.ldc2_w 185, 3) := by decide +kernel
theorem dX11_rest_39 : decode cX11_rest 39 = .ok (.lreturn, 1) := by decide +kernel
theorem dX11_rest_40 : decode cX11_rest 40 = .ok (.aload 5, 2) := by decide +kernel
theorem dX11_rest_42 : decode cX11_rest 42 = .ok (.aload 5, 2) := by decide +kernel
theorem dX11_rest_44 : decode cX11_rest 44 = .ok (.aload_n 0, 1) := by decide +kernel
theorem dX11_rest_45 : decode cX11_rest 45 = .ok (.getfield 26, 3) := by decide +kernel
theorem dX11_rest_48 : decode cX11_rest 48 = .ok (.iload_n 2, 1) := by decide +kernel
theorem dX11_rest_49 : decode cX11_rest 49 = .ok (.invokevirtual 170, 3) := by decide +kernel
theorem dX11_rest_52 : decode cX11_rest 52 = .ok (.invokevirtual 235, 3) := by decide +kernel
theorem dX11_rest_55 : decode cX11_rest 55 = .ok (.lload_n 3, 1) := by decide +kernel
theorem dX11_rest_56 : decode cX11_rest 56 = .ok (.invokestatic 293, 3) := by decide +kernel
theorem dX11_rest_59 : decode cX11_rest 59 = .ok (.invokestatic 296, 3) := by decide +kernel
theorem dX11_rest_62 : decode cX11_rest 62 = .ok (.lreturn, 1) := by decide +kernel
def F_X11_rest_36 (s0 : ae_S) : Option (Int64 × ae_S) := some ((-1 : Int64), s0)
set_option maxHeartbeats 4000000 in
set_option maxRecDepth 100000 in
theorem t_X11_rest_36 {l : Launch} {G : ae_G} (d : Nat) {rr : Int64} {ss : ae_S} (s0 : ae_S) (hF : F_X11_rest_36 s0 = some (rr, ss)) : ae_T l G (d + 5) mX11_rest (ae_Po (some (ae_l rr)) ss) 36 [] [] s0 := by
  unfold F_X11_rest_36 at hF
  refine ae_ldc2 dX11_rest_36 ww_1093 ?_
  obtain ⟨rfl, rfl⟩ := ae_retI hF
  exact ae_lret dX11_rest_39 rfl ⟨rfl, rfl⟩
def F_X11_rest (v1 : Int32) (v2 : Int32) (v3 : Int64) (s0 : ae_S) : Option (Int64 × ae_S) := ae_bd (F_X6_get v1 s0) (fun (r1 : Option (Fin 32)) s2 => ae_mo r1 (F_X11_rest_36 s2) (fun i5 => ae_mo (ae_gk (s2.2.2.2 8 i5 4) 60) none (fun j7 => ae_gd (decide ((j7 : Fin 32).val < 9)) (if (ae_kFlo j7) = 0 then (F_X11_rest_36 s2) else (ae_bd (F_X9_hasElement i5 v2.toInt64 s2) (fun (r13 : Int32) s14 => if r13 = 0 then (F_X11_rest_36 s14) else (ae_bd (F_X9_bitsAt i5 v2 s14) (fun (r19 : Int64) s20 => ae_bd (F_X9_valueOf i5 r19 s20) (fun (r23 : Int64) s24 => ae_bd (F_X2_ofWhole v3 s24) (fun (r27 : Int64) s28 => ae_bd (F_X2_remainder r23 r27 s28) (fun (r31 : Int64) s32 => some (r31, s32))))))))))))
set_option maxHeartbeats 4000000 in
set_option maxRecDepth 100000 in
theorem c_X11_rest {l : Launch} {G : ae_G} (d : Nat) {v1 : Int32} {v2 : Int32} {v3 : Int64} {s0 ss : ae_S} {rr : Int64} (hF : F_X11_rest v1 v2 v3 s0 = some (rr, ss)) : ae_Met l G (d + 5) yX11_rest mX11_rest [ae_r (some (0, 0)), ae_i v1, ae_i v2, ae_l v3] s0 (ae_Po (some (ae_l rr)) ss) := by
  refine ae_enter (by decide) rfl (Nat.le_of_ble_eq_true rfl) ?_
  show ae_T l G (d + 5) mX11_rest (ae_Po (some (ae_l rr)) ss) 0 [(0, ae_r (some (0, 0))), (1, ae_i v1), (2, ae_i v2), (3, ae_l v3)] [] s0
  unfold F_X11_rest at hF
  refine ae_aload_n 0 dX11_rest_0 rfl ?_
  refine ae_getO (q := (0, 0)) (some (6, 0)) dX11_rest_1 fl_RX11_33 rfl rfl rfl ?_
  refine ae_iload_n 1 dX11_rest_4 rfl ?_
  obtain ⟨r1, s2, hc3, hF4⟩ := ae_bdI hF
  refine ae_cV1 (q := (6, 0)) (As := [ae_i v1]) dX11_rest_5 ww_1057 vy_X6_get rfl rfl rfl rfl rfl (Nat.le_of_ble_eq_true rfl) (c_X6_get (d + 4) hc3) ?_
  refine ae_astore (lv' := [(5, ae_r (ae_ro 8 r1)), (0, ae_r (some (0, 0))), (1, ae_i v1), (2, ae_i v2), (3, ae_l v3)]) dX11_rest_8 (by decide) rfl ?_
  refine ae_aload 0 dX11_rest_10 rfl ?_
  cases r1 with
  | none =>
    have hF6 := ae_moN hF4
    refine ae_ifnull 36 dX11_rest_12 rfl (fun _ => ?_) (fun h => absurd rfl h)
    refine ae_pick (lv' := []) [] rfl ?_
    exact t_X11_rest_36 d s2 hF6
  | some i5 =>
    have hF6 := ae_moS hF4
    refine ae_ifnull 36 dX11_rest_12 rfl (fun h => absurd h (by simp [ae_ro])) (fun _ => ?_)
    refine ae_aload 0 dX11_rest_15 rfl ?_
    obtain ⟨j7, hj7, hF8⟩ := ae_moK hF6
    refine ae_getO (q := (8, i5)) (some (60, j7)) dX11_rest_17 fl_RX11_238 rfl rfl hj7 ?_
    obtain ⟨hg9, hF10⟩ := ae_gdI hF8
    refine ae_getK (i := j7) dX11_rest_20 (List.mem_of_getElem? (i := 3) rfl) ww_1950 hg9 (ae_nmI (y := ae_kFlo j7) rfl ?_)
    refine ae_if_eq 36 dX11_rest_23 rfl (fun hb11 => ?_) (fun hb11 => ?_)
    · have hF12 := ae_ifT hb11 hF10
      refine ae_pick (lv' := []) [] rfl ?_
      exact t_X11_rest_36 d s2 hF12
    · have hF12 := ae_ifF hb11 hF10
      refine ae_aload 0 dX11_rest_26 rfl ?_
      refine ae_iload_n 3 dX11_rest_28 rfl ?_
      refine ae_i2l dX11_rest_29 ?_
      obtain ⟨r13, s14, hc15, hF16⟩ := ae_bdI hF12
      refine ae_cV1 (q := (8, i5)) (As := [ae_l v2.toInt64]) dX11_rest_30 ww_1075 vy_X9_hasElement rfl rfl rfl rfl rfl (Nat.le_of_ble_eq_true rfl) (c_X9_hasElement (d + 4) hc15) ?_
      refine ae_if_ne 40 dX11_rest_33 rfl (fun hb17 => ?_) (fun hb17 => ?_)
      · have hF18 := ae_ifF hb17 hF16
        refine ae_aload 0 dX11_rest_40 rfl ?_
        refine ae_aload 0 dX11_rest_42 rfl ?_
        refine ae_aload_n 1 dX11_rest_44 rfl ?_
        refine ae_getO (q := (0, 0)) (some (3, 0)) dX11_rest_45 fl_RX11_26 rfl rfl rfl ?_
        refine ae_iload_n 3 dX11_rest_48 rfl ?_
        obtain ⟨r19, s20, hc21, hF22⟩ := ae_bdI hF18
        refine ae_cV1 (q := (8, i5)) (As := [ae_r (some (3, 0)), ae_i v2]) dX11_rest_49 ww_1077 vy_X9_bitsAt rfl rfl rfl rfl rfl (Nat.le_of_ble_eq_true rfl) (c_X9_bitsAt (d + 3) hc21) ?_
        obtain ⟨r23, s24, hc25, hF26⟩ := ae_bdI hF22
        refine ae_cV1 (q := (8, i5)) (As := [ae_l r19]) dX11_rest_52 ww_1163 vy_X9_valueOf rfl rfl rfl rfl rfl (Nat.le_of_ble_eq_true rfl) (c_X9_valueOf d hc25) ?_
        refine ae_lload_n 4 dX11_rest_55 rfl ?_
        obtain ⟨r27, s28, hc29, hF30⟩ := ae_bdI hF26
        refine ae_cS1 (As := [ae_l v3]) dX11_rest_56 ww_1260 vy_X2_ofWhole rfl rfl (Nat.le_of_ble_eq_true rfl) (c_X2_ofWhole (d + 1) hc29) ?_
        obtain ⟨r31, s32, hc33, hF34⟩ := ae_bdI hF30
        refine ae_cS1 (As := [ae_l r23, ae_l r27]) dX11_rest_59 ww_1261 vy_X2_remainder rfl rfl (Nat.le_of_ble_eq_true rfl) (c_X2_remainder (d + 1) hc33) ?_
        obtain ⟨rfl, rfl⟩ := ae_retI hF34
        exact ae_lret dX11_rest_62 rfl ⟨rfl, rfl⟩
      · have hF18 := ae_ifT hb17 hF16
        refine ae_pick (lv' := []) [] rfl ?_
        exact t_X11_rest_36 d s14 hF18
abbrev mX11_undo : ae_M := (RX11, cX11_undo, 1, some .boolean)
theorem vy_X11_undo : ae_VY yX11_undo mX11_undo 0 := ⟨ww_1263, ww_1264, ww_1, ww_1265, ⟨by decide, by decide, by decide +kernel⟩, by decide⟩
theorem dX11_undo_0 : decode cX11_undo 0 = .ok (.aload_n 0, 1) := by decide +kernel
theorem dX11_undo_1 : decode cX11_undo 1 = .ok (.getfield 26, 3) := by decide +kernel
theorem dX11_undo_4 : decode cX11_undo 4 = .ok (.invokevirtual 299, 3) := by decide +kernel
theorem dX11_undo_7 : decode cX11_undo 7 = .ok (.ireturn, 1) := by decide +kernel
def F_X11_undo (s0 : ae_S) : Option (Int32 × ae_S) := ae_bd (F_X0_stepBack s0) (fun (r1 : Int32) s2 => ae_gd (ae_zz r1) (some (r1, s2)))
set_option maxHeartbeats 4000000 in
set_option maxRecDepth 100000 in
theorem c_X11_undo {l : Launch} {G : ae_G} (d : Nat) {s0 ss : ae_S} {rr : Int32} (hF : F_X11_undo s0 = some (rr, ss)) : ae_Met l G (d + 3) yX11_undo mX11_undo [ae_r (some (0, 0))] s0 (ae_Po (some (ae_i rr)) ss) := by
  refine ae_enter (by decide) rfl (Nat.le_of_ble_eq_true rfl) ?_
  show ae_T l G (d + 3) mX11_undo (ae_Po (some (ae_i rr)) ss) 0 [(0, ae_r (some (0, 0)))] [] s0
  unfold F_X11_undo at hF
  refine ae_aload_n 0 dX11_undo_0 rfl ?_
  refine ae_getO (q := (0, 0)) (some (3, 0)) dX11_undo_1 fl_RX11_26 rfl rfl rfl ?_
  obtain ⟨r1, s2, hc3, hF4⟩ := ae_bdI hF
  refine ae_cV1 (q := (3, 0)) (As := []) dX11_undo_4 ww_1266 vy_X0_stepBack rfl rfl rfl rfl rfl (Nat.le_of_ble_eq_true rfl) (c_X0_stepBack d hc3) ?_
  obtain ⟨hg5, hF6⟩ := ae_gdI hF4
  obtain ⟨rfl, rfl⟩ := ae_retI hF6
  exact ae_iret dX11_undo_7 rfl (ae_zzN (ae_zzI hg5)) ⟨rfl, rfl⟩
abbrev mX11_uncovered : ae_M := (RX11, cX11_uncovered, 3, some .int)
theorem vy_X11_uncovered : ae_VY yX11_uncovered mX11_uncovered 0 := ⟨ww_1286, wq_51, ww_1, ww_1287, ⟨by decide, by decide, by decide +kernel⟩, by decide⟩
theorem dX11_uncovered_0 : decode cX11_uncovered 0 = .ok (.iconst 0, 1) := by decide +kernel
theorem dX11_uncovered_1 : decode cX11_uncovered 1 = .ok (.istore_n 1, 1) := by decide +kernel
theorem dX11_uncovered_2 : decode cX11_uncovered 2 = .ok (.iconst 0, 1) := by decide +kernel
theorem dX11_uncovered_3 : decode cX11_uncovered 3 = .ok (.istore_n 2, 1) := by decide +kernel
theorem dX11_uncovered_4 : decode cX11_uncovered 4 = .ok (.iload_n 2, 1) := by decide +kernel
theorem dX11_uncovered_5 : decode cX11_uncovered 5 = .ok (.aload_n 0, 1) := by decide +kernel
theorem dX11_uncovered_6 : decode cX11_uncovered 6 = .ok (.getfield 26, 3) := by decide +kernel
theorem dX11_uncovered_9 : decode cX11_uncovered 9 = .ok (.invokevirtual 102, 3) := by decide +kernel
theorem dX11_uncovered_12 : decode cX11_uncovered 12 = .ok (.if_icmp .ge 23, 3) := by decide +kernel
theorem dX11_uncovered_15 : decode cX11_uncovered 15 = .ok (.aload_n 0, 1) := by decide +kernel
theorem dX11_uncovered_16 : decode cX11_uncovered 16 = .ok (.getfield 33, 3) := by decide +kernel
theorem dX11_uncovered_19 : decode cX11_uncovered 19 = .ok (.iload_n 2, 1) := by decide +kernel
theorem dX11_uncovered_20 : decode cX11_uncovered 20 = .ok (.invokevirtual 226, 3) := by decide +kernel
theorem dX11_uncovered_23 : decode cX11_uncovered 23 = .ok (.ifCond .ne 6, 3) := by decide +kernel
theorem dX11_uncovered_26 : decode cX11_uncovered 26 = .ok (.iinc 1 1, 3) := by decide +kernel
theorem dX11_uncovered_29 : decode cX11_uncovered 29 = .ok (.iinc 2 1, 3) := by decide +kernel
theorem dX11_uncovered_32 : decode cX11_uncovered 32 = .ok (.goto (-28), 3) := by decide +kernel
theorem dX11_uncovered_35 : decode cX11_uncovered 35 = .ok (.iload_n 1, 1) := by decide +kernel
theorem dX11_uncovered_36 : decode cX11_uncovered 36 = .ok (.ireturn, 1) := by decide +kernel
def F_X11_uncovered_29 (k4 : Int32 → Int32 → ae_S → Option (Int32 × ae_S)) (v1 : Int32) (v2 : Int32) (s0 : ae_S) : Option (Int32 × ae_S) := ae_lt (v2 + (1 : Int32)) (fun x1 => k4 v1 x1 s0)
set_option maxHeartbeats 4000000 in
set_option maxRecDepth 100000 in
theorem t_X11_uncovered_29 {l : Launch} {G : ae_G} (d : Nat) (k4 : Int32 → Int32 → ae_S → Option (Int32 × ae_S)) {rr : Int32} {ss : ae_S} (hk4 : ∀ (v1 : Int32) (v2 : Int32) (s0 : ae_S), k4 v1 v2 s0 = some (rr, ss) → ae_T l G (d + 3) mX11_uncovered (ae_Po (some (ae_i rr)) ss) 4 [(0, ae_r (some (0, 0))), (1, ae_i v1), (2, ae_i v2)] [] s0) (v1 : Int32) (v2 : Int32) (s0 : ae_S) (hF : F_X11_uncovered_29 k4 v1 v2 s0 = some (rr, ss)) : ae_T l G (d + 3) mX11_uncovered (ae_Po (some (ae_i rr)) ss) 29 [(0, ae_r (some (0, 0))), (1, ae_i v1), (2, ae_i v2)] [] s0 := by
  unfold F_X11_uncovered_29 at hF
  obtain ⟨x1, hx1, hF2⟩ := ae_ltI hF
  refine ae_iinc (lv' := [(2, ae_i x1), (0, ae_r (some (0, 0))), (1, ae_i v1)]) 2 (1 : Int32) dX11_uncovered_29 rfl (by decide) (by decide) (by rw [hx1]; rfl) ?_
  refine ae_goto 4 dX11_uncovered_32 rfl ?_
  refine ae_pick (lv' := [(0, ae_r (some (0, 0))), (1, ae_i v1), (2, ae_i x1)]) [1, 2, 0] rfl ?_
  exact hk4 v1 x1 s0 hF2
def F_X11_uncovered_4 : Nat → Int32 → Int32 → ae_S → Option (Int32 × ae_S)
  | 0, _, _, _ => none
  | n + 1, v1, v2, s0 => ae_bd (F_X0_size s0) (fun (r3 : Int32) s4 => if r3 ≤ v2 then (some (v1, s4)) else (ae_bd (F_X6_covering v2 s4) (fun (r9 : Int32) s10 => if r9 = 0 then (ae_lt (v1 + (1 : Int32)) (fun x15 => F_X11_uncovered_29 (F_X11_uncovered_4 n) x15 v2 s10)) else (F_X11_uncovered_29 (F_X11_uncovered_4 n) v1 v2 s10))))
set_option maxHeartbeats 4000000 in
set_option maxRecDepth 100000 in
theorem t_X11_uncovered_4 {l : Launch} {G : ae_G} (d : Nat) {rr : Int32} {ss : ae_S} : ∀ (n : Nat) (v1 : Int32) (v2 : Int32) (s0 : ae_S), F_X11_uncovered_4 n v1 v2 s0 = some (rr, ss) → ae_T l G (d + 3) mX11_uncovered (ae_Po (some (ae_i rr)) ss) 4 [(0, ae_r (some (0, 0))), (1, ae_i v1), (2, ae_i v2)] [] s0 := by
  intro n
  induction n with
  | zero =>
    intro v1 v2 s0 hF
    exact absurd (show (none : Option (Int32 × ae_S)) = some (rr, ss) from hF) (by simp)
  | succ n ih =>
    intro v1 v2 s0 hF
    unfold F_X11_uncovered_4 at hF
    refine ae_iload_n 2 dX11_uncovered_4 rfl ?_
    refine ae_aload_n 0 dX11_uncovered_5 rfl ?_
    refine ae_getO (q := (0, 0)) (some (3, 0)) dX11_uncovered_6 fl_RX11_26 rfl rfl rfl ?_
    obtain ⟨r3, s4, hc5, hF6⟩ := ae_bdI hF
    refine ae_cV1 (q := (3, 0)) (As := []) dX11_uncovered_9 ww_473 vy_X0_size rfl rfl rfl rfl rfl (Nat.le_of_ble_eq_true rfl) (c_X0_size (d + 2) hc5) ?_
    refine ae_icmp_ge 35 dX11_uncovered_12 rfl (fun hb7 => ?_) (fun hb7 => ?_)
    · have hF8 := ae_ifT hb7 hF6
      refine ae_iload_n 1 dX11_uncovered_35 rfl ?_
      obtain ⟨rfl, rfl⟩ := ae_retI hF8
      exact ae_iret dX11_uncovered_36 rfl rfl ⟨rfl, rfl⟩
    · have hF8 := ae_ifF hb7 hF6
      refine ae_aload_n 0 dX11_uncovered_15 rfl ?_
      refine ae_getO (q := (0, 0)) (some (6, 0)) dX11_uncovered_16 fl_RX11_33 rfl rfl rfl ?_
      refine ae_iload_n 2 dX11_uncovered_19 rfl ?_
      obtain ⟨r9, s10, hc11, hF12⟩ := ae_bdI hF8
      refine ae_cV1 (q := (6, 0)) (As := [ae_i v2]) dX11_uncovered_20 ww_1153 vy_X6_covering rfl rfl rfl rfl rfl (Nat.le_of_ble_eq_true rfl) (c_X6_covering d hc11) ?_
      refine ae_if_ne 29 dX11_uncovered_23 rfl (fun hb13 => ?_) (fun hb13 => ?_)
      · have hF14 := ae_ifF hb13 hF12
        refine ae_pick (lv' := [(0, ae_r (some (0, 0))), (1, ae_i v1), (2, ae_i v2)]) [0, 1, 2] rfl ?_
        exact t_X11_uncovered_29 d (F_X11_uncovered_4 n) ih v1 v2 s10 hF14
      · have hF14 := ae_ifT hb13 hF12
        obtain ⟨x15, hx15, hF16⟩ := ae_ltI hF14
        refine ae_iinc (lv' := [(1, ae_i x15), (0, ae_r (some (0, 0))), (2, ae_i v2)]) 1 (1 : Int32) dX11_uncovered_26 rfl (by decide) (by decide) (by rw [hx15]; rfl) ?_
        refine ae_pick (lv' := [(0, ae_r (some (0, 0))), (1, ae_i x15), (2, ae_i v2)]) [1, 0, 2] rfl ?_
        exact t_X11_uncovered_29 d (F_X11_uncovered_4 n) ih x15 v2 s10 hF16
def F_X11_uncovered (s0 : ae_S) : Option (Int32 × ae_S) := F_X11_uncovered_4 ae_fu (0 : Int32) (0 : Int32) s0
set_option maxHeartbeats 4000000 in
set_option maxRecDepth 100000 in
theorem c_X11_uncovered {l : Launch} {G : ae_G} (d : Nat) {s0 ss : ae_S} {rr : Int32} (hF : F_X11_uncovered s0 = some (rr, ss)) : ae_Met l G (d + 3) yX11_uncovered mX11_uncovered [ae_r (some (0, 0))] s0 (ae_Po (some (ae_i rr)) ss) := by
  refine ae_enter (by decide) rfl (Nat.le_of_ble_eq_true rfl) ?_
  show ae_T l G (d + 3) mX11_uncovered (ae_Po (some (ae_i rr)) ss) 0 [(0, ae_r (some (0, 0)))] [] s0
  unfold F_X11_uncovered at hF
  refine ae_iconst (0 : Int32) dX11_uncovered_0 (by decide) ?_
  refine ae_istore_n (lv' := [(1, ae_i (0 : Int32)), (0, ae_r (some (0, 0)))]) dX11_uncovered_1 (by decide) rfl ?_
  refine ae_iconst (0 : Int32) dX11_uncovered_2 (by decide) ?_
  refine ae_istore_n (lv' := [(2, ae_i (0 : Int32)), (1, ae_i (0 : Int32)), (0, ae_r (some (0, 0)))]) dX11_uncovered_3 (by decide) rfl ?_
  refine ae_pick (lv' := [(0, ae_r (some (0, 0))), (1, ae_i (0 : Int32)), (2, ae_i (0 : Int32))]) [2, 1, 0] rfl ?_
  exact t_X11_uncovered_4 d ae_fu (0 : Int32) (0 : Int32) s0 hF
abbrev mX11_look : ae_M := (RX11, cX11_look, 2, some .int)
theorem vy_X11_look : ae_VY yX11_look mX11_look 1 := ⟨ww_1273, ww_1274, ww_1, ww_1275, ⟨by decide, by decide, by decide +kernel⟩, by decide⟩
theorem dX11_look_0 : decode cX11_look 0 = .ok (.iload_n 1, 1) := by decide +kernel
theorem dX11_look_1 : decode cX11_look 1 = .ok (.tableswitch 96 0 6 #[43, 51, 59, 67, 75, 83, 88], 43) := by decide +kernel
theorem dX11_look_44 : decode cX11_look 44 = .ok (.aload_n 0, 1) := by decide +kernel
theorem dX11_look_45 : decode cX11_look 45 = .ok (.getfield 26, 3) := by decide +kernel
theorem dX11_look_48 : decode cX11_look 48 = .ok (.invokevirtual 102, 3) := by decide +kernel
theorem dX11_look_51 : decode cX11_look 51 = .ok (.ireturn, 1) := by decide +kernel
theorem dX11_look_52 : decode cX11_look 52 = .ok (.aload_n 0, 1) := by decide +kernel
theorem dX11_look_53 : decode cX11_look 53 = .ok (.getfield 33, 3) := by decide +kernel
theorem dX11_look_56 : decode cX11_look 56 = .ok (.invokevirtual 109, 3) := by decide +kernel
theorem dX11_look_59 : decode cX11_look 59 = .ok (.ireturn, 1) := by decide +kernel
theorem dX11_look_60 : decode cX11_look 60 = .ok (.aload_n 0, 1) := by decide +kernel
theorem dX11_look_61 : decode cX11_look 61 = .ok (.getfield 26, 3) := by decide +kernel
theorem dX11_look_64 : decode cX11_look 64 = .ok (.invokevirtual 302, 3) := by decide +kernel
theorem dX11_look_67 : decode cX11_look 67 = .ok (.ireturn, 1) := by decide +kernel
theorem dX11_look_68 : decode cX11_look 68 = .ok (.aload_n 0, 1) := by decide +kernel
theorem dX11_look_69 : decode cX11_look 69 = .ok (.getfield 26, 3) := by decide +kernel
theorem dX11_look_72 : decode cX11_look 72 = .ok (.invokevirtual 305, 3) := by decide +kernel
theorem dX11_look_75 : decode cX11_look 75 = .ok (.ireturn, 1) := by decide +kernel
theorem dX11_look_76 : decode cX11_look 76 = .ok (.aload_n 0, 1) := by decide +kernel
theorem dX11_look_77 : decode cX11_look 77 = .ok (.getfield 16, 3) := by decide +kernel
theorem dX11_look_80 : decode cX11_look 80 = .ok (.invokevirtual 86, 3) := by decide +kernel
theorem dX11_look_83 : decode cX11_look 83 = .ok (.ireturn, 1) := by decide +kernel
theorem dX11_look_84 : decode cX11_look 84 = .ok (.aload_n 0, 1) := by decide +kernel
theorem dX11_look_85 : decode cX11_look 85 = .ok (.invokevirtual 308, 3) := by decide +kernel
theorem dX11_look_88 : decode cX11_look 88 = .ok (.ireturn, 1) := by decide +kernel
theorem dX11_look_89 : decode cX11_look 89 = .ok (.aload_n 0, 1) := by decide +kernel
theorem dX11_look_90 : decode cX11_look 90 = .ok (.getfield 26, 3) := by decide +kernel
theorem dX11_look_93 : decode cX11_look 93 = .ok (.invokevirtual 311, 3) := by decide +kernel
theorem dX11_look_96 : decode cX11_look 96 = .ok (.ireturn, 1) := by decide +kernel
theorem dX11_look_97 : decode cX11_look 97 = .ok (.iconst (-1), 1) := by decide +kernel
theorem dX11_look_98 : decode cX11_look 98 = .ok (.ireturn, 1) := by decide +kernel
def F_X11_look (v1 : Int32) (s0 : ae_S) : Option (Int32 × ae_S) := if v1 = (0 : Int32) then (ae_bd (F_X0_size s0) (fun (r3 : Int32) s4 => some (r3, s4))) else (if v1 = (1 : Int32) then (ae_bd (F_X6_count s0) (fun (r10 : Int32) s11 => some (r10, s11))) else (if v1 = (2 : Int32) then (ae_bd (F_X0_countSet s0) (fun (r17 : Int32) s18 => some (r17, s18))) else (if v1 = (3 : Int32) then (ae_bd (F_X0_historyCount s0) (fun (r24 : Int32) s25 => some (r24, s25))) else (if v1 = (4 : Int32) then (ae_bd (F_X7_length (0 : Fin 32) s0) (fun (r31 : Int32) s32 => some (r31, s32))) else (if v1 = (5 : Int32) then (ae_bd (F_X11_uncovered s0) (fun (r38 : Int32) s39 => some (r38, s39))) else (if v1 = (6 : Int32) then (ae_bd (F_X0_total s0) (fun (r45 : Int32) s46 => some (r45, s46))) else (some ((-1 : Int32), s0))))))))
set_option maxHeartbeats 4000000 in
set_option maxRecDepth 100000 in
theorem c_X11_look {l : Launch} {G : ae_G} (d : Nat) {v1 : Int32} {s0 ss : ae_S} {rr : Int32} (hF : F_X11_look v1 s0 = some (rr, ss)) : ae_Met l G (d + 4) yX11_look mX11_look [ae_r (some (0, 0)), ae_i v1] s0 (ae_Po (some (ae_i rr)) ss) := by
  refine ae_enter (by decide) rfl (Nat.le_of_ble_eq_true rfl) ?_
  show ae_T l G (d + 4) mX11_look (ae_Po (some (ae_i rr)) ss) 0 [(0, ae_r (some (0, 0))), (1, ae_i v1)] [] s0
  unfold F_X11_look at hF
  refine ae_iload_n 1 dX11_look_0 rfl ?_
  by_cases hb1 : v1 = (0 : Int32)
  · have hF2 := ae_ifT hb1 hF
    refine ae_tabIn 44 dX11_look_1 (by rw [hb1]; decide) (by rw [hb1]; decide) (by rw [hb1]; rfl) rfl ?_
    refine ae_aload_n 0 dX11_look_44 rfl ?_
    refine ae_getO (q := (0, 0)) (some (3, 0)) dX11_look_45 fl_RX11_26 rfl rfl rfl ?_
    obtain ⟨r3, s4, hc5, hF6⟩ := ae_bdI hF2
    refine ae_cV1 (q := (3, 0)) (As := []) dX11_look_48 ww_473 vy_X0_size rfl rfl rfl rfl rfl (Nat.le_of_ble_eq_true rfl) (c_X0_size (d + 3) hc5) ?_
    obtain ⟨rfl, rfl⟩ := ae_retI hF6
    exact ae_iret dX11_look_51 rfl rfl ⟨rfl, rfl⟩
  · have hF7 := ae_ifF hb1 hF
    by_cases hb8 : v1 = (1 : Int32)
    · have hF9 := ae_ifT hb8 hF7
      refine ae_tabIn 52 dX11_look_1 (by rw [hb8]; decide) (by rw [hb8]; decide) (by rw [hb8]; rfl) rfl ?_
      refine ae_aload_n 0 dX11_look_52 rfl ?_
      refine ae_getO (q := (0, 0)) (some (6, 0)) dX11_look_53 fl_RX11_33 rfl rfl rfl ?_
      obtain ⟨r10, s11, hc12, hF13⟩ := ae_bdI hF9
      refine ae_cV1 (q := (6, 0)) (As := []) dX11_look_56 ww_620 vy_X6_count rfl rfl rfl rfl rfl (Nat.le_of_ble_eq_true rfl) (c_X6_count (d + 3) hc12) ?_
      obtain ⟨rfl, rfl⟩ := ae_retI hF13
      exact ae_iret dX11_look_59 rfl rfl ⟨rfl, rfl⟩
    · have hF14 := ae_ifF hb8 hF7
      by_cases hb15 : v1 = (2 : Int32)
      · have hF16 := ae_ifT hb15 hF14
        refine ae_tabIn 60 dX11_look_1 (by rw [hb15]; decide) (by rw [hb15]; decide) (by rw [hb15]; rfl) rfl ?_
        refine ae_aload_n 0 dX11_look_60 rfl ?_
        refine ae_getO (q := (0, 0)) (some (3, 0)) dX11_look_61 fl_RX11_26 rfl rfl rfl ?_
        obtain ⟨r17, s18, hc19, hF20⟩ := ae_bdI hF16
        refine ae_cV1 (q := (3, 0)) (As := []) dX11_look_64 ww_1276 vy_X0_countSet rfl rfl rfl rfl rfl (Nat.le_of_ble_eq_true rfl) (c_X0_countSet (d + 3) hc19) ?_
        obtain ⟨rfl, rfl⟩ := ae_retI hF20
        exact ae_iret dX11_look_67 rfl rfl ⟨rfl, rfl⟩
      · have hF21 := ae_ifF hb15 hF14
        by_cases hb22 : v1 = (3 : Int32)
        · have hF23 := ae_ifT hb22 hF21
          refine ae_tabIn 68 dX11_look_1 (by rw [hb22]; decide) (by rw [hb22]; decide) (by rw [hb22]; rfl) rfl ?_
          refine ae_aload_n 0 dX11_look_68 rfl ?_
          refine ae_getO (q := (0, 0)) (some (3, 0)) dX11_look_69 fl_RX11_26 rfl rfl rfl ?_
          obtain ⟨r24, s25, hc26, hF27⟩ := ae_bdI hF23
          refine ae_cV1 (q := (3, 0)) (As := []) dX11_look_72 ww_1280 vy_X0_historyCount rfl rfl rfl rfl rfl (Nat.le_of_ble_eq_true rfl) (c_X0_historyCount (d + 3) hc26) ?_
          obtain ⟨rfl, rfl⟩ := ae_retI hF27
          exact ae_iret dX11_look_75 rfl rfl ⟨rfl, rfl⟩
        · have hF28 := ae_ifF hb22 hF21
          by_cases hb29 : v1 = (4 : Int32)
          · have hF30 := ae_ifT hb29 hF28
            refine ae_tabIn 76 dX11_look_1 (by rw [hb29]; decide) (by rw [hb29]; decide) (by rw [hb29]; rfl) rfl ?_
            refine ae_aload_n 0 dX11_look_76 rfl ?_
            refine ae_getO (q := (0, 0)) (some (1, 0)) dX11_look_77 fl_RX11_16 rfl rfl rfl ?_
            obtain ⟨r31, s32, hc33, hF34⟩ := ae_bdI hF30
            refine ae_cV1 (q := (1, 0)) (As := []) dX11_look_80 ww_346 vy_X7_length rfl rfl rfl rfl rfl (Nat.le_of_ble_eq_true rfl) (c_X7_length (d + 3) hc33) ?_
            obtain ⟨rfl, rfl⟩ := ae_retI hF34
            exact ae_iret dX11_look_83 rfl rfl ⟨rfl, rfl⟩
          · have hF35 := ae_ifF hb29 hF28
            by_cases hb36 : v1 = (5 : Int32)
            · have hF37 := ae_ifT hb36 hF35
              refine ae_tabIn 84 dX11_look_1 (by rw [hb36]; decide) (by rw [hb36]; decide) (by rw [hb36]; rfl) rfl ?_
              refine ae_aload_n 0 dX11_look_84 rfl ?_
              obtain ⟨r38, s39, hc40, hF41⟩ := ae_bdI hF37
              refine ae_cV1 (q := (0, 0)) (As := []) dX11_look_85 ww_1284 vy_X11_uncovered rfl rfl rfl rfl rfl (Nat.le_of_ble_eq_true rfl) (c_X11_uncovered d hc40) ?_
              obtain ⟨rfl, rfl⟩ := ae_retI hF41
              exact ae_iret dX11_look_88 rfl rfl ⟨rfl, rfl⟩
            · have hF42 := ae_ifF hb36 hF35
              by_cases hb43 : v1 = (6 : Int32)
              · have hF44 := ae_ifT hb43 hF42
                refine ae_tabIn 89 dX11_look_1 (by rw [hb43]; decide) (by rw [hb43]; decide) (by rw [hb43]; rfl) rfl ?_
                refine ae_aload_n 0 dX11_look_89 rfl ?_
                refine ae_getO (q := (0, 0)) (some (3, 0)) dX11_look_90 fl_RX11_26 rfl rfl rfl ?_
                obtain ⟨r45, s46, hc47, hF48⟩ := ae_bdI hF44
                refine ae_cV1 (q := (3, 0)) (As := []) dX11_look_93 ww_1288 vy_X0_total rfl rfl rfl rfl rfl (Nat.le_of_ble_eq_true rfl) (c_X0_total (d + 3) hc47) ?_
                obtain ⟨rfl, rfl⟩ := ae_retI hF48
                exact ae_iret dX11_look_96 rfl rfl ⟨rfl, rfl⟩
              · have hF49 := ae_ifF hb43 hF42
                have hn50 : ¬ (v1).toInt = 0 := lv_neT hb1 (by decide)
                have hn51 : ¬ (v1).toInt = 1 := lv_neT hb8 (by decide)
                have hn52 : ¬ (v1).toInt = 2 := lv_neT hb15 (by decide)
                have hn53 : ¬ (v1).toInt = 3 := lv_neT hb22 (by decide)
                have hn54 : ¬ (v1).toInt = 4 := lv_neT hb29 (by decide)
                have hn55 : ¬ (v1).toInt = 5 := lv_neT hb36 (by decide)
                have hn56 : ¬ (v1).toInt = 6 := lv_neT hb43 (by decide)
                refine ae_tabOut 97 dX11_look_1 (by omega) rfl ?_
                refine ae_iconst (-1 : Int32) dX11_look_97 (by decide) ?_
                obtain ⟨rfl, rfl⟩ := ae_retI hF49
                exact ae_iret dX11_look_98 rfl rfl ⟨rfl, rfl⟩
