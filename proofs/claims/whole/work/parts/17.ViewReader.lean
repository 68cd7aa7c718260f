/-! methods as functions: X10_takeAccess X10_holdsBit X10_takeField X10_takeFields X10_takeKind X10_holdsRowNumber X10_takeRow X10_takeStart X10_takeView X10_tellAll -/
theorem fl_RX10_9 : ae_FL RX10 9 8 0 (.object "ByteViews$Tokens") true := ⟨_, _, _, rfl, by decide, ww_210, rfl, rfl, rfl⟩
theorem fl_RX10_148 : ae_FL RX10 148 7 9 (.int) false := ⟨_, _, _, rfl, by decide, ww_110, rfl, rfl, rfl⟩
theorem fl_RX10_93 : ae_FL RX10 93 7 4 (.object "ByteViews$Kind") false := ⟨_, _, _, rfl, by decide, ww_95, rfl, rfl, rfl⟩
theorem fl_RX10_168 : ae_FL RX10 168 7 10 (.int) false := ⟨_, _, _, rfl, by decide, ww_113, rfl, rfl, rfl⟩
theorem fl_RX10_103 : ae_FL RX10 103 7 8 (.int) false := ⟨_, _, _, rfl, by decide, ww_107, rfl, rfl, rfl⟩
theorem fl_RX10_112 : ae_FL RX10 112 7 5 (.boolean) false := ⟨_, _, _, rfl, by decide, ww_99, rfl, rfl, rfl⟩
theorem fl_RX10_132 : ae_FL RX10 132 7 7 (.int) false := ⟨_, _, _, rfl, by decide, ww_104, rfl, rfl, rfl⟩
theorem fl_RX10_120 : ae_FL RX10 120 7 6 (.int) false := ⟨_, _, _, rfl, by decide, ww_102, rfl, rfl, rfl⟩
theorem fl_RX10_15 : ae_FL RX10 15 8 1 (.object "ByteViews$Shelf") true := ⟨_, _, _, rfl, by decide, ww_211, rfl, rfl, rfl⟩
abbrev mX10_takeAccess : ae_M := (RX10, cX10_takeAccess, 2, none)
theorem vy_X10_takeAccess : ae_VY yX10_takeAccess mX10_takeAccess 1 := ⟨ww_580, wq_9, ww_10, ww_581, ⟨by decide, by decide, by decide +kernel⟩, by decide⟩
theorem dX10_takeAccess_0 : decode cX10_takeAccess 0 = .ok (.aload_n 0, 1) := by decide +kernel
theorem dX10_takeAccess_1 : decode cX10_takeAccess 1 = .ok (.getfield 9, 3) := by decide +kernel
theorem dX10_takeAccess_4 : decode cX10_takeAccess 4 = .ok (.ldc 146, 2) := by decide +kernel
theorem dX10_takeAccess_6 : decode cX10_takeAccess 6 = .ok (.invokevirtual 108, 3) := by decide +kernel
theorem dX10_takeAccess_9 : decode cX10_takeAccess 9 = .ok (.ifCond .eq 11, 3) := by decide +kernel
theorem dX10_takeAccess_12 : decode cX10_takeAccess 12 = .ok (.aload_n 1, 1) := by decide +kernel
theorem dX10_takeAccess_13 : decode cX10_takeAccess 13 = .ok (.iconst 1, 1) := by decide +kernel
theorem dX10_takeAccess_14 : decode cX10_takeAccess 14 = .ok (.putfield 148, 3) := by decide +kernel
theorem dX10_takeAccess_17 : decode cX10_takeAccess 17 = .ok (.goto 40, 3) := by decide +kernel
theorem dX10_takeAccess_20 : decode cX10_takeAccess 20 = .ok (.aload_n 0, 1) := by decide +kernel
theorem dX10_takeAccess_21 : decode cX10_takeAccess 21 = .ok (.getfield 9, 3) := by decide +kernel
theorem dX10_takeAccess_24 : decode cX10_takeAccess 24 = .ok (.ldc 151, 2) := by decide +kernel
theorem dX10_takeAccess_26 : decode cX10_takeAccess 26 = .ok (.invokevirtual 108, 3) := by decide +kernel
theorem dX10_takeAccess_29 : decode cX10_takeAccess 29 = .ok (.ifCond .eq 11, 3) := by decide +kernel
theorem dX10_takeAccess_32 : decode cX10_takeAccess 32 = .ok (.aload_n 1, 1) := by decide +kernel
theorem dX10_takeAccess_33 : decode cX10_takeAccess 33 = .ok (.iconst 2, 1) := by decide +kernel
theorem dX10_takeAccess_34 : decode cX10_takeAccess 34 = .ok (.putfield 148, 3) := by decide +kernel
theorem dX10_takeAccess_37 : decode cX10_takeAccess 37 = .ok (.goto 20, 3) := by decide +kernel
theorem dX10_takeAccess_40 : decode cX10_takeAccess 40 = .ok (.aload_n 0, 1) := by decide +kernel
theorem dX10_takeAccess_41 : decode cX10_takeAccess 41 = .ok (.getfield 9, 3) := by decide +kernel
theorem dX10_takeAccess_44 : decode cX10_takeAccess 44 = .ok (.ldc 153, 2) := by decide +kernel
theorem dX10_takeAccess_46 : decode cX10_takeAccess 46 = .ok (.invokevirtual 108, 3) := by decide +kernel
theorem dX10_takeAccess_49 : decode cX10_takeAccess 49 = .ok (.ifCond .eq 8, 3) := by decide +kernel
theorem dX10_takeAccess_52 : decode cX10_takeAccess 52 = .ok (.aload_n 1, 1) := by decide +kernel
theorem dX10_takeAccess_53 : decode cX10_takeAccess 53 = .ok (.iconst 3, 1) := by decide +kernel
theorem dX10_takeAccess_54 : decode cX10_takeAccess 54 = .ok (.putfield 148, 3) := by decide +kernel
theorem dX10_takeAccess_57 : decode cX10_takeAccess 57 = .ok (.aload_n 1, 1) := by decide +kernel
theorem dX10_takeAccess_58 : decode cX10_takeAccess 58 = .ok (.getfield 148, 3) := by decide +kernel
theorem dX10_takeAccess_61 : decode cX10_takeAccess 61 = .ok (.ifCond .eq 10, 3) := by decide +kernel
theorem dX10_takeAccess_64 : decode cX10_takeAccess 64 = .ok (.aload_n 0, 1) := by decide +kernel
theorem dX10_takeAccess_65 : decode cX10_takeAccess 65 = .ok (.getfield 9, 3) := by decide +kernel
theorem dX10_takeAccess_68 : decode cX10_takeAccess 68 = .ok (.invokevirtual 61, 3) := by decide +kernel
theorem dX10_takeAccess_71 : decode cX10_takeAccess 71 = .ok (.return_, 1) := by decide +kernel
def F_X10_takeAccess_71 (s0 : ae_S) : Option (Unit × ae_S) := some ((), s0)
set_option maxHeartbeats 4000000 in
set_option maxRecDepth 100000 in
theorem t_X10_takeAccess_71 {l : Launch} {G : ae_G} (d : Nat) {rr : Unit} {ss : ae_S} (s0 : ae_S) (hF : F_X10_takeAccess_71 s0 = some (rr, ss)) : ae_T l G (d + 6) mX10_takeAccess (ae_Po none ss) 71 [] [] s0 := by
  unfold F_X10_takeAccess_71 at hF
  obtain ⟨rfl, rfl⟩ := ae_retI hF
  exact ae_vret dX10_takeAccess_71 rfl ⟨rfl, rfl⟩
def F_X10_takeAccess_57 (i1 : Fin 32) (s0 : ae_S) : Option (Unit × ae_S) := if (s0.1 8 i1 9) = 0 then (F_X10_takeAccess_71 s0) else (ae_bd (F_X8_advance s0) (fun (r3 : Unit) s4 => F_X10_takeAccess_71 s4))
set_option maxHeartbeats 4000000 in
set_option maxRecDepth 100000 in
theorem t_X10_takeAccess_57 {l : Launch} {G : ae_G} (d : Nat) {rr : Unit} {ss : ae_S} (i1 : Fin 32) (s0 : ae_S) (hF : F_X10_takeAccess_57 i1 s0 = some (rr, ss)) : ae_T l G (d + 6) mX10_takeAccess (ae_Po none ss) 57 [(0, ae_r (some (18, 0))), (1, ae_r (some (8, i1)))] [] s0 := by
  unfold F_X10_takeAccess_57 at hF
  refine ae_aload_n 1 dX10_takeAccess_57 rfl ?_
  refine ae_getI (q := (8, i1)) dX10_takeAccess_58 fl_RX10_148 rfl rfl ?_
  refine ae_if_eq 71 dX10_takeAccess_61 rfl (fun hb1 => ?_) (fun hb1 => ?_)
  · have hF2 := ae_ifT hb1 hF
    refine ae_pick (lv' := []) [] rfl ?_
    exact t_X10_takeAccess_71 d s0 hF2
  · have hF2 := ae_ifF hb1 hF
    refine ae_aload_n 0 dX10_takeAccess_64 rfl ?_
    refine ae_getO (q := (18, 0)) (some (12, 0)) dX10_takeAccess_65 fl_RX10_9 rfl rfl rfl ?_
    obtain ⟨r3, s4, hc5, hF6⟩ := ae_bdI hF2
    refine ae_cV0 (q := (12, 0)) (As := []) dX10_takeAccess_68 ww_528 vy_X8_advance rfl rfl rfl rfl rfl (Nat.le_of_ble_eq_true rfl) (c_X8_advance (d + 5) hc5) ?_
    refine ae_pick (lv' := []) [] rfl ?_
    exact t_X10_takeAccess_71 d s4 hF6
def F_X10_takeAccess (i1 : Fin 32) (s0 : ae_S) : Option (Unit × ae_S) := ae_bd (F_X8_isWord (4 : Fin 32) s0) (fun (r7 : Int32) s8 => if r7 = 0 then (ae_bd (F_X8_isWord (5 : Fin 32) s8) (fun (r13 : Int32) s14 => if r13 = 0 then (ae_bd (F_X8_isWord (6 : Fin 32) s14) (fun (r19 : Int32) s20 => if r19 = 0 then (F_X10_takeAccess_57 i1 s20) else (ae_lt (ae_wI s20 8 i1 9 (3 : Int32)) (fun s25 => F_X10_takeAccess_57 i1 s25)))) else (ae_lt (ae_wI s14 8 i1 9 (2 : Int32)) (fun s27 => F_X10_takeAccess_57 i1 s27)))) else (ae_lt (ae_wI s8 8 i1 9 (1 : Int32)) (fun s29 => F_X10_takeAccess_57 i1 s29)))
set_option maxHeartbeats 4000000 in
set_option maxRecDepth 100000 in
theorem c_X10_takeAccess {l : Launch} {G : ae_G} (d : Nat) {i1 : Fin 32} {s0 ss : ae_S} {rr : Unit} (hF : F_X10_takeAccess i1 s0 = some (rr, ss)) : ae_Met l G (d + 6) yX10_takeAccess mX10_takeAccess [ae_r (some (18, 0)), ae_r (some (8, i1))] s0 (ae_Po none ss) := by
  refine ae_enter (by decide) rfl (Nat.le_of_ble_eq_true rfl) ?_
  show ae_T l G (d + 6) mX10_takeAccess (ae_Po none ss) 0 [(0, ae_r (some (18, 0))), (1, ae_r (some (8, i1)))] [] s0
  unfold F_X10_takeAccess at hF
  refine ae_aload_n 0 dX10_takeAccess_0 rfl ?_
  refine ae_getO (q := (18, 0)) (some (12, 0)) dX10_takeAccess_1 fl_RX10_9 rfl rfl rfl ?_
  refine ae_ldcS (i := 4) (tx := "ro") 13 dX10_takeAccess_4 rfl ?_
  obtain ⟨r7, s8, hc9, hF10⟩ := ae_bdI hF
  refine ae_cV1 (q := (12, 0)) (As := [ae_r (some (62, 4))]) dX10_takeAccess_6 ww_542 vy_X8_isWord rfl rfl rfl rfl rfl (Nat.le_of_ble_eq_true rfl) (c_X8_isWord d hc9) ?_
  refine ae_if_eq 20 dX10_takeAccess_9 rfl (fun hb11 => ?_) (fun hb11 => ?_)
  · have hF12 := ae_ifT hb11 hF10
    refine ae_aload_n 0 dX10_takeAccess_20 rfl ?_
    refine ae_getO (q := (18, 0)) (some (12, 0)) dX10_takeAccess_21 fl_RX10_9 rfl rfl rfl ?_
    refine ae_ldcS (i := 5) (tx := "ones") 14 dX10_takeAccess_24 rfl ?_
    obtain ⟨r13, s14, hc15, hF16⟩ := ae_bdI hF12
    refine ae_cV1 (q := (12, 0)) (As := [ae_r (some (62, 5))]) dX10_takeAccess_26 ww_542 vy_X8_isWord rfl rfl rfl rfl rfl (Nat.le_of_ble_eq_true rfl) (c_X8_isWord d hc15) ?_
    refine ae_if_eq 40 dX10_takeAccess_29 rfl (fun hb17 => ?_) (fun hb17 => ?_)
    · have hF18 := ae_ifT hb17 hF16
      refine ae_aload_n 0 dX10_takeAccess_40 rfl ?_
      refine ae_getO (q := (18, 0)) (some (12, 0)) dX10_takeAccess_41 fl_RX10_9 rfl rfl rfl ?_
      refine ae_ldcS (i := 6) (tx := "reads") 15 dX10_takeAccess_44 rfl ?_
      obtain ⟨r19, s20, hc21, hF22⟩ := ae_bdI hF18
      refine ae_cV1 (q := (12, 0)) (As := [ae_r (some (62, 6))]) dX10_takeAccess_46 ww_542 vy_X8_isWord rfl rfl rfl rfl rfl (Nat.le_of_ble_eq_true rfl) (c_X8_isWord d hc21) ?_
      refine ae_if_eq 57 dX10_takeAccess_49 rfl (fun hb23 => ?_) (fun hb23 => ?_)
      · have hF24 := ae_ifT hb23 hF22
        refine ae_pick (lv' := [(0, ae_r (some (18, 0))), (1, ae_r (some (8, i1)))]) [0, 1] rfl ?_
        exact t_X10_takeAccess_57 d i1 s20 hF24
      · have hF24 := ae_ifF hb23 hF22
        refine ae_aload_n 1 dX10_takeAccess_52 rfl ?_
        refine ae_iconst (3 : Int32) dX10_takeAccess_53 (by decide) ?_
        obtain ⟨s25, hs25, hF26⟩ := ae_ltI hF24
        refine ae_putI (q := (8, i1)) dX10_takeAccess_54 fl_RX10_148 rfl rfl (ae_nmS hs25 ?_)
        refine ae_pick (lv' := [(0, ae_r (some (18, 0))), (1, ae_r (some (8, i1)))]) [0, 1] rfl ?_
        exact t_X10_takeAccess_57 d i1 s25 hF26
    · have hF18 := ae_ifF hb17 hF16
      refine ae_aload_n 1 dX10_takeAccess_32 rfl ?_
      refine ae_iconst (2 : Int32) dX10_takeAccess_33 (by decide) ?_
      obtain ⟨s27, hs27, hF28⟩ := ae_ltI hF18
      refine ae_putI (q := (8, i1)) dX10_takeAccess_34 fl_RX10_148 rfl rfl (ae_nmS hs27 ?_)
      refine ae_goto 57 dX10_takeAccess_37 rfl ?_
      refine ae_pick (lv' := [(0, ae_r (some (18, 0))), (1, ae_r (some (8, i1)))]) [0, 1] rfl ?_
      exact t_X10_takeAccess_57 d i1 s27 hF28
  · have hF12 := ae_ifF hb11 hF10
    refine ae_aload_n 1 dX10_takeAccess_12 rfl ?_
    refine ae_iconst (1 : Int32) dX10_takeAccess_13 (by decide) ?_
    obtain ⟨s29, hs29, hF30⟩ := ae_ltI hF12
    refine ae_putI (q := (8, i1)) dX10_takeAccess_14 fl_RX10_148 rfl rfl (ae_nmS hs29 ?_)
    refine ae_goto 57 dX10_takeAccess_17 rfl ?_
    refine ae_pick (lv' := [(0, ae_r (some (18, 0))), (1, ae_r (some (8, i1)))]) [0, 1] rfl ?_
    exact t_X10_takeAccess_57 d i1 s29 hF30
abbrev mX10_holdsBit : ae_M := (RX10, cX10_holdsBit, 2, some .boolean)
theorem vy_X10_holdsBit : ae_VY yX10_holdsBit mX10_holdsBit 1 := ⟨ww_610, wq_12, ww_10, ww_611, ⟨by decide, by decide, by decide +kernel⟩, by decide⟩
theorem dX10_holdsBit_0 : decode cX10_holdsBit 0 = .ok (.aload_n 0, 1) := by decide +kernel
theorem dX10_holdsBit_1 : decode cX10_holdsBit 1 = .ok (.getfield 9, 3) := by decide +kernel
theorem dX10_holdsBit_4 : decode cX10_holdsBit 4 = .ok (.invokevirtual 117, 3) := by decide +kernel
theorem dX10_holdsBit_7 : decode cX10_holdsBit 7 = .ok (.ifCond .ne 12, 3) := by decide +kernel
theorem dX10_holdsBit_10 : decode cX10_holdsBit 10 = .ok (.aload_n 0, 1) := by decide +kernel
theorem dX10_holdsBit_11 : decode cX10_holdsBit 11 = .ok (.getfield 9, 3) := by decide +kernel
theorem dX10_holdsBit_14 : decode cX10_holdsBit 14 = .ok (.iconst 1, 1) := by decide +kernel
theorem dX10_holdsBit_15 : decode cX10_holdsBit 15 = .ok (.invokevirtual 40, 3) := by decide +kernel
theorem dX10_holdsBit_18 : decode cX10_holdsBit 18 = .ok (.ireturn, 1) := by decide +kernel
theorem dX10_holdsBit_19 : decode cX10_holdsBit 19 = .ok (.aload_n 0, 1) := by decide +kernel
theorem dX10_holdsBit_20 : decode cX10_holdsBit 20 = .ok (.getfield 9, 3) := by decide +kernel
theorem dX10_holdsBit_23 : decode cX10_holdsBit 23 = .ok (.invokevirtual 43, 3) := by decide +kernel
theorem dX10_holdsBit_26 : decode cX10_holdsBit 26 = .ok (.bipush 8, 2) := by decide +kernel
theorem dX10_holdsBit_28 : decode cX10_holdsBit 28 = .ok (.aload_n 1, 1) := by decide +kernel
theorem dX10_holdsBit_29 : decode cX10_holdsBit 29 = .ok (.getfield 93, 3) := by decide +kernel
theorem dX10_holdsBit_32 : decode cX10_holdsBit 32 = .ok (.getfield 97, 3) := by decide +kernel
theorem dX10_holdsBit_35 : decode cX10_holdsBit 35 = .ok (.imul, 1) := by decide +kernel
theorem dX10_holdsBit_36 : decode cX10_holdsBit 36 = .ok (.i2l, 1) := by decide +kernel
theorem dX10_holdsBit_37 : decode cX10_holdsBit 37 = .ok (.lcmp, 1) := by decide +kernel
theorem dX10_holdsBit_38 : decode cX10_holdsBit 38 = .ok (.ifCond .lt 12, 3) := by decide +kernel
theorem dX10_holdsBit_41 : decode cX10_holdsBit 41 = .ok (.aload_n 0, 1) := by decide +kernel
theorem dX10_holdsBit_42 : decode cX10_holdsBit 42 = .ok (.getfield 9, 3) := by decide +kernel
theorem dX10_holdsBit_45 : decode cX10_holdsBit 45 = .ok (.iconst 3, 1) := by decide +kernel
theorem dX10_holdsBit_46 : decode cX10_holdsBit 46 = .ok (.invokevirtual 40, 3) := by decide +kernel
theorem dX10_holdsBit_49 : decode cX10_holdsBit 49 = .ok (.ireturn, 1) := by decide +kernel
theorem dX10_holdsBit_50 : decode cX10_holdsBit 50 = .ok (.iconst 1, 1) := by decide +kernel
theorem dX10_holdsBit_51 : decode cX10_holdsBit 51 = .ok (.ireturn, 1) := by decide +kernel
def F_X10_holdsBit (i1 : Fin 32) (s0 : ae_S) : Option (Int32 × ae_S) := ae_bd (F_X8_isNumber s0) (fun (r1 : Int32) s2 => if r1 = 0 then (ae_bd (F_X8_refuse (1 : Int32) s2) (fun (r23 : Int32) s24 => ae_gd (ae_zz r23) (some (r23, s24)))) else (ae_bd (F_X8_value s2) (fun (r7 : Int64) s8 => ae_mo (ae_gk (s8.2.2.2 8 i1 4) 60) none (fun j11 => ae_gd (decide ((j11 : Fin 32).val < 9)) (if (lg_cmp r7 (((8 : Int32) * (ae_kByt j11)).toInt64)) < 0 then (some ((1 : Int32), s8)) else (ae_bd (F_X8_refuse (3 : Int32) s8) (fun (r17 : Int32) s18 => ae_gd (ae_zz r17) (some (r17, s18)))))))))
set_option maxHeartbeats 4000000 in
set_option maxRecDepth 100000 in
theorem c_X10_holdsBit {l : Launch} {G : ae_G} (d : Nat) {i1 : Fin 32} {s0 ss : ae_S} {rr : Int32} (hF : F_X10_holdsBit i1 s0 = some (rr, ss)) : ae_Met l G (d + 2) yX10_holdsBit mX10_holdsBit [ae_r (some (18, 0)), ae_r (some (8, i1))] s0 (ae_Po (some (ae_i rr)) ss) := by
  refine ae_enter (by decide) rfl (Nat.le_of_ble_eq_true rfl) ?_
  show ae_T l G (d + 2) mX10_holdsBit (ae_Po (some (ae_i rr)) ss) 0 [(0, ae_r (some (18, 0))), (1, ae_r (some (8, i1)))] [] s0
  unfold F_X10_holdsBit at hF
  refine ae_aload_n 0 dX10_holdsBit_0 rfl ?_
  refine ae_getO (q := (18, 0)) (some (12, 0)) dX10_holdsBit_1 fl_RX10_9 rfl rfl rfl ?_
  obtain ⟨r1, s2, hc3, hF4⟩ := ae_bdI hF
  refine ae_cV1 (q := (12, 0)) (As := []) dX10_holdsBit_4 ww_551 vy_X8_isNumber rfl rfl rfl rfl rfl (Nat.le_of_ble_eq_true rfl) (c_X8_isNumber d hc3) ?_
  refine ae_if_ne 19 dX10_holdsBit_7 rfl (fun hb5 => ?_) (fun hb5 => ?_)
  · have hF6 := ae_ifF hb5 hF4
    refine ae_aload_n 0 dX10_holdsBit_19 rfl ?_
    refine ae_getO (q := (18, 0)) (some (12, 0)) dX10_holdsBit_20 fl_RX10_9 rfl rfl rfl ?_
    obtain ⟨r7, s8, hc9, hF10⟩ := ae_bdI hF6
    refine ae_cV1 (q := (12, 0)) (As := []) dX10_holdsBit_23 ww_509 vy_X8_value rfl rfl rfl rfl rfl (Nat.le_of_ble_eq_true rfl) (c_X8_value (d + 1) hc9) ?_
    refine ae_bipush (8 : Int32) dX10_holdsBit_26 (by decide) ?_
    refine ae_aload_n 1 dX10_holdsBit_28 rfl ?_
    obtain ⟨j11, hj11, hF12⟩ := ae_moK hF10
    refine ae_getO (q := (8, i1)) (some (60, j11)) dX10_holdsBit_29 fl_RX10_93 rfl rfl hj11 ?_
    obtain ⟨hg13, hF14⟩ := ae_gdI hF12
    refine ae_getK (i := j11) dX10_holdsBit_32 (List.mem_of_getElem? (i := 1) rfl) ww_1943 hg13 (ae_nmI (y := ae_kByt j11) rfl ?_)
    refine ae_imul dX10_holdsBit_35 ?_
    refine ae_i2l dX10_holdsBit_36 ?_
    refine ae_lcmp dX10_holdsBit_37 ?_
    refine ae_if_lt 50 dX10_holdsBit_38 rfl (fun hb15 => ?_) (fun hb15 => ?_)
    · have hF16 := ae_ifT hb15 hF14
      refine ae_iconst (1 : Int32) dX10_holdsBit_50 (by decide) ?_
      obtain ⟨rfl, rfl⟩ := ae_retI hF16
      exact ae_iret dX10_holdsBit_51 rfl (by decide) ⟨rfl, rfl⟩
    · have hF16 := ae_ifF hb15 hF14
      refine ae_aload_n 0 dX10_holdsBit_41 rfl ?_
      refine ae_getO (q := (18, 0)) (some (12, 0)) dX10_holdsBit_42 fl_RX10_9 rfl rfl rfl ?_
      refine ae_iconst (3 : Int32) dX10_holdsBit_45 (by decide) ?_
      obtain ⟨r17, s18, hc19, hF20⟩ := ae_bdI hF16
      refine ae_cV1 (q := (12, 0)) (As := [ae_i (3 : Int32)]) dX10_holdsBit_46 ww_505 vy_X8_refuse rfl rfl rfl rfl rfl (Nat.le_of_ble_eq_true rfl) (c_X8_refuse (d + 1) hc19) ?_
      obtain ⟨hg21, hF22⟩ := ae_gdI hF20
      obtain ⟨rfl, rfl⟩ := ae_retI hF22
      exact ae_iret dX10_holdsBit_49 rfl (ae_zzN (ae_zzI hg21)) ⟨rfl, rfl⟩
  · have hF6 := ae_ifT hb5 hF4
    refine ae_aload_n 0 dX10_holdsBit_10 rfl ?_
    refine ae_getO (q := (18, 0)) (some (12, 0)) dX10_holdsBit_11 fl_RX10_9 rfl rfl rfl ?_
    refine ae_iconst (1 : Int32) dX10_holdsBit_14 (by decide) ?_
    obtain ⟨r23, s24, hc25, hF26⟩ := ae_bdI hF6
    refine ae_cV1 (q := (12, 0)) (As := [ae_i (1 : Int32)]) dX10_holdsBit_15 ww_505 vy_X8_refuse rfl rfl rfl rfl rfl (Nat.le_of_ble_eq_true rfl) (c_X8_refuse (d + 1) hc25) ?_
    obtain ⟨hg27, hF28⟩ := ae_gdI hF26
    obtain ⟨rfl, rfl⟩ := ae_retI hF28
    exact ae_iret dX10_holdsBit_18 rfl (ae_zzN (ae_zzI hg27)) ⟨rfl, rfl⟩
abbrev mX10_takeField : ae_M := (RX10, cX10_takeField, 6, some .boolean)
theorem vy_X10_takeField : ae_VY yX10_takeField mX10_takeField 1 := ⟨ww_595, wq_11, ww_10, ww_596, ⟨by decide, by decide, by decide +kernel⟩, by decide⟩
theorem dX10_takeField_0 : decode cX10_takeField 0 = .ok (.aload_n 0, 1) := by decide +kernel
theorem dX10_takeField_1 : decode cX10_takeField 1 = .ok (.getfield 9, 3) := by decide +kernel
theorem dX10_takeField_4 : decode cX10_takeField 4 = .ok (.invokevirtual 37, 3) := by decide +kernel
theorem dX10_takeField_7 : decode cX10_takeField 7 = .ok (.ifCond .ne 12, 3) := by decide +kernel
theorem dX10_takeField_10 : decode cX10_takeField 10 = .ok (.aload_n 0, 1) := by decide +kernel
theorem dX10_takeField_11 : decode cX10_takeField 11 = .ok (.getfield 9, 3) := by decide +kernel
theorem dX10_takeField_14 : decode cX10_takeField 14 = .ok (.iconst 1, 1) := by decide +kernel
theorem dX10_takeField_15 : decode cX10_takeField 15 = .ok (.invokevirtual 40, 3) := by decide +kernel
theorem dX10_takeField_18 : decode cX10_takeField 18 = .ok (.ireturn, 1) := by decide +kernel
theorem dX10_takeField_19 : decode cX10_takeField 19 = .ok (.aload_n 0, 1) := by decide +kernel
theorem dX10_takeField_20 : decode cX10_takeField 20 = .ok (.getfield 9, 3) := by decide +kernel
theorem dX10_takeField_23 : decode cX10_takeField 23 = .ok (.invokevirtual 43, 3) := by decide +kernel
theorem dX10_takeField_26 : decode cX10_takeField 26 = .ok (.lstore_n 2, 1) := by decide +kernel
theorem dX10_takeField_27 : decode cX10_takeField 27 = .ok (.aload_n 1, 1) := by decide +kernel
theorem dX10_takeField_28 : decode cX10_takeField 28 = .ok (.lload_n 2, 1) := by decide +kernel
theorem dX10_takeField_29 : decode cX10_takeField 29 = .ok (.invokevirtual 164, 3) := by decide +kernel
theorem dX10_takeField_32 : decode cX10_takeField 32 = .ok (.iconst (-1), 1) := by decide +kernel
theorem dX10_takeField_33 : decode cX10_takeField 33 = .ok (.if_icmp .eq 12, 3) := by decide +kernel
theorem dX10_takeField_36 : decode cX10_takeField 36 = .ok (.aload_n 0, 1) := by decide +kernel
theorem dX10_takeField_37 : decode cX10_takeField 37 = .ok (.getfield 9, 3) := by decide +kernel
theorem dX10_takeField_40 : decode cX10_takeField 40 = .ok (.iconst 2, 1) := by decide +kernel
theorem dX10_takeField_41 : decode cX10_takeField 41 = .ok (.invokevirtual 40, 3) := by decide +kernel
theorem dX10_takeField_44 : decode cX10_takeField 44 = .ok (.ireturn, 1) := by decide +kernel
theorem dX10_takeField_45 : decode cX10_takeField 45 = .ok (.aload_n 1, 1) := by decide +kernel
theorem dX10_takeField_46 : decode cX10_takeField 46 = .ok (.getfield 168, 3) := by decide +kernel
theorem dX10_takeField_49 : decode cX10_takeField 49 = .ok (.bipush 8, 2) := by decide +kernel
theorem dX10_takeField_51 : decode cX10_takeField 51 = .ok (.if_icmp .lt 12, 3) := by decide +kernel
theorem dX10_takeField_54 : decode cX10_takeField 54 = .ok (.aload_n 0, 1) := by decide +kernel
theorem dX10_takeField_55 : decode cX10_takeField 55 = .ok (.getfield 9, 3) := by decide +kernel
theorem dX10_takeField_58 : decode cX10_takeField 58 = .ok (.iconst 4, 1) := by decide +kernel
theorem dX10_takeField_59 : decode cX10_takeField 59 = .ok (.invokevirtual 40, 3) := by decide +kernel
theorem dX10_takeField_62 : decode cX10_takeField 62 = .ok (.ireturn, 1) := by decide +kernel
theorem dX10_takeField_63 : decode cX10_takeField 63 = .ok (.aload_n 0, 1) := by decide +kernel
theorem dX10_takeField_64 : decode cX10_takeField 64 = .ok (.getfield 9, 3) := by decide +kernel
theorem dX10_takeField_67 : decode cX10_takeField 67 = .ok (.invokevirtual 61, 3) := by decide +kernel
theorem dX10_takeField_70 : decode cX10_takeField 70 = .ok (.aload_n 0, 1) := by decide +kernel
theorem dX10_takeField_71 : decode cX10_takeField 71 = .ok (.getfield 9, 3) := by decide +kernel
theorem dX10_takeField_74 : decode cX10_takeField 74 = .ok (.bipush 58, 2) := by decide +kernel
theorem dX10_takeField_76 : decode cX10_takeField 76 = .ok (.invokevirtual 82, 3) := by decide +kernel
theorem dX10_takeField_79 : decode cX10_takeField 79 = .ok (.ifCond .eq 11, 3) := by decide +kernel
theorem dX10_takeField_82 : decode cX10_takeField 82 = .ok (.aload_n 0, 1) := by decide +kernel
theorem dX10_takeField_83 : decode cX10_takeField 83 = .ok (.aload_n 1, 1) := by decide +kernel
theorem dX10_takeField_84 : decode cX10_takeField 84 = .ok (.invokevirtual 171, 3) := by decide +kernel
theorem dX10_takeField_87 : decode cX10_takeField 87 = .ok (.ifCond .ne 5, 3) := by decide +kernel
theorem dX10_takeField_90 : decode cX10_takeField 90 = .ok (.iconst 0, 1) := by decide +kernel
theorem dX10_takeField_91 : decode cX10_takeField 91 = .ok (.ireturn, 1) := by decide +kernel
theorem dX10_takeField_92 : decode cX10_takeField 92 = .ok (.aload_n 0, 1) := by decide +kernel
theorem dX10_takeField_93 : decode cX10_takeField 93 = .ok (.getfield 9, 3) := by decide +kernel
theorem dX10_takeField_96 : decode cX10_takeField 96 = .ok (.invokevirtual 43, 3) := by decide +kernel
theorem dX10_takeField_99 : decode cX10_takeField 99 = .ok (.l2i, 1) := by decide +kernel
theorem dX10_takeField_100 : decode cX10_takeField 100 = .ok (.istore 4, 2) := by decide +kernel
theorem dX10_takeField_102 : decode cX10_takeField 102 = .ok (.aload_n 0, 1) := by decide +kernel
theorem dX10_takeField_103 : decode cX10_takeField 103 = .ok (.getfield 9, 3) := by decide +kernel
theorem dX10_takeField_106 : decode cX10_takeField 106 = .ok (.invokevirtual 61, 3) := by decide +kernel
theorem dX10_takeField_109 : decode cX10_takeField 109 = .ok (.aload_n 0, 1) := by decide +kernel
theorem dX10_takeField_110 : decode cX10_takeField 110 = .ok (.getfield 9, 3) := by decide +kernel
theorem dX10_takeField_113 : decode cX10_takeField 113 = .ok (.bipush 45, 2) := by decide +kernel
theorem dX10_takeField_115 : decode cX10_takeField 115 = .ok (.invokevirtual 82, 3) := by decide +kernel
theorem dX10_takeField_118 : decode cX10_takeField 118 = .ok (.ifCond .eq 11, 3) := by decide +kernel
theorem dX10_takeField_121 : decode cX10_takeField 121 = .ok (.aload_n 0, 1) := by decide +kernel
theorem dX10_takeField_122 : decode cX10_takeField 122 = .ok (.aload_n 1, 1) := by decide +kernel
theorem dX10_takeField_123 : decode cX10_takeField 123 = .ok (.invokevirtual 171, 3) := by decide +kernel
theorem dX10_takeField_126 : decode cX10_takeField 126 = .ok (.ifCond .ne 5, 3) := by decide +kernel
theorem dX10_takeField_129 : decode cX10_takeField 129 = .ok (.iconst 0, 1) := by decide +kernel
theorem dX10_takeField_130 : decode cX10_takeField 130 = .ok (.ireturn, 1) := by decide +kernel
theorem dX10_takeField_131 : decode cX10_takeField 131 = .ok (.aload_n 0, 1) := by decide +kernel
theorem dX10_takeField_132 : decode cX10_takeField 132 = .ok (.getfield 9, 3) := by decide +kernel
theorem dX10_takeField_135 : decode cX10_takeField 135 = .ok (.invokevirtual 43, 3) := by decide +kernel
theorem dX10_takeField_138 : decode cX10_takeField 138 = .ok (.l2i, 1) := by decide +kernel
theorem dX10_takeField_139 : decode cX10_takeField 139 = .ok (.istore 5, 2) := by decide +kernel
theorem dX10_takeField_141 : decode cX10_takeField 141 = .ok (.iload 5, 2) := by decide +kernel
theorem dX10_takeField_143 : decode cX10_takeField 143 = .ok (.iload 4, 2) := by decide +kernel
theorem dX10_takeField_145 : decode cX10_takeField 145 = .ok (.if_icmp .lt 13, 3) := by decide +kernel
theorem dX10_takeField_148 : decode cX10_takeField 148 = .ok (.iload 5, 2) := by decide +kernel
theorem dX10_takeField_150 : decode cX10_takeField 150 = .ok (.iload 4, 2) := by decide +kernel
theorem dX10_takeField_152 : decode cX10_takeField 152 = .ok (.isub, 1) := by decide +kernel
theorem dX10_takeField_153 : decode cX10_takeField 153 = .ok (.bipush 63, 2) := by decide +kernel
theorem dX10_takeField_155 : decode cX10_takeField 155 = .ok (.if_icmp .lt 12, 3) := by decide +kernel
theorem dX10_takeField_158 : decode cX10_takeField 158 = .ok (.aload_n 0, 1) := by decide +kernel
theorem dX10_takeField_159 : decode cX10_takeField 159 = .ok (.getfield 9, 3) := by decide +kernel
theorem dX10_takeField_162 : decode cX10_takeField 162 = .ok (.iconst 3, 1) := by decide +kernel
theorem dX10_takeField_163 : decode cX10_takeField 163 = .ok (.invokevirtual 40, 3) := by decide +kernel
theorem dX10_takeField_166 : decode cX10_takeField 166 = .ok (.ireturn, 1) := by decide +kernel
theorem dX10_takeField_167 : decode cX10_takeField 167 = .ok (.aload_n 1, 1) := by decide +kernel
theorem dX10_takeField_168 : decode cX10_takeField 168 = .ok (.lload_n 2, 1) := by decide +kernel
theorem dX10_takeField_169 : decode cX10_takeField 169 = .ok (.iload 4, 2) := by decide +kernel
theorem dX10_takeField_171 : decode cX10_takeField 171 = .ok (.iload 5, 2) := by decide +kernel
theorem dX10_takeField_173 : decode cX10_takeField 173 = .ok (.invokevirtual 174, 3) := by decide +kernel
theorem dX10_takeField_176 : decode cX10_takeField 176 = .ok (.aload_n 0, 1) := by decide +kernel
theorem dX10_takeField_177 : decode cX10_takeField 177 = .ok (.getfield 9, 3) := by decide +kernel
theorem dX10_takeField_180 : decode cX10_takeField 180 = .ok (.invokevirtual 61, 3) := by decide +kernel
theorem dX10_takeField_183 : decode cX10_takeField 183 = .ok (.iconst 1, 1) := by decide +kernel
theorem dX10_takeField_184 : decode cX10_takeField 184 = .ok (.ireturn, 1) := by decide +kernel
def F_X10_takeField_90 (s0 : ae_S) : Option (Int32 × ae_S) := some ((0 : Int32), s0)
set_option maxHeartbeats 4000000 in
set_option maxRecDepth 100000 in
theorem t_X10_takeField_90 {l : Launch} {G : ae_G} (d : Nat) {rr : Int32} {ss : ae_S} (s0 : ae_S) (hF : F_X10_takeField_90 s0 = some (rr, ss)) : ae_T l G (d + 3) mX10_takeField (ae_Po (some (ae_i rr)) ss) 90 [] [] s0 := by
  unfold F_X10_takeField_90 at hF
  refine ae_iconst (0 : Int32) dX10_takeField_90 (by decide) ?_
  obtain ⟨rfl, rfl⟩ := ae_retI hF
  exact ae_iret dX10_takeField_91 rfl (by decide) ⟨rfl, rfl⟩
def F_X10_takeField_129 (s0 : ae_S) : Option (Int32 × ae_S) := some ((0 : Int32), s0)
set_option maxHeartbeats 4000000 in
set_option maxRecDepth 100000 in
theorem t_X10_takeField_129 {l : Launch} {G : ae_G} (d : Nat) {rr : Int32} {ss : ae_S} (s0 : ae_S) (hF : F_X10_takeField_129 s0 = some (rr, ss)) : ae_T l G (d + 3) mX10_takeField (ae_Po (some (ae_i rr)) ss) 129 [] [] s0 := by
  unfold F_X10_takeField_129 at hF
  refine ae_iconst (0 : Int32) dX10_takeField_129 (by decide) ?_
  obtain ⟨rfl, rfl⟩ := ae_retI hF
  exact ae_iret dX10_takeField_130 rfl (by decide) ⟨rfl, rfl⟩
def F_X10_takeField_158 (s0 : ae_S) : Option (Int32 × ae_S) := ae_bd (F_X8_refuse (3 : Int32) s0) (fun (r1 : Int32) s2 => ae_gd (ae_zz r1) (some (r1, s2)))
set_option maxHeartbeats 4000000 in
set_option maxRecDepth 100000 in
theorem t_X10_takeField_158 {l : Launch} {G : ae_G} (d : Nat) {rr : Int32} {ss : ae_S} (s0 : ae_S) (hF : F_X10_takeField_158 s0 = some (rr, ss)) : ae_T l G (d + 3) mX10_takeField (ae_Po (some (ae_i rr)) ss) 158 [(0, ae_r (some (18, 0)))] [] s0 := by
  unfold F_X10_takeField_158 at hF
  refine ae_aload_n 0 dX10_takeField_158 rfl ?_
  refine ae_getO (q := (18, 0)) (some (12, 0)) dX10_takeField_159 fl_RX10_9 rfl rfl rfl ?_
  refine ae_iconst (3 : Int32) dX10_takeField_162 (by decide) ?_
  obtain ⟨r1, s2, hc3, hF4⟩ := ae_bdI hF
  refine ae_cV1 (q := (12, 0)) (As := [ae_i (3 : Int32)]) dX10_takeField_163 ww_505 vy_X8_refuse rfl rfl rfl rfl rfl (Nat.le_of_ble_eq_true rfl) (c_X8_refuse (d + 2) hc3) ?_
  obtain ⟨hg5, hF6⟩ := ae_gdI hF4
  obtain ⟨rfl, rfl⟩ := ae_retI hF6
  exact ae_iret dX10_takeField_166 rfl (ae_zzN (ae_zzI hg5)) ⟨rfl, rfl⟩
def F_X10_takeField (i1 : Fin 32) (s0 : ae_S) : Option (Int32 × ae_S) := ae_bd (F_X8_isName s0) (fun (r7 : Int32) s8 => if r7 = 0 then (ae_bd (F_X8_refuse (1 : Int32) s8) (fun (r89 : Int32) s90 => ae_gd (ae_zz r89) (some (r89, s90)))) else (ae_bd (F_X8_value s8) (fun (r13 : Int64) s14 => ae_bd (F_X9_fieldNumberOf i1 r13 s14) (fun (r17 : Int32) s18 => if r17 = (-1 : Int32) then (if (s18.1 8 i1 10) < (8 : Int32) then (ae_bd (F_X8_advance s18) (fun (r25 : Unit) s26 => ae_bd (F_X8_takeSign (58 : Int32) s26) (fun (r29 : Int32) s30 => if r29 = 0 then (F_X10_takeField_90 s30) else (ae_bd (F_X10_holdsBit i1 s30) (fun (r35 : Int32) s36 => if r35 = 0 then (F_X10_takeField_90 s36) else (ae_bd (F_X8_value s36) (fun (r41 : Int64) s42 => ae_bd (F_X8_advance s42) (fun (r45 : Unit) s46 => ae_bd (F_X8_takeSign (45 : Int32) s46) (fun (r49 : Int32) s50 => if r49 = 0 then (F_X10_takeField_129 s50) else (ae_bd (F_X10_holdsBit i1 s50) (fun (r55 : Int32) s56 => if r55 = 0 then (F_X10_takeField_129 s56) else (ae_bd (F_X8_value s56) (fun (r61 : Int64) s62 => if r61.toInt32 < r41.toInt32 then (F_X10_takeField_158 s62) else (if (r61.toInt32 - r41.toInt32) < (63 : Int32) then (ae_bd (F_X9_addField i1 r13 r41.toInt32 r61.toInt32 s62) (fun (r69 : Unit) s70 => ae_bd (F_X8_advance s70) (fun (r73 : Unit) s74 => some ((1 : Int32), s74)))) else (F_X10_takeField_158 s62))))))))))))))) else (ae_bd (F_X8_refuse (4 : Int32) s18) (fun (r77 : Int32) s78 => ae_gd (ae_zz r77) (some (r77, s78))))) else (ae_bd (F_X8_refuse (2 : Int32) s18) (fun (r83 : Int32) s84 => ae_gd (ae_zz r83) (some (r83, s84))))))))
set_option maxHeartbeats 4000000 in
set_option maxRecDepth 100000 in
theorem c_X10_takeField {l : Launch} {G : ae_G} (d : Nat) {i1 : Fin 32} {s0 ss : ae_S} {rr : Int32} (hF : F_X10_takeField i1 s0 = some (rr, ss)) : ae_Met l G (d + 3) yX10_takeField mX10_takeField [ae_r (some (18, 0)), ae_r (some (8, i1))] s0 (ae_Po (some (ae_i rr)) ss) := by
  refine ae_enter (by decide) rfl (Nat.le_of_ble_eq_true rfl) ?_
  show ae_T l G (d + 3) mX10_takeField (ae_Po (some (ae_i rr)) ss) 0 [(0, ae_r (some (18, 0))), (1, ae_r (some (8, i1)))] [] s0
  unfold F_X10_takeField at hF
  refine ae_aload_n 0 dX10_takeField_0 rfl ?_
  refine ae_getO (q := (18, 0)) (some (12, 0)) dX10_takeField_1 fl_RX10_9 rfl rfl rfl ?_
  obtain ⟨r7, s8, hc9, hF10⟩ := ae_bdI hF
  refine ae_cV1 (q := (12, 0)) (As := []) dX10_takeField_4 ww_501 vy_X8_isName rfl rfl rfl rfl rfl (Nat.le_of_ble_eq_true rfl) (c_X8_isName (d + 1) hc9) ?_
  refine ae_if_ne 19 dX10_takeField_7 rfl (fun hb11 => ?_) (fun hb11 => ?_)
  · have hF12 := ae_ifF hb11 hF10
    refine ae_aload_n 0 dX10_takeField_19 rfl ?_
    refine ae_getO (q := (18, 0)) (some (12, 0)) dX10_takeField_20 fl_RX10_9 rfl rfl rfl ?_
    obtain ⟨r13, s14, hc15, hF16⟩ := ae_bdI hF12
    refine ae_cV1 (q := (12, 0)) (As := []) dX10_takeField_23 ww_509 vy_X8_value rfl rfl rfl rfl rfl (Nat.le_of_ble_eq_true rfl) (c_X8_value (d + 2) hc15) ?_
    refine ae_lstore_n (lv' := [(2, ae_l r13), (0, ae_r (some (18, 0))), (1, ae_r (some (8, i1)))]) dX10_takeField_26 (by decide) rfl ?_
    refine ae_aload_n 2 dX10_takeField_27 rfl ?_
    refine ae_lload_n 0 dX10_takeField_28 rfl ?_
    obtain ⟨r17, s18, hc19, hF20⟩ := ae_bdI hF16
    refine ae_cV1 (q := (8, i1)) (As := [ae_l r13]) dX10_takeField_29 ww_597 vy_X9_fieldNumberOf rfl rfl rfl rfl rfl (Nat.le_of_ble_eq_true rfl) (c_X9_fieldNumberOf (d + 2) hc19) ?_
    refine ae_iconst (-1 : Int32) dX10_takeField_32 (by decide) ?_
    refine ae_icmp_eq 45 dX10_takeField_33 rfl (fun hb21 => ?_) (fun hb21 => ?_)
    · have hF22 := ae_ifT hb21 hF20
      refine ae_aload_n 2 dX10_takeField_45 rfl ?_
      refine ae_getI (q := (8, i1)) dX10_takeField_46 fl_RX10_168 rfl rfl ?_
      refine ae_bipush (8 : Int32) dX10_takeField_49 (by decide) ?_
      refine ae_icmp_lt 63 dX10_takeField_51 rfl (fun hb23 => ?_) (fun hb23 => ?_)
      · have hF24 := ae_ifT hb23 hF22
        refine ae_aload_n 1 dX10_takeField_63 rfl ?_
        refine ae_getO (q := (18, 0)) (some (12, 0)) dX10_takeField_64 fl_RX10_9 rfl rfl rfl ?_
        obtain ⟨r25, s26, hc27, hF28⟩ := ae_bdI hF24
        refine ae_cV0 (q := (12, 0)) (As := []) dX10_takeField_67 ww_528 vy_X8_advance rfl rfl rfl rfl rfl (Nat.le_of_ble_eq_true rfl) (c_X8_advance (d + 2) hc27) ?_
        refine ae_aload_n 1 dX10_takeField_70 rfl ?_
        refine ae_getO (q := (18, 0)) (some (12, 0)) dX10_takeField_71 fl_RX10_9 rfl rfl rfl ?_
        refine ae_bipush (58 : Int32) dX10_takeField_74 (by decide) ?_
        obtain ⟨r29, s30, hc31, hF32⟩ := ae_bdI hF28
        refine ae_cV1 (q := (12, 0)) (As := [ae_i (58 : Int32)]) dX10_takeField_76 ww_601 vy_X8_takeSign rfl rfl rfl rfl rfl (Nat.le_of_ble_eq_true rfl) (c_X8_takeSign (d + 1) hc31) ?_
        refine ae_if_eq 90 dX10_takeField_79 rfl (fun hb33 => ?_) (fun hb33 => ?_)
        · have hF34 := ae_ifT hb33 hF32
          refine ae_pick (lv' := []) [] rfl ?_
          exact t_X10_takeField_90 d s30 hF34
        · have hF34 := ae_ifF hb33 hF32
          refine ae_aload_n 1 dX10_takeField_82 rfl ?_
          refine ae_aload_n 2 dX10_takeField_83 rfl ?_
          obtain ⟨r35, s36, hc37, hF38⟩ := ae_bdI hF34
          refine ae_cV1 (q := (18, 0)) (As := [ae_r (some (8, i1))]) dX10_takeField_84 ww_608 vy_X10_holdsBit rfl rfl rfl rfl rfl (Nat.le_of_ble_eq_true rfl) (c_X10_holdsBit d hc37) ?_
          refine ae_if_ne 92 dX10_takeField_87 rfl (fun hb39 => ?_) (fun hb39 => ?_)
          · have hF40 := ae_ifF hb39 hF38
            refine ae_aload_n 1 dX10_takeField_92 rfl ?_
            refine ae_getO (q := (18, 0)) (some (12, 0)) dX10_takeField_93 fl_RX10_9 rfl rfl rfl ?_
            obtain ⟨r41, s42, hc43, hF44⟩ := ae_bdI hF40
            refine ae_cV1 (q := (12, 0)) (As := []) dX10_takeField_96 ww_509 vy_X8_value rfl rfl rfl rfl rfl (Nat.le_of_ble_eq_true rfl) (c_X8_value (d + 2) hc43) ?_
            refine ae_l2i dX10_takeField_99 ?_
            refine ae_istore (lv' := [(4, ae_i r41.toInt32), (2, ae_l r13), (0, ae_r (some (18, 0))), (1, ae_r (some (8, i1)))]) dX10_takeField_100 (by decide) rfl ?_
            refine ae_aload_n 2 dX10_takeField_102 rfl ?_
            refine ae_getO (q := (18, 0)) (some (12, 0)) dX10_takeField_103 fl_RX10_9 rfl rfl rfl ?_
            obtain ⟨r45, s46, hc47, hF48⟩ := ae_bdI hF44
            refine ae_cV0 (q := (12, 0)) (As := []) dX10_takeField_106 ww_528 vy_X8_advance rfl rfl rfl rfl rfl (Nat.le_of_ble_eq_true rfl) (c_X8_advance (d + 2) hc47) ?_
            refine ae_aload_n 2 dX10_takeField_109 rfl ?_
            refine ae_getO (q := (18, 0)) (some (12, 0)) dX10_takeField_110 fl_RX10_9 rfl rfl rfl ?_
            refine ae_bipush (45 : Int32) dX10_takeField_113 (by decide) ?_
            obtain ⟨r49, s50, hc51, hF52⟩ := ae_bdI hF48
            refine ae_cV1 (q := (12, 0)) (As := [ae_i (45 : Int32)]) dX10_takeField_115 ww_601 vy_X8_takeSign rfl rfl rfl rfl rfl (Nat.le_of_ble_eq_true rfl) (c_X8_takeSign (d + 1) hc51) ?_
            refine ae_if_eq 129 dX10_takeField_118 rfl (fun hb53 => ?_) (fun hb53 => ?_)
            · have hF54 := ae_ifT hb53 hF52
              refine ae_pick (lv' := []) [] rfl ?_
              exact t_X10_takeField_129 d s50 hF54
            · have hF54 := ae_ifF hb53 hF52
              refine ae_aload_n 2 dX10_takeField_121 rfl ?_
              refine ae_aload_n 3 dX10_takeField_122 rfl ?_
              obtain ⟨r55, s56, hc57, hF58⟩ := ae_bdI hF54
              refine ae_cV1 (q := (18, 0)) (As := [ae_r (some (8, i1))]) dX10_takeField_123 ww_608 vy_X10_holdsBit rfl rfl rfl rfl rfl (Nat.le_of_ble_eq_true rfl) (c_X10_holdsBit d hc57) ?_
              refine ae_if_ne 131 dX10_takeField_126 rfl (fun hb59 => ?_) (fun hb59 => ?_)
              · have hF60 := ae_ifF hb59 hF58
                refine ae_aload_n 2 dX10_takeField_131 rfl ?_
                refine ae_getO (q := (18, 0)) (some (12, 0)) dX10_takeField_132 fl_RX10_9 rfl rfl rfl ?_
                obtain ⟨r61, s62, hc63, hF64⟩ := ae_bdI hF60
                refine ae_cV1 (q := (12, 0)) (As := []) dX10_takeField_135 ww_509 vy_X8_value rfl rfl rfl rfl rfl (Nat.le_of_ble_eq_true rfl) (c_X8_value (d + 2) hc63) ?_
                refine ae_l2i dX10_takeField_138 ?_
                refine ae_istore (lv' := [(5, ae_i r61.toInt32), (4, ae_i r41.toInt32), (2, ae_l r13), (0, ae_r (some (18, 0))), (1, ae_r (some (8, i1)))]) dX10_takeField_139 (by decide) rfl ?_
                refine ae_iload 0 dX10_takeField_141 rfl ?_
                refine ae_iload 1 dX10_takeField_143 rfl ?_
                refine ae_icmp_lt 158 dX10_takeField_145 rfl (fun hb65 => ?_) (fun hb65 => ?_)
                · have hF66 := ae_ifT hb65 hF64
                  refine ae_pick (lv' := [(0, ae_r (some (18, 0)))]) [3] rfl ?_
                  exact t_X10_takeField_158 d s62 hF66
                · have hF66 := ae_ifF hb65 hF64
                  refine ae_iload 0 dX10_takeField_148 rfl ?_
                  refine ae_iload 1 dX10_takeField_150 rfl ?_
                  refine ae_isub dX10_takeField_152 ?_
                  refine ae_bipush (63 : Int32) dX10_takeField_153 (by decide) ?_
                  refine ae_icmp_lt 167 dX10_takeField_155 rfl (fun hb67 => ?_) (fun hb67 => ?_)
                  · have hF68 := ae_ifT hb67 hF66
                    refine ae_aload_n 4 dX10_takeField_167 rfl ?_
                    refine ae_lload_n 2 dX10_takeField_168 rfl ?_
                    refine ae_iload 1 dX10_takeField_169 rfl ?_
                    refine ae_iload 0 dX10_takeField_171 rfl ?_
                    obtain ⟨r69, s70, hc71, hF72⟩ := ae_bdI hF68
                    refine ae_cV0 (q := (8, i1)) (As := [ae_l r13, ae_i r41.toInt32, ae_i r61.toInt32]) dX10_takeField_173 ww_612 vy_X9_addField rfl rfl rfl rfl rfl (Nat.le_of_ble_eq_true rfl) (c_X9_addField (d + 2) hc71) ?_
                    refine ae_aload_n 3 dX10_takeField_176 rfl ?_
                    refine ae_getO (q := (18, 0)) (some (12, 0)) dX10_takeField_177 fl_RX10_9 rfl rfl rfl ?_
                    obtain ⟨r73, s74, hc75, hF76⟩ := ae_bdI hF72
                    refine ae_cV0 (q := (12, 0)) (As := []) dX10_takeField_180 ww_528 vy_X8_advance rfl rfl rfl rfl rfl (Nat.le_of_ble_eq_true rfl) (c_X8_advance (d + 2) hc75) ?_
                    refine ae_iconst (1 : Int32) dX10_takeField_183 (by decide) ?_
                    obtain ⟨rfl, rfl⟩ := ae_retI hF76
                    exact ae_iret dX10_takeField_184 rfl (by decide) ⟨rfl, rfl⟩
                  · have hF68 := ae_ifF hb67 hF66
                    refine ae_pick (lv' := [(0, ae_r (some (18, 0)))]) [3] rfl ?_
                    exact t_X10_takeField_158 d s62 hF68
              · have hF60 := ae_ifT hb59 hF58
                refine ae_pick (lv' := []) [] rfl ?_
                exact t_X10_takeField_129 d s56 hF60
          · have hF40 := ae_ifT hb39 hF38
            refine ae_pick (lv' := []) [] rfl ?_
            exact t_X10_takeField_90 d s36 hF40
      · have hF24 := ae_ifF hb23 hF22
        refine ae_aload_n 1 dX10_takeField_54 rfl ?_
        refine ae_getO (q := (18, 0)) (some (12, 0)) dX10_takeField_55 fl_RX10_9 rfl rfl rfl ?_
        refine ae_iconst (4 : Int32) dX10_takeField_58 (by decide) ?_
        obtain ⟨r77, s78, hc79, hF80⟩ := ae_bdI hF24
        refine ae_cV1 (q := (12, 0)) (As := [ae_i (4 : Int32)]) dX10_takeField_59 ww_505 vy_X8_refuse rfl rfl rfl rfl rfl (Nat.le_of_ble_eq_true rfl) (c_X8_refuse (d + 2) hc79) ?_
        obtain ⟨hg81, hF82⟩ := ae_gdI hF80
        obtain ⟨rfl, rfl⟩ := ae_retI hF82
        exact ae_iret dX10_takeField_62 rfl (ae_zzN (ae_zzI hg81)) ⟨rfl, rfl⟩
    · have hF22 := ae_ifF hb21 hF20
      refine ae_aload_n 1 dX10_takeField_36 rfl ?_
      refine ae_getO (q := (18, 0)) (some (12, 0)) dX10_takeField_37 fl_RX10_9 rfl rfl rfl ?_
      refine ae_iconst (2 : Int32) dX10_takeField_40 (by decide) ?_
      obtain ⟨r83, s84, hc85, hF86⟩ := ae_bdI hF22
      refine ae_cV1 (q := (12, 0)) (As := [ae_i (2 : Int32)]) dX10_takeField_41 ww_505 vy_X8_refuse rfl rfl rfl rfl rfl (Nat.le_of_ble_eq_true rfl) (c_X8_refuse (d + 2) hc85) ?_
      obtain ⟨hg87, hF88⟩ := ae_gdI hF86
      obtain ⟨rfl, rfl⟩ := ae_retI hF88
      exact ae_iret dX10_takeField_44 rfl (ae_zzN (ae_zzI hg87)) ⟨rfl, rfl⟩
  · have hF12 := ae_ifT hb11 hF10
    refine ae_aload_n 0 dX10_takeField_10 rfl ?_
    refine ae_getO (q := (18, 0)) (some (12, 0)) dX10_takeField_11 fl_RX10_9 rfl rfl rfl ?_
    refine ae_iconst (1 : Int32) dX10_takeField_14 (by decide) ?_
    obtain ⟨r89, s90, hc91, hF92⟩ := ae_bdI hF12
    refine ae_cV1 (q := (12, 0)) (As := [ae_i (1 : Int32)]) dX10_takeField_15 ww_505 vy_X8_refuse rfl rfl rfl rfl rfl (Nat.le_of_ble_eq_true rfl) (c_X8_refuse (d + 2) hc91) ?_
    obtain ⟨hg93, hF94⟩ := ae_gdI hF92
    obtain ⟨rfl, rfl⟩ := ae_retI hF94
    exact ae_iret dX10_takeField_18 rfl (ae_zzN (ae_zzI hg93)) ⟨rfl, rfl⟩
abbrev mX10_takeFields : ae_M := (RX10, cX10_takeFields, 3, some .boolean)
theorem vy_X10_takeFields : ae_VY yX10_takeFields mX10_takeFields 1 := ⟨ww_587, wq_10, ww_10, ww_588, ⟨by decide, by decide, by decide +kernel⟩, by decide⟩
theorem dX10_takeFields_0 : decode cX10_takeFields 0 = .ok (.aload_n 0, 1) := by decide +kernel
theorem dX10_takeFields_1 : decode cX10_takeFields 1 = .ok (.getfield 9, 3) := by decide +kernel
theorem dX10_takeFields_4 : decode cX10_takeFields 4 = .ok (.bipush 123, 2) := by decide +kernel
theorem dX10_takeFields_6 : decode cX10_takeFields 6 = .ok (.invokevirtual 155, 3) := by decide +kernel
theorem dX10_takeFields_9 : decode cX10_takeFields 9 = .ok (.ifCond .ne 5, 3) := by decide +kernel
theorem dX10_takeFields_12 : decode cX10_takeFields 12 = .ok (.iconst 1, 1) := by decide +kernel
theorem dX10_takeFields_13 : decode cX10_takeFields 13 = .ok (.ireturn, 1) := by decide +kernel
theorem dX10_takeFields_14 : decode cX10_takeFields 14 = .ok (.aload_n 1, 1) := by decide +kernel
theorem dX10_takeFields_15 : decode cX10_takeFields 15 = .ok (.getfield 93, 3) := by decide +kernel
theorem dX10_takeFields_18 : decode cX10_takeFields 18 = .ok (.getfield 158, 3) := by decide +kernel
theorem dX10_takeFields_21 : decode cX10_takeFields 21 = .ok (.ifCond .eq 12, 3) := by decide +kernel
theorem dX10_takeFields_24 : decode cX10_takeFields 24 = .ok (.aload_n 0, 1) := by decide +kernel
theorem dX10_takeFields_25 : decode cX10_takeFields 25 = .ok (.getfield 9, 3) := by decide +kernel
theorem dX10_takeFields_28 : decode cX10_takeFields 28 = .ok (.iconst 4, 1) := by decide +kernel
theorem dX10_takeFields_29 : decode cX10_takeFields 29 = .ok (.invokevirtual 40, 3) := by decide +kernel
theorem dX10_takeFields_32 : decode cX10_takeFields 32 = .ok (.ireturn, 1) := by decide +kernel
theorem dX10_takeFields_33 : decode cX10_takeFields 33 = .ok (.aload_n 0, 1) := by decide +kernel
theorem dX10_takeFields_34 : decode cX10_takeFields 34 = .ok (.getfield 9, 3) := by decide +kernel
theorem dX10_takeFields_37 : decode cX10_takeFields 37 = .ok (.invokevirtual 61, 3) := by decide +kernel
theorem dX10_takeFields_40 : decode cX10_takeFields 40 = .ok (.iconst 0, 1) := by decide +kernel
theorem dX10_takeFields_41 : decode cX10_takeFields 41 = .ok (.istore_n 2, 1) := by decide +kernel
theorem dX10_takeFields_42 : decode cX10_takeFields 42 = .ok (.iload_n 2, 1) := by decide +kernel
theorem dX10_takeFields_43 : decode cX10_takeFields 43 = .ok (.bipush 8, 2) := by decide +kernel
theorem dX10_takeFields_45 : decode cX10_takeFields 45 = .ok (.if_icmp .gt 48, 3) := by decide +kernel
theorem dX10_takeFields_48 : decode cX10_takeFields 48 = .ok (.aload_n 0, 1) := by decide +kernel
theorem dX10_takeFields_49 : decode cX10_takeFields 49 = .ok (.aload_n 1, 1) := by decide +kernel
theorem dX10_takeFields_50 : decode cX10_takeFields 50 = .ok (.invokevirtual 161, 3) := by decide +kernel
theorem dX10_takeFields_53 : decode cX10_takeFields 53 = .ok (.ifCond .ne 5, 3) := by decide +kernel
theorem dX10_takeFields_56 : decode cX10_takeFields 56 = .ok (.iconst 0, 1) := by decide +kernel
theorem dX10_takeFields_57 : decode cX10_takeFields 57 = .ok (.ireturn, 1) := by decide +kernel
theorem dX10_takeFields_58 : decode cX10_takeFields 58 = .ok (.aload_n 0, 1) := by decide +kernel
theorem dX10_takeFields_59 : decode cX10_takeFields 59 = .ok (.getfield 9, 3) := by decide +kernel
theorem dX10_takeFields_62 : decode cX10_takeFields 62 = .ok (.bipush 44, 2) := by decide +kernel
theorem dX10_takeFields_64 : decode cX10_takeFields 64 = .ok (.invokevirtual 155, 3) := by decide +kernel
theorem dX10_takeFields_67 : decode cX10_takeFields 67 = .ok (.ifCond .ne 13, 3) := by decide +kernel
theorem dX10_takeFields_70 : decode cX10_takeFields 70 = .ok (.aload_n 0, 1) := by decide +kernel
theorem dX10_takeFields_71 : decode cX10_takeFields 71 = .ok (.getfield 9, 3) := by decide +kernel
theorem dX10_takeFields_74 : decode cX10_takeFields 74 = .ok (.bipush 125, 2) := by decide +kernel
theorem dX10_takeFields_76 : decode cX10_takeFields 76 = .ok (.invokevirtual 82, 3) := by decide +kernel
theorem dX10_takeFields_79 : decode cX10_takeFields 79 = .ok (.ireturn, 1) := by decide +kernel
theorem dX10_takeFields_80 : decode cX10_takeFields 80 = .ok (.aload_n 0, 1) := by decide +kernel
theorem dX10_takeFields_81 : decode cX10_takeFields 81 = .ok (.getfield 9, 3) := by decide +kernel
theorem dX10_takeFields_84 : decode cX10_takeFields 84 = .ok (.invokevirtual 61, 3) := by decide +kernel
theorem dX10_takeFields_87 : decode cX10_takeFields 87 = .ok (.iinc 2 1, 3) := by decide +kernel
theorem dX10_takeFields_90 : decode cX10_takeFields 90 = .ok (.goto (-48), 3) := by decide +kernel
theorem dX10_takeFields_93 : decode cX10_takeFields 93 = .ok (.iconst 0, 1) := by decide +kernel
theorem dX10_takeFields_94 : decode cX10_takeFields 94 = .ok (.ireturn, 1) := by decide +kernel
def F_X10_takeFields_42 : Nat → Fin 32 → Int32 → ae_S → Option (Int32 × ae_S)
  | 0, _, _, _ => none
  | n + 1, i1, v2, s0 => if (8 : Int32) < v2 then (some ((0 : Int32), s0)) else (ae_bd (F_X10_takeField i1 s0) (fun (r3 : Int32) s4 => if r3 = 0 then (some ((0 : Int32), s4)) else (ae_bd (F_X8_isSign (44 : Int32) s4) (fun (r9 : Int32) s10 => if r9 = 0 then (ae_bd (F_X8_takeSign (125 : Int32) s10) (fun (r21 : Int32) s22 => ae_gd (ae_zz r21) (some (r21, s22)))) else (ae_bd (F_X8_advance s10) (fun (r15 : Unit) s16 => ae_lt (v2 + (1 : Int32)) (fun x19 => F_X10_takeFields_42 n i1 x19 s16)))))))
set_option maxHeartbeats 4000000 in
set_option maxRecDepth 100000 in
theorem t_X10_takeFields_42 {l : Launch} {G : ae_G} (d : Nat) {rr : Int32} {ss : ae_S} : ∀ (n : Nat) (i1 : Fin 32) (v2 : Int32) (s0 : ae_S), F_X10_takeFields_42 n i1 v2 s0 = some (rr, ss) → ae_T l G (d + 4) mX10_takeFields (ae_Po (some (ae_i rr)) ss) 42 [(0, ae_r (some (18, 0))), (1, ae_r (some (8, i1))), (2, ae_i v2)] [] s0 := by
  intro n
  induction n with
  | zero =>
    intro i1 v2 s0 hF
    exact absurd (show (none : Option (Int32 × ae_S)) = some (rr, ss) from hF) (by simp)
  | succ n ih =>
    intro i1 v2 s0 hF
    unfold F_X10_takeFields_42 at hF
    refine ae_iload_n 2 dX10_takeFields_42 rfl ?_
    refine ae_bipush (8 : Int32) dX10_takeFields_43 (by decide) ?_
    refine ae_icmp_gt 93 dX10_takeFields_45 rfl (fun hb1 => ?_) (fun hb1 => ?_)
    · have hF2 := ae_ifT hb1 hF
      refine ae_iconst (0 : Int32) dX10_takeFields_93 (by decide) ?_
      obtain ⟨rfl, rfl⟩ := ae_retI hF2
      exact ae_iret dX10_takeFields_94 rfl (by decide) ⟨rfl, rfl⟩
    · have hF2 := ae_ifF hb1 hF
      refine ae_aload_n 0 dX10_takeFields_48 rfl ?_
      refine ae_aload_n 1 dX10_takeFields_49 rfl ?_
      obtain ⟨r3, s4, hc5, hF6⟩ := ae_bdI hF2
      refine ae_cV1 (q := (18, 0)) (As := [ae_r (some (8, i1))]) dX10_takeFields_50 ww_593 vy_X10_takeField rfl rfl rfl rfl rfl (Nat.le_of_ble_eq_true rfl) (c_X10_takeField d hc5) ?_
      refine ae_if_ne 58 dX10_takeFields_53 rfl (fun hb7 => ?_) (fun hb7 => ?_)
      · have hF8 := ae_ifF hb7 hF6
        refine ae_aload_n 0 dX10_takeFields_58 rfl ?_
        refine ae_getO (q := (18, 0)) (some (12, 0)) dX10_takeFields_59 fl_RX10_9 rfl rfl rfl ?_
        refine ae_bipush (44 : Int32) dX10_takeFields_62 (by decide) ?_
        obtain ⟨r9, s10, hc11, hF12⟩ := ae_bdI hF8
        refine ae_cV1 (q := (12, 0)) (As := [ae_i (44 : Int32)]) dX10_takeFields_64 ww_589 vy_X8_isSign rfl rfl rfl rfl rfl (Nat.le_of_ble_eq_true rfl) (c_X8_isSign (d + 3) hc11) ?_
        refine ae_if_ne 80 dX10_takeFields_67 rfl (fun hb13 => ?_) (fun hb13 => ?_)
        · have hF14 := ae_ifF hb13 hF12
          refine ae_aload_n 0 dX10_takeFields_80 rfl ?_
          refine ae_getO (q := (18, 0)) (some (12, 0)) dX10_takeFields_81 fl_RX10_9 rfl rfl rfl ?_
          obtain ⟨r15, s16, hc17, hF18⟩ := ae_bdI hF14
          refine ae_cV0 (q := (12, 0)) (As := []) dX10_takeFields_84 ww_528 vy_X8_advance rfl rfl rfl rfl rfl (Nat.le_of_ble_eq_true rfl) (c_X8_advance (d + 3) hc17) ?_
          obtain ⟨x19, hx19, hF20⟩ := ae_ltI hF18
          refine ae_iinc (lv' := [(2, ae_i x19), (0, ae_r (some (18, 0))), (1, ae_r (some (8, i1)))]) 2 (1 : Int32) dX10_takeFields_87 rfl (by decide) (by decide) (by rw [hx19]; rfl) ?_
          refine ae_goto 42 dX10_takeFields_90 rfl ?_
          refine ae_pick (lv' := [(0, ae_r (some (18, 0))), (1, ae_r (some (8, i1))), (2, ae_i x19)]) [1, 2, 0] rfl ?_
          exact ih i1 x19 s16 hF20
        · have hF14 := ae_ifT hb13 hF12
          refine ae_aload_n 0 dX10_takeFields_70 rfl ?_
          refine ae_getO (q := (18, 0)) (some (12, 0)) dX10_takeFields_71 fl_RX10_9 rfl rfl rfl ?_
          refine ae_bipush (125 : Int32) dX10_takeFields_74 (by decide) ?_
          obtain ⟨r21, s22, hc23, hF24⟩ := ae_bdI hF14
          refine ae_cV1 (q := (12, 0)) (As := [ae_i (125 : Int32)]) dX10_takeFields_76 ww_601 vy_X8_takeSign rfl rfl rfl rfl rfl (Nat.le_of_ble_eq_true rfl) (c_X8_takeSign (d + 2) hc23) ?_
          obtain ⟨hg25, hF26⟩ := ae_gdI hF24
          obtain ⟨rfl, rfl⟩ := ae_retI hF26
          exact ae_iret dX10_takeFields_79 rfl (ae_zzN (ae_zzI hg25)) ⟨rfl, rfl⟩
      · have hF8 := ae_ifT hb7 hF6
        refine ae_iconst (0 : Int32) dX10_takeFields_56 (by decide) ?_
        obtain ⟨rfl, rfl⟩ := ae_retI hF8
        exact ae_iret dX10_takeFields_57 rfl (by decide) ⟨rfl, rfl⟩
def F_X10_takeFields (i1 : Fin 32) (s0 : ae_S) : Option (Int32 × ae_S) := ae_bd (F_X8_isSign (123 : Int32) s0) (fun (r27 : Int32) s28 => if r27 = 0 then (some ((1 : Int32), s28)) else (ae_mo (ae_gk (s28.2.2.2 8 i1 4) 60) none (fun j33 => ae_gd (decide ((j33 : Fin 32).val < 9)) (if (ae_kFlo j33) = 0 then (ae_bd (F_X8_advance s28) (fun (r39 : Unit) s40 => F_X10_takeFields_42 ae_fu i1 (0 : Int32) s40)) else (ae_bd (F_X8_refuse (4 : Int32) s28) (fun (r43 : Int32) s44 => ae_gd (ae_zz r43) (some (r43, s44))))))))
set_option maxHeartbeats 4000000 in
set_option maxRecDepth 100000 in
theorem c_X10_takeFields {l : Launch} {G : ae_G} (d : Nat) {i1 : Fin 32} {s0 ss : ae_S} {rr : Int32} (hF : F_X10_takeFields i1 s0 = some (rr, ss)) : ae_Met l G (d + 4) yX10_takeFields mX10_takeFields [ae_r (some (18, 0)), ae_r (some (8, i1))] s0 (ae_Po (some (ae_i rr)) ss) := by
  refine ae_enter (by decide) rfl (Nat.le_of_ble_eq_true rfl) ?_
  show ae_T l G (d + 4) mX10_takeFields (ae_Po (some (ae_i rr)) ss) 0 [(0, ae_r (some (18, 0))), (1, ae_r (some (8, i1)))] [] s0
  unfold F_X10_takeFields at hF
  refine ae_aload_n 0 dX10_takeFields_0 rfl ?_
  refine ae_getO (q := (18, 0)) (some (12, 0)) dX10_takeFields_1 fl_RX10_9 rfl rfl rfl ?_
  refine ae_bipush (123 : Int32) dX10_takeFields_4 (by decide) ?_
  obtain ⟨r27, s28, hc29, hF30⟩ := ae_bdI hF
  refine ae_cV1 (q := (12, 0)) (As := [ae_i (123 : Int32)]) dX10_takeFields_6 ww_589 vy_X8_isSign rfl rfl rfl rfl rfl (Nat.le_of_ble_eq_true rfl) (c_X8_isSign (d + 3) hc29) ?_
  refine ae_if_ne 14 dX10_takeFields_9 rfl (fun hb31 => ?_) (fun hb31 => ?_)
  · have hF32 := ae_ifF hb31 hF30
    refine ae_aload_n 1 dX10_takeFields_14 rfl ?_
    obtain ⟨j33, hj33, hF34⟩ := ae_moK hF32
    refine ae_getO (q := (8, i1)) (some (60, j33)) dX10_takeFields_15 fl_RX10_93 rfl rfl hj33 ?_
    obtain ⟨hg35, hF36⟩ := ae_gdI hF34
    refine ae_getK (i := j33) dX10_takeFields_18 (List.mem_of_getElem? (i := 3) rfl) ww_1945 hg35 (ae_nmI (y := ae_kFlo j33) rfl ?_)
    refine ae_if_eq 33 dX10_takeFields_21 rfl (fun hb37 => ?_) (fun hb37 => ?_)
    · have hF38 := ae_ifT hb37 hF36
      refine ae_aload_n 0 dX10_takeFields_33 rfl ?_
      refine ae_getO (q := (18, 0)) (some (12, 0)) dX10_takeFields_34 fl_RX10_9 rfl rfl rfl ?_
      obtain ⟨r39, s40, hc41, hF42⟩ := ae_bdI hF38
      refine ae_cV0 (q := (12, 0)) (As := []) dX10_takeFields_37 ww_528 vy_X8_advance rfl rfl rfl rfl rfl (Nat.le_of_ble_eq_true rfl) (c_X8_advance (d + 3) hc41) ?_
      refine ae_iconst (0 : Int32) dX10_takeFields_40 (by decide) ?_
      refine ae_istore_n (lv' := [(2, ae_i (0 : Int32)), (0, ae_r (some (18, 0))), (1, ae_r (some (8, i1)))]) dX10_takeFields_41 (by decide) rfl ?_
      refine ae_pick (lv' := [(0, ae_r (some (18, 0))), (1, ae_r (some (8, i1))), (2, ae_i (0 : Int32))]) [1, 2, 0] rfl ?_
      exact t_X10_takeFields_42 d ae_fu i1 (0 : Int32) s40 hF42
    · have hF38 := ae_ifF hb37 hF36
      refine ae_aload_n 0 dX10_takeFields_24 rfl ?_
      refine ae_getO (q := (18, 0)) (some (12, 0)) dX10_takeFields_25 fl_RX10_9 rfl rfl rfl ?_
      refine ae_iconst (4 : Int32) dX10_takeFields_28 (by decide) ?_
      obtain ⟨r43, s44, hc45, hF46⟩ := ae_bdI hF38
      refine ae_cV1 (q := (12, 0)) (As := [ae_i (4 : Int32)]) dX10_takeFields_29 ww_505 vy_X8_refuse rfl rfl rfl rfl rfl (Nat.le_of_ble_eq_true rfl) (c_X8_refuse (d + 3) hc45) ?_
      obtain ⟨hg47, hF48⟩ := ae_gdI hF46
      obtain ⟨rfl, rfl⟩ := ae_retI hF48
      exact ae_iret dX10_takeFields_32 rfl (ae_zzN (ae_zzI hg47)) ⟨rfl, rfl⟩
  · have hF32 := ae_ifT hb31 hF30
    refine ae_iconst (1 : Int32) dX10_takeFields_12 (by decide) ?_
    obtain ⟨rfl, rfl⟩ := ae_retI hF32
    exact ae_iret dX10_takeFields_13 rfl (by decide) ⟨rfl, rfl⟩
abbrev mX10_takeKind : ae_M := (RX10, cX10_takeKind, 3, some .boolean)
theorem vy_X10_takeKind : ae_VY yX10_takeKind mX10_takeKind 1 := ⟨ww_534, wq_5, ww_10, ww_535, ⟨by decide, by decide, by decide +kernel⟩, by decide⟩
theorem dX10_takeKind_0 : decode cX10_takeKind 0 = .ok (.aload_n 0, 1) := by decide +kernel
theorem dX10_takeKind_1 : decode cX10_takeKind 1 = .ok (.getfield 9, 3) := by decide +kernel
theorem dX10_takeKind_4 : decode cX10_takeKind 4 = .ok (.invokevirtual 89, 3) := by decide +kernel
theorem dX10_takeKind_7 : decode cX10_takeKind 7 = .ok (.astore_n 2, 1) := by decide +kernel
theorem dX10_takeKind_8 : decode cX10_takeKind 8 = .ok (.aload_n 2, 1) := by decide +kernel
theorem dX10_takeKind_9 : decode cX10_takeKind 9 = .ok (.ifnonnull 12, 3) := by decide +kernel
theorem dX10_takeKind_12 : decode cX10_takeKind 12 = .ok (.aload_n 0, 1) := by decide +kernel
theorem dX10_takeKind_13 : decode cX10_takeKind 13 = .ok (.getfield 9, 3) := by decide +kernel
theorem dX10_takeKind_16 : decode cX10_takeKind 16 = .ok (.iconst 1, 1) := by decide +kernel
theorem dX10_takeKind_17 : decode cX10_takeKind 17 = .ok (.invokevirtual 40, 3) := by decide +kernel
theorem dX10_takeKind_20 : decode cX10_takeKind 20 = .ok (.ireturn, 1) := by decide +kernel
theorem dX10_takeKind_21 : decode cX10_takeKind 21 = .ok (.aload_n 1, 1) := by decide +kernel
theorem dX10_takeKind_22 : decode cX10_takeKind 22 = .ok (.aload_n 2, 1) := by decide +kernel
theorem dX10_takeKind_23 : decode cX10_takeKind 23 = .ok (.putfield 93, 3) := by decide +kernel
theorem dX10_takeKind_26 : decode cX10_takeKind 26 = .ok (.aload_n 1, 1) := by decide +kernel
theorem dX10_takeKind_27 : decode cX10_takeKind 27 = .ok (.aload_n 2, 1) := by decide +kernel
theorem dX10_takeKind_28 : decode cX10_takeKind 28 = .ok (.getfield 97, 3) := by decide +kernel
theorem dX10_takeKind_31 : decode cX10_takeKind 31 = .ok (.putfield 103, 3) := by decide +kernel
theorem dX10_takeKind_34 : decode cX10_takeKind 34 = .ok (.aload_n 0, 1) := by decide +kernel
theorem dX10_takeKind_35 : decode cX10_takeKind 35 = .ok (.getfield 9, 3) := by decide +kernel
theorem dX10_takeKind_38 : decode cX10_takeKind 38 = .ok (.invokevirtual 61, 3) := by decide +kernel
theorem dX10_takeKind_41 : decode cX10_takeKind 41 = .ok (.aload_n 0, 1) := by decide +kernel
theorem dX10_takeKind_42 : decode cX10_takeKind 42 = .ok (.getfield 9, 3) := by decide +kernel
theorem dX10_takeKind_45 : decode cX10_takeKind 45 = .ok (.ldc 106, 2) := by decide +kernel
theorem dX10_takeKind_47 : decode cX10_takeKind 47 = .ok (.invokevirtual 108, 3) := by decide +kernel
theorem dX10_takeKind_50 : decode cX10_takeKind 50 = .ok (.ifCond .eq 15, 3) := by decide +kernel
theorem dX10_takeKind_53 : decode cX10_takeKind 53 = .ok (.aload_n 1, 1) := by decide +kernel
theorem dX10_takeKind_54 : decode cX10_takeKind 54 = .ok (.iconst 1, 1) := by decide +kernel
theorem dX10_takeKind_55 : decode cX10_takeKind 55 = .ok (.putfield 112, 3) := by decide +kernel
theorem dX10_takeKind_58 : decode cX10_takeKind 58 = .ok (.aload_n 0, 1) := by decide +kernel
theorem dX10_takeKind_59 : decode cX10_takeKind 59 = .ok (.getfield 9, 3) := by decide +kernel
theorem dX10_takeKind_62 : decode cX10_takeKind 62 = .ok (.invokevirtual 61, 3) := by decide +kernel
theorem dX10_takeKind_65 : decode cX10_takeKind 65 = .ok (.iconst 1, 1) := by decide +kernel
theorem dX10_takeKind_66 : decode cX10_takeKind 66 = .ok (.ireturn, 1) := by decide +kernel
def F_X10_takeKind_65 (s0 : ae_S) : Option (Int32 × ae_S) := some ((1 : Int32), s0)
set_option maxHeartbeats 4000000 in
set_option maxRecDepth 100000 in
theorem t_X10_takeKind_65 {l : Launch} {G : ae_G} (d : Nat) {rr : Int32} {ss : ae_S} (s0 : ae_S) (hF : F_X10_takeKind_65 s0 = some (rr, ss)) : ae_T l G (d + 7) mX10_takeKind (ae_Po (some (ae_i rr)) ss) 65 [] [] s0 := by
  unfold F_X10_takeKind_65 at hF
  refine ae_iconst (1 : Int32) dX10_takeKind_65 (by decide) ?_
  obtain ⟨rfl, rfl⟩ := ae_retI hF
  exact ae_iret dX10_takeKind_66 rfl (by decide) ⟨rfl, rfl⟩
def F_X10_takeKind (i1 : Fin 32) (s0 : ae_S) : Option (Int32 × ae_S) := ae_bd (F_X8_kindHere s0) (fun (r1 : Option (Fin 32)) s2 => ae_mo r1 (ae_bd (F_X8_refuse (1 : Int32) s2) (fun (r7 : Int32) s8 => ae_gd (ae_zz r7) (some (r7, s8)))) (fun i5 => ae_lt (ae_wR s2 8 i1 4 (some (60, i5))) (fun s13 => ae_gd (decide ((i5 : Fin 32).val < 9)) (ae_lt (ae_wI s13 8 i1 8 (ae_kByt i5)) (fun s17 => ae_bd (F_X8_advance s17) (fun (r19 : Unit) s20 => ae_bd (F_X8_isWord (0 : Fin 32) s20) (fun (r23 : Int32) s24 => if r23 = 0 then (F_X10_takeKind_65 s24) else (ae_lt (ae_wI s24 8 i1 5 (1 : Int32)) (fun s29 => ae_bd (F_X8_advance s29) (fun (r31 : Unit) s32 => F_X10_takeKind_65 s32))))))))))
set_option maxHeartbeats 4000000 in
set_option maxRecDepth 100000 in
theorem c_X10_takeKind {l : Launch} {G : ae_G} (d : Nat) {i1 : Fin 32} {s0 ss : ae_S} {rr : Int32} (hF : F_X10_takeKind i1 s0 = some (rr, ss)) : ae_Met l G (d + 7) yX10_takeKind mX10_takeKind [ae_r (some (18, 0)), ae_r (some (8, i1))] s0 (ae_Po (some (ae_i rr)) ss) := by
  refine ae_enter (by decide) rfl (Nat.le_of_ble_eq_true rfl) ?_
  show ae_T l G (d + 7) mX10_takeKind (ae_Po (some (ae_i rr)) ss) 0 [(0, ae_r (some (18, 0))), (1, ae_r (some (8, i1)))] [] s0
  unfold F_X10_takeKind at hF
  refine ae_aload_n 0 dX10_takeKind_0 rfl ?_
  refine ae_getO (q := (18, 0)) (some (12, 0)) dX10_takeKind_1 fl_RX10_9 rfl rfl rfl ?_
  obtain ⟨r1, s2, hc3, hF4⟩ := ae_bdI hF
  refine ae_cV1 (q := (12, 0)) (As := []) dX10_takeKind_4 ww_536 vy_X8_kindHere rfl rfl rfl rfl rfl (Nat.le_of_ble_eq_true rfl) (c_X8_kindHere d hc3) ?_
  refine ae_astore_n (lv' := [(2, ae_r (ae_ro 60 r1)), (0, ae_r (some (18, 0))), (1, ae_r (some (8, i1)))]) dX10_takeKind_7 (by decide) rfl ?_
  refine ae_aload_n 0 dX10_takeKind_8 rfl ?_
  cases r1 with
  | none =>
    have hF6 := ae_moN hF4
    refine ae_ifnonnull 21 dX10_takeKind_9 rfl (fun h => absurd rfl h) (fun _ => ?_)
    refine ae_aload_n 1 dX10_takeKind_12 rfl ?_
    refine ae_getO (q := (18, 0)) (some (12, 0)) dX10_takeKind_13 fl_RX10_9 rfl rfl rfl ?_
    refine ae_iconst (1 : Int32) dX10_takeKind_16 (by decide) ?_
    obtain ⟨r7, s8, hc9, hF10⟩ := ae_bdI hF6
    refine ae_cV1 (q := (12, 0)) (As := [ae_i (1 : Int32)]) dX10_takeKind_17 ww_505 vy_X8_refuse rfl rfl rfl rfl rfl (Nat.le_of_ble_eq_true rfl) (c_X8_refuse (d + 6) hc9) ?_
    obtain ⟨hg11, hF12⟩ := ae_gdI hF10
    obtain ⟨rfl, rfl⟩ := ae_retI hF12
    exact ae_iret dX10_takeKind_20 rfl (ae_zzN (ae_zzI hg11)) ⟨rfl, rfl⟩
  | some i5 =>
    have hF6 := ae_moS hF4
    refine ae_ifnonnull 21 dX10_takeKind_9 rfl (fun _ => ?_) (fun h => absurd h (by simp [ae_ro]))
    refine ae_aload_n 2 dX10_takeKind_21 rfl ?_
    refine ae_aload_n 0 dX10_takeKind_22 rfl ?_
    obtain ⟨s13, hs13, hF14⟩ := ae_ltI hF6
    refine ae_putO (q := (8, i1)) dX10_takeKind_23 fl_RX10_93 rfl rfl rfl (ae_nmS hs13 ?_)
    refine ae_aload_n 2 dX10_takeKind_26 rfl ?_
    refine ae_aload_n 0 dX10_takeKind_27 rfl ?_
    obtain ⟨hg15, hF16⟩ := ae_gdI hF14
    refine ae_getK (i := i5) dX10_takeKind_28 (List.mem_of_getElem? (i := 1) rfl) ww_1943 hg15 (ae_nmI (y := ae_kByt i5) rfl ?_)
    obtain ⟨s17, hs17, hF18⟩ := ae_ltI hF16
    refine ae_putI (q := (8, i1)) dX10_takeKind_31 fl_RX10_103 rfl rfl (ae_nmS hs17 ?_)
    refine ae_aload_n 1 dX10_takeKind_34 rfl ?_
    refine ae_getO (q := (18, 0)) (some (12, 0)) dX10_takeKind_35 fl_RX10_9 rfl rfl rfl ?_
    obtain ⟨r19, s20, hc21, hF22⟩ := ae_bdI hF18
    refine ae_cV0 (q := (12, 0)) (As := []) dX10_takeKind_38 ww_528 vy_X8_advance rfl rfl rfl rfl rfl (Nat.le_of_ble_eq_true rfl) (c_X8_advance (d + 6) hc21) ?_
    refine ae_aload_n 1 dX10_takeKind_41 rfl ?_
    refine ae_getO (q := (18, 0)) (some (12, 0)) dX10_takeKind_42 fl_RX10_9 rfl rfl rfl ?_
    refine ae_ldcS (i := 0) (tx := "big") 9 dX10_takeKind_45 rfl ?_
    obtain ⟨r23, s24, hc25, hF26⟩ := ae_bdI hF22
    refine ae_cV1 (q := (12, 0)) (As := [ae_r (some (62, 0))]) dX10_takeKind_47 ww_542 vy_X8_isWord rfl rfl rfl rfl rfl (Nat.le_of_ble_eq_true rfl) (c_X8_isWord (d + 1) hc25) ?_
    refine ae_if_eq 65 dX10_takeKind_50 rfl (fun hb27 => ?_) (fun hb27 => ?_)
    · have hF28 := ae_ifT hb27 hF26
      refine ae_pick (lv' := []) [] rfl ?_
      exact t_X10_takeKind_65 d s24 hF28
    · have hF28 := ae_ifF hb27 hF26
      refine ae_aload_n 2 dX10_takeKind_53 rfl ?_
      refine ae_iconst (1 : Int32) dX10_takeKind_54 (by decide) ?_
      obtain ⟨s29, hs29, hF30⟩ := ae_ltI hF28
      refine ae_putZ (q := (8, i1)) dX10_takeKind_55 fl_RX10_112 rfl rfl (by decide) (ae_nmS hs29 ?_)
      refine ae_aload_n 1 dX10_takeKind_58 rfl ?_
      refine ae_getO (q := (18, 0)) (some (12, 0)) dX10_takeKind_59 fl_RX10_9 rfl rfl rfl ?_
      obtain ⟨r31, s32, hc33, hF34⟩ := ae_bdI hF30
      refine ae_cV0 (q := (12, 0)) (As := []) dX10_takeKind_62 ww_528 vy_X8_advance rfl rfl rfl rfl rfl (Nat.le_of_ble_eq_true rfl) (c_X8_advance (d + 6) hc33) ?_
      refine ae_pick (lv' := []) [] rfl ?_
      exact t_X10_takeKind_65 d s32 hF34
abbrev mX10_holdsRowNumber : ae_M := (RX10, cX10_holdsRowNumber, 1, some .boolean)
theorem vy_X10_holdsRowNumber : ae_VY yX10_holdsRowNumber mX10_holdsRowNumber 0 := ⟨ww_566, wq_8, ww_10, ww_567, ⟨by decide, by decide, by decide +kernel⟩, by decide⟩
theorem dX10_holdsRowNumber_0 : decode cX10_holdsRowNumber 0 = .ok (.aload_n 0, 1) := by decide +kernel
theorem dX10_holdsRowNumber_1 : decode cX10_holdsRowNumber 1 = .ok (.getfield 9, 3) := by decide +kernel
theorem dX10_holdsRowNumber_4 : decode cX10_holdsRowNumber 4 = .ok (.invokevirtual 117, 3) := by decide +kernel
theorem dX10_holdsRowNumber_7 : decode cX10_holdsRowNumber 7 = .ok (.ifCond .ne 12, 3) := by decide +kernel
theorem dX10_holdsRowNumber_10 : decode cX10_holdsRowNumber 10 = .ok (.aload_n 0, 1) := by decide +kernel
theorem dX10_holdsRowNumber_11 : decode cX10_holdsRowNumber 11 = .ok (.getfield 9, 3) := by decide +kernel
theorem dX10_holdsRowNumber_14 : decode cX10_holdsRowNumber 14 = .ok (.iconst 1, 1) := by decide +kernel
theorem dX10_holdsRowNumber_15 : decode cX10_holdsRowNumber 15 = .ok (.invokevirtual 40, 3) := by decide +kernel
theorem dX10_holdsRowNumber_18 : decode cX10_holdsRowNumber 18 = .ok (.ireturn, 1) := by decide +kernel
theorem dX10_holdsRowNumber_19 : decode cX10_holdsRowNumber 19 = .ok (.aload_n 0, 1) := by decide +kernel
theorem dX10_holdsRowNumber_20 : decode cX10_holdsRowNumber 20 = .ok (.getfield 9, 3) := by decide +kernel
theorem dX10_holdsRowNumber_23 : decode cX10_holdsRowNumber 23 = .ok (.invokevirtual 43, 3) := by decide +kernel
theorem dX10_holdsRowNumber_26 : decode cX10_holdsRowNumber 26 = .ok (.lconst 1, 1) := by decide +kernel
theorem dX10_holdsRowNumber_27 : decode cX10_holdsRowNumber 27 = .ok (.lcmp, 1) := by decide +kernel
theorem dX10_holdsRowNumber_28 : decode cX10_holdsRowNumber 28 = .ok (.ifCond .lt 17, 3) := by decide +kernel
theorem dX10_holdsRowNumber_31 : decode cX10_holdsRowNumber 31 = .ok (.aload_n 0, 1) := by decide +kernel
theorem dX10_holdsRowNumber_32 : decode cX10_holdsRowNumber 32 = .ok (.getfield 9, 3) := by decide +kernel
theorem dX10_holdsRowNumber_35 : decode cX10_holdsRowNumber 35 = .ok (.invokevirtual 43, 3) := by decide +kernel
theorem dX10_holdsRowNumber_38 : decode cX10_holdsRowNumber 38 = .ok (.ldc2_w 144, 3) := by decide +kernel
theorem dX10_holdsRowNumber_41 : decode cX10_holdsRowNumber 41 = .ok (.lcmp, 1) := by decide +kernel
theorem dX10_holdsRowNumber_42 : decode cX10_holdsRowNumber 42 = .ok (.ifCond .le 12, 3) := by decide +kernel
theorem dX10_holdsRowNumber_45 : decode cX10_holdsRowNumber 45 = .ok (.aload_n 0, 1) := by decide +kernel
theorem dX10_holdsRowNumber_46 : decode cX10_holdsRowNumber 46 = .ok (.getfield 9, 3) := by decide +kernel
theorem dX10_holdsRowNumber_49 : decode cX10_holdsRowNumber 49 = .ok (.iconst 3, 1) := by decide +kernel
theorem dX10_holdsRowNumber_50 : decode cX10_holdsRowNumber 50 = .ok (.invokevirtual 40, 3) := by decide +kernel
theorem dX10_holdsRowNumber_53 : decode cX10_holdsRowNumber 53 = .ok (.ireturn, 1) := by decide +kernel
theorem dX10_holdsRowNumber_54 : decode cX10_holdsRowNumber 54 = .ok (.iconst 1, 1) := by decide +kernel
theorem dX10_holdsRowNumber_55 : decode cX10_holdsRowNumber 55 = .ok (.ireturn, 1) := by decide +kernel
def F_X10_holdsRowNumber_45 (s0 : ae_S) : Option (Int32 × ae_S) := ae_bd (F_X8_refuse (3 : Int32) s0) (fun (r1 : Int32) s2 => ae_gd (ae_zz r1) (some (r1, s2)))
set_option maxHeartbeats 4000000 in
set_option maxRecDepth 100000 in
theorem t_X10_holdsRowNumber_45 {l : Launch} {G : ae_G} (d : Nat) {rr : Int32} {ss : ae_S} (s0 : ae_S) (hF : F_X10_holdsRowNumber_45 s0 = some (rr, ss)) : ae_T l G (d + 2) mX10_holdsRowNumber (ae_Po (some (ae_i rr)) ss) 45 [(0, ae_r (some (18, 0)))] [] s0 := by
  unfold F_X10_holdsRowNumber_45 at hF
  refine ae_aload_n 0 dX10_holdsRowNumber_45 rfl ?_
  refine ae_getO (q := (18, 0)) (some (12, 0)) dX10_holdsRowNumber_46 fl_RX10_9 rfl rfl rfl ?_
  refine ae_iconst (3 : Int32) dX10_holdsRowNumber_49 (by decide) ?_
  obtain ⟨r1, s2, hc3, hF4⟩ := ae_bdI hF
  refine ae_cV1 (q := (12, 0)) (As := [ae_i (3 : Int32)]) dX10_holdsRowNumber_50 ww_505 vy_X8_refuse rfl rfl rfl rfl rfl (Nat.le_of_ble_eq_true rfl) (c_X8_refuse (d + 1) hc3) ?_
  obtain ⟨hg5, hF6⟩ := ae_gdI hF4
  obtain ⟨rfl, rfl⟩ := ae_retI hF6
  exact ae_iret dX10_holdsRowNumber_53 rfl (ae_zzN (ae_zzI hg5)) ⟨rfl, rfl⟩
def F_X10_holdsRowNumber (s0 : ae_S) : Option (Int32 × ae_S) := ae_bd (F_X8_isNumber s0) (fun (r7 : Int32) s8 => if r7 = 0 then (ae_bd (F_X8_refuse (1 : Int32) s8) (fun (r25 : Int32) s26 => ae_gd (ae_zz r25) (some (r25, s26)))) else (ae_bd (F_X8_value s8) (fun (r13 : Int64) s14 => if (lg_cmp r13 (1 : Int64)) < 0 then (F_X10_holdsRowNumber_45 s14) else (ae_bd (F_X8_value s14) (fun (r19 : Int64) s20 => if (lg_cmp r19 (64 : Int64)) ≤ 0 then (some ((1 : Int32), s20)) else (F_X10_holdsRowNumber_45 s20))))))
set_option maxHeartbeats 4000000 in
set_option maxRecDepth 100000 in
theorem c_X10_holdsRowNumber {l : Launch} {G : ae_G} (d : Nat) {s0 ss : ae_S} {rr : Int32} (hF : F_X10_holdsRowNumber s0 = some (rr, ss)) : ae_Met l G (d + 2) yX10_holdsRowNumber mX10_holdsRowNumber [ae_r (some (18, 0))] s0 (ae_Po (some (ae_i rr)) ss) := by
  refine ae_enter (by decide) rfl (Nat.le_of_ble_eq_true rfl) ?_
  show ae_T l G (d + 2) mX10_holdsRowNumber (ae_Po (some (ae_i rr)) ss) 0 [(0, ae_r (some (18, 0)))] [] s0
  unfold F_X10_holdsRowNumber at hF
  refine ae_aload_n 0 dX10_holdsRowNumber_0 rfl ?_
  refine ae_getO (q := (18, 0)) (some (12, 0)) dX10_holdsRowNumber_1 fl_RX10_9 rfl rfl rfl ?_
  obtain ⟨r7, s8, hc9, hF10⟩ := ae_bdI hF
  refine ae_cV1 (q := (12, 0)) (As := []) dX10_holdsRowNumber_4 ww_551 vy_X8_isNumber rfl rfl rfl rfl rfl (Nat.le_of_ble_eq_true rfl) (c_X8_isNumber d hc9) ?_
  refine ae_if_ne 19 dX10_holdsRowNumber_7 rfl (fun hb11 => ?_) (fun hb11 => ?_)
  · have hF12 := ae_ifF hb11 hF10
    refine ae_aload_n 0 dX10_holdsRowNumber_19 rfl ?_
    refine ae_getO (q := (18, 0)) (some (12, 0)) dX10_holdsRowNumber_20 fl_RX10_9 rfl rfl rfl ?_
    obtain ⟨r13, s14, hc15, hF16⟩ := ae_bdI hF12
    refine ae_cV1 (q := (12, 0)) (As := []) dX10_holdsRowNumber_23 ww_509 vy_X8_value rfl rfl rfl rfl rfl (Nat.le_of_ble_eq_true rfl) (c_X8_value (d + 1) hc15) ?_
    refine ae_lconst (1 : Int64) dX10_holdsRowNumber_26 (by decide) ?_
    refine ae_lcmp dX10_holdsRowNumber_27 ?_
    refine ae_if_lt 45 dX10_holdsRowNumber_28 rfl (fun hb17 => ?_) (fun hb17 => ?_)
    · have hF18 := ae_ifT hb17 hF16
      refine ae_pick (lv' := [(0, ae_r (some (18, 0)))]) [0] rfl ?_
      exact t_X10_holdsRowNumber_45 d s14 hF18
    · have hF18 := ae_ifF hb17 hF16
      refine ae_aload_n 0 dX10_holdsRowNumber_31 rfl ?_
      refine ae_getO (q := (18, 0)) (some (12, 0)) dX10_holdsRowNumber_32 fl_RX10_9 rfl rfl rfl ?_
      obtain ⟨r19, s20, hc21, hF22⟩ := ae_bdI hF18
      refine ae_cV1 (q := (12, 0)) (As := []) dX10_holdsRowNumber_35 ww_509 vy_X8_value rfl rfl rfl rfl rfl (Nat.le_of_ble_eq_true rfl) (c_X8_value (d + 1) hc21) ?_
      refine ae_ldc2 dX10_holdsRowNumber_38 ww_568 ?_
      refine ae_lcmp dX10_holdsRowNumber_41 ?_
      refine ae_if_le 54 dX10_holdsRowNumber_42 rfl (fun hb23 => ?_) (fun hb23 => ?_)
      · have hF24 := ae_ifT hb23 hF22
        refine ae_iconst (1 : Int32) dX10_holdsRowNumber_54 (by decide) ?_
        obtain ⟨rfl, rfl⟩ := ae_retI hF24
        exact ae_iret dX10_holdsRowNumber_55 rfl (by decide) ⟨rfl, rfl⟩
      · have hF24 := ae_ifF hb23 hF22
        refine ae_pick (lv' := [(0, ae_r (some (18, 0)))]) [0] rfl ?_
        exact t_X10_holdsRowNumber_45 d s20 hF24
  · have hF12 := ae_ifT hb11 hF10
    refine ae_aload_n 0 dX10_holdsRowNumber_10 rfl ?_
    refine ae_getO (q := (18, 0)) (some (12, 0)) dX10_holdsRowNumber_11 fl_RX10_9 rfl rfl rfl ?_
    refine ae_iconst (1 : Int32) dX10_holdsRowNumber_14 (by decide) ?_
    obtain ⟨r25, s26, hc27, hF28⟩ := ae_bdI hF12
    refine ae_cV1 (q := (12, 0)) (As := [ae_i (1 : Int32)]) dX10_holdsRowNumber_15 ww_505 vy_X8_refuse rfl rfl rfl rfl rfl (Nat.le_of_ble_eq_true rfl) (c_X8_refuse (d + 1) hc27) ?_
    obtain ⟨hg29, hF30⟩ := ae_gdI hF28
    obtain ⟨rfl, rfl⟩ := ae_retI hF30
    exact ae_iret dX10_holdsRowNumber_18 rfl (ae_zzN (ae_zzI hg29)) ⟨rfl, rfl⟩
abbrev mX10_takeRow : ae_M := (RX10, cX10_takeRow, 5, some .boolean)
theorem vy_X10_takeRow : ae_VY yX10_takeRow mX10_takeRow 2 := ⟨ww_561, wq_7, ww_10, ww_562, ⟨by decide, by decide, by decide +kernel⟩, by decide⟩
theorem dX10_takeRow_0 : decode cX10_takeRow 0 = .ok (.aload_n 0, 1) := by decide +kernel
theorem dX10_takeRow_1 : decode cX10_takeRow 1 = .ok (.getfield 9, 3) := by decide +kernel
theorem dX10_takeRow_4 : decode cX10_takeRow 4 = .ok (.ldc 127, 2) := by decide +kernel
theorem dX10_takeRow_6 : decode cX10_takeRow 6 = .ok (.invokevirtual 108, 3) := by decide +kernel
theorem dX10_takeRow_9 : decode cX10_takeRow 9 = .ok (.ifCond .ne 5, 3) := by decide +kernel
theorem dX10_takeRow_12 : decode cX10_takeRow 12 = .ok (.iconst 1, 1) := by decide +kernel
theorem dX10_takeRow_13 : decode cX10_takeRow 13 = .ok (.ireturn, 1) := by decide +kernel
theorem dX10_takeRow_14 : decode cX10_takeRow 14 = .ok (.aload_n 0, 1) := by decide +kernel
theorem dX10_takeRow_15 : decode cX10_takeRow 15 = .ok (.getfield 9, 3) := by decide +kernel
theorem dX10_takeRow_18 : decode cX10_takeRow 18 = .ok (.invokevirtual 61, 3) := by decide +kernel
theorem dX10_takeRow_21 : decode cX10_takeRow 21 = .ok (.aload_n 0, 1) := by decide +kernel
theorem dX10_takeRow_22 : decode cX10_takeRow 22 = .ok (.invokevirtual 129, 3) := by decide +kernel
theorem dX10_takeRow_25 : decode cX10_takeRow 25 = .ok (.ifCond .ne 5, 3) := by decide +kernel
theorem dX10_takeRow_28 : decode cX10_takeRow 28 = .ok (.iconst 0, 1) := by decide +kernel
theorem dX10_takeRow_29 : decode cX10_takeRow 29 = .ok (.ireturn, 1) := by decide +kernel
theorem dX10_takeRow_30 : decode cX10_takeRow 30 = .ok (.aload_n 1, 1) := by decide +kernel
theorem dX10_takeRow_31 : decode cX10_takeRow 31 = .ok (.aload_n 0, 1) := by decide +kernel
theorem dX10_takeRow_32 : decode cX10_takeRow 32 = .ok (.getfield 9, 3) := by decide +kernel
theorem dX10_takeRow_35 : decode cX10_takeRow 35 = .ok (.invokevirtual 43, 3) := by decide +kernel
theorem dX10_takeRow_38 : decode cX10_takeRow 38 = .ok (.l2i, 1) := by decide +kernel
theorem dX10_takeRow_39 : decode cX10_takeRow 39 = .ok (.putfield 132, 3) := by decide +kernel
theorem dX10_takeRow_42 : decode cX10_takeRow 42 = .ok (.aload_n 0, 1) := by decide +kernel
theorem dX10_takeRow_43 : decode cX10_takeRow 43 = .ok (.getfield 9, 3) := by decide +kernel
theorem dX10_takeRow_46 : decode cX10_takeRow 46 = .ok (.invokevirtual 135, 3) := by decide +kernel
theorem dX10_takeRow_49 : decode cX10_takeRow 49 = .ok (.istore_n 3, 1) := by decide +kernel
theorem dX10_takeRow_50 : decode cX10_takeRow 50 = .ok (.aload_n 0, 1) := by decide +kernel
theorem dX10_takeRow_51 : decode cX10_takeRow 51 = .ok (.getfield 9, 3) := by decide +kernel
theorem dX10_takeRow_54 : decode cX10_takeRow 54 = .ok (.invokevirtual 61, 3) := by decide +kernel
theorem dX10_takeRow_57 : decode cX10_takeRow 57 = .ok (.aload_n 0, 1) := by decide +kernel
theorem dX10_takeRow_58 : decode cX10_takeRow 58 = .ok (.getfield 9, 3) := by decide +kernel
theorem dX10_takeRow_61 : decode cX10_takeRow 61 = .ok (.ldc 138, 2) := by decide +kernel
theorem dX10_takeRow_63 : decode cX10_takeRow 63 = .ok (.invokevirtual 108, 3) := by decide +kernel
theorem dX10_takeRow_66 : decode cX10_takeRow 66 = .ok (.istore 4, 2) := by decide +kernel
theorem dX10_takeRow_68 : decode cX10_takeRow 68 = .ok (.iload 4, 2) := by decide +kernel
theorem dX10_takeRow_70 : decode cX10_takeRow 70 = .ok (.ifCond .eq 46, 3) := by decide +kernel
theorem dX10_takeRow_73 : decode cX10_takeRow 73 = .ok (.aload_n 0, 1) := by decide +kernel
theorem dX10_takeRow_74 : decode cX10_takeRow 74 = .ok (.getfield 9, 3) := by decide +kernel
theorem dX10_takeRow_77 : decode cX10_takeRow 77 = .ok (.invokevirtual 61, 3) := by decide +kernel
theorem dX10_takeRow_80 : decode cX10_takeRow 80 = .ok (.aload_n 0, 1) := by decide +kernel
theorem dX10_takeRow_81 : decode cX10_takeRow 81 = .ok (.invokevirtual 129, 3) := by decide +kernel
theorem dX10_takeRow_84 : decode cX10_takeRow 84 = .ok (.ifCond .ne 5, 3) := by decide +kernel
theorem dX10_takeRow_87 : decode cX10_takeRow 87 = .ok (.iconst 0, 1) := by decide +kernel
theorem dX10_takeRow_88 : decode cX10_takeRow 88 = .ok (.ireturn, 1) := by decide +kernel
theorem dX10_takeRow_89 : decode cX10_takeRow 89 = .ok (.aload_n 1, 1) := by decide +kernel
theorem dX10_takeRow_90 : decode cX10_takeRow 90 = .ok (.aload_n 0, 1) := by decide +kernel
theorem dX10_takeRow_91 : decode cX10_takeRow 91 = .ok (.getfield 9, 3) := by decide +kernel
theorem dX10_takeRow_94 : decode cX10_takeRow 94 = .ok (.invokevirtual 43, 3) := by decide +kernel
theorem dX10_takeRow_97 : decode cX10_takeRow 97 = .ok (.l2i, 1) := by decide +kernel
theorem dX10_takeRow_98 : decode cX10_takeRow 98 = .ok (.putfield 103, 3) := by decide +kernel
theorem dX10_takeRow_101 : decode cX10_takeRow 101 = .ok (.aload_n 0, 1) := by decide +kernel
theorem dX10_takeRow_102 : decode cX10_takeRow 102 = .ok (.getfield 9, 3) := by decide +kernel
theorem dX10_takeRow_105 : decode cX10_takeRow 105 = .ok (.invokevirtual 135, 3) := by decide +kernel
theorem dX10_takeRow_108 : decode cX10_takeRow 108 = .ok (.istore_n 3, 1) := by decide +kernel
theorem dX10_takeRow_109 : decode cX10_takeRow 109 = .ok (.aload_n 0, 1) := by decide +kernel
theorem dX10_takeRow_110 : decode cX10_takeRow 110 = .ok (.getfield 9, 3) := by decide +kernel
theorem dX10_takeRow_113 : decode cX10_takeRow 113 = .ok (.invokevirtual 61, 3) := by decide +kernel
theorem dX10_takeRow_116 : decode cX10_takeRow 116 = .ok (.aload_n 1, 1) := by decide +kernel
theorem dX10_takeRow_117 : decode cX10_takeRow 117 = .ok (.invokevirtual 123, 3) := by decide +kernel
theorem dX10_takeRow_120 : decode cX10_takeRow 120 = .ok (.iload_n 2, 1) := by decide +kernel
theorem dX10_takeRow_121 : decode cX10_takeRow 121 = .ok (.if_icmp .le 15, 3) := by decide +kernel
theorem dX10_takeRow_124 : decode cX10_takeRow 124 = .ok (.aload_n 0, 1) := by decide +kernel
theorem dX10_takeRow_125 : decode cX10_takeRow 125 = .ok (.getfield 9, 3) := by decide +kernel
theorem dX10_takeRow_128 : decode cX10_takeRow 128 = .ok (.iconst 3, 1) := by decide +kernel
theorem dX10_takeRow_129 : decode cX10_takeRow 129 = .ok (.iload_n 3, 1) := by decide +kernel
theorem dX10_takeRow_130 : decode cX10_takeRow 130 = .ok (.invokevirtual 140, 3) := by decide +kernel
theorem dX10_takeRow_133 : decode cX10_takeRow 133 = .ok (.ifCond .eq 7, 3) := by decide +kernel
theorem dX10_takeRow_136 : decode cX10_takeRow 136 = .ok (.iconst 1, 1) := by decide +kernel
theorem dX10_takeRow_137 : decode cX10_takeRow 137 = .ok (.goto 4, 3) := by decide +kernel
theorem dX10_takeRow_140 : decode cX10_takeRow 140 = .ok (.iconst 0, 1) := by decide +kernel
theorem dX10_takeRow_141 : decode cX10_takeRow 141 = .ok (.ireturn, 1) := by decide +kernel
def F_X10_takeRow_141 (t0 : Int32) (s0 : ae_S) : Option (Int32 × ae_S) := ae_gd (ae_zz t0) (some (t0, s0))
set_option maxHeartbeats 4000000 in
set_option maxRecDepth 100000 in
theorem t_X10_takeRow_141 {l : Launch} {G : ae_G} (d : Nat) {rr : Int32} {ss : ae_S} (t0 : Int32) (s0 : ae_S) (hF : F_X10_takeRow_141 t0 s0 = some (rr, ss)) : ae_T l G (d + 6) mX10_takeRow (ae_Po (some (ae_i rr)) ss) 141 [] [ae_i t0] s0 := by
  unfold F_X10_takeRow_141 at hF
  obtain ⟨hg1, hF2⟩ := ae_gdI hF
  obtain ⟨rfl, rfl⟩ := ae_retI hF2
  exact ae_iret dX10_takeRow_141 rfl (ae_zzN (ae_zzI hg1)) ⟨rfl, rfl⟩
def F_X10_takeRow_136 (s0 : ae_S) : Option (Int32 × ae_S) := F_X10_takeRow_141 (1 : Int32) s0
set_option maxHeartbeats 4000000 in
set_option maxRecDepth 100000 in
theorem t_X10_takeRow_136 {l : Launch} {G : ae_G} (d : Nat) {rr : Int32} {ss : ae_S} (s0 : ae_S) (hF : F_X10_takeRow_136 s0 = some (rr, ss)) : ae_T l G (d + 6) mX10_takeRow (ae_Po (some (ae_i rr)) ss) 136 [] [] s0 := by
  unfold F_X10_takeRow_136 at hF
  refine ae_iconst (1 : Int32) dX10_takeRow_136 (by decide) ?_
  refine ae_goto 141 dX10_takeRow_137 rfl ?_
  refine ae_pick (lv' := []) [] rfl ?_
  exact t_X10_takeRow_141 d (1 : Int32) s0 hF
def F_X10_takeRow_116 (i1 : Fin 32) (v2 : Int32) (v3 : Int32) (s0 : ae_S) : Option (Int32 × ae_S) := ae_bd (F_X9_endOfRow i1 s0) (fun (r3 : Int32) s4 => if r3 ≤ v2 then (F_X10_takeRow_136 s4) else (ae_bd (F_X8_refuseAt (3 : Int32) v3 s4) (fun (r9 : Int32) s10 => if r9 = 0 then (F_X10_takeRow_141 (0 : Int32) s10) else (F_X10_takeRow_136 s10))))
set_option maxHeartbeats 4000000 in
set_option maxRecDepth 100000 in
theorem t_X10_takeRow_116 {l : Launch} {G : ae_G} (d : Nat) {rr : Int32} {ss : ae_S} (i1 : Fin 32) (v2 : Int32) (v3 : Int32) (s0 : ae_S) (hF : F_X10_takeRow_116 i1 v2 v3 s0 = some (rr, ss)) : ae_T l G (d + 6) mX10_takeRow (ae_Po (some (ae_i rr)) ss) 116 [(0, ae_r (some (18, 0))), (1, ae_r (some (8, i1))), (2, ae_i v2), (3, ae_i v3)] [] s0 := by
  unfold F_X10_takeRow_116 at hF
  refine ae_aload_n 1 dX10_takeRow_116 rfl ?_
  obtain ⟨r3, s4, hc5, hF6⟩ := ae_bdI hF
  refine ae_cV1 (q := (8, i1)) (As := []) dX10_takeRow_117 ww_555 vy_X9_endOfRow rfl rfl rfl rfl rfl (Nat.le_of_ble_eq_true rfl) (c_X9_endOfRow (d + 5) hc5) ?_
  refine ae_iload_n 2 dX10_takeRow_120 rfl ?_
  refine ae_icmp_le 136 dX10_takeRow_121 rfl (fun hb7 => ?_) (fun hb7 => ?_)
  · have hF8 := ae_ifT hb7 hF6
    refine ae_pick (lv' := []) [] rfl ?_
    exact t_X10_takeRow_136 d s4 hF8
  · have hF8 := ae_ifF hb7 hF6
    refine ae_aload_n 0 dX10_takeRow_124 rfl ?_
    refine ae_getO (q := (18, 0)) (some (12, 0)) dX10_takeRow_125 fl_RX10_9 rfl rfl rfl ?_
    refine ae_iconst (3 : Int32) dX10_takeRow_128 (by decide) ?_
    refine ae_iload_n 3 dX10_takeRow_129 rfl ?_
    obtain ⟨r9, s10, hc11, hF12⟩ := ae_bdI hF8
    refine ae_cV1 (q := (12, 0)) (As := [ae_i (3 : Int32), ae_i v3]) dX10_takeRow_130 ww_574 vy_X8_refuseAt rfl rfl rfl rfl rfl (Nat.le_of_ble_eq_true rfl) (c_X8_refuseAt (d + 5) hc11) ?_
    refine ae_if_eq 140 dX10_takeRow_133 rfl (fun hb13 => ?_) (fun hb13 => ?_)
    · have hF14 := ae_ifT hb13 hF12
      refine ae_iconst (0 : Int32) dX10_takeRow_140 (by decide) ?_
      refine ae_pick (lv' := []) [] rfl ?_
      exact t_X10_takeRow_141 d (0 : Int32) s10 hF14
    · have hF14 := ae_ifF hb13 hF12
      refine ae_pick (lv' := []) [] rfl ?_
      exact t_X10_takeRow_136 d s10 hF14
def F_X10_takeRow (i1 : Fin 32) (v2 : Int32) (s0 : ae_S) : Option (Int32 × ae_S) := ae_bd (F_X8_isWord (2 : Fin 32) s0) (fun (r15 : Int32) s16 => if r15 = 0 then (some ((1 : Int32), s16)) else (ae_bd (F_X8_advance s16) (fun (r21 : Unit) s22 => ae_bd (F_X10_holdsRowNumber s22) (fun (r25 : Int32) s26 => if r25 = 0 then (some ((0 : Int32), s26)) else (ae_bd (F_X8_value s26) (fun (r31 : Int64) s32 => ae_lt (ae_wI s32 8 i1 7 r31.toInt32) (fun s35 => ae_bd (F_X8_place s35) (fun (r37 : Int32) s38 => ae_bd (F_X8_advance s38) (fun (r41 : Unit) s42 => ae_bd (F_X8_isWord (3 : Fin 32) s42) (fun (r45 : Int32) s46 => if r45 = 0 then (F_X10_takeRow_116 i1 v2 r37 s46) else (ae_bd (F_X8_advance s46) (fun (r51 : Unit) s52 => ae_bd (F_X10_holdsRowNumber s52) (fun (r55 : Int32) s56 => if r55 = 0 then (some ((0 : Int32), s56)) else (ae_bd (F_X8_value s56) (fun (r61 : Int64) s62 => ae_lt (ae_wI s62 8 i1 8 r61.toInt32) (fun s65 => ae_bd (F_X8_place s65) (fun (r67 : Int32) s68 => ae_bd (F_X8_advance s68) (fun (r71 : Unit) s72 => F_X10_takeRow_116 i1 v2 r67 s72))))))))))))))))))
set_option maxHeartbeats 4000000 in
set_option maxRecDepth 100000 in
theorem c_X10_takeRow {l : Launch} {G : ae_G} (d : Nat) {i1 : Fin 32} {v2 : Int32} {s0 ss : ae_S} {rr : Int32} (hF : F_X10_takeRow i1 v2 s0 = some (rr, ss)) : ae_Met l G (d + 6) yX10_takeRow mX10_takeRow [ae_r (some (18, 0)), ae_r (some (8, i1)), ae_i v2] s0 (ae_Po (some (ae_i rr)) ss) := by
  refine ae_enter (by decide) rfl (Nat.le_of_ble_eq_true rfl) ?_
  show ae_T l G (d + 6) mX10_takeRow (ae_Po (some (ae_i rr)) ss) 0 [(0, ae_r (some (18, 0))), (1, ae_r (some (8, i1))), (2, ae_i v2)] [] s0
  unfold F_X10_takeRow at hF
  refine ae_aload_n 0 dX10_takeRow_0 rfl ?_
  refine ae_getO (q := (18, 0)) (some (12, 0)) dX10_takeRow_1 fl_RX10_9 rfl rfl rfl ?_
  refine ae_ldcS (i := 2) (tx := "x") 11 dX10_takeRow_4 rfl ?_
  obtain ⟨r15, s16, hc17, hF18⟩ := ae_bdI hF
  refine ae_cV1 (q := (12, 0)) (As := [ae_r (some (62, 2))]) dX10_takeRow_6 ww_542 vy_X8_isWord rfl rfl rfl rfl rfl (Nat.le_of_ble_eq_true rfl) (c_X8_isWord d hc17) ?_
  refine ae_if_ne 14 dX10_takeRow_9 rfl (fun hb19 => ?_) (fun hb19 => ?_)
  · have hF20 := ae_ifF hb19 hF18
    refine ae_aload_n 0 dX10_takeRow_14 rfl ?_
    refine ae_getO (q := (18, 0)) (some (12, 0)) dX10_takeRow_15 fl_RX10_9 rfl rfl rfl ?_
    obtain ⟨r21, s22, hc23, hF24⟩ := ae_bdI hF20
    refine ae_cV0 (q := (12, 0)) (As := []) dX10_takeRow_18 ww_528 vy_X8_advance rfl rfl rfl rfl rfl (Nat.le_of_ble_eq_true rfl) (c_X8_advance (d + 5) hc23) ?_
    refine ae_aload_n 0 dX10_takeRow_21 rfl ?_
    obtain ⟨r25, s26, hc27, hF28⟩ := ae_bdI hF24
    refine ae_cV1 (q := (18, 0)) (As := []) dX10_takeRow_22 ww_564 vy_X10_holdsRowNumber rfl rfl rfl rfl rfl (Nat.le_of_ble_eq_true rfl) (c_X10_holdsRowNumber (d + 3) hc27) ?_
    refine ae_if_ne 30 dX10_takeRow_25 rfl (fun hb29 => ?_) (fun hb29 => ?_)
    · have hF30 := ae_ifF hb29 hF28
      refine ae_aload_n 1 dX10_takeRow_30 rfl ?_
      refine ae_aload_n 0 dX10_takeRow_31 rfl ?_
      refine ae_getO (q := (18, 0)) (some (12, 0)) dX10_takeRow_32 fl_RX10_9 rfl rfl rfl ?_
      obtain ⟨r31, s32, hc33, hF34⟩ := ae_bdI hF30
      refine ae_cV1 (q := (12, 0)) (As := []) dX10_takeRow_35 ww_509 vy_X8_value rfl rfl rfl rfl rfl (Nat.le_of_ble_eq_true rfl) (c_X8_value (d + 5) hc33) ?_
      refine ae_l2i dX10_takeRow_38 ?_
      obtain ⟨s35, hs35, hF36⟩ := ae_ltI hF34
      refine ae_putI (q := (8, i1)) dX10_takeRow_39 fl_RX10_132 rfl rfl (ae_nmS hs35 ?_)
      refine ae_aload_n 0 dX10_takeRow_42 rfl ?_
      refine ae_getO (q := (18, 0)) (some (12, 0)) dX10_takeRow_43 fl_RX10_9 rfl rfl rfl ?_
      obtain ⟨r37, s38, hc39, hF40⟩ := ae_bdI hF36
      refine ae_cV1 (q := (12, 0)) (As := []) dX10_takeRow_46 ww_569 vy_X8_place rfl rfl rfl rfl rfl (Nat.le_of_ble_eq_true rfl) (c_X8_place (d + 5) hc39) ?_
      refine ae_istore_n (lv' := [(3, ae_i r37), (0, ae_r (some (18, 0))), (1, ae_r (some (8, i1))), (2, ae_i v2)]) dX10_takeRow_49 (by decide) rfl ?_
      refine ae_aload_n 1 dX10_takeRow_50 rfl ?_
      refine ae_getO (q := (18, 0)) (some (12, 0)) dX10_takeRow_51 fl_RX10_9 rfl rfl rfl ?_
      obtain ⟨r41, s42, hc43, hF44⟩ := ae_bdI hF40
      refine ae_cV0 (q := (12, 0)) (As := []) dX10_takeRow_54 ww_528 vy_X8_advance rfl rfl rfl rfl rfl (Nat.le_of_ble_eq_true rfl) (c_X8_advance (d + 5) hc43) ?_
      refine ae_aload_n 1 dX10_takeRow_57 rfl ?_
      refine ae_getO (q := (18, 0)) (some (12, 0)) dX10_takeRow_58 fl_RX10_9 rfl rfl rfl ?_
      refine ae_ldcS (i := 3) (tx := "by") 12 dX10_takeRow_61 rfl ?_
      obtain ⟨r45, s46, hc47, hF48⟩ := ae_bdI hF44
      refine ae_cV1 (q := (12, 0)) (As := [ae_r (some (62, 3))]) dX10_takeRow_63 ww_542 vy_X8_isWord rfl rfl rfl rfl rfl (Nat.le_of_ble_eq_true rfl) (c_X8_isWord d hc47) ?_
      refine ae_istore (lv' := [(4, ae_i r45), (3, ae_i r37), (0, ae_r (some (18, 0))), (1, ae_r (some (8, i1))), (2, ae_i v2)]) dX10_takeRow_66 (by decide) rfl ?_
      refine ae_iload 0 dX10_takeRow_68 rfl ?_
      refine ae_if_eq 116 dX10_takeRow_70 rfl (fun hb49 => ?_) (fun hb49 => ?_)
      · have hF50 := ae_ifT hb49 hF48
        refine ae_pick (lv' := [(0, ae_r (some (18, 0))), (1, ae_r (some (8, i1))), (2, ae_i v2), (3, ae_i r37)]) [2, 3, 4, 1] rfl ?_
        exact t_X10_takeRow_116 d i1 v2 r37 s46 hF50
      · have hF50 := ae_ifF hb49 hF48
        refine ae_aload_n 2 dX10_takeRow_73 rfl ?_
        refine ae_getO (q := (18, 0)) (some (12, 0)) dX10_takeRow_74 fl_RX10_9 rfl rfl rfl ?_
        obtain ⟨r51, s52, hc53, hF54⟩ := ae_bdI hF50
        refine ae_cV0 (q := (12, 0)) (As := []) dX10_takeRow_77 ww_528 vy_X8_advance rfl rfl rfl rfl rfl (Nat.le_of_ble_eq_true rfl) (c_X8_advance (d + 5) hc53) ?_
        refine ae_aload_n 2 dX10_takeRow_80 rfl ?_
        obtain ⟨r55, s56, hc57, hF58⟩ := ae_bdI hF54
        refine ae_cV1 (q := (18, 0)) (As := []) dX10_takeRow_81 ww_564 vy_X10_holdsRowNumber rfl rfl rfl rfl rfl (Nat.le_of_ble_eq_true rfl) (c_X10_holdsRowNumber (d + 3) hc57) ?_
        refine ae_if_ne 89 dX10_takeRow_84 rfl (fun hb59 => ?_) (fun hb59 => ?_)
        · have hF60 := ae_ifF hb59 hF58
          refine ae_aload_n 3 dX10_takeRow_89 rfl ?_
          refine ae_aload_n 2 dX10_takeRow_90 rfl ?_
          refine ae_getO (q := (18, 0)) (some (12, 0)) dX10_takeRow_91 fl_RX10_9 rfl rfl rfl ?_
          obtain ⟨r61, s62, hc63, hF64⟩ := ae_bdI hF60
          refine ae_cV1 (q := (12, 0)) (As := []) dX10_takeRow_94 ww_509 vy_X8_value rfl rfl rfl rfl rfl (Nat.le_of_ble_eq_true rfl) (c_X8_value (d + 5) hc63) ?_
          refine ae_l2i dX10_takeRow_97 ?_
          obtain ⟨s65, hs65, hF66⟩ := ae_ltI hF64
          refine ae_putI (q := (8, i1)) dX10_takeRow_98 fl_RX10_103 rfl rfl (ae_nmS hs65 ?_)
          refine ae_aload_n 2 dX10_takeRow_101 rfl ?_
          refine ae_getO (q := (18, 0)) (some (12, 0)) dX10_takeRow_102 fl_RX10_9 rfl rfl rfl ?_
          obtain ⟨r67, s68, hc69, hF70⟩ := ae_bdI hF66
          refine ae_cV1 (q := (12, 0)) (As := []) dX10_takeRow_105 ww_569 vy_X8_place rfl rfl rfl rfl rfl (Nat.le_of_ble_eq_true rfl) (c_X8_place (d + 5) hc69) ?_
          refine ae_istore_n (lv' := [(3, ae_i r67), (4, ae_i r45), (0, ae_r (some (18, 0))), (1, ae_r (some (8, i1))), (2, ae_i v2)]) dX10_takeRow_108 (by decide) rfl ?_
          refine ae_aload_n 2 dX10_takeRow_109 rfl ?_
          refine ae_getO (q := (18, 0)) (some (12, 0)) dX10_takeRow_110 fl_RX10_9 rfl rfl rfl ?_
          obtain ⟨r71, s72, hc73, hF74⟩ := ae_bdI hF70
          refine ae_cV0 (q := (12, 0)) (As := []) dX10_takeRow_113 ww_528 vy_X8_advance rfl rfl rfl rfl rfl (Nat.le_of_ble_eq_true rfl) (c_X8_advance (d + 5) hc73) ?_
          refine ae_pick (lv' := [(0, ae_r (some (18, 0))), (1, ae_r (some (8, i1))), (2, ae_i v2), (3, ae_i r67)]) [2, 3, 4, 0] rfl ?_
          exact t_X10_takeRow_116 d i1 v2 r67 s72 hF74
        · have hF60 := ae_ifT hb59 hF58
          refine ae_iconst (0 : Int32) dX10_takeRow_87 (by decide) ?_
          obtain ⟨rfl, rfl⟩ := ae_retI hF60
          exact ae_iret dX10_takeRow_88 rfl (by decide) ⟨rfl, rfl⟩
    · have hF30 := ae_ifT hb29 hF28
      refine ae_iconst (0 : Int32) dX10_takeRow_28 (by decide) ?_
      obtain ⟨rfl, rfl⟩ := ae_retI hF30
      exact ae_iret dX10_takeRow_29 rfl (by decide) ⟨rfl, rfl⟩
  · have hF20 := ae_ifT hb19 hF18
    refine ae_iconst (1 : Int32) dX10_takeRow_12 (by decide) ?_
    obtain ⟨rfl, rfl⟩ := ae_retI hF20
    exact ae_iret dX10_takeRow_13 rfl (by decide) ⟨rfl, rfl⟩
abbrev mX10_takeStart : ae_M := (RX10, cX10_takeStart, 3, some .boolean)
theorem vy_X10_takeStart : ae_VY yX10_takeStart mX10_takeStart 2 := ⟨ww_548, wq_6, ww_10, ww_549, ⟨by decide, by decide, by decide +kernel⟩, by decide⟩
theorem dX10_takeStart_0 : decode cX10_takeStart 0 = .ok (.aload_n 0, 1) := by decide +kernel
theorem dX10_takeStart_1 : decode cX10_takeStart 1 = .ok (.getfield 9, 3) := by decide +kernel
theorem dX10_takeStart_4 : decode cX10_takeStart 4 = .ok (.ldc 115, 2) := by decide +kernel
theorem dX10_takeStart_6 : decode cX10_takeStart 6 = .ok (.invokevirtual 108, 3) := by decide +kernel
theorem dX10_takeStart_9 : decode cX10_takeStart 9 = .ok (.ifCond .ne 12, 3) := by decide +kernel
theorem dX10_takeStart_12 : decode cX10_takeStart 12 = .ok (.aload_n 0, 1) := by decide +kernel
theorem dX10_takeStart_13 : decode cX10_takeStart 13 = .ok (.getfield 9, 3) := by decide +kernel
theorem dX10_takeStart_16 : decode cX10_takeStart 16 = .ok (.iconst 1, 1) := by decide +kernel
theorem dX10_takeStart_17 : decode cX10_takeStart 17 = .ok (.invokevirtual 40, 3) := by decide +kernel
theorem dX10_takeStart_20 : decode cX10_takeStart 20 = .ok (.ireturn, 1) := by decide +kernel
theorem dX10_takeStart_21 : decode cX10_takeStart 21 = .ok (.aload_n 0, 1) := by decide +kernel
theorem dX10_takeStart_22 : decode cX10_takeStart 22 = .ok (.getfield 9, 3) := by decide +kernel
theorem dX10_takeStart_25 : decode cX10_takeStart 25 = .ok (.invokevirtual 61, 3) := by decide +kernel
theorem dX10_takeStart_28 : decode cX10_takeStart 28 = .ok (.aload_n 0, 1) := by decide +kernel
theorem dX10_takeStart_29 : decode cX10_takeStart 29 = .ok (.getfield 9, 3) := by decide +kernel
theorem dX10_takeStart_32 : decode cX10_takeStart 32 = .ok (.invokevirtual 117, 3) := by decide +kernel
theorem dX10_takeStart_35 : decode cX10_takeStart 35 = .ok (.ifCond .ne 12, 3) := by decide +kernel
theorem dX10_takeStart_38 : decode cX10_takeStart 38 = .ok (.aload_n 0, 1) := by decide +kernel
theorem dX10_takeStart_39 : decode cX10_takeStart 39 = .ok (.getfield 9, 3) := by decide +kernel
theorem dX10_takeStart_42 : decode cX10_takeStart 42 = .ok (.iconst 1, 1) := by decide +kernel
theorem dX10_takeStart_43 : decode cX10_takeStart 43 = .ok (.invokevirtual 40, 3) := by decide +kernel
theorem dX10_takeStart_46 : decode cX10_takeStart 46 = .ok (.ireturn, 1) := by decide +kernel
theorem dX10_takeStart_47 : decode cX10_takeStart 47 = .ok (.aload_n 1, 1) := by decide +kernel
theorem dX10_takeStart_48 : decode cX10_takeStart 48 = .ok (.aload_n 0, 1) := by decide +kernel
theorem dX10_takeStart_49 : decode cX10_takeStart 49 = .ok (.getfield 9, 3) := by decide +kernel
theorem dX10_takeStart_52 : decode cX10_takeStart 52 = .ok (.invokevirtual 43, 3) := by decide +kernel
theorem dX10_takeStart_55 : decode cX10_takeStart 55 = .ok (.l2i, 1) := by decide +kernel
theorem dX10_takeStart_56 : decode cX10_takeStart 56 = .ok (.putfield 120, 3) := by decide +kernel
theorem dX10_takeStart_59 : decode cX10_takeStart 59 = .ok (.aload_n 1, 1) := by decide +kernel
theorem dX10_takeStart_60 : decode cX10_takeStart 60 = .ok (.invokevirtual 123, 3) := by decide +kernel
theorem dX10_takeStart_63 : decode cX10_takeStart 63 = .ok (.iload_n 2, 1) := by decide +kernel
theorem dX10_takeStart_64 : decode cX10_takeStart 64 = .ok (.if_icmp .le 12, 3) := by decide +kernel
theorem dX10_takeStart_67 : decode cX10_takeStart 67 = .ok (.aload_n 0, 1) := by decide +kernel
theorem dX10_takeStart_68 : decode cX10_takeStart 68 = .ok (.getfield 9, 3) := by decide +kernel
theorem dX10_takeStart_71 : decode cX10_takeStart 71 = .ok (.iconst 3, 1) := by decide +kernel
theorem dX10_takeStart_72 : decode cX10_takeStart 72 = .ok (.invokevirtual 40, 3) := by decide +kernel
theorem dX10_takeStart_75 : decode cX10_takeStart 75 = .ok (.ireturn, 1) := by decide +kernel
theorem dX10_takeStart_76 : decode cX10_takeStart 76 = .ok (.aload_n 0, 1) := by decide +kernel
theorem dX10_takeStart_77 : decode cX10_takeStart 77 = .ok (.getfield 9, 3) := by decide +kernel
theorem dX10_takeStart_80 : decode cX10_takeStart 80 = .ok (.invokevirtual 61, 3) := by decide +kernel
theorem dX10_takeStart_83 : decode cX10_takeStart 83 = .ok (.iconst 1, 1) := by decide +kernel
theorem dX10_takeStart_84 : decode cX10_takeStart 84 = .ok (.ireturn, 1) := by decide +kernel
def F_X10_takeStart (i1 : Fin 32) (v2 : Int32) (s0 : ae_S) : Option (Int32 × ae_S) := ae_bd (F_X8_isWord (1 : Fin 32) s0) (fun (r1 : Int32) s2 => if r1 = 0 then (ae_bd (F_X8_refuse (1 : Int32) s2) (fun (r45 : Int32) s46 => ae_gd (ae_zz r45) (some (r45, s46)))) else (ae_bd (F_X8_advance s2) (fun (r7 : Unit) s8 => ae_bd (F_X8_isNumber s8) (fun (r11 : Int32) s12 => if r11 = 0 then (ae_bd (F_X8_refuse (1 : Int32) s12) (fun (r39 : Int32) s40 => ae_gd (ae_zz r39) (some (r39, s40)))) else (ae_bd (F_X8_value s12) (fun (r17 : Int64) s18 => ae_lt (ae_wI s18 8 i1 6 r17.toInt32) (fun s21 => ae_bd (F_X9_endOfRow i1 s21) (fun (r23 : Int32) s24 => if r23 ≤ v2 then (ae_bd (F_X8_advance s24) (fun (r29 : Unit) s30 => some ((1 : Int32), s30))) else (ae_bd (F_X8_refuse (3 : Int32) s24) (fun (r33 : Int32) s34 => ae_gd (ae_zz r33) (some (r33, s34))))))))))))
set_option maxHeartbeats 4000000 in
set_option maxRecDepth 100000 in
theorem c_X10_takeStart {l : Launch} {G : ae_G} (d : Nat) {i1 : Fin 32} {v2 : Int32} {s0 ss : ae_S} {rr : Int32} (hF : F_X10_takeStart i1 v2 s0 = some (rr, ss)) : ae_Met l G (d + 6) yX10_takeStart mX10_takeStart [ae_r (some (18, 0)), ae_r (some (8, i1)), ae_i v2] s0 (ae_Po (some (ae_i rr)) ss) := by
  refine ae_enter (by decide) rfl (Nat.le_of_ble_eq_true rfl) ?_
  show ae_T l G (d + 6) mX10_takeStart (ae_Po (some (ae_i rr)) ss) 0 [(0, ae_r (some (18, 0))), (1, ae_r (some (8, i1))), (2, ae_i v2)] [] s0
  unfold F_X10_takeStart at hF
  refine ae_aload_n 0 dX10_takeStart_0 rfl ?_
  refine ae_getO (q := (18, 0)) (some (12, 0)) dX10_takeStart_1 fl_RX10_9 rfl rfl rfl ?_
  refine ae_ldcS (i := 1) (tx := "at") 10 dX10_takeStart_4 rfl ?_
  obtain ⟨r1, s2, hc3, hF4⟩ := ae_bdI hF
  refine ae_cV1 (q := (12, 0)) (As := [ae_r (some (62, 1))]) dX10_takeStart_6 ww_542 vy_X8_isWord rfl rfl rfl rfl rfl (Nat.le_of_ble_eq_true rfl) (c_X8_isWord d hc3) ?_
  refine ae_if_ne 21 dX10_takeStart_9 rfl (fun hb5 => ?_) (fun hb5 => ?_)
  · have hF6 := ae_ifF hb5 hF4
    refine ae_aload_n 0 dX10_takeStart_21 rfl ?_
    refine ae_getO (q := (18, 0)) (some (12, 0)) dX10_takeStart_22 fl_RX10_9 rfl rfl rfl ?_
    obtain ⟨r7, s8, hc9, hF10⟩ := ae_bdI hF6
    refine ae_cV0 (q := (12, 0)) (As := []) dX10_takeStart_25 ww_528 vy_X8_advance rfl rfl rfl rfl rfl (Nat.le_of_ble_eq_true rfl) (c_X8_advance (d + 5) hc9) ?_
    refine ae_aload_n 0 dX10_takeStart_28 rfl ?_
    refine ae_getO (q := (18, 0)) (some (12, 0)) dX10_takeStart_29 fl_RX10_9 rfl rfl rfl ?_
    obtain ⟨r11, s12, hc13, hF14⟩ := ae_bdI hF10
    refine ae_cV1 (q := (12, 0)) (As := []) dX10_takeStart_32 ww_551 vy_X8_isNumber rfl rfl rfl rfl rfl (Nat.le_of_ble_eq_true rfl) (c_X8_isNumber (d + 4) hc13) ?_
    refine ae_if_ne 47 dX10_takeStart_35 rfl (fun hb15 => ?_) (fun hb15 => ?_)
    · have hF16 := ae_ifF hb15 hF14
      refine ae_aload_n 1 dX10_takeStart_47 rfl ?_
      refine ae_aload_n 0 dX10_takeStart_48 rfl ?_
      refine ae_getO (q := (18, 0)) (some (12, 0)) dX10_takeStart_49 fl_RX10_9 rfl rfl rfl ?_
      obtain ⟨r17, s18, hc19, hF20⟩ := ae_bdI hF16
      refine ae_cV1 (q := (12, 0)) (As := []) dX10_takeStart_52 ww_509 vy_X8_value rfl rfl rfl rfl rfl (Nat.le_of_ble_eq_true rfl) (c_X8_value (d + 5) hc19) ?_
      refine ae_l2i dX10_takeStart_55 ?_
      obtain ⟨s21, hs21, hF22⟩ := ae_ltI hF20
      refine ae_putI (q := (8, i1)) dX10_takeStart_56 fl_RX10_120 rfl rfl (ae_nmS hs21 ?_)
      refine ae_aload_n 1 dX10_takeStart_59 rfl ?_
      obtain ⟨r23, s24, hc25, hF26⟩ := ae_bdI hF22
      refine ae_cV1 (q := (8, i1)) (As := []) dX10_takeStart_60 ww_555 vy_X9_endOfRow rfl rfl rfl rfl rfl (Nat.le_of_ble_eq_true rfl) (c_X9_endOfRow (d + 5) hc25) ?_
      refine ae_iload_n 2 dX10_takeStart_63 rfl ?_
      refine ae_icmp_le 76 dX10_takeStart_64 rfl (fun hb27 => ?_) (fun hb27 => ?_)
      · have hF28 := ae_ifT hb27 hF26
        refine ae_aload_n 0 dX10_takeStart_76 rfl ?_
        refine ae_getO (q := (18, 0)) (some (12, 0)) dX10_takeStart_77 fl_RX10_9 rfl rfl rfl ?_
        obtain ⟨r29, s30, hc31, hF32⟩ := ae_bdI hF28
        refine ae_cV0 (q := (12, 0)) (As := []) dX10_takeStart_80 ww_528 vy_X8_advance rfl rfl rfl rfl rfl (Nat.le_of_ble_eq_true rfl) (c_X8_advance (d + 5) hc31) ?_
        refine ae_iconst (1 : Int32) dX10_takeStart_83 (by decide) ?_
        obtain ⟨rfl, rfl⟩ := ae_retI hF32
        exact ae_iret dX10_takeStart_84 rfl (by decide) ⟨rfl, rfl⟩
      · have hF28 := ae_ifF hb27 hF26
        refine ae_aload_n 0 dX10_takeStart_67 rfl ?_
        refine ae_getO (q := (18, 0)) (some (12, 0)) dX10_takeStart_68 fl_RX10_9 rfl rfl rfl ?_
        refine ae_iconst (3 : Int32) dX10_takeStart_71 (by decide) ?_
        obtain ⟨r33, s34, hc35, hF36⟩ := ae_bdI hF28
        refine ae_cV1 (q := (12, 0)) (As := [ae_i (3 : Int32)]) dX10_takeStart_72 ww_505 vy_X8_refuse rfl rfl rfl rfl rfl (Nat.le_of_ble_eq_true rfl) (c_X8_refuse (d + 5) hc35) ?_
        obtain ⟨hg37, hF38⟩ := ae_gdI hF36
        obtain ⟨rfl, rfl⟩ := ae_retI hF38
        exact ae_iret dX10_takeStart_75 rfl (ae_zzN (ae_zzI hg37)) ⟨rfl, rfl⟩
    · have hF16 := ae_ifT hb15 hF14
      refine ae_aload_n 0 dX10_takeStart_38 rfl ?_
      refine ae_getO (q := (18, 0)) (some (12, 0)) dX10_takeStart_39 fl_RX10_9 rfl rfl rfl ?_
      refine ae_iconst (1 : Int32) dX10_takeStart_42 (by decide) ?_
      obtain ⟨r39, s40, hc41, hF42⟩ := ae_bdI hF16
      refine ae_cV1 (q := (12, 0)) (As := [ae_i (1 : Int32)]) dX10_takeStart_43 ww_505 vy_X8_refuse rfl rfl rfl rfl rfl (Nat.le_of_ble_eq_true rfl) (c_X8_refuse (d + 5) hc41) ?_
      obtain ⟨hg43, hF44⟩ := ae_gdI hF42
      obtain ⟨rfl, rfl⟩ := ae_retI hF44
      exact ae_iret dX10_takeStart_46 rfl (ae_zzN (ae_zzI hg43)) ⟨rfl, rfl⟩
  · have hF6 := ae_ifT hb5 hF4
    refine ae_aload_n 0 dX10_takeStart_12 rfl ?_
    refine ae_getO (q := (18, 0)) (some (12, 0)) dX10_takeStart_13 fl_RX10_9 rfl rfl rfl ?_
    refine ae_iconst (1 : Int32) dX10_takeStart_16 (by decide) ?_
    obtain ⟨r45, s46, hc47, hF48⟩ := ae_bdI hF6
    refine ae_cV1 (q := (12, 0)) (As := [ae_i (1 : Int32)]) dX10_takeStart_17 ww_505 vy_X8_refuse rfl rfl rfl rfl rfl (Nat.le_of_ble_eq_true rfl) (c_X8_refuse (d + 5) hc47) ?_
    obtain ⟨hg49, hF50⟩ := ae_gdI hF48
    obtain ⟨rfl, rfl⟩ := ae_retI hF50
    exact ae_iret dX10_takeStart_20 rfl (ae_zzN (ae_zzI hg49)) ⟨rfl, rfl⟩
abbrev mX10_takeView : ae_M := (RX10, cX10_takeView, 4, some .boolean)
theorem vy_X10_takeView : ae_VY yX10_takeView mX10_takeView 1 := ⟨ww_499, wq_4, ww_10, ww_500, ⟨by decide, by decide, by decide +kernel⟩, by decide⟩
theorem dX10_takeView_0 : decode cX10_takeView 0 = .ok (.aload_n 0, 1) := by decide +kernel
theorem dX10_takeView_1 : decode cX10_takeView 1 = .ok (.getfield 9, 3) := by decide +kernel
theorem dX10_takeView_4 : decode cX10_takeView 4 = .ok (.invokevirtual 37, 3) := by decide +kernel
theorem dX10_takeView_7 : decode cX10_takeView 7 = .ok (.ifCond .ne 12, 3) := by decide +kernel
theorem dX10_takeView_10 : decode cX10_takeView 10 = .ok (.aload_n 0, 1) := by decide +kernel
theorem dX10_takeView_11 : decode cX10_takeView 11 = .ok (.getfield 9, 3) := by decide +kernel
theorem dX10_takeView_14 : decode cX10_takeView 14 = .ok (.iconst 1, 1) := by decide +kernel
theorem dX10_takeView_15 : decode cX10_takeView 15 = .ok (.invokevirtual 40, 3) := by decide +kernel
theorem dX10_takeView_18 : decode cX10_takeView 18 = .ok (.ireturn, 1) := by decide +kernel
theorem dX10_takeView_19 : decode cX10_takeView 19 = .ok (.aload_n 0, 1) := by decide +kernel
theorem dX10_takeView_20 : decode cX10_takeView 20 = .ok (.getfield 15, 3) := by decide +kernel
theorem dX10_takeView_23 : decode cX10_takeView 23 = .ok (.aload_n 0, 1) := by decide +kernel
theorem dX10_takeView_24 : decode cX10_takeView 24 = .ok (.getfield 9, 3) := by decide +kernel
theorem dX10_takeView_27 : decode cX10_takeView 27 = .ok (.invokevirtual 43, 3) := by decide +kernel
theorem dX10_takeView_30 : decode cX10_takeView 30 = .ok (.invokevirtual 47, 3) := by decide +kernel
theorem dX10_takeView_33 : decode cX10_takeView 33 = .ok (.ifCond .eq 12, 3) := by decide +kernel
theorem dX10_takeView_36 : decode cX10_takeView 36 = .ok (.aload_n 0, 1) := by decide +kernel
theorem dX10_takeView_37 : decode cX10_takeView 37 = .ok (.getfield 9, 3) := by decide +kernel
theorem dX10_takeView_40 : decode cX10_takeView 40 = .ok (.iconst 2, 1) := by decide +kernel
theorem dX10_takeView_41 : decode cX10_takeView 41 = .ok (.invokevirtual 40, 3) := by decide +kernel
theorem dX10_takeView_44 : decode cX10_takeView 44 = .ok (.ireturn, 1) := by decide +kernel
theorem dX10_takeView_45 : decode cX10_takeView 45 = .ok (.aload_n 0, 1) := by decide +kernel
theorem dX10_takeView_46 : decode cX10_takeView 46 = .ok (.getfield 15, 3) := by decide +kernel
theorem dX10_takeView_49 : decode cX10_takeView 49 = .ok (.invokevirtual 51, 3) := by decide +kernel
theorem dX10_takeView_52 : decode cX10_takeView 52 = .ok (.astore_n 2, 1) := by decide +kernel
theorem dX10_takeView_53 : decode cX10_takeView 53 = .ok (.aload_n 2, 1) := by decide +kernel
theorem dX10_takeView_54 : decode cX10_takeView 54 = .ok (.ifnonnull 12, 3) := by decide +kernel
theorem dX10_takeView_57 : decode cX10_takeView 57 = .ok (.aload_n 0, 1) := by decide +kernel
theorem dX10_takeView_58 : decode cX10_takeView 58 = .ok (.getfield 9, 3) := by decide +kernel
theorem dX10_takeView_61 : decode cX10_takeView 61 = .ok (.iconst 4, 1) := by decide +kernel
theorem dX10_takeView_62 : decode cX10_takeView 62 = .ok (.invokevirtual 40, 3) := by decide +kernel
theorem dX10_takeView_65 : decode cX10_takeView 65 = .ok (.ireturn, 1) := by decide +kernel
theorem dX10_takeView_66 : decode cX10_takeView 66 = .ok (.aload_n 2, 1) := by decide +kernel
theorem dX10_takeView_67 : decode cX10_takeView 67 = .ok (.aload_n 0, 1) := by decide +kernel
theorem dX10_takeView_68 : decode cX10_takeView 68 = .ok (.getfield 9, 3) := by decide +kernel
theorem dX10_takeView_71 : decode cX10_takeView 71 = .ok (.invokevirtual 43, 3) := by decide +kernel
theorem dX10_takeView_74 : decode cX10_takeView 74 = .ok (.invokevirtual 55, 3) := by decide +kernel
theorem dX10_takeView_77 : decode cX10_takeView 77 = .ok (.aload_n 0, 1) := by decide +kernel
theorem dX10_takeView_78 : decode cX10_takeView 78 = .ok (.getfield 9, 3) := by decide +kernel
theorem dX10_takeView_81 : decode cX10_takeView 81 = .ok (.invokevirtual 61, 3) := by decide +kernel
theorem dX10_takeView_84 : decode cX10_takeView 84 = .ok (.aload_n 0, 1) := by decide +kernel
theorem dX10_takeView_85 : decode cX10_takeView 85 = .ok (.aload_n 2, 1) := by decide +kernel
theorem dX10_takeView_86 : decode cX10_takeView 86 = .ok (.invokevirtual 64, 3) := by decide +kernel
theorem dX10_takeView_89 : decode cX10_takeView 89 = .ok (.ifCond .eq 25, 3) := by decide +kernel
theorem dX10_takeView_92 : decode cX10_takeView 92 = .ok (.aload_n 0, 1) := by decide +kernel
theorem dX10_takeView_93 : decode cX10_takeView 93 = .ok (.aload_n 2, 1) := by decide +kernel
theorem dX10_takeView_94 : decode cX10_takeView 94 = .ok (.iload_n 1, 1) := by decide +kernel
theorem dX10_takeView_95 : decode cX10_takeView 95 = .ok (.invokevirtual 68, 3) := by decide +kernel
theorem dX10_takeView_98 : decode cX10_takeView 98 = .ok (.ifCond .eq 16, 3) := by decide +kernel
theorem dX10_takeView_101 : decode cX10_takeView 101 = .ok (.aload_n 0, 1) := by decide +kernel
theorem dX10_takeView_102 : decode cX10_takeView 102 = .ok (.aload_n 2, 1) := by decide +kernel
theorem dX10_takeView_103 : decode cX10_takeView 103 = .ok (.iload_n 1, 1) := by decide +kernel
theorem dX10_takeView_104 : decode cX10_takeView 104 = .ok (.invokevirtual 72, 3) := by decide +kernel
theorem dX10_takeView_107 : decode cX10_takeView 107 = .ok (.ifCond .eq 7, 3) := by decide +kernel
theorem dX10_takeView_110 : decode cX10_takeView 110 = .ok (.iconst 1, 1) := by decide +kernel
theorem dX10_takeView_111 : decode cX10_takeView 111 = .ok (.goto 4, 3) := by decide +kernel
theorem dX10_takeView_114 : decode cX10_takeView 114 = .ok (.iconst 0, 1) := by decide +kernel
theorem dX10_takeView_115 : decode cX10_takeView 115 = .ok (.istore_n 3, 1) := by decide +kernel
theorem dX10_takeView_116 : decode cX10_takeView 116 = .ok (.iload_n 3, 1) := by decide +kernel
theorem dX10_takeView_117 : decode cX10_takeView 117 = .ok (.ifCond .ne 5, 3) := by decide +kernel
theorem dX10_takeView_120 : decode cX10_takeView 120 = .ok (.iconst 0, 1) := by decide +kernel
theorem dX10_takeView_121 : decode cX10_takeView 121 = .ok (.ireturn, 1) := by decide +kernel
theorem dX10_takeView_122 : decode cX10_takeView 122 = .ok (.aload_n 0, 1) := by decide +kernel
theorem dX10_takeView_123 : decode cX10_takeView 123 = .ok (.aload_n 2, 1) := by decide +kernel
theorem dX10_takeView_124 : decode cX10_takeView 124 = .ok (.invokevirtual 75, 3) := by decide +kernel
theorem dX10_takeView_127 : decode cX10_takeView 127 = .ok (.aload_n 0, 1) := by decide +kernel
theorem dX10_takeView_128 : decode cX10_takeView 128 = .ok (.aload_n 2, 1) := by decide +kernel
theorem dX10_takeView_129 : decode cX10_takeView 129 = .ok (.invokevirtual 79, 3) := by decide +kernel
theorem dX10_takeView_132 : decode cX10_takeView 132 = .ok (.ifCond .eq 15, 3) := by decide +kernel
theorem dX10_takeView_135 : decode cX10_takeView 135 = .ok (.aload_n 0, 1) := by decide +kernel
theorem dX10_takeView_136 : decode cX10_takeView 136 = .ok (.getfield 9, 3) := by decide +kernel
theorem dX10_takeView_139 : decode cX10_takeView 139 = .ok (.bipush 59, 2) := by decide +kernel
theorem dX10_takeView_141 : decode cX10_takeView 141 = .ok (.invokevirtual 82, 3) := by decide +kernel
theorem dX10_takeView_144 : decode cX10_takeView 144 = .ok (.ifCond .ne 5, 3) := by decide +kernel
theorem dX10_takeView_147 : decode cX10_takeView 147 = .ok (.iconst 0, 1) := by decide +kernel
theorem dX10_takeView_148 : decode cX10_takeView 148 = .ok (.ireturn, 1) := by decide +kernel
theorem dX10_takeView_149 : decode cX10_takeView 149 = .ok (.aload_n 0, 1) := by decide +kernel
theorem dX10_takeView_150 : decode cX10_takeView 150 = .ok (.getfield 15, 3) := by decide +kernel
theorem dX10_takeView_153 : decode cX10_takeView 153 = .ok (.invokevirtual 86, 3) := by decide +kernel
theorem dX10_takeView_156 : decode cX10_takeView 156 = .ok (.iconst 1, 1) := by decide +kernel
theorem dX10_takeView_157 : decode cX10_takeView 157 = .ok (.ireturn, 1) := by decide +kernel
def F_X10_takeView_147 (s0 : ae_S) : Option (Int32 × ae_S) := some ((0 : Int32), s0)
set_option maxHeartbeats 4000000 in
set_option maxRecDepth 100000 in
theorem t_X10_takeView_147 {l : Launch} {G : ae_G} (d : Nat) {rr : Int32} {ss : ae_S} (s0 : ae_S) (hF : F_X10_takeView_147 s0 = some (rr, ss)) : ae_T l G (d + 8) mX10_takeView (ae_Po (some (ae_i rr)) ss) 147 [] [] s0 := by
  unfold F_X10_takeView_147 at hF
  refine ae_iconst (0 : Int32) dX10_takeView_147 (by decide) ?_
  obtain ⟨rfl, rfl⟩ := ae_retI hF
  exact ae_iret dX10_takeView_148 rfl (by decide) ⟨rfl, rfl⟩
def F_X10_takeView_115 (i2 : Fin 32) (t0 : Int32) (s0 : ae_S) : Option (Int32 × ae_S) := if t0 = 0 then (some ((0 : Int32), s0)) else (ae_bd (F_X10_takeAccess i2 s0) (fun (r3 : Unit) s4 => ae_bd (F_X10_takeFields i2 s4) (fun (r7 : Int32) s8 => if r7 = 0 then (F_X10_takeView_147 s8) else (ae_bd (F_X8_takeSign (59 : Int32) s8) (fun (r13 : Int32) s14 => if r13 = 0 then (F_X10_takeView_147 s14) else (ae_bd (F_X6_keepComing s14) (fun (r19 : Unit) s20 => some ((1 : Int32), s20))))))))
set_option maxHeartbeats 4000000 in
set_option maxRecDepth 100000 in
theorem t_X10_takeView_115 {l : Launch} {G : ae_G} (d : Nat) {rr : Int32} {ss : ae_S} (i2 : Fin 32) (t0 : Int32) (s0 : ae_S) (hF : F_X10_takeView_115 i2 t0 s0 = some (rr, ss)) : ae_T l G (d + 8) mX10_takeView (ae_Po (some (ae_i rr)) ss) 115 [(0, ae_r (some (18, 0))), (2, ae_r (some (8, i2)))] [ae_i t0] s0 := by
  unfold F_X10_takeView_115 at hF
  refine ae_istore_n (lv' := [(3, ae_i t0), (0, ae_r (some (18, 0))), (2, ae_r (some (8, i2)))]) dX10_takeView_115 (by decide) rfl ?_
  refine ae_iload_n 0 dX10_takeView_116 rfl ?_
  refine ae_if_ne 122 dX10_takeView_117 rfl (fun hb1 => ?_) (fun hb1 => ?_)
  · have hF2 := ae_ifF hb1 hF
    refine ae_aload_n 1 dX10_takeView_122 rfl ?_
    refine ae_aload_n 2 dX10_takeView_123 rfl ?_
    obtain ⟨r3, s4, hc5, hF6⟩ := ae_bdI hF2
    refine ae_cV0 (q := (18, 0)) (As := [ae_r (some (8, i2))]) dX10_takeView_124 ww_578 vy_X10_takeAccess rfl rfl rfl rfl rfl (Nat.le_of_ble_eq_true rfl) (c_X10_takeAccess (d + 1) hc5) ?_
    refine ae_aload_n 1 dX10_takeView_127 rfl ?_
    refine ae_aload_n 2 dX10_takeView_128 rfl ?_
    obtain ⟨r7, s8, hc9, hF10⟩ := ae_bdI hF6
    refine ae_cV1 (q := (18, 0)) (As := [ae_r (some (8, i2))]) dX10_takeView_129 ww_585 vy_X10_takeFields rfl rfl rfl rfl rfl (Nat.le_of_ble_eq_true rfl) (c_X10_takeFields (d + 3) hc9) ?_
    refine ae_if_eq 147 dX10_takeView_132 rfl (fun hb11 => ?_) (fun hb11 => ?_)
    · have hF12 := ae_ifT hb11 hF10
      refine ae_pick (lv' := []) [] rfl ?_
      exact t_X10_takeView_147 d s8 hF12
    · have hF12 := ae_ifF hb11 hF10
      refine ae_aload_n 1 dX10_takeView_135 rfl ?_
      refine ae_getO (q := (18, 0)) (some (12, 0)) dX10_takeView_136 fl_RX10_9 rfl rfl rfl ?_
      refine ae_bipush (59 : Int32) dX10_takeView_139 (by decide) ?_
      obtain ⟨r13, s14, hc15, hF16⟩ := ae_bdI hF12
      refine ae_cV1 (q := (12, 0)) (As := [ae_i (59 : Int32)]) dX10_takeView_141 ww_601 vy_X8_takeSign rfl rfl rfl rfl rfl (Nat.le_of_ble_eq_true rfl) (c_X8_takeSign (d + 6) hc15) ?_
      refine ae_if_ne 149 dX10_takeView_144 rfl (fun hb17 => ?_) (fun hb17 => ?_)
      · have hF18 := ae_ifF hb17 hF16
        refine ae_aload_n 1 dX10_takeView_149 rfl ?_
        refine ae_getO (q := (18, 0)) (some (6, 0)) dX10_takeView_150 fl_RX10_15 rfl rfl rfl ?_
        obtain ⟨r19, s20, hc21, hF22⟩ := ae_bdI hF18
        refine ae_cV0 (q := (6, 0)) (As := []) dX10_takeView_153 ww_616 vy_X6_keepComing rfl rfl rfl rfl rfl (Nat.le_of_ble_eq_true rfl) (c_X6_keepComing (d + 7) hc21) ?_
        refine ae_iconst (1 : Int32) dX10_takeView_156 (by decide) ?_
        obtain ⟨rfl, rfl⟩ := ae_retI hF22
        exact ae_iret dX10_takeView_157 rfl (by decide) ⟨rfl, rfl⟩
      · have hF18 := ae_ifT hb17 hF16
        refine ae_pick (lv' := []) [] rfl ?_
        exact t_X10_takeView_147 d s14 hF18
  · have hF2 := ae_ifT hb1 hF
    refine ae_iconst (0 : Int32) dX10_takeView_120 (by decide) ?_
    obtain ⟨rfl, rfl⟩ := ae_retI hF2
    exact ae_iret dX10_takeView_121 rfl (by decide) ⟨rfl, rfl⟩
def F_X10_takeView_114 (i2 : Fin 32) (s0 : ae_S) : Option (Int32 × ae_S) := F_X10_takeView_115 i2 (0 : Int32) s0
set_option maxHeartbeats 4000000 in
set_option maxRecDepth 100000 in
theorem t_X10_takeView_114 {l : Launch} {G : ae_G} (d : Nat) {rr : Int32} {ss : ae_S} (i2 : Fin 32) (s0 : ae_S) (hF : F_X10_takeView_114 i2 s0 = some (rr, ss)) : ae_T l G (d + 8) mX10_takeView (ae_Po (some (ae_i rr)) ss) 114 [(0, ae_r (some (18, 0))), (2, ae_r (some (8, i2)))] [] s0 := by
  unfold F_X10_takeView_114 at hF
  refine ae_iconst (0 : Int32) dX10_takeView_114 (by decide) ?_
  refine ae_pick (lv' := [(0, ae_r (some (18, 0))), (2, ae_r (some (8, i2)))]) [0, 1] rfl ?_
  exact t_X10_takeView_115 d i2 (0 : Int32) s0 hF
def F_X10_takeView (v1 : Int32) (s0 : ae_S) : Option (Int32 × ae_S) := ae_bd (F_X8_isName s0) (fun (r23 : Int32) s24 => if r23 = 0 then (ae_bd (F_X8_refuse (1 : Int32) s24) (fun (r87 : Int32) s88 => ae_gd (ae_zz r87) (some (r87, s88)))) else (ae_bd (F_X8_value s24) (fun (r29 : Int64) s30 => ae_bd (F_X6_hasComing r29 s30) (fun (r33 : Int32) s34 => if r33 = 0 then (ae_bd (F_X6_nextComing s34) (fun (r39 : Option (Fin 32)) s40 => ae_mo r39 (ae_bd (F_X8_refuse (4 : Int32) s40) (fun (r45 : Int32) s46 => ae_gd (ae_zz r45) (some (r45, s46)))) (fun i43 => ae_bd (F_X8_value s40) (fun (r51 : Int64) s52 => ae_bd (F_X9_restart i43 r51 s52) (fun (r55 : Unit) s56 => ae_bd (F_X8_advance s56) (fun (r59 : Unit) s60 => ae_bd (F_X10_takeKind i43 s60) (fun (r63 : Int32) s64 => if r63 = 0 then (F_X10_takeView_114 i43 s64) else (ae_bd (F_X10_takeStart i43 v1 s64) (fun (r69 : Int32) s70 => if r69 = 0 then (F_X10_takeView_114 i43 s70) else (ae_bd (F_X10_takeRow i43 v1 s70) (fun (r75 : Int32) s76 => if r75 = 0 then (F_X10_takeView_114 i43 s76) else (F_X10_takeView_115 i43 (1 : Int32) s76)))))))))))) else (ae_bd (F_X8_refuse (2 : Int32) s34) (fun (r81 : Int32) s82 => ae_gd (ae_zz r81) (some (r81, s82))))))))
set_option maxHeartbeats 4000000 in
set_option maxRecDepth 100000 in
theorem c_X10_takeView {l : Launch} {G : ae_G} (d : Nat) {v1 : Int32} {s0 ss : ae_S} {rr : Int32} (hF : F_X10_takeView v1 s0 = some (rr, ss)) : ae_Met l G (d + 8) yX10_takeView mX10_takeView [ae_r (some (18, 0)), ae_i v1] s0 (ae_Po (some (ae_i rr)) ss) := by
  refine ae_enter (by decide) rfl (Nat.le_of_ble_eq_true rfl) ?_
  show ae_T l G (d + 8) mX10_takeView (ae_Po (some (ae_i rr)) ss) 0 [(0, ae_r (some (18, 0))), (1, ae_i v1)] [] s0
  unfold F_X10_takeView at hF
  refine ae_aload_n 0 dX10_takeView_0 rfl ?_
  refine ae_getO (q := (18, 0)) (some (12, 0)) dX10_takeView_1 fl_RX10_9 rfl rfl rfl ?_
  obtain ⟨r23, s24, hc25, hF26⟩ := ae_bdI hF
  refine ae_cV1 (q := (12, 0)) (As := []) dX10_takeView_4 ww_501 vy_X8_isName rfl rfl rfl rfl rfl (Nat.le_of_ble_eq_true rfl) (c_X8_isName (d + 6) hc25) ?_
  refine ae_if_ne 19 dX10_takeView_7 rfl (fun hb27 => ?_) (fun hb27 => ?_)
  · have hF28 := ae_ifF hb27 hF26
    refine ae_aload_n 0 dX10_takeView_19 rfl ?_
    refine ae_getO (q := (18, 0)) (some (6, 0)) dX10_takeView_20 fl_RX10_15 rfl rfl rfl ?_
    refine ae_aload_n 0 dX10_takeView_23 rfl ?_
    refine ae_getO (q := (18, 0)) (some (12, 0)) dX10_takeView_24 fl_RX10_9 rfl rfl rfl ?_
    obtain ⟨r29, s30, hc31, hF32⟩ := ae_bdI hF28
    refine ae_cV1 (q := (12, 0)) (As := []) dX10_takeView_27 ww_509 vy_X8_value rfl rfl rfl rfl rfl (Nat.le_of_ble_eq_true rfl) (c_X8_value (d + 7) hc31) ?_
    obtain ⟨r33, s34, hc35, hF36⟩ := ae_bdI hF32
    refine ae_cV1 (q := (6, 0)) (As := [ae_l r29]) dX10_takeView_30 ww_513 vy_X6_hasComing rfl rfl rfl rfl rfl (Nat.le_of_ble_eq_true rfl) (c_X6_hasComing (d + 6) hc35) ?_
    refine ae_if_eq 45 dX10_takeView_33 rfl (fun hb37 => ?_) (fun hb37 => ?_)
    · have hF38 := ae_ifT hb37 hF36
      refine ae_aload_n 0 dX10_takeView_45 rfl ?_
      refine ae_getO (q := (18, 0)) (some (6, 0)) dX10_takeView_46 fl_RX10_15 rfl rfl rfl ?_
      obtain ⟨r39, s40, hc41, hF42⟩ := ae_bdI hF38
      refine ae_cV1 (q := (6, 0)) (As := []) dX10_takeView_49 ww_520 vy_X6_nextComing rfl rfl rfl rfl rfl (Nat.le_of_ble_eq_true rfl) (c_X6_nextComing (d + 7) hc41) ?_
      refine ae_astore_n (lv' := [(2, ae_r (ae_ro 8 r39)), (0, ae_r (some (18, 0))), (1, ae_i v1)]) dX10_takeView_52 (by decide) rfl ?_
      refine ae_aload_n 0 dX10_takeView_53 rfl ?_
      cases r39 with
      | none =>
        have hF44 := ae_moN hF42
        refine ae_ifnonnull 66 dX10_takeView_54 rfl (fun h => absurd rfl h) (fun _ => ?_)
        refine ae_aload_n 1 dX10_takeView_57 rfl ?_
        refine ae_getO (q := (18, 0)) (some (12, 0)) dX10_takeView_58 fl_RX10_9 rfl rfl rfl ?_
        refine ae_iconst (4 : Int32) dX10_takeView_61 (by decide) ?_
        obtain ⟨r45, s46, hc47, hF48⟩ := ae_bdI hF44
        refine ae_cV1 (q := (12, 0)) (As := [ae_i (4 : Int32)]) dX10_takeView_62 ww_505 vy_X8_refuse rfl rfl rfl rfl rfl (Nat.le_of_ble_eq_true rfl) (c_X8_refuse (d + 7) hc47) ?_
        obtain ⟨hg49, hF50⟩ := ae_gdI hF48
        obtain ⟨rfl, rfl⟩ := ae_retI hF50
        exact ae_iret dX10_takeView_65 rfl (ae_zzN (ae_zzI hg49)) ⟨rfl, rfl⟩
      | some i43 =>
        have hF44 := ae_moS hF42
        refine ae_ifnonnull 66 dX10_takeView_54 rfl (fun _ => ?_) (fun h => absurd h (by simp [ae_ro]))
        refine ae_aload_n 0 dX10_takeView_66 rfl ?_
        refine ae_aload_n 1 dX10_takeView_67 rfl ?_
        refine ae_getO (q := (18, 0)) (some (12, 0)) dX10_takeView_68 fl_RX10_9 rfl rfl rfl ?_
        obtain ⟨r51, s52, hc53, hF54⟩ := ae_bdI hF44
        refine ae_cV1 (q := (12, 0)) (As := []) dX10_takeView_71 ww_509 vy_X8_value rfl rfl rfl rfl rfl (Nat.le_of_ble_eq_true rfl) (c_X8_value (d + 7) hc53) ?_
        obtain ⟨r55, s56, hc57, hF58⟩ := ae_bdI hF54
        refine ae_cV0 (q := (8, i43)) (As := [ae_l r51]) dX10_takeView_74 ww_524 vy_X9_restart rfl rfl rfl rfl rfl (Nat.le_of_ble_eq_true rfl) (c_X9_restart (d + 7) hc57) ?_
        refine ae_aload_n 1 dX10_takeView_77 rfl ?_
        refine ae_getO (q := (18, 0)) (some (12, 0)) dX10_takeView_78 fl_RX10_9 rfl rfl rfl ?_
        obtain ⟨r59, s60, hc61, hF62⟩ := ae_bdI hF58
        refine ae_cV0 (q := (12, 0)) (As := []) dX10_takeView_81 ww_528 vy_X8_advance rfl rfl rfl rfl rfl (Nat.le_of_ble_eq_true rfl) (c_X8_advance (d + 7) hc61) ?_
        refine ae_aload_n 1 dX10_takeView_84 rfl ?_
        refine ae_aload_n 0 dX10_takeView_85 rfl ?_
        obtain ⟨r63, s64, hc65, hF66⟩ := ae_bdI hF62
        refine ae_cV1 (q := (18, 0)) (As := [ae_r (some (8, i43))]) dX10_takeView_86 ww_532 vy_X10_takeKind rfl rfl rfl rfl rfl (Nat.le_of_ble_eq_true rfl) (c_X10_takeKind d hc65) ?_
        refine ae_if_eq 114 dX10_takeView_89 rfl (fun hb67 => ?_) (fun hb67 => ?_)
        · have hF68 := ae_ifT hb67 hF66
          refine ae_pick (lv' := [(0, ae_r (some (18, 0))), (2, ae_r (some (8, i43)))]) [1, 0] rfl ?_
          exact t_X10_takeView_114 d i43 s64 hF68
        · have hF68 := ae_ifF hb67 hF66
          refine ae_aload_n 1 dX10_takeView_92 rfl ?_
          refine ae_aload_n 0 dX10_takeView_93 rfl ?_
          refine ae_iload_n 2 dX10_takeView_94 rfl ?_
          obtain ⟨r69, s70, hc71, hF72⟩ := ae_bdI hF68
          refine ae_cV1 (q := (18, 0)) (As := [ae_r (some (8, i43)), ae_i v1]) dX10_takeView_95 ww_546 vy_X10_takeStart rfl rfl rfl rfl rfl (Nat.le_of_ble_eq_true rfl) (c_X10_takeStart (d + 1) hc71) ?_
          refine ae_if_eq 114 dX10_takeView_98 rfl (fun hb73 => ?_) (fun hb73 => ?_)
          · have hF74 := ae_ifT hb73 hF72
            refine ae_pick (lv' := [(0, ae_r (some (18, 0))), (2, ae_r (some (8, i43)))]) [1, 0] rfl ?_
            exact t_X10_takeView_114 d i43 s70 hF74
          · have hF74 := ae_ifF hb73 hF72
            refine ae_aload_n 1 dX10_takeView_101 rfl ?_
            refine ae_aload_n 0 dX10_takeView_102 rfl ?_
            refine ae_iload_n 2 dX10_takeView_103 rfl ?_
            obtain ⟨r75, s76, hc77, hF78⟩ := ae_bdI hF74
            refine ae_cV1 (q := (18, 0)) (As := [ae_r (some (8, i43)), ae_i v1]) dX10_takeView_104 ww_559 vy_X10_takeRow rfl rfl rfl rfl rfl (Nat.le_of_ble_eq_true rfl) (c_X10_takeRow (d + 1) hc77) ?_
            refine ae_if_eq 114 dX10_takeView_107 rfl (fun hb79 => ?_) (fun hb79 => ?_)
            · have hF80 := ae_ifT hb79 hF78
              refine ae_pick (lv' := [(0, ae_r (some (18, 0))), (2, ae_r (some (8, i43)))]) [1, 0] rfl ?_
              exact t_X10_takeView_114 d i43 s76 hF80
            · have hF80 := ae_ifF hb79 hF78
              refine ae_iconst (1 : Int32) dX10_takeView_110 (by decide) ?_
              refine ae_goto 115 dX10_takeView_111 rfl ?_
              refine ae_pick (lv' := [(0, ae_r (some (18, 0))), (2, ae_r (some (8, i43)))]) [1, 0] rfl ?_
              exact t_X10_takeView_115 d i43 (1 : Int32) s76 hF80
    · have hF38 := ae_ifF hb37 hF36
      refine ae_aload_n 0 dX10_takeView_36 rfl ?_
      refine ae_getO (q := (18, 0)) (some (12, 0)) dX10_takeView_37 fl_RX10_9 rfl rfl rfl ?_
      refine ae_iconst (2 : Int32) dX10_takeView_40 (by decide) ?_
      obtain ⟨r81, s82, hc83, hF84⟩ := ae_bdI hF38
      refine ae_cV1 (q := (12, 0)) (As := [ae_i (2 : Int32)]) dX10_takeView_41 ww_505 vy_X8_refuse rfl rfl rfl rfl rfl (Nat.le_of_ble_eq_true rfl) (c_X8_refuse (d + 7) hc83) ?_
      obtain ⟨hg85, hF86⟩ := ae_gdI hF84
      obtain ⟨rfl, rfl⟩ := ae_retI hF86
      exact ae_iret dX10_takeView_44 rfl (ae_zzN (ae_zzI hg85)) ⟨rfl, rfl⟩
  · have hF28 := ae_ifT hb27 hF26
    refine ae_aload_n 0 dX10_takeView_10 rfl ?_
    refine ae_getO (q := (18, 0)) (some (12, 0)) dX10_takeView_11 fl_RX10_9 rfl rfl rfl ?_
    refine ae_iconst (1 : Int32) dX10_takeView_14 (by decide) ?_
    obtain ⟨r87, s88, hc89, hF90⟩ := ae_bdI hF28
    refine ae_cV1 (q := (12, 0)) (As := [ae_i (1 : Int32)]) dX10_takeView_15 ww_505 vy_X8_refuse rfl rfl rfl rfl rfl (Nat.le_of_ble_eq_true rfl) (c_X8_refuse (d + 7) hc89) ?_
    obtain ⟨hg91, hF92⟩ := ae_gdI hF90
    obtain ⟨rfl, rfl⟩ := ae_retI hF92
    exact ae_iret dX10_takeView_18 rfl (ae_zzN (ae_zzI hg91)) ⟨rfl, rfl⟩
abbrev mX10_tellAll : ae_M := (RX10, cX10_tellAll, 3, some .boolean)
theorem vy_X10_tellAll : ae_VY yX10_tellAll mX10_tellAll 1 := ⟨ww_478, ww_479, ww_10, ww_480, ⟨by decide, by decide, by decide +kernel⟩, by decide⟩
theorem dX10_tellAll_0 : decode cX10_tellAll 0 = .ok (.aload_n 0, 1) := by decide +kernel
theorem dX10_tellAll_1 : decode cX10_tellAll 1 = .ok (.getfield 15, 3) := by decide +kernel
theorem dX10_tellAll_4 : decode cX10_tellAll 4 = .ok (.invokevirtual 19, 3) := by decide +kernel
theorem dX10_tellAll_7 : decode cX10_tellAll 7 = .ok (.iconst 0, 1) := by decide +kernel
theorem dX10_tellAll_8 : decode cX10_tellAll 8 = .ok (.istore_n 2, 1) := by decide +kernel
theorem dX10_tellAll_9 : decode cX10_tellAll 9 = .ok (.iload_n 2, 1) := by decide +kernel
theorem dX10_tellAll_10 : decode cX10_tellAll 10 = .ok (.bipush 16, 2) := by decide +kernel
theorem dX10_tellAll_12 : decode cX10_tellAll 12 = .ok (.if_icmp .gt 38, 3) := by decide +kernel
theorem dX10_tellAll_15 : decode cX10_tellAll 15 = .ok (.aload_n 0, 1) := by decide +kernel
theorem dX10_tellAll_16 : decode cX10_tellAll 16 = .ok (.getfield 9, 3) := by decide +kernel
theorem dX10_tellAll_19 : decode cX10_tellAll 19 = .ok (.invokevirtual 24, 3) := by decide +kernel
theorem dX10_tellAll_22 : decode cX10_tellAll 22 = .ok (.ifCond .eq 12, 3) := by decide +kernel
theorem dX10_tellAll_25 : decode cX10_tellAll 25 = .ok (.aload_n 0, 1) := by decide +kernel
theorem dX10_tellAll_26 : decode cX10_tellAll 26 = .ok (.getfield 15, 3) := by decide +kernel
theorem dX10_tellAll_29 : decode cX10_tellAll 29 = .ok (.invokevirtual 30, 3) := by decide +kernel
theorem dX10_tellAll_32 : decode cX10_tellAll 32 = .ok (.iconst 1, 1) := by decide +kernel
theorem dX10_tellAll_33 : decode cX10_tellAll 33 = .ok (.ireturn, 1) := by decide +kernel
theorem dX10_tellAll_34 : decode cX10_tellAll 34 = .ok (.aload_n 0, 1) := by decide +kernel
theorem dX10_tellAll_35 : decode cX10_tellAll 35 = .ok (.iload_n 1, 1) := by decide +kernel
theorem dX10_tellAll_36 : decode cX10_tellAll 36 = .ok (.invokevirtual 33, 3) := by decide +kernel
theorem dX10_tellAll_39 : decode cX10_tellAll 39 = .ok (.ifCond .ne 5, 3) := by decide +kernel
theorem dX10_tellAll_42 : decode cX10_tellAll 42 = .ok (.iconst 0, 1) := by decide +kernel
theorem dX10_tellAll_43 : decode cX10_tellAll 43 = .ok (.ireturn, 1) := by decide +kernel
theorem dX10_tellAll_44 : decode cX10_tellAll 44 = .ok (.iinc 2 1, 3) := by decide +kernel
theorem dX10_tellAll_47 : decode cX10_tellAll 47 = .ok (.goto (-38), 3) := by decide +kernel
theorem dX10_tellAll_50 : decode cX10_tellAll 50 = .ok (.iconst 0, 1) := by decide +kernel
theorem dX10_tellAll_51 : decode cX10_tellAll 51 = .ok (.ireturn, 1) := by decide +kernel
def F_X10_tellAll_9 : Nat → Int32 → Int32 → ae_S → Option (Int32 × ae_S)
  | 0, _, _, _ => none
  | n + 1, v1, v2, s0 => if (16 : Int32) < v2 then (some ((0 : Int32), s0)) else (ae_bd (F_X8_isEnd s0) (fun (r3 : Int32) s4 => if r3 = 0 then (ae_bd (F_X10_takeView v1 s4) (fun (r9 : Int32) s10 => if r9 = 0 then (some ((0 : Int32), s10)) else (ae_lt (v2 + (1 : Int32)) (fun x15 => F_X10_tellAll_9 n v1 x15 s10)))) else (ae_bd (F_X6_takeComing s4) (fun (r17 : Unit) s18 => some ((1 : Int32), s18)))))
set_option maxHeartbeats 4000000 in
set_option maxRecDepth 100000 in
theorem t_X10_tellAll_9 {l : Launch} {G : ae_G} (d : Nat) {rr : Int32} {ss : ae_S} : ∀ (n : Nat) (v1 : Int32) (v2 : Int32) (s0 : ae_S), F_X10_tellAll_9 n v1 v2 s0 = some (rr, ss) → ae_T l G (d + 9) mX10_tellAll (ae_Po (some (ae_i rr)) ss) 9 [(0, ae_r (some (18, 0))), (1, ae_i v1), (2, ae_i v2)] [] s0 := by
  intro n
  induction n with
  | zero =>
    intro v1 v2 s0 hF
    exact absurd (show (none : Option (Int32 × ae_S)) = some (rr, ss) from hF) (by simp)
  | succ n ih =>
    intro v1 v2 s0 hF
    unfold F_X10_tellAll_9 at hF
    refine ae_iload_n 2 dX10_tellAll_9 rfl ?_
    refine ae_bipush (16 : Int32) dX10_tellAll_10 (by decide) ?_
    refine ae_icmp_gt 50 dX10_tellAll_12 rfl (fun hb1 => ?_) (fun hb1 => ?_)
    · have hF2 := ae_ifT hb1 hF
      refine ae_iconst (0 : Int32) dX10_tellAll_50 (by decide) ?_
      obtain ⟨rfl, rfl⟩ := ae_retI hF2
      exact ae_iret dX10_tellAll_51 rfl (by decide) ⟨rfl, rfl⟩
    · have hF2 := ae_ifF hb1 hF
      refine ae_aload_n 0 dX10_tellAll_15 rfl ?_
      refine ae_getO (q := (18, 0)) (some (12, 0)) dX10_tellAll_16 fl_RX10_9 rfl rfl rfl ?_
      obtain ⟨r3, s4, hc5, hF6⟩ := ae_bdI hF2
      refine ae_cV1 (q := (12, 0)) (As := []) dX10_tellAll_19 ww_485 vy_X8_isEnd rfl rfl rfl rfl rfl (Nat.le_of_ble_eq_true rfl) (c_X8_isEnd (d + 7) hc5) ?_
      refine ae_if_eq 34 dX10_tellAll_22 rfl (fun hb7 => ?_) (fun hb7 => ?_)
      · have hF8 := ae_ifT hb7 hF6
        refine ae_aload_n 0 dX10_tellAll_34 rfl ?_
        refine ae_iload_n 1 dX10_tellAll_35 rfl ?_
        obtain ⟨r9, s10, hc11, hF12⟩ := ae_bdI hF8
        refine ae_cV1 (q := (18, 0)) (As := [ae_i v1]) dX10_tellAll_36 ww_497 vy_X10_takeView rfl rfl rfl rfl rfl (Nat.le_of_ble_eq_true rfl) (c_X10_takeView d hc11) ?_
        refine ae_if_ne 44 dX10_tellAll_39 rfl (fun hb13 => ?_) (fun hb13 => ?_)
        · have hF14 := ae_ifF hb13 hF12
          obtain ⟨x15, hx15, hF16⟩ := ae_ltI hF14
          refine ae_iinc (lv' := [(2, ae_i x15), (0, ae_r (some (18, 0))), (1, ae_i v1)]) 2 (1 : Int32) dX10_tellAll_44 rfl (by decide) (by decide) (by rw [hx15]; rfl) ?_
          refine ae_goto 9 dX10_tellAll_47 rfl ?_
          refine ae_pick (lv' := [(0, ae_r (some (18, 0))), (1, ae_i v1), (2, ae_i x15)]) [1, 2, 0] rfl ?_
          exact ih v1 x15 s10 hF16
        · have hF14 := ae_ifT hb13 hF12
          refine ae_iconst (0 : Int32) dX10_tellAll_42 (by decide) ?_
          obtain ⟨rfl, rfl⟩ := ae_retI hF14
          exact ae_iret dX10_tellAll_43 rfl (by decide) ⟨rfl, rfl⟩
      · have hF8 := ae_ifF hb7 hF6
        refine ae_aload_n 0 dX10_tellAll_25 rfl ?_
        refine ae_getO (q := (18, 0)) (some (6, 0)) dX10_tellAll_26 fl_RX10_15 rfl rfl rfl ?_
        obtain ⟨r17, s18, hc19, hF20⟩ := ae_bdI hF8
        refine ae_cV0 (q := (6, 0)) (As := []) dX10_tellAll_29 ww_493 vy_X6_takeComing rfl rfl rfl rfl rfl (Nat.le_of_ble_eq_true rfl) (c_X6_takeComing (d + 8) hc19) ?_
        refine ae_iconst (1 : Int32) dX10_tellAll_32 (by decide) ?_
        obtain ⟨rfl, rfl⟩ := ae_retI hF20
        exact ae_iret dX10_tellAll_33 rfl (by decide) ⟨rfl, rfl⟩
def F_X10_tellAll (v1 : Int32) (s0 : ae_S) : Option (Int32 × ae_S) := ae_bd (F_X6_startComing s0) (fun (r21 : Unit) s22 => F_X10_tellAll_9 ae_fu v1 (0 : Int32) s22)
set_option maxHeartbeats 4000000 in
set_option maxRecDepth 100000 in
theorem c_X10_tellAll {l : Launch} {G : ae_G} (d : Nat) {v1 : Int32} {s0 ss : ae_S} {rr : Int32} (hF : F_X10_tellAll v1 s0 = some (rr, ss)) : ae_Met l G (d + 9) yX10_tellAll mX10_tellAll [ae_r (some (18, 0)), ae_i v1] s0 (ae_Po (some (ae_i rr)) ss) := by
  refine ae_enter (by decide) rfl (Nat.le_of_ble_eq_true rfl) ?_
  show ae_T l G (d + 9) mX10_tellAll (ae_Po (some (ae_i rr)) ss) 0 [(0, ae_r (some (18, 0))), (1, ae_i v1)] [] s0
  unfold F_X10_tellAll at hF
  refine ae_aload_n 0 dX10_tellAll_0 rfl ?_
  refine ae_getO (q := (18, 0)) (some (6, 0)) dX10_tellAll_1 fl_RX10_15 rfl rfl rfl ?_
  obtain ⟨r21, s22, hc23, hF24⟩ := ae_bdI hF
  refine ae_cV0 (q := (6, 0)) (As := []) dX10_tellAll_4 ww_481 vy_X6_startComing rfl rfl rfl rfl rfl (Nat.le_of_ble_eq_true rfl) (c_X6_startComing (d + 8) hc23) ?_
  refine ae_iconst (0 : Int32) dX10_tellAll_7 (by decide) ?_
  refine ae_istore_n (lv' := [(2, ae_i (0 : Int32)), (0, ae_r (some (18, 0))), (1, ae_i v1)]) dX10_tellAll_8 (by decide) rfl ?_
  refine ae_pick (lv' := [(0, ae_r (some (18, 0))), (1, ae_i v1), (2, ae_i (0 : Int32))]) [1, 2, 0] rfl ?_
  exact t_X10_tellAll_9 d ae_fu v1 (0 : Int32) s22 hF24
