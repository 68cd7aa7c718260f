/-! methods as functions: X5_await X5_awaited X5_awaitedFirst X5_awaitedSecond X5_drop X5_endStatement X5_operationHere X5_rankOf X5_settle X5_takeFieldName X5_takeEquals X5_takeLoad X5_takeOperation X5_takeBehind X5_takeNumber X5_takeOpening X5_takeViewName X5_takeOperand X5_closeGroup X5_takeTarget X5_takeStatement X5_compile -/
theorem fl_RX5_23 : ae_FL RX5 23 3 3 (.array .int) true := ⟨_, _, _, rfl, by decide, ww_226, rfl, rfl, rfl⟩
theorem fl_RX5_27 : ae_FL RX5 27 3 4 (.array .int) true := ⟨_, _, _, rfl, by decide, ww_227, rfl, rfl, rfl⟩
theorem fl_RX5_30 : ae_FL RX5 30 3 5 (.array .int) true := ⟨_, _, _, rfl, by decide, ww_228, rfl, rfl, rfl⟩
theorem fl_RX5_38 : ae_FL RX5 38 3 6 (.int) false := ⟨_, _, _, rfl, by decide, ww_229, rfl, rfl, rfl⟩
theorem fl_RX5_19 : ae_FL RX5 19 3 2 (.object "ByteViews$Code") true := ⟨_, _, _, rfl, by decide, ww_225, rfl, rfl, rfl⟩
theorem fl_RX5_45 : ae_FL RX5 45 3 8 (.int) false := ⟨_, _, _, rfl, by decide, ww_231, rfl, rfl, rfl⟩
theorem fl_RX5_9 : ae_FL RX5 9 3 0 (.object "ByteViews$Tokens") true := ⟨_, _, _, rfl, by decide, ww_223, rfl, rfl, rfl⟩
theorem fl_RX5_15 : ae_FL RX5 15 3 1 (.object "ByteViews$Shelf") true := ⟨_, _, _, rfl, by decide, ww_224, rfl, rfl, rfl⟩
theorem fl_RX5_42 : ae_FL RX5 42 3 7 (.int) false := ⟨_, _, _, rfl, by decide, ww_230, rfl, rfl, rfl⟩
abbrev mX5_await : ae_M := (RX5, cX5_await, 4, none)
theorem vy_X5_await : ae_VY yX5_await mX5_await 3 := ⟨ww_651, wq_14, ww_11, ww_652, ⟨by decide, by decide, by decide +kernel⟩, by decide⟩
theorem dX5_await_0 : decode cX5_await 0 = .ok (.aload_n 0, 1) := by decide +kernel
theorem dX5_await_1 : decode cX5_await 1 = .ok (.getfield 38, 3) := by decide +kernel
theorem dX5_await_4 : decode cX5_await 4 = .ok (.aload_n 0, 1) := by decide +kernel
theorem dX5_await_5 : decode cX5_await 5 = .ok (.getfield 23, 3) := by decide +kernel
theorem dX5_await_8 : decode cX5_await 8 = .ok (.arraylength, 1) := by decide +kernel
theorem dX5_await_9 : decode cX5_await 9 = .ok (.if_icmp .ge 43, 3) := by decide +kernel
theorem dX5_await_12 : decode cX5_await 12 = .ok (.aload_n 0, 1) := by decide +kernel
theorem dX5_await_13 : decode cX5_await 13 = .ok (.getfield 23, 3) := by decide +kernel
theorem dX5_await_16 : decode cX5_await 16 = .ok (.aload_n 0, 1) := by decide +kernel
theorem dX5_await_17 : decode cX5_await 17 = .ok (.getfield 38, 3) := by decide +kernel
theorem dX5_await_20 : decode cX5_await 20 = .ok (.iload_n 1, 1) := by decide +kernel
theorem dX5_await_21 : decode cX5_await 21 = .ok (.iastore, 1) := by decide +kernel
theorem dX5_await_22 : decode cX5_await 22 = .ok (.aload_n 0, 1) := by decide +kernel
theorem dX5_await_23 : decode cX5_await 23 = .ok (.getfield 27, 3) := by decide +kernel
theorem dX5_await_26 : decode cX5_await 26 = .ok (.aload_n 0, 1) := by decide +kernel
theorem dX5_await_27 : decode cX5_await 27 = .ok (.getfield 38, 3) := by decide +kernel
theorem dX5_await_30 : decode cX5_await 30 = .ok (.iload_n 2, 1) := by decide +kernel
theorem dX5_await_31 : decode cX5_await 31 = .ok (.iastore, 1) := by decide +kernel
theorem dX5_await_32 : decode cX5_await 32 = .ok (.aload_n 0, 1) := by decide +kernel
theorem dX5_await_33 : decode cX5_await 33 = .ok (.getfield 30, 3) := by decide +kernel
theorem dX5_await_36 : decode cX5_await 36 = .ok (.aload_n 0, 1) := by decide +kernel
theorem dX5_await_37 : decode cX5_await 37 = .ok (.getfield 38, 3) := by decide +kernel
theorem dX5_await_40 : decode cX5_await 40 = .ok (.iload_n 3, 1) := by decide +kernel
theorem dX5_await_41 : decode cX5_await 41 = .ok (.iastore, 1) := by decide +kernel
theorem dX5_await_42 : decode cX5_await 42 = .ok (.aload_n 0, 1) := by decide +kernel
theorem dX5_await_43 : decode cX5_await 43 = .ok (.dup, 1) := by decide +kernel
theorem dX5_await_44 : decode cX5_await 44 = .ok (.getfield 38, 3) := by decide +kernel
theorem dX5_await_47 : decode cX5_await 47 = .ok (.iconst 1, 1) := by decide +kernel
theorem dX5_await_48 : decode cX5_await 48 = .ok (.iadd, 1) := by decide +kernel
theorem dX5_await_49 : decode cX5_await 49 = .ok (.putfield 38, 3) := by decide +kernel
theorem dX5_await_52 : decode cX5_await 52 = .ok (.return_, 1) := by decide +kernel
def F_X5_await_52 (s0 : ae_S) : Option (Unit × ae_S) := some ((), s0)
set_option maxHeartbeats 4000000 in
set_option maxRecDepth 100000 in
theorem t_X5_await_52 {l : Launch} {G : ae_G} (d : Nat) {rr : Unit} {ss : ae_S} (s0 : ae_S) (hF : F_X5_await_52 s0 = some (rr, ss)) : ae_T l G d mX5_await (ae_Po none ss) 52 [] [] s0 := by
  unfold F_X5_await_52 at hF
  obtain ⟨rfl, rfl⟩ := ae_retI hF
  exact ae_vret dX5_await_52 rfl ⟨rfl, rfl⟩
def F_X5_await (v1 : Int32) (v2 : Int32) (v3 : Int32) (s0 : ae_S) : Option (Unit × ae_S) := if (501 : Int32) ≤ (s0.1 19 0 6) then (F_X5_await_52 s0) else (ae_gd (ae_ib (s0.1 19 0 6) 501) (ae_lt (ae_wI s0 20 0 (s0.1 19 0 6).toNatClampNeg v1) (fun s5 => ae_gd (ae_ib (s5.1 19 0 6) 501) (ae_lt (ae_wI s5 20 1 (s5.1 19 0 6).toNatClampNeg v2) (fun s9 => ae_gd (ae_ib (s9.1 19 0 6) 501) (ae_lt (ae_wI s9 20 2 (s9.1 19 0 6).toNatClampNeg v3) (fun s13 => ae_lt (ae_wI s13 19 0 6 ((s13.1 19 0 6) + (1 : Int32))) (fun s15 => F_X5_await_52 s15))))))))
set_option maxHeartbeats 4000000 in
set_option maxRecDepth 100000 in
theorem c_X5_await {l : Launch} {G : ae_G} (d : Nat) {v1 : Int32} {v2 : Int32} {v3 : Int32} {s0 ss : ae_S} {rr : Unit} (hF : F_X5_await v1 v2 v3 s0 = some (rr, ss)) : ae_Met l G d yX5_await mX5_await [ae_r (some (19, 0)), ae_i v1, ae_i v2, ae_i v3] s0 (ae_Po none ss) := by
  refine ae_enter (by decide) rfl (Nat.le_of_ble_eq_true rfl) ?_
  show ae_T l G d mX5_await (ae_Po none ss) 0 [(0, ae_r (some (19, 0))), (1, ae_i v1), (2, ae_i v2), (3, ae_i v3)] [] s0
  unfold F_X5_await at hF
  refine ae_aload_n 0 dX5_await_0 rfl ?_
  refine ae_getI (q := (19, 0)) dX5_await_1 fl_RX5_38 rfl rfl ?_
  refine ae_aload_n 0 dX5_await_4 rfl ?_
  refine ae_getA (q := (19, 0)) (some (20, 0)) dX5_await_5 fl_RX5_23 rfl rfl rfl ?_
  refine ae_alen (q := (20, 0)) (501 : Int32) dX5_await_8 rfl rfl (by simp [ae_at]) (by decide) ?_
  refine ae_icmp_ge 52 dX5_await_9 rfl (fun hb1 => ?_) (fun hb1 => ?_)
  · have hF2 := ae_ifT hb1 hF
    refine ae_pick (lv' := []) [] rfl ?_
    exact t_X5_await_52 d s0 hF2
  · have hF2 := ae_ifF hb1 hF
    refine ae_aload_n 0 dX5_await_12 rfl ?_
    refine ae_getA (q := (19, 0)) (some (20, 0)) dX5_await_13 fl_RX5_23 rfl rfl rfl ?_
    refine ae_aload_n 0 dX5_await_16 rfl ?_
    refine ae_getI (q := (19, 0)) dX5_await_17 fl_RX5_38 rfl rfl ?_
    refine ae_iload_n 1 dX5_await_20 rfl ?_
    obtain ⟨hg3, hF4⟩ := ae_gdI hF2
    obtain ⟨s5, hs5, hF6⟩ := ae_ltI hF4
    refine ae_iast (q := (20, 0)) dX5_await_21 rfl rfl (ae_ibI hg3) (ae_nmS hs5 ?_)
    refine ae_aload_n 0 dX5_await_22 rfl ?_
    refine ae_getA (q := (19, 0)) (some (20, 1)) dX5_await_23 fl_RX5_27 rfl rfl rfl ?_
    refine ae_aload_n 0 dX5_await_26 rfl ?_
    refine ae_getI (q := (19, 0)) dX5_await_27 fl_RX5_38 rfl rfl ?_
    refine ae_iload_n 2 dX5_await_30 rfl ?_
    obtain ⟨hg7, hF8⟩ := ae_gdI hF6
    obtain ⟨s9, hs9, hF10⟩ := ae_ltI hF8
    refine ae_iast (q := (20, 1)) dX5_await_31 rfl rfl (ae_ibI hg7) (ae_nmS hs9 ?_)
    refine ae_aload_n 0 dX5_await_32 rfl ?_
    refine ae_getA (q := (19, 0)) (some (20, 2)) dX5_await_33 fl_RX5_30 rfl rfl rfl ?_
    refine ae_aload_n 0 dX5_await_36 rfl ?_
    refine ae_getI (q := (19, 0)) dX5_await_37 fl_RX5_38 rfl rfl ?_
    refine ae_iload_n 3 dX5_await_40 rfl ?_
    obtain ⟨hg11, hF12⟩ := ae_gdI hF10
    obtain ⟨s13, hs13, hF14⟩ := ae_ltI hF12
    refine ae_iast (q := (20, 2)) dX5_await_41 rfl rfl (ae_ibI hg11) (ae_nmS hs13 ?_)
    refine ae_aload_n 0 dX5_await_42 rfl ?_
    refine ae_dup dX5_await_43 rfl ?_
    refine ae_getI (q := (19, 0)) dX5_await_44 fl_RX5_38 rfl rfl ?_
    refine ae_iconst (1 : Int32) dX5_await_47 (by decide) ?_
    refine ae_iadd dX5_await_48 ?_
    obtain ⟨s15, hs15, hF16⟩ := ae_ltI hF14
    refine ae_putI (q := (19, 0)) dX5_await_49 fl_RX5_38 rfl rfl (ae_nmS hs15 ?_)
    refine ae_pick (lv' := []) [] rfl ?_
    exact t_X5_await_52 d s15 hF16
abbrev mX5_awaited : ae_M := (RX5, cX5_awaited, 1, some .int)
theorem vy_X5_awaited : ae_VY yX5_awaited mX5_awaited 0 := ⟨ww_660, wq_16, ww_11, ww_661, ⟨by decide, by decide, by decide +kernel⟩, by decide⟩
theorem dX5_awaited_0 : decode cX5_awaited 0 = .ok (.aload_n 0, 1) := by decide +kernel
theorem dX5_awaited_1 : decode cX5_awaited 1 = .ok (.getfield 38, 3) := by decide +kernel
theorem dX5_awaited_4 : decode cX5_awaited 4 = .ok (.ifCond .le 17, 3) := by decide +kernel
theorem dX5_awaited_7 : decode cX5_awaited 7 = .ok (.aload_n 0, 1) := by decide +kernel
theorem dX5_awaited_8 : decode cX5_awaited 8 = .ok (.getfield 23, 3) := by decide +kernel
theorem dX5_awaited_11 : decode cX5_awaited 11 = .ok (.aload_n 0, 1) := by decide +kernel
theorem dX5_awaited_12 : decode cX5_awaited 12 = .ok (.getfield 38, 3) := by decide +kernel
theorem dX5_awaited_15 : decode cX5_awaited 15 = .ok (.iconst 1, 1) := by decide +kernel
theorem dX5_awaited_16 : decode cX5_awaited 16 = .ok (.isub, 1) := by decide +kernel
theorem dX5_awaited_17 : decode cX5_awaited 17 = .ok (.iaload, 1) := by decide +kernel
theorem dX5_awaited_18 : decode cX5_awaited 18 = .ok (.goto 4, 3) := by decide +kernel
theorem dX5_awaited_21 : decode cX5_awaited 21 = .ok (.iconst 0, 1) := by decide +kernel
theorem dX5_awaited_22 : decode cX5_awaited 22 = .ok (.ireturn, 1) := by decide +kernel
def F_X5_awaited_22 (t0 : Int32) (s0 : ae_S) : Option (Int32 × ae_S) := some (t0, s0)
set_option maxHeartbeats 4000000 in
set_option maxRecDepth 100000 in
theorem t_X5_awaited_22 {l : Launch} {G : ae_G} (d : Nat) {rr : Int32} {ss : ae_S} (t0 : Int32) (s0 : ae_S) (hF : F_X5_awaited_22 t0 s0 = some (rr, ss)) : ae_T l G d mX5_awaited (ae_Po (some (ae_i rr)) ss) 22 [] [ae_i t0] s0 := by
  unfold F_X5_awaited_22 at hF
  obtain ⟨rfl, rfl⟩ := ae_retI hF
  exact ae_iret dX5_awaited_22 rfl rfl ⟨rfl, rfl⟩
def F_X5_awaited (s0 : ae_S) : Option (Int32 × ae_S) := if (s0.1 19 0 6) ≤ 0 then (F_X5_awaited_22 (0 : Int32) s0) else (ae_gd (ae_ib ((s0.1 19 0 6) - (1 : Int32)) 501) (F_X5_awaited_22 (s0.1 20 0 ((s0.1 19 0 6) - (1 : Int32)).toNatClampNeg) s0))
set_option maxHeartbeats 4000000 in
set_option maxRecDepth 100000 in
theorem c_X5_awaited {l : Launch} {G : ae_G} (d : Nat) {s0 ss : ae_S} {rr : Int32} (hF : F_X5_awaited s0 = some (rr, ss)) : ae_Met l G d yX5_awaited mX5_awaited [ae_r (some (19, 0))] s0 (ae_Po (some (ae_i rr)) ss) := by
  refine ae_enter (by decide) rfl (Nat.le_of_ble_eq_true rfl) ?_
  show ae_T l G d mX5_awaited (ae_Po (some (ae_i rr)) ss) 0 [(0, ae_r (some (19, 0)))] [] s0
  unfold F_X5_awaited at hF
  refine ae_aload_n 0 dX5_awaited_0 rfl ?_
  refine ae_getI (q := (19, 0)) dX5_awaited_1 fl_RX5_38 rfl rfl ?_
  refine ae_if_le 21 dX5_awaited_4 rfl (fun hb1 => ?_) (fun hb1 => ?_)
  · have hF2 := ae_ifT hb1 hF
    refine ae_iconst (0 : Int32) dX5_awaited_21 (by decide) ?_
    refine ae_pick (lv' := []) [] rfl ?_
    exact t_X5_awaited_22 d (0 : Int32) s0 hF2
  · have hF2 := ae_ifF hb1 hF
    refine ae_aload_n 0 dX5_awaited_7 rfl ?_
    refine ae_getA (q := (19, 0)) (some (20, 0)) dX5_awaited_8 fl_RX5_23 rfl rfl rfl ?_
    refine ae_aload_n 0 dX5_awaited_11 rfl ?_
    refine ae_getI (q := (19, 0)) dX5_awaited_12 fl_RX5_38 rfl rfl ?_
    refine ae_iconst (1 : Int32) dX5_awaited_15 (by decide) ?_
    refine ae_isub dX5_awaited_16 ?_
    obtain ⟨hg3, hF4⟩ := ae_gdI hF2
    refine ae_iald (q := (20, 0)) dX5_awaited_17 rfl rfl (ae_ibI hg3) ?_
    refine ae_goto 22 dX5_awaited_18 rfl ?_
    refine ae_pick (lv' := []) [] rfl ?_
    exact t_X5_awaited_22 d (s0.1 20 0 ((s0.1 19 0 6) - (1 : Int32)).toNatClampNeg) s0 hF4
abbrev mX5_awaitedFirst : ae_M := (RX5, cX5_awaitedFirst, 1, some .int)
theorem vy_X5_awaitedFirst : ae_VY yX5_awaitedFirst mX5_awaitedFirst 0 := ⟨ww_664, wq_17, ww_11, ww_665, ⟨by decide, by decide, by decide +kernel⟩, by decide⟩
theorem dX5_awaitedFirst_0 : decode cX5_awaitedFirst 0 = .ok (.aload_n 0, 1) := by decide +kernel
theorem dX5_awaitedFirst_1 : decode cX5_awaitedFirst 1 = .ok (.getfield 38, 3) := by decide +kernel
theorem dX5_awaitedFirst_4 : decode cX5_awaitedFirst 4 = .ok (.ifCond .le 17, 3) := by decide +kernel
theorem dX5_awaitedFirst_7 : decode cX5_awaitedFirst 7 = .ok (.aload_n 0, 1) := by decide +kernel
theorem dX5_awaitedFirst_8 : decode cX5_awaitedFirst 8 = .ok (.getfield 27, 3) := by decide +kernel
theorem dX5_awaitedFirst_11 : decode cX5_awaitedFirst 11 = .ok (.aload_n 0, 1) := by decide +kernel
theorem dX5_awaitedFirst_12 : decode cX5_awaitedFirst 12 = .ok (.getfield 38, 3) := by decide +kernel
theorem dX5_awaitedFirst_15 : decode cX5_awaitedFirst 15 = .ok (.iconst 1, 1) := by decide +kernel
theorem dX5_awaitedFirst_16 : decode cX5_awaitedFirst 16 = .ok (.isub, 1) := by decide +kernel
theorem dX5_awaitedFirst_17 : decode cX5_awaitedFirst 17 = .ok (.iaload, 1) := by decide +kernel
theorem dX5_awaitedFirst_18 : decode cX5_awaitedFirst 18 = .ok (.goto 4, 3) := by decide +kernel
theorem dX5_awaitedFirst_21 : decode cX5_awaitedFirst 21 = .ok (.iconst 0, 1) := by decide +kernel
theorem dX5_awaitedFirst_22 : decode cX5_awaitedFirst 22 = .ok (.ireturn, 1) := by decide +kernel
def F_X5_awaitedFirst_22 (t0 : Int32) (s0 : ae_S) : Option (Int32 × ae_S) := some (t0, s0)
set_option maxHeartbeats 4000000 in
set_option maxRecDepth 100000 in
theorem t_X5_awaitedFirst_22 {l : Launch} {G : ae_G} (d : Nat) {rr : Int32} {ss : ae_S} (t0 : Int32) (s0 : ae_S) (hF : F_X5_awaitedFirst_22 t0 s0 = some (rr, ss)) : ae_T l G d mX5_awaitedFirst (ae_Po (some (ae_i rr)) ss) 22 [] [ae_i t0] s0 := by
  unfold F_X5_awaitedFirst_22 at hF
  obtain ⟨rfl, rfl⟩ := ae_retI hF
  exact ae_iret dX5_awaitedFirst_22 rfl rfl ⟨rfl, rfl⟩
def F_X5_awaitedFirst (s0 : ae_S) : Option (Int32 × ae_S) := if (s0.1 19 0 6) ≤ 0 then (F_X5_awaitedFirst_22 (0 : Int32) s0) else (ae_gd (ae_ib ((s0.1 19 0 6) - (1 : Int32)) 501) (F_X5_awaitedFirst_22 (s0.1 20 1 ((s0.1 19 0 6) - (1 : Int32)).toNatClampNeg) s0))
set_option maxHeartbeats 4000000 in
set_option maxRecDepth 100000 in
theorem c_X5_awaitedFirst {l : Launch} {G : ae_G} (d : Nat) {s0 ss : ae_S} {rr : Int32} (hF : F_X5_awaitedFirst s0 = some (rr, ss)) : ae_Met l G d yX5_awaitedFirst mX5_awaitedFirst [ae_r (some (19, 0))] s0 (ae_Po (some (ae_i rr)) ss) := by
  refine ae_enter (by decide) rfl (Nat.le_of_ble_eq_true rfl) ?_
  show ae_T l G d mX5_awaitedFirst (ae_Po (some (ae_i rr)) ss) 0 [(0, ae_r (some (19, 0)))] [] s0
  unfold F_X5_awaitedFirst at hF
  refine ae_aload_n 0 dX5_awaitedFirst_0 rfl ?_
  refine ae_getI (q := (19, 0)) dX5_awaitedFirst_1 fl_RX5_38 rfl rfl ?_
  refine ae_if_le 21 dX5_awaitedFirst_4 rfl (fun hb1 => ?_) (fun hb1 => ?_)
  · have hF2 := ae_ifT hb1 hF
    refine ae_iconst (0 : Int32) dX5_awaitedFirst_21 (by decide) ?_
    refine ae_pick (lv' := []) [] rfl ?_
    exact t_X5_awaitedFirst_22 d (0 : Int32) s0 hF2
  · have hF2 := ae_ifF hb1 hF
    refine ae_aload_n 0 dX5_awaitedFirst_7 rfl ?_
    refine ae_getA (q := (19, 0)) (some (20, 1)) dX5_awaitedFirst_8 fl_RX5_27 rfl rfl rfl ?_
    refine ae_aload_n 0 dX5_awaitedFirst_11 rfl ?_
    refine ae_getI (q := (19, 0)) dX5_awaitedFirst_12 fl_RX5_38 rfl rfl ?_
    refine ae_iconst (1 : Int32) dX5_awaitedFirst_15 (by decide) ?_
    refine ae_isub dX5_awaitedFirst_16 ?_
    obtain ⟨hg3, hF4⟩ := ae_gdI hF2
    refine ae_iald (q := (20, 1)) dX5_awaitedFirst_17 rfl rfl (ae_ibI hg3) ?_
    refine ae_goto 22 dX5_awaitedFirst_18 rfl ?_
    refine ae_pick (lv' := []) [] rfl ?_
    exact t_X5_awaitedFirst_22 d (s0.1 20 1 ((s0.1 19 0 6) - (1 : Int32)).toNatClampNeg) s0 hF4
abbrev mX5_awaitedSecond : ae_M := (RX5, cX5_awaitedSecond, 1, some .int)
theorem vy_X5_awaitedSecond : ae_VY yX5_awaitedSecond mX5_awaitedSecond 0 := ⟨ww_807, wq_32, ww_11, ww_808, ⟨by decide, by decide, by decide +kernel⟩, by decide⟩
theorem dX5_awaitedSecond_0 : decode cX5_awaitedSecond 0 = .ok (.aload_n 0, 1) := by decide +kernel
theorem dX5_awaitedSecond_1 : decode cX5_awaitedSecond 1 = .ok (.getfield 38, 3) := by decide +kernel
theorem dX5_awaitedSecond_4 : decode cX5_awaitedSecond 4 = .ok (.ifCond .le 17, 3) := by decide +kernel
theorem dX5_awaitedSecond_7 : decode cX5_awaitedSecond 7 = .ok (.aload_n 0, 1) := by decide +kernel
theorem dX5_awaitedSecond_8 : decode cX5_awaitedSecond 8 = .ok (.getfield 30, 3) := by decide +kernel
theorem dX5_awaitedSecond_11 : decode cX5_awaitedSecond 11 = .ok (.aload_n 0, 1) := by decide +kernel
theorem dX5_awaitedSecond_12 : decode cX5_awaitedSecond 12 = .ok (.getfield 38, 3) := by decide +kernel
theorem dX5_awaitedSecond_15 : decode cX5_awaitedSecond 15 = .ok (.iconst 1, 1) := by decide +kernel
theorem dX5_awaitedSecond_16 : decode cX5_awaitedSecond 16 = .ok (.isub, 1) := by decide +kernel
theorem dX5_awaitedSecond_17 : decode cX5_awaitedSecond 17 = .ok (.iaload, 1) := by decide +kernel
theorem dX5_awaitedSecond_18 : decode cX5_awaitedSecond 18 = .ok (.goto 4, 3) := by decide +kernel
theorem dX5_awaitedSecond_21 : decode cX5_awaitedSecond 21 = .ok (.iconst 0, 1) := by decide +kernel
theorem dX5_awaitedSecond_22 : decode cX5_awaitedSecond 22 = .ok (.ireturn, 1) := by decide +kernel
def F_X5_awaitedSecond_22 (t0 : Int32) (s0 : ae_S) : Option (Int32 × ae_S) := some (t0, s0)
set_option maxHeartbeats 4000000 in
set_option maxRecDepth 100000 in
theorem t_X5_awaitedSecond_22 {l : Launch} {G : ae_G} (d : Nat) {rr : Int32} {ss : ae_S} (t0 : Int32) (s0 : ae_S) (hF : F_X5_awaitedSecond_22 t0 s0 = some (rr, ss)) : ae_T l G d mX5_awaitedSecond (ae_Po (some (ae_i rr)) ss) 22 [] [ae_i t0] s0 := by
  unfold F_X5_awaitedSecond_22 at hF
  obtain ⟨rfl, rfl⟩ := ae_retI hF
  exact ae_iret dX5_awaitedSecond_22 rfl rfl ⟨rfl, rfl⟩
def F_X5_awaitedSecond (s0 : ae_S) : Option (Int32 × ae_S) := if (s0.1 19 0 6) ≤ 0 then (F_X5_awaitedSecond_22 (0 : Int32) s0) else (ae_gd (ae_ib ((s0.1 19 0 6) - (1 : Int32)) 501) (F_X5_awaitedSecond_22 (s0.1 20 2 ((s0.1 19 0 6) - (1 : Int32)).toNatClampNeg) s0))
set_option maxHeartbeats 4000000 in
set_option maxRecDepth 100000 in
theorem c_X5_awaitedSecond {l : Launch} {G : ae_G} (d : Nat) {s0 ss : ae_S} {rr : Int32} (hF : F_X5_awaitedSecond s0 = some (rr, ss)) : ae_Met l G d yX5_awaitedSecond mX5_awaitedSecond [ae_r (some (19, 0))] s0 (ae_Po (some (ae_i rr)) ss) := by
  refine ae_enter (by decide) rfl (Nat.le_of_ble_eq_true rfl) ?_
  show ae_T l G d mX5_awaitedSecond (ae_Po (some (ae_i rr)) ss) 0 [(0, ae_r (some (19, 0)))] [] s0
  unfold F_X5_awaitedSecond at hF
  refine ae_aload_n 0 dX5_awaitedSecond_0 rfl ?_
  refine ae_getI (q := (19, 0)) dX5_awaitedSecond_1 fl_RX5_38 rfl rfl ?_
  refine ae_if_le 21 dX5_awaitedSecond_4 rfl (fun hb1 => ?_) (fun hb1 => ?_)
  · have hF2 := ae_ifT hb1 hF
    refine ae_iconst (0 : Int32) dX5_awaitedSecond_21 (by decide) ?_
    refine ae_pick (lv' := []) [] rfl ?_
    exact t_X5_awaitedSecond_22 d (0 : Int32) s0 hF2
  · have hF2 := ae_ifF hb1 hF
    refine ae_aload_n 0 dX5_awaitedSecond_7 rfl ?_
    refine ae_getA (q := (19, 0)) (some (20, 2)) dX5_awaitedSecond_8 fl_RX5_30 rfl rfl rfl ?_
    refine ae_aload_n 0 dX5_awaitedSecond_11 rfl ?_
    refine ae_getI (q := (19, 0)) dX5_awaitedSecond_12 fl_RX5_38 rfl rfl ?_
    refine ae_iconst (1 : Int32) dX5_awaitedSecond_15 (by decide) ?_
    refine ae_isub dX5_awaitedSecond_16 ?_
    obtain ⟨hg3, hF4⟩ := ae_gdI hF2
    refine ae_iald (q := (20, 2)) dX5_awaitedSecond_17 rfl rfl (ae_ibI hg3) ?_
    refine ae_goto 22 dX5_awaitedSecond_18 rfl ?_
    refine ae_pick (lv' := []) [] rfl ?_
    exact t_X5_awaitedSecond_22 d (s0.1 20 2 ((s0.1 19 0 6) - (1 : Int32)).toNatClampNeg) s0 hF4
abbrev mX5_drop : ae_M := (RX5, cX5_drop, 1, none)
theorem vy_X5_drop : ae_VY yX5_drop mX5_drop 0 := ⟨ww_672, wq_18, ww_11, ww_673, ⟨by decide, by decide, by decide +kernel⟩, by decide⟩
theorem dX5_drop_0 : decode cX5_drop 0 = .ok (.aload_n 0, 1) := by decide +kernel
theorem dX5_drop_1 : decode cX5_drop 1 = .ok (.getfield 38, 3) := by decide +kernel
theorem dX5_drop_4 : decode cX5_drop 4 = .ok (.ifCond .le 13, 3) := by decide +kernel
theorem dX5_drop_7 : decode cX5_drop 7 = .ok (.aload_n 0, 1) := by decide +kernel
theorem dX5_drop_8 : decode cX5_drop 8 = .ok (.dup, 1) := by decide +kernel
theorem dX5_drop_9 : decode cX5_drop 9 = .ok (.getfield 38, 3) := by decide +kernel
theorem dX5_drop_12 : decode cX5_drop 12 = .ok (.iconst 1, 1) := by decide +kernel
theorem dX5_drop_13 : decode cX5_drop 13 = .ok (.isub, 1) := by decide +kernel
theorem dX5_drop_14 : decode cX5_drop 14 = .ok (.putfield 38, 3) := by decide +kernel
theorem dX5_drop_17 : decode cX5_drop 17 = .ok (.return_, 1) := by decide +kernel
def F_X5_drop_17 (s0 : ae_S) : Option (Unit × ae_S) := some ((), s0)
set_option maxHeartbeats 4000000 in
set_option maxRecDepth 100000 in
theorem t_X5_drop_17 {l : Launch} {G : ae_G} (d : Nat) {rr : Unit} {ss : ae_S} (s0 : ae_S) (hF : F_X5_drop_17 s0 = some (rr, ss)) : ae_T l G d mX5_drop (ae_Po none ss) 17 [] [] s0 := by
  unfold F_X5_drop_17 at hF
  obtain ⟨rfl, rfl⟩ := ae_retI hF
  exact ae_vret dX5_drop_17 rfl ⟨rfl, rfl⟩
def F_X5_drop (s0 : ae_S) : Option (Unit × ae_S) := if (s0.1 19 0 6) ≤ 0 then (F_X5_drop_17 s0) else (ae_lt (ae_wI s0 19 0 6 ((s0.1 19 0 6) - (1 : Int32))) (fun s3 => F_X5_drop_17 s3))
set_option maxHeartbeats 4000000 in
set_option maxRecDepth 100000 in
theorem c_X5_drop {l : Launch} {G : ae_G} (d : Nat) {s0 ss : ae_S} {rr : Unit} (hF : F_X5_drop s0 = some (rr, ss)) : ae_Met l G d yX5_drop mX5_drop [ae_r (some (19, 0))] s0 (ae_Po none ss) := by
  refine ae_enter (by decide) rfl (Nat.le_of_ble_eq_true rfl) ?_
  show ae_T l G d mX5_drop (ae_Po none ss) 0 [(0, ae_r (some (19, 0)))] [] s0
  unfold F_X5_drop at hF
  refine ae_aload_n 0 dX5_drop_0 rfl ?_
  refine ae_getI (q := (19, 0)) dX5_drop_1 fl_RX5_38 rfl rfl ?_
  refine ae_if_le 17 dX5_drop_4 rfl (fun hb1 => ?_) (fun hb1 => ?_)
  · have hF2 := ae_ifT hb1 hF
    refine ae_pick (lv' := []) [] rfl ?_
    exact t_X5_drop_17 d s0 hF2
  · have hF2 := ae_ifF hb1 hF
    refine ae_aload_n 0 dX5_drop_7 rfl ?_
    refine ae_dup dX5_drop_8 rfl ?_
    refine ae_getI (q := (19, 0)) dX5_drop_9 fl_RX5_38 rfl rfl ?_
    refine ae_iconst (1 : Int32) dX5_drop_12 (by decide) ?_
    refine ae_isub dX5_drop_13 ?_
    obtain ⟨s3, hs3, hF4⟩ := ae_ltI hF2
    refine ae_putI (q := (19, 0)) dX5_drop_14 fl_RX5_38 rfl rfl (ae_nmS hs3 ?_)
    refine ae_pick (lv' := []) [] rfl ?_
    exact t_X5_drop_17 d s3 hF4
abbrev mX5_endStatement : ae_M := (RX5, cX5_endStatement, 2, none)
theorem vy_X5_endStatement : ae_VY yX5_endStatement mX5_endStatement 0 := ⟨ww_656, wq_15, ww_11, ww_657, ⟨by decide, by decide, by decide +kernel⟩, by decide⟩
theorem dX5_endStatement_0 : decode cX5_endStatement 0 = .ok (.aload_n 0, 1) := by decide +kernel
theorem dX5_endStatement_1 : decode cX5_endStatement 1 = .ok (.getfield 38, 3) := by decide +kernel
theorem dX5_endStatement_4 : decode cX5_endStatement 4 = .ok (.istore_n 1, 1) := by decide +kernel
theorem dX5_endStatement_5 : decode cX5_endStatement 5 = .ok (.iload_n 1, 1) := by decide +kernel
theorem dX5_endStatement_6 : decode cX5_endStatement 6 = .ok (.ifCond .le 33, 3) := by decide +kernel
theorem dX5_endStatement_9 : decode cX5_endStatement 9 = .ok (.aload_n 0, 1) := by decide +kernel
theorem dX5_endStatement_10 : decode cX5_endStatement 10 = .ok (.invokevirtual 100, 3) := by decide +kernel
theorem dX5_endStatement_13 : decode cX5_endStatement 13 = .ok (.bipush 102, 2) := by decide +kernel
theorem dX5_endStatement_15 : decode cX5_endStatement 15 = .ok (.if_icmp .ne 24, 3) := by decide +kernel
theorem dX5_endStatement_18 : decode cX5_endStatement 18 = .ok (.aload_n 0, 1) := by decide +kernel
theorem dX5_endStatement_19 : decode cX5_endStatement 19 = .ok (.getfield 19, 3) := by decide +kernel
theorem dX5_endStatement_22 : decode cX5_endStatement 22 = .ok (.aload_n 0, 1) := by decide +kernel
theorem dX5_endStatement_23 : decode cX5_endStatement 23 = .ok (.invokevirtual 110, 3) := by decide +kernel
theorem dX5_endStatement_26 : decode cX5_endStatement 26 = .ok (.invokevirtual 113, 3) := by decide +kernel
theorem dX5_endStatement_29 : decode cX5_endStatement 29 = .ok (.aload_n 0, 1) := by decide +kernel
theorem dX5_endStatement_30 : decode cX5_endStatement 30 = .ok (.invokevirtual 117, 3) := by decide +kernel
theorem dX5_endStatement_33 : decode cX5_endStatement 33 = .ok (.iinc 1 (-1), 3) := by decide +kernel
theorem dX5_endStatement_36 : decode cX5_endStatement 36 = .ok (.goto (-31), 3) := by decide +kernel
theorem dX5_endStatement_39 : decode cX5_endStatement 39 = .ok (.aload_n 0, 1) := by decide +kernel
theorem dX5_endStatement_40 : decode cX5_endStatement 40 = .ok (.iconst 0, 1) := by decide +kernel
theorem dX5_endStatement_41 : decode cX5_endStatement 41 = .ok (.putfield 45, 3) := by decide +kernel
theorem dX5_endStatement_44 : decode cX5_endStatement 44 = .ok (.return_, 1) := by decide +kernel
def F_X5_endStatement_39 (s0 : ae_S) : Option (Unit × ae_S) := ae_lt (ae_wI s0 19 0 8 (0 : Int32)) (fun s1 => some ((), s1))
set_option maxHeartbeats 4000000 in
set_option maxRecDepth 100000 in
theorem t_X5_endStatement_39 {l : Launch} {G : ae_G} (d : Nat) {rr : Unit} {ss : ae_S} (s0 : ae_S) (hF : F_X5_endStatement_39 s0 = some (rr, ss)) : ae_T l G (d + 1) mX5_endStatement (ae_Po none ss) 39 [(0, ae_r (some (19, 0)))] [] s0 := by
  unfold F_X5_endStatement_39 at hF
  refine ae_aload_n 0 dX5_endStatement_39 rfl ?_
  refine ae_iconst (0 : Int32) dX5_endStatement_40 (by decide) ?_
  obtain ⟨s1, hs1, hF2⟩ := ae_ltI hF
  refine ae_putI (q := (19, 0)) dX5_endStatement_41 fl_RX5_45 rfl rfl (ae_nmS hs1 ?_)
  obtain ⟨rfl, rfl⟩ := ae_retI hF2
  exact ae_vret dX5_endStatement_44 rfl ⟨rfl, rfl⟩
def F_X5_endStatement_5 : Nat → Int32 → ae_S → Option (Unit × ae_S)
  | 0, _, _ => none
  | n + 1, v1, s0 => if v1 ≤ 0 then (F_X5_endStatement_39 s0) else (ae_bd (F_X5_awaited s0) (fun (r5 : Int32) s6 => if r5 = (102 : Int32) then (ae_bd (F_X5_awaitedFirst s6) (fun (r11 : Int32) s12 => ae_bd (F_X1_leadHere r11 s12) (fun (r15 : Unit) s16 => ae_bd (F_X5_drop s16) (fun (r19 : Unit) s20 => ae_lt (v1 + (-1 : Int32)) (fun x23 => F_X5_endStatement_5 n x23 s20))))) else (F_X5_endStatement_39 s6)))
set_option maxHeartbeats 4000000 in
set_option maxRecDepth 100000 in
theorem t_X5_endStatement_5 {l : Launch} {G : ae_G} (d : Nat) {rr : Unit} {ss : ae_S} : ∀ (n : Nat) (v1 : Int32) (s0 : ae_S), F_X5_endStatement_5 n v1 s0 = some (rr, ss) → ae_T l G (d + 1) mX5_endStatement (ae_Po none ss) 5 [(0, ae_r (some (19, 0))), (1, ae_i v1)] [] s0 := by
  intro n
  induction n with
  | zero =>
    intro v1 s0 hF
    exact absurd (show (none : Option (Unit × ae_S)) = some (rr, ss) from hF) (by simp)
  | succ n ih =>
    intro v1 s0 hF
    unfold F_X5_endStatement_5 at hF
    refine ae_iload_n 1 dX5_endStatement_5 rfl ?_
    refine ae_if_le 39 dX5_endStatement_6 rfl (fun hb3 => ?_) (fun hb3 => ?_)
    · have hF4 := ae_ifT hb3 hF
      refine ae_pick (lv' := [(0, ae_r (some (19, 0)))]) [0] rfl ?_
      exact t_X5_endStatement_39 d s0 hF4
    · have hF4 := ae_ifF hb3 hF
      refine ae_aload_n 0 dX5_endStatement_9 rfl ?_
      obtain ⟨r5, s6, hc7, hF8⟩ := ae_bdI hF4
      refine ae_cV1 (q := (19, 0)) (As := []) dX5_endStatement_10 ww_658 vy_X5_awaited rfl rfl rfl rfl rfl (Nat.le_of_ble_eq_true rfl) (c_X5_awaited d hc7) ?_
      refine ae_bipush (102 : Int32) dX5_endStatement_13 (by decide) ?_
      refine ae_icmp_ne 39 dX5_endStatement_15 rfl (fun hb9 => ?_) (fun hb9 => ?_)
      · have hF10 := ae_ifF hb9 hF8
        refine ae_pick (lv' := [(0, ae_r (some (19, 0)))]) [0] rfl ?_
        exact t_X5_endStatement_39 d s6 hF10
      · have hF10 := ae_ifT hb9 hF8
        refine ae_aload_n 0 dX5_endStatement_18 rfl ?_
        refine ae_getO (q := (19, 0)) (some (15, 0)) dX5_endStatement_19 fl_RX5_19 rfl rfl rfl ?_
        refine ae_aload_n 0 dX5_endStatement_22 rfl ?_
        obtain ⟨r11, s12, hc13, hF14⟩ := ae_bdI hF10
        refine ae_cV1 (q := (19, 0)) (As := []) dX5_endStatement_23 ww_662 vy_X5_awaitedFirst rfl rfl rfl rfl rfl (Nat.le_of_ble_eq_true rfl) (c_X5_awaitedFirst d hc13) ?_
        obtain ⟨r15, s16, hc17, hF18⟩ := ae_bdI hF14
        refine ae_cV0 (q := (15, 0)) (As := [ae_i r11]) dX5_endStatement_26 ww_666 vy_X1_leadHere rfl rfl rfl rfl rfl (Nat.le_of_ble_eq_true rfl) (c_X1_leadHere d hc17) ?_
        refine ae_aload_n 0 dX5_endStatement_29 rfl ?_
        obtain ⟨r19, s20, hc21, hF22⟩ := ae_bdI hF18
        refine ae_cV0 (q := (19, 0)) (As := []) dX5_endStatement_30 ww_670 vy_X5_drop rfl rfl rfl rfl rfl (Nat.le_of_ble_eq_true rfl) (c_X5_drop d hc21) ?_
        obtain ⟨x23, hx23, hF24⟩ := ae_ltI hF22
        refine ae_iinc (lv' := [(1, ae_i x23), (0, ae_r (some (19, 0)))]) 1 (-1 : Int32) dX5_endStatement_33 rfl (by decide) (by decide) (by rw [hx23]; rfl) ?_
        refine ae_goto 5 dX5_endStatement_36 rfl ?_
        refine ae_pick (lv' := [(0, ae_r (some (19, 0))), (1, ae_i x23)]) [1, 0] rfl ?_
        exact ih x23 s20 hF24
def F_X5_endStatement (s0 : ae_S) : Option (Unit × ae_S) := ae_lt (s0.1 19 0 6) (fun x25 => F_X5_endStatement_5 ae_fu x25 s0)
set_option maxHeartbeats 4000000 in
set_option maxRecDepth 100000 in
theorem c_X5_endStatement {l : Launch} {G : ae_G} (d : Nat) {s0 ss : ae_S} {rr : Unit} (hF : F_X5_endStatement s0 = some (rr, ss)) : ae_Met l G (d + 1) yX5_endStatement mX5_endStatement [ae_r (some (19, 0))] s0 (ae_Po none ss) := by
  refine ae_enter (by decide) rfl (Nat.le_of_ble_eq_true rfl) ?_
  show ae_T l G (d + 1) mX5_endStatement (ae_Po none ss) 0 [(0, ae_r (some (19, 0)))] [] s0
  unfold F_X5_endStatement at hF
  refine ae_aload_n 0 dX5_endStatement_0 rfl ?_
  refine ae_getI (q := (19, 0)) dX5_endStatement_1 fl_RX5_38 rfl rfl ?_
  obtain ⟨x25, hx25, hF26⟩ := ae_ltI hF
  refine ae_nmI hx25 ?_
  refine ae_istore_n (lv' := [(1, ae_i x25), (0, ae_r (some (19, 0)))]) dX5_endStatement_4 (by decide) rfl ?_
  refine ae_pick (lv' := [(0, ae_r (some (19, 0))), (1, ae_i x25)]) [1, 0] rfl ?_
  exact t_X5_endStatement_5 d ae_fu x25 s0 hF26
abbrev mX5_operationHere : ae_M := (RX5, cX5_operationHere, 1, some .int)
theorem vy_X5_operationHere : ae_VY yX5_operationHere mX5_operationHere 0 := ⟨ww_792, wq_29, ww_11, ww_793, ⟨by decide, by decide, by decide +kernel⟩, by decide⟩
theorem dX5_operationHere_0 : decode cX5_operationHere 0 = .ok (.aload_n 0, 1) := by decide +kernel
theorem dX5_operationHere_1 : decode cX5_operationHere 1 = .ok (.getfield 9, 3) := by decide +kernel
theorem dX5_operationHere_4 : decode cX5_operationHere 4 = .ok (.bipush 60, 2) := by decide +kernel
theorem dX5_operationHere_6 : decode cX5_operationHere 6 = .ok (.invokevirtual 93, 3) := by decide +kernel
theorem dX5_operationHere_9 : decode cX5_operationHere 9 = .ok (.ifCond .eq 6, 3) := by decide +kernel
theorem dX5_operationHere_12 : decode cX5_operationHere 12 = .ok (.bipush 7, 2) := by decide +kernel
theorem dX5_operationHere_14 : decode cX5_operationHere 14 = .ok (.ireturn, 1) := by decide +kernel
theorem dX5_operationHere_15 : decode cX5_operationHere 15 = .ok (.aload_n 0, 1) := by decide +kernel
theorem dX5_operationHere_16 : decode cX5_operationHere 16 = .ok (.getfield 9, 3) := by decide +kernel
theorem dX5_operationHere_19 : decode cX5_operationHere 19 = .ok (.bipush 62, 2) := by decide +kernel
theorem dX5_operationHere_21 : decode cX5_operationHere 21 = .ok (.invokevirtual 93, 3) := by decide +kernel
theorem dX5_operationHere_24 : decode cX5_operationHere 24 = .ok (.ifCond .eq 6, 3) := by decide +kernel
theorem dX5_operationHere_27 : decode cX5_operationHere 27 = .ok (.bipush 8, 2) := by decide +kernel
theorem dX5_operationHere_29 : decode cX5_operationHere 29 = .ok (.ireturn, 1) := by decide +kernel
theorem dX5_operationHere_30 : decode cX5_operationHere 30 = .ok (.aload_n 0, 1) := by decide +kernel
theorem dX5_operationHere_31 : decode cX5_operationHere 31 = .ok (.getfield 9, 3) := by decide +kernel
theorem dX5_operationHere_34 : decode cX5_operationHere 34 = .ok (.bipush 126, 2) := by decide +kernel
theorem dX5_operationHere_36 : decode cX5_operationHere 36 = .ok (.invokevirtual 93, 3) := by decide +kernel
theorem dX5_operationHere_39 : decode cX5_operationHere 39 = .ok (.ifCond .eq 6, 3) := by decide +kernel
theorem dX5_operationHere_42 : decode cX5_operationHere 42 = .ok (.bipush 9, 2) := by decide +kernel
theorem dX5_operationHere_44 : decode cX5_operationHere 44 = .ok (.ireturn, 1) := by decide +kernel
theorem dX5_operationHere_45 : decode cX5_operationHere 45 = .ok (.aload_n 0, 1) := by decide +kernel
theorem dX5_operationHere_46 : decode cX5_operationHere 46 = .ok (.getfield 9, 3) := by decide +kernel
theorem dX5_operationHere_49 : decode cX5_operationHere 49 = .ok (.bipush 43, 2) := by decide +kernel
theorem dX5_operationHere_51 : decode cX5_operationHere 51 = .ok (.invokevirtual 93, 3) := by decide +kernel
theorem dX5_operationHere_54 : decode cX5_operationHere 54 = .ok (.ifCond .eq 6, 3) := by decide +kernel
theorem dX5_operationHere_57 : decode cX5_operationHere 57 = .ok (.bipush 10, 2) := by decide +kernel
theorem dX5_operationHere_59 : decode cX5_operationHere 59 = .ok (.ireturn, 1) := by decide +kernel
theorem dX5_operationHere_60 : decode cX5_operationHere 60 = .ok (.aload_n 0, 1) := by decide +kernel
theorem dX5_operationHere_61 : decode cX5_operationHere 61 = .ok (.getfield 9, 3) := by decide +kernel
theorem dX5_operationHere_64 : decode cX5_operationHere 64 = .ok (.bipush 45, 2) := by decide +kernel
theorem dX5_operationHere_66 : decode cX5_operationHere 66 = .ok (.invokevirtual 93, 3) := by decide +kernel
theorem dX5_operationHere_69 : decode cX5_operationHere 69 = .ok (.ifCond .eq 6, 3) := by decide +kernel
theorem dX5_operationHere_72 : decode cX5_operationHere 72 = .ok (.bipush 11, 2) := by decide +kernel
theorem dX5_operationHere_74 : decode cX5_operationHere 74 = .ok (.ireturn, 1) := by decide +kernel
theorem dX5_operationHere_75 : decode cX5_operationHere 75 = .ok (.aload_n 0, 1) := by decide +kernel
theorem dX5_operationHere_76 : decode cX5_operationHere 76 = .ok (.getfield 9, 3) := by decide +kernel
theorem dX5_operationHere_79 : decode cX5_operationHere 79 = .ok (.bipush 42, 2) := by decide +kernel
theorem dX5_operationHere_81 : decode cX5_operationHere 81 = .ok (.invokevirtual 93, 3) := by decide +kernel
theorem dX5_operationHere_84 : decode cX5_operationHere 84 = .ok (.ifCond .eq 6, 3) := by decide +kernel
theorem dX5_operationHere_87 : decode cX5_operationHere 87 = .ok (.bipush 12, 2) := by decide +kernel
theorem dX5_operationHere_89 : decode cX5_operationHere 89 = .ok (.ireturn, 1) := by decide +kernel
theorem dX5_operationHere_90 : decode cX5_operationHere 90 = .ok (.aload_n 0, 1) := by decide +kernel
theorem dX5_operationHere_91 : decode cX5_operationHere 91 = .ok (.getfield 9, 3) := by decide +kernel
theorem dX5_operationHere_94 : decode cX5_operationHere 94 = .ok (.bipush 47, 2) := by decide +kernel
theorem dX5_operationHere_96 : decode cX5_operationHere 96 = .ok (.invokevirtual 93, 3) := by decide +kernel
theorem dX5_operationHere_99 : decode cX5_operationHere 99 = .ok (.ifCond .eq 6, 3) := by decide +kernel
theorem dX5_operationHere_102 : decode cX5_operationHere 102 = .ok (.bipush 13, 2) := by decide +kernel
theorem dX5_operationHere_104 : decode cX5_operationHere 104 = .ok (.ireturn, 1) := by decide +kernel
theorem dX5_operationHere_105 : decode cX5_operationHere 105 = .ok (.aload_n 0, 1) := by decide +kernel
theorem dX5_operationHere_106 : decode cX5_operationHere 106 = .ok (.getfield 9, 3) := by decide +kernel
theorem dX5_operationHere_109 : decode cX5_operationHere 109 = .ok (.bipush 37, 2) := by decide +kernel
theorem dX5_operationHere_111 : decode cX5_operationHere 111 = .ok (.invokevirtual 93, 3) := by decide +kernel
theorem dX5_operationHere_114 : decode cX5_operationHere 114 = .ok (.ifCond .eq 8, 3) := by decide +kernel
theorem dX5_operationHere_117 : decode cX5_operationHere 117 = .ok (.bipush 14, 2) := by decide +kernel
theorem dX5_operationHere_119 : decode cX5_operationHere 119 = .ok (.goto 4, 3) := by decide +kernel
theorem dX5_operationHere_122 : decode cX5_operationHere 122 = .ok (.iconst (-1), 1) := by decide +kernel
theorem dX5_operationHere_123 : decode cX5_operationHere 123 = .ok (.ireturn, 1) := by decide +kernel
def F_X5_operationHere_123 (t0 : Int32) (s0 : ae_S) : Option (Int32 × ae_S) := some (t0, s0)
set_option maxHeartbeats 4000000 in
set_option maxRecDepth 100000 in
theorem t_X5_operationHere_123 {l : Launch} {G : ae_G} (d : Nat) {rr : Int32} {ss : ae_S} (t0 : Int32) (s0 : ae_S) (hF : F_X5_operationHere_123 t0 s0 = some (rr, ss)) : ae_T l G (d + 1) mX5_operationHere (ae_Po (some (ae_i rr)) ss) 123 [] [ae_i t0] s0 := by
  unfold F_X5_operationHere_123 at hF
  obtain ⟨rfl, rfl⟩ := ae_retI hF
  exact ae_iret dX5_operationHere_123 rfl rfl ⟨rfl, rfl⟩
def F_X5_operationHere (s0 : ae_S) : Option (Int32 × ae_S) := ae_bd (F_X8_isSign (60 : Int32) s0) (fun (r1 : Int32) s2 => if r1 = 0 then (ae_bd (F_X8_isSign (62 : Int32) s2) (fun (r7 : Int32) s8 => if r7 = 0 then (ae_bd (F_X8_isSign (126 : Int32) s8) (fun (r13 : Int32) s14 => if r13 = 0 then (ae_bd (F_X8_isSign (43 : Int32) s14) (fun (r19 : Int32) s20 => if r19 = 0 then (ae_bd (F_X8_isSign (45 : Int32) s20) (fun (r25 : Int32) s26 => if r25 = 0 then (ae_bd (F_X8_isSign (42 : Int32) s26) (fun (r31 : Int32) s32 => if r31 = 0 then (ae_bd (F_X8_isSign (47 : Int32) s32) (fun (r37 : Int32) s38 => if r37 = 0 then (ae_bd (F_X8_isSign (37 : Int32) s38) (fun (r43 : Int32) s44 => if r43 = 0 then (F_X5_operationHere_123 (-1 : Int32) s44) else (F_X5_operationHere_123 (14 : Int32) s44))) else (some ((13 : Int32), s38)))) else (some ((12 : Int32), s32)))) else (some ((11 : Int32), s26)))) else (some ((10 : Int32), s20)))) else (some ((9 : Int32), s14)))) else (some ((8 : Int32), s8)))) else (some ((7 : Int32), s2)))
set_option maxHeartbeats 4000000 in
set_option maxRecDepth 100000 in
theorem c_X5_operationHere {l : Launch} {G : ae_G} (d : Nat) {s0 ss : ae_S} {rr : Int32} (hF : F_X5_operationHere s0 = some (rr, ss)) : ae_Met l G (d + 1) yX5_operationHere mX5_operationHere [ae_r (some (19, 0))] s0 (ae_Po (some (ae_i rr)) ss) := by
  refine ae_enter (by decide) rfl (Nat.le_of_ble_eq_true rfl) ?_
  show ae_T l G (d + 1) mX5_operationHere (ae_Po (some (ae_i rr)) ss) 0 [(0, ae_r (some (19, 0)))] [] s0
  unfold F_X5_operationHere at hF
  refine ae_aload_n 0 dX5_operationHere_0 rfl ?_
  refine ae_getO (q := (19, 0)) (some (12, 0)) dX5_operationHere_1 fl_RX5_9 rfl rfl rfl ?_
  refine ae_bipush (60 : Int32) dX5_operationHere_4 (by decide) ?_
  obtain ⟨r1, s2, hc3, hF4⟩ := ae_bdI hF
  refine ae_cV1 (q := (12, 0)) (As := [ae_i (60 : Int32)]) dX5_operationHere_6 ww_675 vy_X8_isSign rfl rfl rfl rfl rfl (Nat.le_of_ble_eq_true rfl) (c_X8_isSign d hc3) ?_
  refine ae_if_eq 15 dX5_operationHere_9 rfl (fun hb5 => ?_) (fun hb5 => ?_)
  · have hF6 := ae_ifT hb5 hF4
    refine ae_aload_n 0 dX5_operationHere_15 rfl ?_
    refine ae_getO (q := (19, 0)) (some (12, 0)) dX5_operationHere_16 fl_RX5_9 rfl rfl rfl ?_
    refine ae_bipush (62 : Int32) dX5_operationHere_19 (by decide) ?_
    obtain ⟨r7, s8, hc9, hF10⟩ := ae_bdI hF6
    refine ae_cV1 (q := (12, 0)) (As := [ae_i (62 : Int32)]) dX5_operationHere_21 ww_675 vy_X8_isSign rfl rfl rfl rfl rfl (Nat.le_of_ble_eq_true rfl) (c_X8_isSign d hc9) ?_
    refine ae_if_eq 30 dX5_operationHere_24 rfl (fun hb11 => ?_) (fun hb11 => ?_)
    · have hF12 := ae_ifT hb11 hF10
      refine ae_aload_n 0 dX5_operationHere_30 rfl ?_
      refine ae_getO (q := (19, 0)) (some (12, 0)) dX5_operationHere_31 fl_RX5_9 rfl rfl rfl ?_
      refine ae_bipush (126 : Int32) dX5_operationHere_34 (by decide) ?_
      obtain ⟨r13, s14, hc15, hF16⟩ := ae_bdI hF12
      refine ae_cV1 (q := (12, 0)) (As := [ae_i (126 : Int32)]) dX5_operationHere_36 ww_675 vy_X8_isSign rfl rfl rfl rfl rfl (Nat.le_of_ble_eq_true rfl) (c_X8_isSign d hc15) ?_
      refine ae_if_eq 45 dX5_operationHere_39 rfl (fun hb17 => ?_) (fun hb17 => ?_)
      · have hF18 := ae_ifT hb17 hF16
        refine ae_aload_n 0 dX5_operationHere_45 rfl ?_
        refine ae_getO (q := (19, 0)) (some (12, 0)) dX5_operationHere_46 fl_RX5_9 rfl rfl rfl ?_
        refine ae_bipush (43 : Int32) dX5_operationHere_49 (by decide) ?_
        obtain ⟨r19, s20, hc21, hF22⟩ := ae_bdI hF18
        refine ae_cV1 (q := (12, 0)) (As := [ae_i (43 : Int32)]) dX5_operationHere_51 ww_675 vy_X8_isSign rfl rfl rfl rfl rfl (Nat.le_of_ble_eq_true rfl) (c_X8_isSign d hc21) ?_
        refine ae_if_eq 60 dX5_operationHere_54 rfl (fun hb23 => ?_) (fun hb23 => ?_)
        · have hF24 := ae_ifT hb23 hF22
          refine ae_aload_n 0 dX5_operationHere_60 rfl ?_
          refine ae_getO (q := (19, 0)) (some (12, 0)) dX5_operationHere_61 fl_RX5_9 rfl rfl rfl ?_
          refine ae_bipush (45 : Int32) dX5_operationHere_64 (by decide) ?_
          obtain ⟨r25, s26, hc27, hF28⟩ := ae_bdI hF24
          refine ae_cV1 (q := (12, 0)) (As := [ae_i (45 : Int32)]) dX5_operationHere_66 ww_675 vy_X8_isSign rfl rfl rfl rfl rfl (Nat.le_of_ble_eq_true rfl) (c_X8_isSign d hc27) ?_
          refine ae_if_eq 75 dX5_operationHere_69 rfl (fun hb29 => ?_) (fun hb29 => ?_)
          · have hF30 := ae_ifT hb29 hF28
            refine ae_aload_n 0 dX5_operationHere_75 rfl ?_
            refine ae_getO (q := (19, 0)) (some (12, 0)) dX5_operationHere_76 fl_RX5_9 rfl rfl rfl ?_
            refine ae_bipush (42 : Int32) dX5_operationHere_79 (by decide) ?_
            obtain ⟨r31, s32, hc33, hF34⟩ := ae_bdI hF30
            refine ae_cV1 (q := (12, 0)) (As := [ae_i (42 : Int32)]) dX5_operationHere_81 ww_675 vy_X8_isSign rfl rfl rfl rfl rfl (Nat.le_of_ble_eq_true rfl) (c_X8_isSign d hc33) ?_
            refine ae_if_eq 90 dX5_operationHere_84 rfl (fun hb35 => ?_) (fun hb35 => ?_)
            · have hF36 := ae_ifT hb35 hF34
              refine ae_aload_n 0 dX5_operationHere_90 rfl ?_
              refine ae_getO (q := (19, 0)) (some (12, 0)) dX5_operationHere_91 fl_RX5_9 rfl rfl rfl ?_
              refine ae_bipush (47 : Int32) dX5_operationHere_94 (by decide) ?_
              obtain ⟨r37, s38, hc39, hF40⟩ := ae_bdI hF36
              refine ae_cV1 (q := (12, 0)) (As := [ae_i (47 : Int32)]) dX5_operationHere_96 ww_675 vy_X8_isSign rfl rfl rfl rfl rfl (Nat.le_of_ble_eq_true rfl) (c_X8_isSign d hc39) ?_
              refine ae_if_eq 105 dX5_operationHere_99 rfl (fun hb41 => ?_) (fun hb41 => ?_)
              · have hF42 := ae_ifT hb41 hF40
                refine ae_aload_n 0 dX5_operationHere_105 rfl ?_
                refine ae_getO (q := (19, 0)) (some (12, 0)) dX5_operationHere_106 fl_RX5_9 rfl rfl rfl ?_
                refine ae_bipush (37 : Int32) dX5_operationHere_109 (by decide) ?_
                obtain ⟨r43, s44, hc45, hF46⟩ := ae_bdI hF42
                refine ae_cV1 (q := (12, 0)) (As := [ae_i (37 : Int32)]) dX5_operationHere_111 ww_675 vy_X8_isSign rfl rfl rfl rfl rfl (Nat.le_of_ble_eq_true rfl) (c_X8_isSign d hc45) ?_
                refine ae_if_eq 122 dX5_operationHere_114 rfl (fun hb47 => ?_) (fun hb47 => ?_)
                · have hF48 := ae_ifT hb47 hF46
                  refine ae_iconst (-1 : Int32) dX5_operationHere_122 (by decide) ?_
                  refine ae_pick (lv' := []) [] rfl ?_
                  exact t_X5_operationHere_123 d (-1 : Int32) s44 hF48
                · have hF48 := ae_ifF hb47 hF46
                  refine ae_bipush (14 : Int32) dX5_operationHere_117 (by decide) ?_
                  refine ae_goto 123 dX5_operationHere_119 rfl ?_
                  refine ae_pick (lv' := []) [] rfl ?_
                  exact t_X5_operationHere_123 d (14 : Int32) s44 hF48
              · have hF42 := ae_ifF hb41 hF40
                refine ae_bipush (13 : Int32) dX5_operationHere_102 (by decide) ?_
                obtain ⟨rfl, rfl⟩ := ae_retI hF42
                exact ae_iret dX5_operationHere_104 rfl rfl ⟨rfl, rfl⟩
            · have hF36 := ae_ifF hb35 hF34
              refine ae_bipush (12 : Int32) dX5_operationHere_87 (by decide) ?_
              obtain ⟨rfl, rfl⟩ := ae_retI hF36
              exact ae_iret dX5_operationHere_89 rfl rfl ⟨rfl, rfl⟩
          · have hF30 := ae_ifF hb29 hF28
            refine ae_bipush (11 : Int32) dX5_operationHere_72 (by decide) ?_
            obtain ⟨rfl, rfl⟩ := ae_retI hF30
            exact ae_iret dX5_operationHere_74 rfl rfl ⟨rfl, rfl⟩
        · have hF24 := ae_ifF hb23 hF22
          refine ae_bipush (10 : Int32) dX5_operationHere_57 (by decide) ?_
          obtain ⟨rfl, rfl⟩ := ae_retI hF24
          exact ae_iret dX5_operationHere_59 rfl rfl ⟨rfl, rfl⟩
      · have hF18 := ae_ifF hb17 hF16
        refine ae_bipush (9 : Int32) dX5_operationHere_42 (by decide) ?_
        obtain ⟨rfl, rfl⟩ := ae_retI hF18
        exact ae_iret dX5_operationHere_44 rfl rfl ⟨rfl, rfl⟩
    · have hF12 := ae_ifF hb11 hF10
      refine ae_bipush (8 : Int32) dX5_operationHere_27 (by decide) ?_
      obtain ⟨rfl, rfl⟩ := ae_retI hF12
      exact ae_iret dX5_operationHere_29 rfl rfl ⟨rfl, rfl⟩
  · have hF6 := ae_ifF hb5 hF4
    refine ae_bipush (7 : Int32) dX5_operationHere_12 (by decide) ?_
    obtain ⟨rfl, rfl⟩ := ae_retI hF6
    exact ae_iret dX5_operationHere_14 rfl rfl ⟨rfl, rfl⟩
abbrev mX5_rankOf : ae_M := (RX5, cX5_rankOf, 1, some .int)
theorem vy_X5_rankOf : ae_SY yX5_rankOf mX5_rankOf 1 := ⟨ww_799, ww_11, ww_800, ⟨by decide, by decide, by decide +kernel⟩, by decide⟩
theorem dX5_rankOf_0 : decode cX5_rankOf 0 = .ok (.iload_n 0, 1) := by decide +kernel
theorem dX5_rankOf_1 : decode cX5_rankOf 1 = .ok (.tableswitch 59 6 14 #[57, 51, 51, 51, 53, 53, 55, 55, 55], 51) := by decide +kernel
theorem dX5_rankOf_52 : decode cX5_rankOf 52 = .ok (.iconst 1, 1) := by decide +kernel
theorem dX5_rankOf_53 : decode cX5_rankOf 53 = .ok (.ireturn, 1) := by decide +kernel
theorem dX5_rankOf_54 : decode cX5_rankOf 54 = .ok (.iconst 2, 1) := by decide +kernel
theorem dX5_rankOf_55 : decode cX5_rankOf 55 = .ok (.ireturn, 1) := by decide +kernel
theorem dX5_rankOf_56 : decode cX5_rankOf 56 = .ok (.iconst 3, 1) := by decide +kernel
theorem dX5_rankOf_57 : decode cX5_rankOf 57 = .ok (.ireturn, 1) := by decide +kernel
theorem dX5_rankOf_58 : decode cX5_rankOf 58 = .ok (.iconst 4, 1) := by decide +kernel
theorem dX5_rankOf_59 : decode cX5_rankOf 59 = .ok (.ireturn, 1) := by decide +kernel
theorem dX5_rankOf_60 : decode cX5_rankOf 60 = .ok (.iconst 0, 1) := by decide +kernel
theorem dX5_rankOf_61 : decode cX5_rankOf 61 = .ok (.ireturn, 1) := by decide +kernel
def F_X5_rankOf (v0 : Int32) (s0 : ae_S) : Option (Int32 × ae_S) := if v0 = (6 : Int32) then (some ((4 : Int32), s0)) else (if v0 = (7 : Int32) then (some ((1 : Int32), s0)) else (if v0 = (8 : Int32) then (some ((1 : Int32), s0)) else (if v0 = (9 : Int32) then (some ((1 : Int32), s0)) else (if v0 = (10 : Int32) then (some ((2 : Int32), s0)) else (if v0 = (11 : Int32) then (some ((2 : Int32), s0)) else (if v0 = (12 : Int32) then (some ((3 : Int32), s0)) else (if v0 = (13 : Int32) then (some ((3 : Int32), s0)) else (if v0 = (14 : Int32) then (some ((3 : Int32), s0)) else (some ((0 : Int32), s0))))))))))
set_option maxHeartbeats 4000000 in
set_option maxRecDepth 100000 in
theorem c_X5_rankOf {l : Launch} {G : ae_G} (d : Nat) {v0 : Int32} {s0 ss : ae_S} {rr : Int32} (hF : F_X5_rankOf v0 s0 = some (rr, ss)) : ae_Met l G d yX5_rankOf mX5_rankOf [ae_i v0] s0 (ae_Po (some (ae_i rr)) ss) := by
  refine ae_enter (by decide) rfl (Nat.le_of_ble_eq_true rfl) ?_
  show ae_T l G d mX5_rankOf (ae_Po (some (ae_i rr)) ss) 0 [(0, ae_i v0)] [] s0
  unfold F_X5_rankOf at hF
  refine ae_iload_n 0 dX5_rankOf_0 rfl ?_
  by_cases hb1 : v0 = (6 : Int32)
  · have hF2 := ae_ifT hb1 hF
    refine ae_tabIn 58 dX5_rankOf_1 (by rw [hb1]; decide) (by rw [hb1]; decide) (by rw [hb1]; rfl) rfl ?_
    refine ae_iconst (4 : Int32) dX5_rankOf_58 (by decide) ?_
    obtain ⟨rfl, rfl⟩ := ae_retI hF2
    exact ae_iret dX5_rankOf_59 rfl rfl ⟨rfl, rfl⟩
  · have hF3 := ae_ifF hb1 hF
    by_cases hb4 : v0 = (7 : Int32)
    · have hF5 := ae_ifT hb4 hF3
      refine ae_tabIn 52 dX5_rankOf_1 (by rw [hb4]; decide) (by rw [hb4]; decide) (by rw [hb4]; rfl) rfl ?_
      refine ae_iconst (1 : Int32) dX5_rankOf_52 (by decide) ?_
      obtain ⟨rfl, rfl⟩ := ae_retI hF5
      exact ae_iret dX5_rankOf_53 rfl rfl ⟨rfl, rfl⟩
    · have hF6 := ae_ifF hb4 hF3
      by_cases hb7 : v0 = (8 : Int32)
      · have hF8 := ae_ifT hb7 hF6
        refine ae_tabIn 52 dX5_rankOf_1 (by rw [hb7]; decide) (by rw [hb7]; decide) (by rw [hb7]; rfl) rfl ?_
        refine ae_iconst (1 : Int32) dX5_rankOf_52 (by decide) ?_
        obtain ⟨rfl, rfl⟩ := ae_retI hF8
        exact ae_iret dX5_rankOf_53 rfl rfl ⟨rfl, rfl⟩
      · have hF9 := ae_ifF hb7 hF6
        by_cases hb10 : v0 = (9 : Int32)
        · have hF11 := ae_ifT hb10 hF9
          refine ae_tabIn 52 dX5_rankOf_1 (by rw [hb10]; decide) (by rw [hb10]; decide) (by rw [hb10]; rfl) rfl ?_
          refine ae_iconst (1 : Int32) dX5_rankOf_52 (by decide) ?_
          obtain ⟨rfl, rfl⟩ := ae_retI hF11
          exact ae_iret dX5_rankOf_53 rfl rfl ⟨rfl, rfl⟩
        · have hF12 := ae_ifF hb10 hF9
          by_cases hb13 : v0 = (10 : Int32)
          · have hF14 := ae_ifT hb13 hF12
            refine ae_tabIn 54 dX5_rankOf_1 (by rw [hb13]; decide) (by rw [hb13]; decide) (by rw [hb13]; rfl) rfl ?_
            refine ae_iconst (2 : Int32) dX5_rankOf_54 (by decide) ?_
            obtain ⟨rfl, rfl⟩ := ae_retI hF14
            exact ae_iret dX5_rankOf_55 rfl rfl ⟨rfl, rfl⟩
          · have hF15 := ae_ifF hb13 hF12
            by_cases hb16 : v0 = (11 : Int32)
            · have hF17 := ae_ifT hb16 hF15
              refine ae_tabIn 54 dX5_rankOf_1 (by rw [hb16]; decide) (by rw [hb16]; decide) (by rw [hb16]; rfl) rfl ?_
              refine ae_iconst (2 : Int32) dX5_rankOf_54 (by decide) ?_
              obtain ⟨rfl, rfl⟩ := ae_retI hF17
              exact ae_iret dX5_rankOf_55 rfl rfl ⟨rfl, rfl⟩
            · have hF18 := ae_ifF hb16 hF15
              by_cases hb19 : v0 = (12 : Int32)
              · have hF20 := ae_ifT hb19 hF18
                refine ae_tabIn 56 dX5_rankOf_1 (by rw [hb19]; decide) (by rw [hb19]; decide) (by rw [hb19]; rfl) rfl ?_
                refine ae_iconst (3 : Int32) dX5_rankOf_56 (by decide) ?_
                obtain ⟨rfl, rfl⟩ := ae_retI hF20
                exact ae_iret dX5_rankOf_57 rfl rfl ⟨rfl, rfl⟩
              · have hF21 := ae_ifF hb19 hF18
                by_cases hb22 : v0 = (13 : Int32)
                · have hF23 := ae_ifT hb22 hF21
                  refine ae_tabIn 56 dX5_rankOf_1 (by rw [hb22]; decide) (by rw [hb22]; decide) (by rw [hb22]; rfl) rfl ?_
                  refine ae_iconst (3 : Int32) dX5_rankOf_56 (by decide) ?_
                  obtain ⟨rfl, rfl⟩ := ae_retI hF23
                  exact ae_iret dX5_rankOf_57 rfl rfl ⟨rfl, rfl⟩
                · have hF24 := ae_ifF hb22 hF21
                  by_cases hb25 : v0 = (14 : Int32)
                  · have hF26 := ae_ifT hb25 hF24
                    refine ae_tabIn 56 dX5_rankOf_1 (by rw [hb25]; decide) (by rw [hb25]; decide) (by rw [hb25]; rfl) rfl ?_
                    refine ae_iconst (3 : Int32) dX5_rankOf_56 (by decide) ?_
                    obtain ⟨rfl, rfl⟩ := ae_retI hF26
                    exact ae_iret dX5_rankOf_57 rfl rfl ⟨rfl, rfl⟩
                  · have hF27 := ae_ifF hb25 hF24
                    have hn28 : ¬ (v0).toInt = 6 := lv_neT hb1 (by decide)
                    have hn29 : ¬ (v0).toInt = 7 := lv_neT hb4 (by decide)
                    have hn30 : ¬ (v0).toInt = 8 := lv_neT hb7 (by decide)
                    have hn31 : ¬ (v0).toInt = 9 := lv_neT hb10 (by decide)
                    have hn32 : ¬ (v0).toInt = 10 := lv_neT hb13 (by decide)
                    have hn33 : ¬ (v0).toInt = 11 := lv_neT hb16 (by decide)
                    have hn34 : ¬ (v0).toInt = 12 := lv_neT hb19 (by decide)
                    have hn35 : ¬ (v0).toInt = 13 := lv_neT hb22 (by decide)
                    have hn36 : ¬ (v0).toInt = 14 := lv_neT hb25 (by decide)
                    refine ae_tabOut 60 dX5_rankOf_1 (by omega) rfl ?_
                    refine ae_iconst (0 : Int32) dX5_rankOf_60 (by decide) ?_
                    obtain ⟨rfl, rfl⟩ := ae_retI hF27
                    exact ae_iret dX5_rankOf_61 rfl rfl ⟨rfl, rfl⟩
abbrev mX5_settle : ae_M := (RX5, cX5_settle, 3, none)
theorem vy_X5_settle : ae_VY yX5_settle mX5_settle 1 := ⟨ww_803, wq_31, ww_11, ww_804, ⟨by decide, by decide, by decide +kernel⟩, by decide⟩
theorem dX5_settle_0 : decode cX5_settle 0 = .ok (.aload_n 0, 1) := by decide +kernel
theorem dX5_settle_1 : decode cX5_settle 1 = .ok (.getfield 38, 3) := by decide +kernel
theorem dX5_settle_4 : decode cX5_settle 4 = .ok (.istore_n 2, 1) := by decide +kernel
theorem dX5_settle_5 : decode cX5_settle 5 = .ok (.iload_n 2, 1) := by decide +kernel
theorem dX5_settle_6 : decode cX5_settle 6 = .ok (.ifCond .le 38, 3) := by decide +kernel
theorem dX5_settle_9 : decode cX5_settle 9 = .ok (.aload_n 0, 1) := by decide +kernel
theorem dX5_settle_10 : decode cX5_settle 10 = .ok (.invokevirtual 100, 3) := by decide +kernel
theorem dX5_settle_13 : decode cX5_settle 13 = .ok (.invokestatic 190, 3) := by decide +kernel
theorem dX5_settle_16 : decode cX5_settle 16 = .ok (.iload_n 1, 1) := by decide +kernel
theorem dX5_settle_17 : decode cX5_settle 17 = .ok (.if_icmp .lt 27, 3) := by decide +kernel
theorem dX5_settle_20 : decode cX5_settle 20 = .ok (.aload_n 0, 1) := by decide +kernel
theorem dX5_settle_21 : decode cX5_settle 21 = .ok (.getfield 19, 3) := by decide +kernel
theorem dX5_settle_24 : decode cX5_settle 24 = .ok (.aload_n 0, 1) := by decide +kernel
theorem dX5_settle_25 : decode cX5_settle 25 = .ok (.invokevirtual 100, 3) := by decide +kernel
theorem dX5_settle_28 : decode cX5_settle 28 = .ok (.lconst 0, 1) := by decide +kernel
theorem dX5_settle_29 : decode cX5_settle 29 = .ok (.iconst 0, 1) := by decide +kernel
theorem dX5_settle_30 : decode cX5_settle 30 = .ok (.invokevirtual 67, 3) := by decide +kernel
theorem dX5_settle_33 : decode cX5_settle 33 = .ok (.pop, 1) := by decide +kernel
theorem dX5_settle_34 : decode cX5_settle 34 = .ok (.aload_n 0, 1) := by decide +kernel
theorem dX5_settle_35 : decode cX5_settle 35 = .ok (.invokevirtual 117, 3) := by decide +kernel
theorem dX5_settle_38 : decode cX5_settle 38 = .ok (.iinc 2 (-1), 3) := by decide +kernel
theorem dX5_settle_41 : decode cX5_settle 41 = .ok (.goto (-36), 3) := by decide +kernel
theorem dX5_settle_44 : decode cX5_settle 44 = .ok (.return_, 1) := by decide +kernel
def F_X5_settle_44 (s0 : ae_S) : Option (Unit × ae_S) := some ((), s0)
set_option maxHeartbeats 4000000 in
set_option maxRecDepth 100000 in
theorem t_X5_settle_44 {l : Launch} {G : ae_G} (d : Nat) {rr : Unit} {ss : ae_S} (s0 : ae_S) (hF : F_X5_settle_44 s0 = some (rr, ss)) : ae_T l G (d + 1) mX5_settle (ae_Po none ss) 44 [] [] s0 := by
  unfold F_X5_settle_44 at hF
  obtain ⟨rfl, rfl⟩ := ae_retI hF
  exact ae_vret dX5_settle_44 rfl ⟨rfl, rfl⟩
def F_X5_settle_5 : Nat → Int32 → Int32 → ae_S → Option (Unit × ae_S)
  | 0, _, _, _ => none
  | n + 1, v1, v2, s0 => if v2 ≤ 0 then (F_X5_settle_44 s0) else (ae_bd (F_X5_awaited s0) (fun (r3 : Int32) s4 => ae_bd (F_X5_rankOf r3 s4) (fun (r7 : Int32) s8 => if r7 < v1 then (F_X5_settle_44 s8) else (ae_bd (F_X5_awaited s8) (fun (r13 : Int32) s14 => ae_bd (F_X1_add r13 (0 : Int64) (0 : Int32) s14) (fun (r17 : Int32) s18 => ae_bd (F_X5_drop s18) (fun (r21 : Unit) s22 => ae_lt (v2 + (-1 : Int32)) (fun x25 => F_X5_settle_5 n v1 x25 s22))))))))
set_option maxHeartbeats 4000000 in
set_option maxRecDepth 100000 in
theorem t_X5_settle_5 {l : Launch} {G : ae_G} (d : Nat) {rr : Unit} {ss : ae_S} : ∀ (n : Nat) (v1 : Int32) (v2 : Int32) (s0 : ae_S), F_X5_settle_5 n v1 v2 s0 = some (rr, ss) → ae_T l G (d + 1) mX5_settle (ae_Po none ss) 5 [(0, ae_r (some (19, 0))), (1, ae_i v1), (2, ae_i v2)] [] s0 := by
  intro n
  induction n with
  | zero =>
    intro v1 v2 s0 hF
    exact absurd (show (none : Option (Unit × ae_S)) = some (rr, ss) from hF) (by simp)
  | succ n ih =>
    intro v1 v2 s0 hF
    unfold F_X5_settle_5 at hF
    refine ae_iload_n 2 dX5_settle_5 rfl ?_
    refine ae_if_le 44 dX5_settle_6 rfl (fun hb1 => ?_) (fun hb1 => ?_)
    · have hF2 := ae_ifT hb1 hF
      refine ae_pick (lv' := []) [] rfl ?_
      exact t_X5_settle_44 d s0 hF2
    · have hF2 := ae_ifF hb1 hF
      refine ae_aload_n 0 dX5_settle_9 rfl ?_
      obtain ⟨r3, s4, hc5, hF6⟩ := ae_bdI hF2
      refine ae_cV1 (q := (19, 0)) (As := []) dX5_settle_10 ww_658 vy_X5_awaited rfl rfl rfl rfl rfl (Nat.le_of_ble_eq_true rfl) (c_X5_awaited d hc5) ?_
      obtain ⟨r7, s8, hc9, hF10⟩ := ae_bdI hF6
      refine ae_cS1 (As := [ae_i r3]) dX5_settle_13 ww_798 vy_X5_rankOf rfl rfl (Nat.le_of_ble_eq_true rfl) (c_X5_rankOf d hc9) ?_
      refine ae_iload_n 1 dX5_settle_16 rfl ?_
      refine ae_icmp_lt 44 dX5_settle_17 rfl (fun hb11 => ?_) (fun hb11 => ?_)
      · have hF12 := ae_ifT hb11 hF10
        refine ae_pick (lv' := []) [] rfl ?_
        exact t_X5_settle_44 d s8 hF12
      · have hF12 := ae_ifF hb11 hF10
        refine ae_aload_n 0 dX5_settle_20 rfl ?_
        refine ae_getO (q := (19, 0)) (some (15, 0)) dX5_settle_21 fl_RX5_19 rfl rfl rfl ?_
        refine ae_aload_n 0 dX5_settle_24 rfl ?_
        obtain ⟨r13, s14, hc15, hF16⟩ := ae_bdI hF12
        refine ae_cV1 (q := (19, 0)) (As := []) dX5_settle_25 ww_658 vy_X5_awaited rfl rfl rfl rfl rfl (Nat.le_of_ble_eq_true rfl) (c_X5_awaited d hc15) ?_
        refine ae_lconst (0 : Int64) dX5_settle_28 (by decide) ?_
        refine ae_iconst (0 : Int32) dX5_settle_29 (by decide) ?_
        obtain ⟨r17, s18, hc19, hF20⟩ := ae_bdI hF16
        refine ae_cV1 (q := (15, 0)) (As := [ae_i r13, ae_l (0 : Int64), ae_i (0 : Int32)]) dX5_settle_30 ww_642 vy_X1_add rfl rfl rfl rfl rfl (Nat.le_of_ble_eq_true rfl) (c_X1_add d hc19) ?_
        refine ae_pop dX5_settle_33 rfl ?_
        refine ae_aload_n 0 dX5_settle_34 rfl ?_
        obtain ⟨r21, s22, hc23, hF24⟩ := ae_bdI hF20
        refine ae_cV0 (q := (19, 0)) (As := []) dX5_settle_35 ww_670 vy_X5_drop rfl rfl rfl rfl rfl (Nat.le_of_ble_eq_true rfl) (c_X5_drop d hc23) ?_
        obtain ⟨x25, hx25, hF26⟩ := ae_ltI hF24
        refine ae_iinc (lv' := [(2, ae_i x25), (0, ae_r (some (19, 0))), (1, ae_i v1)]) 2 (-1 : Int32) dX5_settle_38 rfl (by decide) (by decide) (by rw [hx25]; rfl) ?_
        refine ae_goto 5 dX5_settle_41 rfl ?_
        refine ae_pick (lv' := [(0, ae_r (some (19, 0))), (1, ae_i v1), (2, ae_i x25)]) [1, 2, 0] rfl ?_
        exact ih v1 x25 s22 hF26
def F_X5_settle (v1 : Int32) (s0 : ae_S) : Option (Unit × ae_S) := ae_lt (s0.1 19 0 6) (fun x27 => F_X5_settle_5 ae_fu v1 x27 s0)
set_option maxHeartbeats 4000000 in
set_option maxRecDepth 100000 in
theorem c_X5_settle {l : Launch} {G : ae_G} (d : Nat) {v1 : Int32} {s0 ss : ae_S} {rr : Unit} (hF : F_X5_settle v1 s0 = some (rr, ss)) : ae_Met l G (d + 1) yX5_settle mX5_settle [ae_r (some (19, 0)), ae_i v1] s0 (ae_Po none ss) := by
  refine ae_enter (by decide) rfl (Nat.le_of_ble_eq_true rfl) ?_
  show ae_T l G (d + 1) mX5_settle (ae_Po none ss) 0 [(0, ae_r (some (19, 0))), (1, ae_i v1)] [] s0
  unfold F_X5_settle at hF
  refine ae_aload_n 0 dX5_settle_0 rfl ?_
  refine ae_getI (q := (19, 0)) dX5_settle_1 fl_RX5_38 rfl rfl ?_
  obtain ⟨x27, hx27, hF28⟩ := ae_ltI hF
  refine ae_nmI hx27 ?_
  refine ae_istore_n (lv' := [(2, ae_i x27), (0, ae_r (some (19, 0))), (1, ae_i v1)]) dX5_settle_4 (by decide) rfl ?_
  refine ae_pick (lv' := [(0, ae_r (some (19, 0))), (1, ae_i v1), (2, ae_i x27)]) [1, 2, 0] rfl ?_
  exact t_X5_settle_5 d ae_fu v1 x27 s0 hF28
abbrev mX5_takeFieldName : ae_M := (RX5, cX5_takeFieldName, 4, some .int)
theorem vy_X5_takeFieldName : ae_VY yX5_takeFieldName mX5_takeFieldName 1 := ⟨ww_705, wq_24, ww_11, ww_706, ⟨by decide, by decide, by decide +kernel⟩, by decide⟩
theorem dX5_takeFieldName_0 : decode cX5_takeFieldName 0 = .ok (.aload_n 0, 1) := by decide +kernel
theorem dX5_takeFieldName_1 : decode cX5_takeFieldName 1 = .ok (.getfield 9, 3) := by decide +kernel
theorem dX5_takeFieldName_4 : decode cX5_takeFieldName 4 = .ok (.bipush 46, 2) := by decide +kernel
theorem dX5_takeFieldName_6 : decode cX5_takeFieldName 6 = .ok (.invokevirtual 93, 3) := by decide +kernel
theorem dX5_takeFieldName_9 : decode cX5_takeFieldName 9 = .ok (.ifCond .ne 5, 3) := by decide +kernel
theorem dX5_takeFieldName_12 : decode cX5_takeFieldName 12 = .ok (.iconst (-1), 1) := by decide +kernel
theorem dX5_takeFieldName_13 : decode cX5_takeFieldName 13 = .ok (.ireturn, 1) := by decide +kernel
theorem dX5_takeFieldName_14 : decode cX5_takeFieldName 14 = .ok (.aload_n 0, 1) := by decide +kernel
theorem dX5_takeFieldName_15 : decode cX5_takeFieldName 15 = .ok (.getfield 9, 3) := by decide +kernel
theorem dX5_takeFieldName_18 : decode cX5_takeFieldName 18 = .ok (.invokevirtual 77, 3) := by decide +kernel
theorem dX5_takeFieldName_21 : decode cX5_takeFieldName 21 = .ok (.aload_n 0, 1) := by decide +kernel
theorem dX5_takeFieldName_22 : decode cX5_takeFieldName 22 = .ok (.getfield 9, 3) := by decide +kernel
theorem dX5_takeFieldName_25 : decode cX5_takeFieldName 25 = .ok (.invokevirtual 160, 3) := by decide +kernel
theorem dX5_takeFieldName_28 : decode cX5_takeFieldName 28 = .ok (.ifCond .ne 15, 3) := by decide +kernel
theorem dX5_takeFieldName_31 : decode cX5_takeFieldName 31 = .ok (.aload_n 0, 1) := by decide +kernel
theorem dX5_takeFieldName_32 : decode cX5_takeFieldName 32 = .ok (.getfield 9, 3) := by decide +kernel
theorem dX5_takeFieldName_35 : decode cX5_takeFieldName 35 = .ok (.iconst 1, 1) := by decide +kernel
theorem dX5_takeFieldName_36 : decode cX5_takeFieldName 36 = .ok (.invokevirtual 63, 3) := by decide +kernel
theorem dX5_takeFieldName_39 : decode cX5_takeFieldName 39 = .ok (.pop, 1) := by decide +kernel
theorem dX5_takeFieldName_40 : decode cX5_takeFieldName 40 = .ok (.bipush (-2), 2) := by decide +kernel
theorem dX5_takeFieldName_42 : decode cX5_takeFieldName 42 = .ok (.ireturn, 1) := by decide +kernel
theorem dX5_takeFieldName_43 : decode cX5_takeFieldName 43 = .ok (.aload_n 0, 1) := by decide +kernel
theorem dX5_takeFieldName_44 : decode cX5_takeFieldName 44 = .ok (.getfield 15, 3) := by decide +kernel
theorem dX5_takeFieldName_47 : decode cX5_takeFieldName 47 = .ok (.iload_n 1, 1) := by decide +kernel
theorem dX5_takeFieldName_48 : decode cX5_takeFieldName 48 = .ok (.invokevirtual 169, 3) := by decide +kernel
theorem dX5_takeFieldName_51 : decode cX5_takeFieldName 51 = .ok (.astore_n 2, 1) := by decide +kernel
theorem dX5_takeFieldName_52 : decode cX5_takeFieldName 52 = .ok (.aload_n 2, 1) := by decide +kernel
theorem dX5_takeFieldName_53 : decode cX5_takeFieldName 53 = .ok (.ifnonnull 7, 3) := by decide +kernel
theorem dX5_takeFieldName_56 : decode cX5_takeFieldName 56 = .ok (.iconst (-1), 1) := by decide +kernel
theorem dX5_takeFieldName_57 : decode cX5_takeFieldName 57 = .ok (.goto 14, 3) := by decide +kernel
theorem dX5_takeFieldName_60 : decode cX5_takeFieldName 60 = .ok (.aload_n 2, 1) := by decide +kernel
theorem dX5_takeFieldName_61 : decode cX5_takeFieldName 61 = .ok (.aload_n 0, 1) := by decide +kernel
theorem dX5_takeFieldName_62 : decode cX5_takeFieldName 62 = .ok (.getfield 9, 3) := by decide +kernel
theorem dX5_takeFieldName_65 : decode cX5_takeFieldName 65 = .ok (.invokevirtual 139, 3) := by decide +kernel
theorem dX5_takeFieldName_68 : decode cX5_takeFieldName 68 = .ok (.invokevirtual 173, 3) := by decide +kernel
theorem dX5_takeFieldName_71 : decode cX5_takeFieldName 71 = .ok (.istore_n 3, 1) := by decide +kernel
theorem dX5_takeFieldName_72 : decode cX5_takeFieldName 72 = .ok (.iload_n 3, 1) := by decide +kernel
theorem dX5_takeFieldName_73 : decode cX5_takeFieldName 73 = .ok (.iconst (-1), 1) := by decide +kernel
theorem dX5_takeFieldName_74 : decode cX5_takeFieldName 74 = .ok (.if_icmp .ne 15, 3) := by decide +kernel
theorem dX5_takeFieldName_77 : decode cX5_takeFieldName 77 = .ok (.aload_n 0, 1) := by decide +kernel
theorem dX5_takeFieldName_78 : decode cX5_takeFieldName 78 = .ok (.getfield 9, 3) := by decide +kernel
theorem dX5_takeFieldName_81 : decode cX5_takeFieldName 81 = .ok (.iconst 2, 1) := by decide +kernel
theorem dX5_takeFieldName_82 : decode cX5_takeFieldName 82 = .ok (.invokevirtual 63, 3) := by decide +kernel
theorem dX5_takeFieldName_85 : decode cX5_takeFieldName 85 = .ok (.pop, 1) := by decide +kernel
theorem dX5_takeFieldName_86 : decode cX5_takeFieldName 86 = .ok (.bipush (-2), 2) := by decide +kernel
theorem dX5_takeFieldName_88 : decode cX5_takeFieldName 88 = .ok (.ireturn, 1) := by decide +kernel
theorem dX5_takeFieldName_89 : decode cX5_takeFieldName 89 = .ok (.aload_n 0, 1) := by decide +kernel
theorem dX5_takeFieldName_90 : decode cX5_takeFieldName 90 = .ok (.getfield 9, 3) := by decide +kernel
theorem dX5_takeFieldName_93 : decode cX5_takeFieldName 93 = .ok (.invokevirtual 77, 3) := by decide +kernel
theorem dX5_takeFieldName_96 : decode cX5_takeFieldName 96 = .ok (.iload_n 3, 1) := by decide +kernel
theorem dX5_takeFieldName_97 : decode cX5_takeFieldName 97 = .ok (.ireturn, 1) := by decide +kernel
def F_X5_takeFieldName_71 (t0 : Int32) (s0 : ae_S) : Option (Int32 × ae_S) := if t0 = (-1 : Int32) then (ae_bd (F_X8_refuse (2 : Int32) s0) (fun (r7 : Int32) s8 => some ((-2 : Int32), s8))) else (ae_bd (F_X8_advance s0) (fun (r3 : Unit) s4 => some (t0, s4)))
set_option maxHeartbeats 4000000 in
set_option maxRecDepth 100000 in
theorem t_X5_takeFieldName_71 {l : Launch} {G : ae_G} (d : Nat) {rr : Int32} {ss : ae_S} (t0 : Int32) (s0 : ae_S) (hF : F_X5_takeFieldName_71 t0 s0 = some (rr, ss)) : ae_T l G (d + 2) mX5_takeFieldName (ae_Po (some (ae_i rr)) ss) 71 [(0, ae_r (some (19, 0)))] [ae_i t0] s0 := by
  unfold F_X5_takeFieldName_71 at hF
  refine ae_istore_n (lv' := [(3, ae_i t0), (0, ae_r (some (19, 0)))]) dX5_takeFieldName_71 (by decide) rfl ?_
  refine ae_iload_n 0 dX5_takeFieldName_72 rfl ?_
  refine ae_iconst (-1 : Int32) dX5_takeFieldName_73 (by decide) ?_
  refine ae_icmp_ne 89 dX5_takeFieldName_74 rfl (fun hb1 => ?_) (fun hb1 => ?_)
  · have hF2 := ae_ifF hb1 hF
    refine ae_aload_n 1 dX5_takeFieldName_89 rfl ?_
    refine ae_getO (q := (19, 0)) (some (12, 0)) dX5_takeFieldName_90 fl_RX5_9 rfl rfl rfl ?_
    obtain ⟨r3, s4, hc5, hF6⟩ := ae_bdI hF2
    refine ae_cV0 (q := (12, 0)) (As := []) dX5_takeFieldName_93 ww_648 vy_X8_advance rfl rfl rfl rfl rfl (Nat.le_of_ble_eq_true rfl) (c_X8_advance (d + 1) hc5) ?_
    refine ae_iload_n 0 dX5_takeFieldName_96 rfl ?_
    obtain ⟨rfl, rfl⟩ := ae_retI hF6
    exact ae_iret dX5_takeFieldName_97 rfl rfl ⟨rfl, rfl⟩
  · have hF2 := ae_ifT hb1 hF
    refine ae_aload_n 1 dX5_takeFieldName_77 rfl ?_
    refine ae_getO (q := (19, 0)) (some (12, 0)) dX5_takeFieldName_78 fl_RX5_9 rfl rfl rfl ?_
    refine ae_iconst (2 : Int32) dX5_takeFieldName_81 (by decide) ?_
    obtain ⟨r7, s8, hc9, hF10⟩ := ae_bdI hF2
    refine ae_cV1 (q := (12, 0)) (As := [ae_i (2 : Int32)]) dX5_takeFieldName_82 ww_680 vy_X8_refuse rfl rfl rfl rfl rfl (Nat.le_of_ble_eq_true rfl) (c_X8_refuse (d + 1) hc9) ?_
    refine ae_pop dX5_takeFieldName_85 rfl ?_
    refine ae_bipush (-2 : Int32) dX5_takeFieldName_86 (by decide) ?_
    obtain ⟨rfl, rfl⟩ := ae_retI hF10
    exact ae_iret dX5_takeFieldName_88 rfl rfl ⟨rfl, rfl⟩
def F_X5_takeFieldName (v1 : Int32) (s0 : ae_S) : Option (Int32 × ae_S) := ae_bd (F_X8_isSign (46 : Int32) s0) (fun (r11 : Int32) s12 => if r11 = 0 then (some ((-1 : Int32), s12)) else (ae_bd (F_X8_advance s12) (fun (r17 : Unit) s18 => ae_bd (F_X8_isName s18) (fun (r21 : Int32) s22 => if r21 = 0 then (ae_bd (F_X8_refuse (1 : Int32) s22) (fun (r41 : Int32) s42 => some ((-2 : Int32), s42))) else (ae_bd (F_X6_get v1 s22) (fun (r27 : Option (Fin 32)) s28 => ae_mo r27 (F_X5_takeFieldName_71 (-1 : Int32) s28) (fun i31 => ae_bd (F_X8_value s28) (fun (r33 : Int64) s34 => ae_bd (F_X9_fieldNumberOf i31 r33 s34) (fun (r37 : Int32) s38 => F_X5_takeFieldName_71 r37 s38)))))))))
set_option maxHeartbeats 4000000 in
set_option maxRecDepth 100000 in
theorem c_X5_takeFieldName {l : Launch} {G : ae_G} (d : Nat) {v1 : Int32} {s0 ss : ae_S} {rr : Int32} (hF : F_X5_takeFieldName v1 s0 = some (rr, ss)) : ae_Met l G (d + 2) yX5_takeFieldName mX5_takeFieldName [ae_r (some (19, 0)), ae_i v1] s0 (ae_Po (some (ae_i rr)) ss) := by
  refine ae_enter (by decide) rfl (Nat.le_of_ble_eq_true rfl) ?_
  show ae_T l G (d + 2) mX5_takeFieldName (ae_Po (some (ae_i rr)) ss) 0 [(0, ae_r (some (19, 0))), (1, ae_i v1)] [] s0
  unfold F_X5_takeFieldName at hF
  refine ae_aload_n 0 dX5_takeFieldName_0 rfl ?_
  refine ae_getO (q := (19, 0)) (some (12, 0)) dX5_takeFieldName_1 fl_RX5_9 rfl rfl rfl ?_
  refine ae_bipush (46 : Int32) dX5_takeFieldName_4 (by decide) ?_
  obtain ⟨r11, s12, hc13, hF14⟩ := ae_bdI hF
  refine ae_cV1 (q := (12, 0)) (As := [ae_i (46 : Int32)]) dX5_takeFieldName_6 ww_675 vy_X8_isSign rfl rfl rfl rfl rfl (Nat.le_of_ble_eq_true rfl) (c_X8_isSign (d + 1) hc13) ?_
  refine ae_if_ne 14 dX5_takeFieldName_9 rfl (fun hb15 => ?_) (fun hb15 => ?_)
  · have hF16 := ae_ifF hb15 hF14
    refine ae_aload_n 0 dX5_takeFieldName_14 rfl ?_
    refine ae_getO (q := (19, 0)) (some (12, 0)) dX5_takeFieldName_15 fl_RX5_9 rfl rfl rfl ?_
    obtain ⟨r17, s18, hc19, hF20⟩ := ae_bdI hF16
    refine ae_cV0 (q := (12, 0)) (As := []) dX5_takeFieldName_18 ww_648 vy_X8_advance rfl rfl rfl rfl rfl (Nat.le_of_ble_eq_true rfl) (c_X8_advance (d + 1) hc19) ?_
    refine ae_aload_n 0 dX5_takeFieldName_21 rfl ?_
    refine ae_getO (q := (19, 0)) (some (12, 0)) dX5_takeFieldName_22 fl_RX5_9 rfl rfl rfl ?_
    obtain ⟨r21, s22, hc23, hF24⟩ := ae_bdI hF20
    refine ae_cV1 (q := (12, 0)) (As := []) dX5_takeFieldName_25 ww_693 vy_X8_isName rfl rfl rfl rfl rfl (Nat.le_of_ble_eq_true rfl) (c_X8_isName d hc23) ?_
    refine ae_if_ne 43 dX5_takeFieldName_28 rfl (fun hb25 => ?_) (fun hb25 => ?_)
    · have hF26 := ae_ifF hb25 hF24
      refine ae_aload_n 0 dX5_takeFieldName_43 rfl ?_
      refine ae_getO (q := (19, 0)) (some (6, 0)) dX5_takeFieldName_44 fl_RX5_15 rfl rfl rfl ?_
      refine ae_iload_n 1 dX5_takeFieldName_47 rfl ?_
      obtain ⟨r27, s28, hc29, hF30⟩ := ae_bdI hF26
      refine ae_cV1 (q := (6, 0)) (As := [ae_i v1]) dX5_takeFieldName_48 ww_707 vy_X6_get rfl rfl rfl rfl rfl (Nat.le_of_ble_eq_true rfl) (c_X6_get (d + 1) hc29) ?_
      refine ae_astore_n (lv' := [(2, ae_r (ae_ro 8 r27)), (0, ae_r (some (19, 0))), (1, ae_i v1)]) dX5_takeFieldName_51 (by decide) rfl ?_
      refine ae_aload_n 0 dX5_takeFieldName_52 rfl ?_
      cases r27 with
      | none =>
        have hF32 := ae_moN hF30
        refine ae_ifnonnull 60 dX5_takeFieldName_53 rfl (fun h => absurd rfl h) (fun _ => ?_)
        refine ae_iconst (-1 : Int32) dX5_takeFieldName_56 (by decide) ?_
        refine ae_goto 71 dX5_takeFieldName_57 rfl ?_
        refine ae_pick (lv' := [(0, ae_r (some (19, 0)))]) [1] rfl ?_
        exact t_X5_takeFieldName_71 d (-1 : Int32) s28 hF32
      | some i31 =>
        have hF32 := ae_moS hF30
        refine ae_ifnonnull 60 dX5_takeFieldName_53 rfl (fun _ => ?_) (fun h => absurd h (by simp [ae_ro]))
        refine ae_aload_n 0 dX5_takeFieldName_60 rfl ?_
        refine ae_aload_n 1 dX5_takeFieldName_61 rfl ?_
        refine ae_getO (q := (19, 0)) (some (12, 0)) dX5_takeFieldName_62 fl_RX5_9 rfl rfl rfl ?_
        obtain ⟨r33, s34, hc35, hF36⟩ := ae_bdI hF32
        refine ae_cV1 (q := (12, 0)) (As := []) dX5_takeFieldName_65 ww_694 vy_X8_value rfl rfl rfl rfl rfl (Nat.le_of_ble_eq_true rfl) (c_X8_value (d + 1) hc35) ?_
        obtain ⟨r37, s38, hc39, hF40⟩ := ae_bdI hF36
        refine ae_cV1 (q := (8, i31)) (As := [ae_l r33]) dX5_takeFieldName_68 ww_711 vy_X9_fieldNumberOf rfl rfl rfl rfl rfl (Nat.le_of_ble_eq_true rfl) (c_X9_fieldNumberOf (d + 1) hc39) ?_
        refine ae_pick (lv' := [(0, ae_r (some (19, 0)))]) [1] rfl ?_
        exact t_X5_takeFieldName_71 d r37 s38 hF40
    · have hF26 := ae_ifT hb25 hF24
      refine ae_aload_n 0 dX5_takeFieldName_31 rfl ?_
      refine ae_getO (q := (19, 0)) (some (12, 0)) dX5_takeFieldName_32 fl_RX5_9 rfl rfl rfl ?_
      refine ae_iconst (1 : Int32) dX5_takeFieldName_35 (by decide) ?_
      obtain ⟨r41, s42, hc43, hF44⟩ := ae_bdI hF26
      refine ae_cV1 (q := (12, 0)) (As := [ae_i (1 : Int32)]) dX5_takeFieldName_36 ww_680 vy_X8_refuse rfl rfl rfl rfl rfl (Nat.le_of_ble_eq_true rfl) (c_X8_refuse (d + 1) hc43) ?_
      refine ae_pop dX5_takeFieldName_39 rfl ?_
      refine ae_bipush (-2 : Int32) dX5_takeFieldName_40 (by decide) ?_
      obtain ⟨rfl, rfl⟩ := ae_retI hF44
      exact ae_iret dX5_takeFieldName_42 rfl rfl ⟨rfl, rfl⟩
  · have hF16 := ae_ifT hb15 hF14
    refine ae_iconst (-1 : Int32) dX5_takeFieldName_12 (by decide) ?_
    obtain ⟨rfl, rfl⟩ := ae_retI hF16
    exact ae_iret dX5_takeFieldName_13 rfl rfl ⟨rfl, rfl⟩
abbrev mX5_takeEquals : ae_M := (RX5, cX5_takeEquals, 3, some .boolean)
theorem vy_X5_takeEquals : ae_VY yX5_takeEquals mX5_takeEquals 1 := ⟨ww_701, wq_23, ww_11, ww_702, ⟨by decide, by decide, by decide +kernel⟩, by decide⟩
theorem dX5_takeEquals_0 : decode cX5_takeEquals 0 = .ok (.aload_n 0, 1) := by decide +kernel
theorem dX5_takeEquals_1 : decode cX5_takeEquals 1 = .ok (.iload_n 1, 1) := by decide +kernel
theorem dX5_takeEquals_2 : decode cX5_takeEquals 2 = .ok (.invokevirtual 126, 3) := by decide +kernel
theorem dX5_takeEquals_5 : decode cX5_takeEquals 5 = .ok (.istore_n 2, 1) := by decide +kernel
theorem dX5_takeEquals_6 : decode cX5_takeEquals 6 = .ok (.iload_n 2, 1) := by decide +kernel
theorem dX5_takeEquals_7 : decode cX5_takeEquals 7 = .ok (.bipush (-2), 2) := by decide +kernel
theorem dX5_takeEquals_9 : decode cX5_takeEquals 9 = .ok (.if_icmp .eq 15, 3) := by decide +kernel
theorem dX5_takeEquals_12 : decode cX5_takeEquals 12 = .ok (.aload_n 0, 1) := by decide +kernel
theorem dX5_takeEquals_13 : decode cX5_takeEquals 13 = .ok (.getfield 9, 3) := by decide +kernel
theorem dX5_takeEquals_16 : decode cX5_takeEquals 16 = .ok (.bipush 61, 2) := by decide +kernel
theorem dX5_takeEquals_18 : decode cX5_takeEquals 18 = .ok (.invokevirtual 89, 3) := by decide +kernel
theorem dX5_takeEquals_21 : decode cX5_takeEquals 21 = .ok (.ifCond .ne 5, 3) := by decide +kernel
theorem dX5_takeEquals_24 : decode cX5_takeEquals 24 = .ok (.iconst 0, 1) := by decide +kernel
theorem dX5_takeEquals_25 : decode cX5_takeEquals 25 = .ok (.ireturn, 1) := by decide +kernel
theorem dX5_takeEquals_26 : decode cX5_takeEquals 26 = .ok (.aload_n 0, 1) := by decide +kernel
theorem dX5_takeEquals_27 : decode cX5_takeEquals 27 = .ok (.bipush 105, 2) := by decide +kernel
theorem dX5_takeEquals_29 : decode cX5_takeEquals 29 = .ok (.iload_n 1, 1) := by decide +kernel
theorem dX5_takeEquals_30 : decode cX5_takeEquals 30 = .ok (.iload_n 2, 1) := by decide +kernel
theorem dX5_takeEquals_31 : decode cX5_takeEquals 31 = .ok (.invokevirtual 80, 3) := by decide +kernel
theorem dX5_takeEquals_34 : decode cX5_takeEquals 34 = .ok (.aload_n 0, 1) := by decide +kernel
theorem dX5_takeEquals_35 : decode cX5_takeEquals 35 = .ok (.iconst 1, 1) := by decide +kernel
theorem dX5_takeEquals_36 : decode cX5_takeEquals 36 = .ok (.putfield 45, 3) := by decide +kernel
theorem dX5_takeEquals_39 : decode cX5_takeEquals 39 = .ok (.iconst 1, 1) := by decide +kernel
theorem dX5_takeEquals_40 : decode cX5_takeEquals 40 = .ok (.ireturn, 1) := by decide +kernel
def F_X5_takeEquals_24 (s0 : ae_S) : Option (Int32 × ae_S) := some ((0 : Int32), s0)
set_option maxHeartbeats 4000000 in
set_option maxRecDepth 100000 in
theorem t_X5_takeEquals_24 {l : Launch} {G : ae_G} (d : Nat) {rr : Int32} {ss : ae_S} (s0 : ae_S) (hF : F_X5_takeEquals_24 s0 = some (rr, ss)) : ae_T l G (d + 3) mX5_takeEquals (ae_Po (some (ae_i rr)) ss) 24 [] [] s0 := by
  unfold F_X5_takeEquals_24 at hF
  refine ae_iconst (0 : Int32) dX5_takeEquals_24 (by decide) ?_
  obtain ⟨rfl, rfl⟩ := ae_retI hF
  exact ae_iret dX5_takeEquals_25 rfl (by decide) ⟨rfl, rfl⟩
def F_X5_takeEquals (v1 : Int32) (s0 : ae_S) : Option (Int32 × ae_S) := ae_bd (F_X5_takeFieldName v1 s0) (fun (r1 : Int32) s2 => if r1 = (-2 : Int32) then (F_X5_takeEquals_24 s2) else (ae_bd (F_X8_takeSign (61 : Int32) s2) (fun (r7 : Int32) s8 => if r7 = 0 then (F_X5_takeEquals_24 s8) else (ae_bd (F_X5_await (105 : Int32) v1 r1 s8) (fun (r13 : Unit) s14 => ae_lt (ae_wI s14 19 0 8 (1 : Int32)) (fun s17 => some ((1 : Int32), s17)))))))
set_option maxHeartbeats 4000000 in
set_option maxRecDepth 100000 in
theorem c_X5_takeEquals {l : Launch} {G : ae_G} (d : Nat) {v1 : Int32} {s0 ss : ae_S} {rr : Int32} (hF : F_X5_takeEquals v1 s0 = some (rr, ss)) : ae_Met l G (d + 3) yX5_takeEquals mX5_takeEquals [ae_r (some (19, 0)), ae_i v1] s0 (ae_Po (some (ae_i rr)) ss) := by
  refine ae_enter (by decide) rfl (Nat.le_of_ble_eq_true rfl) ?_
  show ae_T l G (d + 3) mX5_takeEquals (ae_Po (some (ae_i rr)) ss) 0 [(0, ae_r (some (19, 0))), (1, ae_i v1)] [] s0
  unfold F_X5_takeEquals at hF
  refine ae_aload_n 0 dX5_takeEquals_0 rfl ?_
  refine ae_iload_n 1 dX5_takeEquals_1 rfl ?_
  obtain ⟨r1, s2, hc3, hF4⟩ := ae_bdI hF
  refine ae_cV1 (q := (19, 0)) (As := [ae_i v1]) dX5_takeEquals_2 ww_703 vy_X5_takeFieldName rfl rfl rfl rfl rfl (Nat.le_of_ble_eq_true rfl) (c_X5_takeFieldName d hc3) ?_
  refine ae_istore_n (lv' := [(2, ae_i r1), (0, ae_r (some (19, 0))), (1, ae_i v1)]) dX5_takeEquals_5 (by decide) rfl ?_
  refine ae_iload_n 0 dX5_takeEquals_6 rfl ?_
  refine ae_bipush (-2 : Int32) dX5_takeEquals_7 (by decide) ?_
  refine ae_icmp_eq 24 dX5_takeEquals_9 rfl (fun hb5 => ?_) (fun hb5 => ?_)
  · have hF6 := ae_ifT hb5 hF4
    refine ae_pick (lv' := []) [] rfl ?_
    exact t_X5_takeEquals_24 d s2 hF6
  · have hF6 := ae_ifF hb5 hF4
    refine ae_aload_n 1 dX5_takeEquals_12 rfl ?_
    refine ae_getO (q := (19, 0)) (some (12, 0)) dX5_takeEquals_13 fl_RX5_9 rfl rfl rfl ?_
    refine ae_bipush (61 : Int32) dX5_takeEquals_16 (by decide) ?_
    obtain ⟨r7, s8, hc9, hF10⟩ := ae_bdI hF6
    refine ae_cV1 (q := (12, 0)) (As := [ae_i (61 : Int32)]) dX5_takeEquals_18 ww_674 vy_X8_takeSign rfl rfl rfl rfl rfl (Nat.le_of_ble_eq_true rfl) (c_X8_takeSign (d + 1) hc9) ?_
    refine ae_if_ne 26 dX5_takeEquals_21 rfl (fun hb11 => ?_) (fun hb11 => ?_)
    · have hF12 := ae_ifF hb11 hF10
      refine ae_aload_n 1 dX5_takeEquals_26 rfl ?_
      refine ae_bipush (105 : Int32) dX5_takeEquals_27 (by decide) ?_
      refine ae_iload_n 2 dX5_takeEquals_29 rfl ?_
      refine ae_iload_n 0 dX5_takeEquals_30 rfl ?_
      obtain ⟨r13, s14, hc15, hF16⟩ := ae_bdI hF12
      refine ae_cV0 (q := (19, 0)) (As := [ae_i (105 : Int32), ae_i v1, ae_i r1]) dX5_takeEquals_31 ww_649 vy_X5_await rfl rfl rfl rfl rfl (Nat.le_of_ble_eq_true rfl) (c_X5_await (d + 2) hc15) ?_
      refine ae_aload_n 1 dX5_takeEquals_34 rfl ?_
      refine ae_iconst (1 : Int32) dX5_takeEquals_35 (by decide) ?_
      obtain ⟨s17, hs17, hF18⟩ := ae_ltI hF16
      refine ae_putI (q := (19, 0)) dX5_takeEquals_36 fl_RX5_45 rfl rfl (ae_nmS hs17 ?_)
      refine ae_iconst (1 : Int32) dX5_takeEquals_39 (by decide) ?_
      obtain ⟨rfl, rfl⟩ := ae_retI hF18
      exact ae_iret dX5_takeEquals_40 rfl (by decide) ⟨rfl, rfl⟩
    · have hF12 := ae_ifT hb11 hF10
      refine ae_pick (lv' := []) [] rfl ?_
      exact t_X5_takeEquals_24 d s8 hF12
abbrev mX5_takeLoad : ae_M := (RX5, cX5_takeLoad, 3, some .boolean)
theorem vy_X5_takeLoad : ae_VY yX5_takeLoad mX5_takeLoad 1 := ⟨ww_784, wq_27, ww_11, ww_785, ⟨by decide, by decide, by decide +kernel⟩, by decide⟩
theorem dX5_takeLoad_0 : decode cX5_takeLoad 0 = .ok (.aload_n 0, 1) := by decide +kernel
theorem dX5_takeLoad_1 : decode cX5_takeLoad 1 = .ok (.iload_n 1, 1) := by decide +kernel
theorem dX5_takeLoad_2 : decode cX5_takeLoad 2 = .ok (.invokevirtual 126, 3) := by decide +kernel
theorem dX5_takeLoad_5 : decode cX5_takeLoad 5 = .ok (.istore_n 2, 1) := by decide +kernel
theorem dX5_takeLoad_6 : decode cX5_takeLoad 6 = .ok (.iload_n 2, 1) := by decide +kernel
theorem dX5_takeLoad_7 : decode cX5_takeLoad 7 = .ok (.bipush (-2), 2) := by decide +kernel
theorem dX5_takeLoad_9 : decode cX5_takeLoad 9 = .ok (.if_icmp .ne 5, 3) := by decide +kernel
theorem dX5_takeLoad_12 : decode cX5_takeLoad 12 = .ok (.iconst 0, 1) := by decide +kernel
theorem dX5_takeLoad_13 : decode cX5_takeLoad 13 = .ok (.ireturn, 1) := by decide +kernel
theorem dX5_takeLoad_14 : decode cX5_takeLoad 14 = .ok (.aload_n 0, 1) := by decide +kernel
theorem dX5_takeLoad_15 : decode cX5_takeLoad 15 = .ok (.getfield 19, 3) := by decide +kernel
theorem dX5_takeLoad_18 : decode cX5_takeLoad 18 = .ok (.iconst 4, 1) := by decide +kernel
theorem dX5_takeLoad_19 : decode cX5_takeLoad 19 = .ok (.iload_n 1, 1) := by decide +kernel
theorem dX5_takeLoad_20 : decode cX5_takeLoad 20 = .ok (.i2l, 1) := by decide +kernel
theorem dX5_takeLoad_21 : decode cX5_takeLoad 21 = .ok (.iload_n 2, 1) := by decide +kernel
theorem dX5_takeLoad_22 : decode cX5_takeLoad 22 = .ok (.invokevirtual 67, 3) := by decide +kernel
theorem dX5_takeLoad_25 : decode cX5_takeLoad 25 = .ok (.pop, 1) := by decide +kernel
theorem dX5_takeLoad_26 : decode cX5_takeLoad 26 = .ok (.aload_n 0, 1) := by decide +kernel
theorem dX5_takeLoad_27 : decode cX5_takeLoad 27 = .ok (.iconst 2, 1) := by decide +kernel
theorem dX5_takeLoad_28 : decode cX5_takeLoad 28 = .ok (.putfield 45, 3) := by decide +kernel
theorem dX5_takeLoad_31 : decode cX5_takeLoad 31 = .ok (.iconst 1, 1) := by decide +kernel
theorem dX5_takeLoad_32 : decode cX5_takeLoad 32 = .ok (.ireturn, 1) := by decide +kernel
def F_X5_takeLoad (v1 : Int32) (s0 : ae_S) : Option (Int32 × ae_S) := ae_bd (F_X5_takeFieldName v1 s0) (fun (r1 : Int32) s2 => if r1 = (-2 : Int32) then (some ((0 : Int32), s2)) else (ae_bd (F_X1_add (4 : Int32) v1.toInt64 r1 s2) (fun (r7 : Int32) s8 => ae_lt (ae_wI s8 19 0 8 (2 : Int32)) (fun s11 => some ((1 : Int32), s11)))))
set_option maxHeartbeats 4000000 in
set_option maxRecDepth 100000 in
theorem c_X5_takeLoad {l : Launch} {G : ae_G} (d : Nat) {v1 : Int32} {s0 ss : ae_S} {rr : Int32} (hF : F_X5_takeLoad v1 s0 = some (rr, ss)) : ae_Met l G (d + 3) yX5_takeLoad mX5_takeLoad [ae_r (some (19, 0)), ae_i v1] s0 (ae_Po (some (ae_i rr)) ss) := by
  refine ae_enter (by decide) rfl (Nat.le_of_ble_eq_true rfl) ?_
  show ae_T l G (d + 3) mX5_takeLoad (ae_Po (some (ae_i rr)) ss) 0 [(0, ae_r (some (19, 0))), (1, ae_i v1)] [] s0
  unfold F_X5_takeLoad at hF
  refine ae_aload_n 0 dX5_takeLoad_0 rfl ?_
  refine ae_iload_n 1 dX5_takeLoad_1 rfl ?_
  obtain ⟨r1, s2, hc3, hF4⟩ := ae_bdI hF
  refine ae_cV1 (q := (19, 0)) (As := [ae_i v1]) dX5_takeLoad_2 ww_703 vy_X5_takeFieldName rfl rfl rfl rfl rfl (Nat.le_of_ble_eq_true rfl) (c_X5_takeFieldName d hc3) ?_
  refine ae_istore_n (lv' := [(2, ae_i r1), (0, ae_r (some (19, 0))), (1, ae_i v1)]) dX5_takeLoad_5 (by decide) rfl ?_
  refine ae_iload_n 0 dX5_takeLoad_6 rfl ?_
  refine ae_bipush (-2 : Int32) dX5_takeLoad_7 (by decide) ?_
  refine ae_icmp_ne 14 dX5_takeLoad_9 rfl (fun hb5 => ?_) (fun hb5 => ?_)
  · have hF6 := ae_ifF hb5 hF4
    refine ae_aload_n 1 dX5_takeLoad_14 rfl ?_
    refine ae_getO (q := (19, 0)) (some (15, 0)) dX5_takeLoad_15 fl_RX5_19 rfl rfl rfl ?_
    refine ae_iconst (4 : Int32) dX5_takeLoad_18 (by decide) ?_
    refine ae_iload_n 2 dX5_takeLoad_19 rfl ?_
    refine ae_i2l dX5_takeLoad_20 ?_
    refine ae_iload_n 0 dX5_takeLoad_21 rfl ?_
    obtain ⟨r7, s8, hc9, hF10⟩ := ae_bdI hF6
    refine ae_cV1 (q := (15, 0)) (As := [ae_i (4 : Int32), ae_l v1.toInt64, ae_i r1]) dX5_takeLoad_22 ww_642 vy_X1_add rfl rfl rfl rfl rfl (Nat.le_of_ble_eq_true rfl) (c_X1_add (d + 2) hc9) ?_
    refine ae_pop dX5_takeLoad_25 rfl ?_
    refine ae_aload_n 1 dX5_takeLoad_26 rfl ?_
    refine ae_iconst (2 : Int32) dX5_takeLoad_27 (by decide) ?_
    obtain ⟨s11, hs11, hF12⟩ := ae_ltI hF10
    refine ae_putI (q := (19, 0)) dX5_takeLoad_28 fl_RX5_45 rfl rfl (ae_nmS hs11 ?_)
    refine ae_iconst (1 : Int32) dX5_takeLoad_31 (by decide) ?_
    obtain ⟨rfl, rfl⟩ := ae_retI hF12
    exact ae_iret dX5_takeLoad_32 rfl (by decide) ⟨rfl, rfl⟩
  · have hF6 := ae_ifT hb5 hF4
    refine ae_iconst (0 : Int32) dX5_takeLoad_12 (by decide) ?_
    obtain ⟨rfl, rfl⟩ := ae_retI hF6
    exact ae_iret dX5_takeLoad_13 rfl (by decide) ⟨rfl, rfl⟩
abbrev mX5_takeOperation : ae_M := (RX5, cX5_takeOperation, 3, some .boolean)
theorem vy_X5_takeOperation : ae_VY yX5_takeOperation mX5_takeOperation 1 := ⟨ww_796, wq_30, ww_11, ww_797, ⟨by decide, by decide, by decide +kernel⟩, by decide⟩
theorem dX5_takeOperation_0 : decode cX5_takeOperation 0 = .ok (.iload_n 1, 1) := by decide +kernel
theorem dX5_takeOperation_1 : decode cX5_takeOperation 1 = .ok (.invokestatic 190, 3) := by decide +kernel
theorem dX5_takeOperation_4 : decode cX5_takeOperation 4 = .ok (.istore_n 2, 1) := by decide +kernel
theorem dX5_takeOperation_5 : decode cX5_takeOperation 5 = .ok (.iload_n 2, 1) := by decide +kernel
theorem dX5_takeOperation_6 : decode cX5_takeOperation 6 = .ok (.iconst 1, 1) := by decide +kernel
theorem dX5_takeOperation_7 : decode cX5_takeOperation 7 = .ok (.if_icmp .ne 28, 3) := by decide +kernel
theorem dX5_takeOperation_10 : decode cX5_takeOperation 10 = .ok (.aload_n 0, 1) := by decide +kernel
theorem dX5_takeOperation_11 : decode cX5_takeOperation 11 = .ok (.iconst 2, 1) := by decide +kernel
theorem dX5_takeOperation_12 : decode cX5_takeOperation 12 = .ok (.invokevirtual 184, 3) := by decide +kernel
theorem dX5_takeOperation_15 : decode cX5_takeOperation 15 = .ok (.aload_n 0, 1) := by decide +kernel
theorem dX5_takeOperation_16 : decode cX5_takeOperation 16 = .ok (.invokevirtual 100, 3) := by decide +kernel
theorem dX5_takeOperation_19 : decode cX5_takeOperation 19 = .ok (.invokestatic 190, 3) := by decide +kernel
theorem dX5_takeOperation_22 : decode cX5_takeOperation 22 = .ok (.iconst 1, 1) := by decide +kernel
theorem dX5_takeOperation_23 : decode cX5_takeOperation 23 = .ok (.if_icmp .ne 12, 3) := by decide +kernel
theorem dX5_takeOperation_26 : decode cX5_takeOperation 26 = .ok (.aload_n 0, 1) := by decide +kernel
theorem dX5_takeOperation_27 : decode cX5_takeOperation 27 = .ok (.getfield 9, 3) := by decide +kernel
theorem dX5_takeOperation_30 : decode cX5_takeOperation 30 = .ok (.iconst 1, 1) := by decide +kernel
theorem dX5_takeOperation_31 : decode cX5_takeOperation 31 = .ok (.invokevirtual 63, 3) := by decide +kernel
theorem dX5_takeOperation_34 : decode cX5_takeOperation 34 = .ok (.ireturn, 1) := by decide +kernel
theorem dX5_takeOperation_35 : decode cX5_takeOperation 35 = .ok (.aload_n 0, 1) := by decide +kernel
theorem dX5_takeOperation_36 : decode cX5_takeOperation 36 = .ok (.iload_n 2, 1) := by decide +kernel
theorem dX5_takeOperation_37 : decode cX5_takeOperation 37 = .ok (.invokevirtual 184, 3) := by decide +kernel
theorem dX5_takeOperation_40 : decode cX5_takeOperation 40 = .ok (.aload_n 0, 1) := by decide +kernel
theorem dX5_takeOperation_41 : decode cX5_takeOperation 41 = .ok (.iload_n 1, 1) := by decide +kernel
theorem dX5_takeOperation_42 : decode cX5_takeOperation 42 = .ok (.iconst 0, 1) := by decide +kernel
theorem dX5_takeOperation_43 : decode cX5_takeOperation 43 = .ok (.iconst 0, 1) := by decide +kernel
theorem dX5_takeOperation_44 : decode cX5_takeOperation 44 = .ok (.invokevirtual 80, 3) := by decide +kernel
theorem dX5_takeOperation_47 : decode cX5_takeOperation 47 = .ok (.aload_n 0, 1) := by decide +kernel
theorem dX5_takeOperation_48 : decode cX5_takeOperation 48 = .ok (.getfield 9, 3) := by decide +kernel
theorem dX5_takeOperation_51 : decode cX5_takeOperation 51 = .ok (.invokevirtual 77, 3) := by decide +kernel
theorem dX5_takeOperation_54 : decode cX5_takeOperation 54 = .ok (.aload_n 0, 1) := by decide +kernel
theorem dX5_takeOperation_55 : decode cX5_takeOperation 55 = .ok (.iconst 1, 1) := by decide +kernel
theorem dX5_takeOperation_56 : decode cX5_takeOperation 56 = .ok (.putfield 45, 3) := by decide +kernel
theorem dX5_takeOperation_59 : decode cX5_takeOperation 59 = .ok (.iconst 1, 1) := by decide +kernel
theorem dX5_takeOperation_60 : decode cX5_takeOperation 60 = .ok (.ireturn, 1) := by decide +kernel
def F_X5_takeOperation_35 (v1 : Int32) (v2 : Int32) (s0 : ae_S) : Option (Int32 × ae_S) := ae_bd (F_X5_settle v2 s0) (fun (r1 : Unit) s2 => ae_bd (F_X5_await v1 (0 : Int32) (0 : Int32) s2) (fun (r5 : Unit) s6 => ae_bd (F_X8_advance s6) (fun (r9 : Unit) s10 => ae_lt (ae_wI s10 19 0 8 (1 : Int32)) (fun s13 => some ((1 : Int32), s13)))))
set_option maxHeartbeats 4000000 in
set_option maxRecDepth 100000 in
theorem t_X5_takeOperation_35 {l : Launch} {G : ae_G} (d : Nat) {rr : Int32} {ss : ae_S} (v1 : Int32) (v2 : Int32) (s0 : ae_S) (hF : F_X5_takeOperation_35 v1 v2 s0 = some (rr, ss)) : ae_T l G (d + 2) mX5_takeOperation (ae_Po (some (ae_i rr)) ss) 35 [(0, ae_r (some (19, 0))), (1, ae_i v1), (2, ae_i v2)] [] s0 := by
  unfold F_X5_takeOperation_35 at hF
  refine ae_aload_n 0 dX5_takeOperation_35 rfl ?_
  refine ae_iload_n 2 dX5_takeOperation_36 rfl ?_
  obtain ⟨r1, s2, hc3, hF4⟩ := ae_bdI hF
  refine ae_cV0 (q := (19, 0)) (As := [ae_i v2]) dX5_takeOperation_37 ww_801 vy_X5_settle rfl rfl rfl rfl rfl (Nat.le_of_ble_eq_true rfl) (c_X5_settle d hc3) ?_
  refine ae_aload_n 0 dX5_takeOperation_40 rfl ?_
  refine ae_iload_n 1 dX5_takeOperation_41 rfl ?_
  refine ae_iconst (0 : Int32) dX5_takeOperation_42 (by decide) ?_
  refine ae_iconst (0 : Int32) dX5_takeOperation_43 (by decide) ?_
  obtain ⟨r5, s6, hc7, hF8⟩ := ae_bdI hF4
  refine ae_cV0 (q := (19, 0)) (As := [ae_i v1, ae_i (0 : Int32), ae_i (0 : Int32)]) dX5_takeOperation_44 ww_649 vy_X5_await rfl rfl rfl rfl rfl (Nat.le_of_ble_eq_true rfl) (c_X5_await (d + 1) hc7) ?_
  refine ae_aload_n 0 dX5_takeOperation_47 rfl ?_
  refine ae_getO (q := (19, 0)) (some (12, 0)) dX5_takeOperation_48 fl_RX5_9 rfl rfl rfl ?_
  obtain ⟨r9, s10, hc11, hF12⟩ := ae_bdI hF8
  refine ae_cV0 (q := (12, 0)) (As := []) dX5_takeOperation_51 ww_648 vy_X8_advance rfl rfl rfl rfl rfl (Nat.le_of_ble_eq_true rfl) (c_X8_advance (d + 1) hc11) ?_
  refine ae_aload_n 0 dX5_takeOperation_54 rfl ?_
  refine ae_iconst (1 : Int32) dX5_takeOperation_55 (by decide) ?_
  obtain ⟨s13, hs13, hF14⟩ := ae_ltI hF12
  refine ae_putI (q := (19, 0)) dX5_takeOperation_56 fl_RX5_45 rfl rfl (ae_nmS hs13 ?_)
  refine ae_iconst (1 : Int32) dX5_takeOperation_59 (by decide) ?_
  obtain ⟨rfl, rfl⟩ := ae_retI hF14
  exact ae_iret dX5_takeOperation_60 rfl (by decide) ⟨rfl, rfl⟩
def F_X5_takeOperation (v1 : Int32) (s0 : ae_S) : Option (Int32 × ae_S) := ae_bd (F_X5_rankOf v1 s0) (fun (r15 : Int32) s16 => if r15 = (1 : Int32) then (ae_bd (F_X5_settle (2 : Int32) s16) (fun (r21 : Unit) s22 => ae_bd (F_X5_awaited s22) (fun (r25 : Int32) s26 => ae_bd (F_X5_rankOf r25 s26) (fun (r29 : Int32) s30 => if r29 = (1 : Int32) then (ae_bd (F_X8_refuse (1 : Int32) s30) (fun (r35 : Int32) s36 => ae_gd (ae_zz r35) (some (r35, s36)))) else (F_X5_takeOperation_35 v1 r15 s30))))) else (F_X5_takeOperation_35 v1 r15 s16))
set_option maxHeartbeats 4000000 in
set_option maxRecDepth 100000 in
theorem c_X5_takeOperation {l : Launch} {G : ae_G} (d : Nat) {v1 : Int32} {s0 ss : ae_S} {rr : Int32} (hF : F_X5_takeOperation v1 s0 = some (rr, ss)) : ae_Met l G (d + 2) yX5_takeOperation mX5_takeOperation [ae_r (some (19, 0)), ae_i v1] s0 (ae_Po (some (ae_i rr)) ss) := by
  refine ae_enter (by decide) rfl (Nat.le_of_ble_eq_true rfl) ?_
  show ae_T l G (d + 2) mX5_takeOperation (ae_Po (some (ae_i rr)) ss) 0 [(0, ae_r (some (19, 0))), (1, ae_i v1)] [] s0
  unfold F_X5_takeOperation at hF
  refine ae_iload_n 1 dX5_takeOperation_0 rfl ?_
  obtain ⟨r15, s16, hc17, hF18⟩ := ae_bdI hF
  refine ae_cS1 (As := [ae_i v1]) dX5_takeOperation_1 ww_798 vy_X5_rankOf rfl rfl (Nat.le_of_ble_eq_true rfl) (c_X5_rankOf (d + 1) hc17) ?_
  refine ae_istore_n (lv' := [(2, ae_i r15), (0, ae_r (some (19, 0))), (1, ae_i v1)]) dX5_takeOperation_4 (by decide) rfl ?_
  refine ae_iload_n 0 dX5_takeOperation_5 rfl ?_
  refine ae_iconst (1 : Int32) dX5_takeOperation_6 (by decide) ?_
  refine ae_icmp_ne 35 dX5_takeOperation_7 rfl (fun hb19 => ?_) (fun hb19 => ?_)
  · have hF20 := ae_ifF hb19 hF18
    refine ae_pick (lv' := [(0, ae_r (some (19, 0))), (1, ae_i v1), (2, ae_i r15)]) [1, 2, 0] rfl ?_
    exact t_X5_takeOperation_35 d v1 r15 s16 hF20
  · have hF20 := ae_ifT hb19 hF18
    refine ae_aload_n 1 dX5_takeOperation_10 rfl ?_
    refine ae_iconst (2 : Int32) dX5_takeOperation_11 (by decide) ?_
    obtain ⟨r21, s22, hc23, hF24⟩ := ae_bdI hF20
    refine ae_cV0 (q := (19, 0)) (As := [ae_i (2 : Int32)]) dX5_takeOperation_12 ww_801 vy_X5_settle rfl rfl rfl rfl rfl (Nat.le_of_ble_eq_true rfl) (c_X5_settle d hc23) ?_
    refine ae_aload_n 1 dX5_takeOperation_15 rfl ?_
    obtain ⟨r25, s26, hc27, hF28⟩ := ae_bdI hF24
    refine ae_cV1 (q := (19, 0)) (As := []) dX5_takeOperation_16 ww_658 vy_X5_awaited rfl rfl rfl rfl rfl (Nat.le_of_ble_eq_true rfl) (c_X5_awaited (d + 1) hc27) ?_
    obtain ⟨r29, s30, hc31, hF32⟩ := ae_bdI hF28
    refine ae_cS1 (As := [ae_i r25]) dX5_takeOperation_19 ww_798 vy_X5_rankOf rfl rfl (Nat.le_of_ble_eq_true rfl) (c_X5_rankOf (d + 1) hc31) ?_
    refine ae_iconst (1 : Int32) dX5_takeOperation_22 (by decide) ?_
    refine ae_icmp_ne 35 dX5_takeOperation_23 rfl (fun hb33 => ?_) (fun hb33 => ?_)
    · have hF34 := ae_ifF hb33 hF32
      refine ae_pick (lv' := [(0, ae_r (some (19, 0))), (1, ae_i v1), (2, ae_i r15)]) [1, 2, 0] rfl ?_
      exact t_X5_takeOperation_35 d v1 r15 s30 hF34
    · have hF34 := ae_ifT hb33 hF32
      refine ae_aload_n 1 dX5_takeOperation_26 rfl ?_
      refine ae_getO (q := (19, 0)) (some (12, 0)) dX5_takeOperation_27 fl_RX5_9 rfl rfl rfl ?_
      refine ae_iconst (1 : Int32) dX5_takeOperation_30 (by decide) ?_
      obtain ⟨r35, s36, hc37, hF38⟩ := ae_bdI hF34
      refine ae_cV1 (q := (12, 0)) (As := [ae_i (1 : Int32)]) dX5_takeOperation_31 ww_680 vy_X8_refuse rfl rfl rfl rfl rfl (Nat.le_of_ble_eq_true rfl) (c_X8_refuse (d + 1) hc37) ?_
      obtain ⟨hg39, hF40⟩ := ae_gdI hF38
      obtain ⟨rfl, rfl⟩ := ae_retI hF40
      exact ae_iret dX5_takeOperation_34 rfl (ae_zzN (ae_zzI hg39)) ⟨rfl, rfl⟩
abbrev mX5_takeBehind : ae_M := (RX5, cX5_takeBehind, 3, some .boolean)
theorem vy_X5_takeBehind : ae_VY yX5_takeBehind mX5_takeBehind 0 := ⟨ww_788, wq_28, ww_11, ww_789, ⟨by decide, by decide, by decide +kernel⟩, by decide⟩
theorem dX5_takeBehind_0 : decode cX5_takeBehind 0 = .ok (.aload_n 0, 1) := by decide +kernel
theorem dX5_takeBehind_1 : decode cX5_takeBehind 1 = .ok (.invokevirtual 178, 3) := by decide +kernel
theorem dX5_takeBehind_4 : decode cX5_takeBehind 4 = .ok (.istore_n 1, 1) := by decide +kernel
theorem dX5_takeBehind_5 : decode cX5_takeBehind 5 = .ok (.iload_n 1, 1) := by decide +kernel
theorem dX5_takeBehind_6 : decode cX5_takeBehind 6 = .ok (.iconst (-1), 1) := by decide +kernel
theorem dX5_takeBehind_7 : decode cX5_takeBehind 7 = .ok (.if_icmp .eq 9, 3) := by decide +kernel
theorem dX5_takeBehind_10 : decode cX5_takeBehind 10 = .ok (.aload_n 0, 1) := by decide +kernel
theorem dX5_takeBehind_11 : decode cX5_takeBehind 11 = .ok (.iload_n 1, 1) := by decide +kernel
theorem dX5_takeBehind_12 : decode cX5_takeBehind 12 = .ok (.invokevirtual 181, 3) := by decide +kernel
theorem dX5_takeBehind_15 : decode cX5_takeBehind 15 = .ok (.ireturn, 1) := by decide +kernel
theorem dX5_takeBehind_16 : decode cX5_takeBehind 16 = .ok (.aload_n 0, 1) := by decide +kernel
theorem dX5_takeBehind_17 : decode cX5_takeBehind 17 = .ok (.iconst 1, 1) := by decide +kernel
theorem dX5_takeBehind_18 : decode cX5_takeBehind 18 = .ok (.invokevirtual 184, 3) := by decide +kernel
theorem dX5_takeBehind_21 : decode cX5_takeBehind 21 = .ok (.aload_n 0, 1) := by decide +kernel
theorem dX5_takeBehind_22 : decode cX5_takeBehind 22 = .ok (.invokevirtual 110, 3) := by decide +kernel
theorem dX5_takeBehind_25 : decode cX5_takeBehind 25 = .ok (.istore_n 2, 1) := by decide +kernel
theorem dX5_takeBehind_26 : decode cX5_takeBehind 26 = .ok (.aload_n 0, 1) := by decide +kernel
theorem dX5_takeBehind_27 : decode cX5_takeBehind 27 = .ok (.invokevirtual 100, 3) := by decide +kernel
theorem dX5_takeBehind_30 : decode cX5_takeBehind 30 = .ok (.tableswitch 204 103 107 #[175, 100, 142, 34, 58], 34) := by decide +kernel
theorem dX5_takeBehind_64 : decode cX5_takeBehind 64 = .ok (.aload_n 0, 1) := by decide +kernel
theorem dX5_takeBehind_65 : decode cX5_takeBehind 65 = .ok (.invokevirtual 117, 3) := by decide +kernel
theorem dX5_takeBehind_68 : decode cX5_takeBehind 68 = .ok (.aload_n 0, 1) := by decide +kernel
theorem dX5_takeBehind_69 : decode cX5_takeBehind 69 = .ok (.dup, 1) := by decide +kernel
theorem dX5_takeBehind_70 : decode cX5_takeBehind 70 = .ok (.getfield 42, 3) := by decide +kernel
theorem dX5_takeBehind_73 : decode cX5_takeBehind 73 = .ok (.iconst 1, 1) := by decide +kernel
theorem dX5_takeBehind_74 : decode cX5_takeBehind 74 = .ok (.isub, 1) := by decide +kernel
theorem dX5_takeBehind_75 : decode cX5_takeBehind 75 = .ok (.putfield 42, 3) := by decide +kernel
theorem dX5_takeBehind_78 : decode cX5_takeBehind 78 = .ok (.aload_n 0, 1) := by decide +kernel
theorem dX5_takeBehind_79 : decode cX5_takeBehind 79 = .ok (.getfield 9, 3) := by decide +kernel
theorem dX5_takeBehind_82 : decode cX5_takeBehind 82 = .ok (.bipush 41, 2) := by decide +kernel
theorem dX5_takeBehind_84 : decode cX5_takeBehind 84 = .ok (.invokevirtual 89, 3) := by decide +kernel
theorem dX5_takeBehind_87 : decode cX5_takeBehind 87 = .ok (.ireturn, 1) := by decide +kernel
theorem dX5_takeBehind_88 : decode cX5_takeBehind 88 = .ok (.aload_n 0, 1) := by decide +kernel
theorem dX5_takeBehind_89 : decode cX5_takeBehind 89 = .ok (.invokevirtual 117, 3) := by decide +kernel
theorem dX5_takeBehind_92 : decode cX5_takeBehind 92 = .ok (.aload_n 0, 1) := by decide +kernel
theorem dX5_takeBehind_93 : decode cX5_takeBehind 93 = .ok (.getfield 19, 3) := by decide +kernel
theorem dX5_takeBehind_96 : decode cX5_takeBehind 96 = .ok (.iconst 3, 1) := by decide +kernel
theorem dX5_takeBehind_97 : decode cX5_takeBehind 97 = .ok (.iload_n 2, 1) := by decide +kernel
theorem dX5_takeBehind_98 : decode cX5_takeBehind 98 = .ok (.i2l, 1) := by decide +kernel
theorem dX5_takeBehind_99 : decode cX5_takeBehind 99 = .ok (.iconst 0, 1) := by decide +kernel
theorem dX5_takeBehind_100 : decode cX5_takeBehind 100 = .ok (.invokevirtual 67, 3) := by decide +kernel
theorem dX5_takeBehind_103 : decode cX5_takeBehind 103 = .ok (.pop, 1) := by decide +kernel
theorem dX5_takeBehind_104 : decode cX5_takeBehind 104 = .ok (.aload_n 0, 1) := by decide +kernel
theorem dX5_takeBehind_105 : decode cX5_takeBehind 105 = .ok (.getfield 9, 3) := by decide +kernel
theorem dX5_takeBehind_108 : decode cX5_takeBehind 108 = .ok (.bipush 93, 2) := by decide +kernel
theorem dX5_takeBehind_110 : decode cX5_takeBehind 110 = .ok (.invokevirtual 89, 3) := by decide +kernel
theorem dX5_takeBehind_113 : decode cX5_takeBehind 113 = .ok (.ifCond .eq 15, 3) := by decide +kernel
theorem dX5_takeBehind_116 : decode cX5_takeBehind 116 = .ok (.aload_n 0, 1) := by decide +kernel
theorem dX5_takeBehind_117 : decode cX5_takeBehind 117 = .ok (.iload_n 2, 1) := by decide +kernel
theorem dX5_takeBehind_118 : decode cX5_takeBehind 118 = .ok (.invokevirtual 136, 3) := by decide +kernel
theorem dX5_takeBehind_121 : decode cX5_takeBehind 121 = .ok (.ifCond .eq 7, 3) := by decide +kernel
theorem dX5_takeBehind_124 : decode cX5_takeBehind 124 = .ok (.iconst 1, 1) := by decide +kernel
theorem dX5_takeBehind_125 : decode cX5_takeBehind 125 = .ok (.goto 4, 3) := by decide +kernel
theorem dX5_takeBehind_128 : decode cX5_takeBehind 128 = .ok (.iconst 0, 1) := by decide +kernel
theorem dX5_takeBehind_129 : decode cX5_takeBehind 129 = .ok (.ireturn, 1) := by decide +kernel
theorem dX5_takeBehind_130 : decode cX5_takeBehind 130 = .ok (.aload_n 0, 1) := by decide +kernel
theorem dX5_takeBehind_131 : decode cX5_takeBehind 131 = .ok (.invokevirtual 117, 3) := by decide +kernel
theorem dX5_takeBehind_134 : decode cX5_takeBehind 134 = .ok (.aload_n 0, 1) := by decide +kernel
theorem dX5_takeBehind_135 : decode cX5_takeBehind 135 = .ok (.getfield 19, 3) := by decide +kernel
theorem dX5_takeBehind_138 : decode cX5_takeBehind 138 = .ok (.iconst 3, 1) := by decide +kernel
theorem dX5_takeBehind_139 : decode cX5_takeBehind 139 = .ok (.iload_n 2, 1) := by decide +kernel
theorem dX5_takeBehind_140 : decode cX5_takeBehind 140 = .ok (.i2l, 1) := by decide +kernel
theorem dX5_takeBehind_141 : decode cX5_takeBehind 141 = .ok (.iconst 0, 1) := by decide +kernel
theorem dX5_takeBehind_142 : decode cX5_takeBehind 142 = .ok (.invokevirtual 67, 3) := by decide +kernel
theorem dX5_takeBehind_145 : decode cX5_takeBehind 145 = .ok (.pop, 1) := by decide +kernel
theorem dX5_takeBehind_146 : decode cX5_takeBehind 146 = .ok (.aload_n 0, 1) := by decide +kernel
theorem dX5_takeBehind_147 : decode cX5_takeBehind 147 = .ok (.getfield 9, 3) := by decide +kernel
theorem dX5_takeBehind_150 : decode cX5_takeBehind 150 = .ok (.bipush 93, 2) := by decide +kernel
theorem dX5_takeBehind_152 : decode cX5_takeBehind 152 = .ok (.invokevirtual 89, 3) := by decide +kernel
theorem dX5_takeBehind_155 : decode cX5_takeBehind 155 = .ok (.ifCond .eq 15, 3) := by decide +kernel
theorem dX5_takeBehind_158 : decode cX5_takeBehind 158 = .ok (.aload_n 0, 1) := by decide +kernel
theorem dX5_takeBehind_159 : decode cX5_takeBehind 159 = .ok (.iload_n 2, 1) := by decide +kernel
theorem dX5_takeBehind_160 : decode cX5_takeBehind 160 = .ok (.invokevirtual 123, 3) := by decide +kernel
theorem dX5_takeBehind_163 : decode cX5_takeBehind 163 = .ok (.ifCond .eq 7, 3) := by decide +kernel
theorem dX5_takeBehind_166 : decode cX5_takeBehind 166 = .ok (.iconst 1, 1) := by decide +kernel
theorem dX5_takeBehind_167 : decode cX5_takeBehind 167 = .ok (.goto 4, 3) := by decide +kernel
theorem dX5_takeBehind_170 : decode cX5_takeBehind 170 = .ok (.iconst 0, 1) := by decide +kernel
theorem dX5_takeBehind_171 : decode cX5_takeBehind 171 = .ok (.ireturn, 1) := by decide +kernel
theorem dX5_takeBehind_172 : decode cX5_takeBehind 172 = .ok (.aload_n 0, 1) := by decide +kernel
theorem dX5_takeBehind_173 : decode cX5_takeBehind 173 = .ok (.getfield 19, 3) := by decide +kernel
theorem dX5_takeBehind_176 : decode cX5_takeBehind 176 = .ok (.iconst 5, 1) := by decide +kernel
theorem dX5_takeBehind_177 : decode cX5_takeBehind 177 = .ok (.iload_n 2, 1) := by decide +kernel
theorem dX5_takeBehind_178 : decode cX5_takeBehind 178 = .ok (.i2l, 1) := by decide +kernel
theorem dX5_takeBehind_179 : decode cX5_takeBehind 179 = .ok (.aload_n 0, 1) := by decide +kernel
theorem dX5_takeBehind_180 : decode cX5_takeBehind 180 = .ok (.invokevirtual 187, 3) := by decide +kernel
theorem dX5_takeBehind_183 : decode cX5_takeBehind 183 = .ok (.invokevirtual 67, 3) := by decide +kernel
theorem dX5_takeBehind_186 : decode cX5_takeBehind 186 = .ok (.pop, 1) := by decide +kernel
theorem dX5_takeBehind_187 : decode cX5_takeBehind 187 = .ok (.aload_n 0, 1) := by decide +kernel
theorem dX5_takeBehind_188 : decode cX5_takeBehind 188 = .ok (.invokevirtual 117, 3) := by decide +kernel
theorem dX5_takeBehind_191 : decode cX5_takeBehind 191 = .ok (.aload_n 0, 1) := by decide +kernel
theorem dX5_takeBehind_192 : decode cX5_takeBehind 192 = .ok (.invokevirtual 86, 3) := by decide +kernel
theorem dX5_takeBehind_195 : decode cX5_takeBehind 195 = .ok (.aload_n 0, 1) := by decide +kernel
theorem dX5_takeBehind_196 : decode cX5_takeBehind 196 = .ok (.getfield 9, 3) := by decide +kernel
theorem dX5_takeBehind_199 : decode cX5_takeBehind 199 = .ok (.bipush 59, 2) := by decide +kernel
theorem dX5_takeBehind_201 : decode cX5_takeBehind 201 = .ok (.invokevirtual 89, 3) := by decide +kernel
theorem dX5_takeBehind_204 : decode cX5_takeBehind 204 = .ok (.ireturn, 1) := by decide +kernel
theorem dX5_takeBehind_205 : decode cX5_takeBehind 205 = .ok (.aload_n 0, 1) := by decide +kernel
theorem dX5_takeBehind_206 : decode cX5_takeBehind 206 = .ok (.invokevirtual 117, 3) := by decide +kernel
theorem dX5_takeBehind_209 : decode cX5_takeBehind 209 = .ok (.aload_n 0, 1) := by decide +kernel
theorem dX5_takeBehind_210 : decode cX5_takeBehind 210 = .ok (.bipush 102, 2) := by decide +kernel
theorem dX5_takeBehind_212 : decode cX5_takeBehind 212 = .ok (.aload_n 0, 1) := by decide +kernel
theorem dX5_takeBehind_213 : decode cX5_takeBehind 213 = .ok (.getfield 19, 3) := by decide +kernel
theorem dX5_takeBehind_216 : decode cX5_takeBehind 216 = .ok (.bipush 15, 2) := by decide +kernel
theorem dX5_takeBehind_218 : decode cX5_takeBehind 218 = .ok (.lconst 0, 1) := by decide +kernel
theorem dX5_takeBehind_219 : decode cX5_takeBehind 219 = .ok (.iconst 0, 1) := by decide +kernel
theorem dX5_takeBehind_220 : decode cX5_takeBehind 220 = .ok (.invokevirtual 67, 3) := by decide +kernel
theorem dX5_takeBehind_223 : decode cX5_takeBehind 223 = .ok (.iconst 0, 1) := by decide +kernel
theorem dX5_takeBehind_224 : decode cX5_takeBehind 224 = .ok (.invokevirtual 80, 3) := by decide +kernel
theorem dX5_takeBehind_227 : decode cX5_takeBehind 227 = .ok (.aload_n 0, 1) := by decide +kernel
theorem dX5_takeBehind_228 : decode cX5_takeBehind 228 = .ok (.iconst 0, 1) := by decide +kernel
theorem dX5_takeBehind_229 : decode cX5_takeBehind 229 = .ok (.putfield 45, 3) := by decide +kernel
theorem dX5_takeBehind_232 : decode cX5_takeBehind 232 = .ok (.iconst 1, 1) := by decide +kernel
theorem dX5_takeBehind_233 : decode cX5_takeBehind 233 = .ok (.ireturn, 1) := by decide +kernel
theorem dX5_takeBehind_234 : decode cX5_takeBehind 234 = .ok (.aload_n 0, 1) := by decide +kernel
theorem dX5_takeBehind_235 : decode cX5_takeBehind 235 = .ok (.getfield 9, 3) := by decide +kernel
theorem dX5_takeBehind_238 : decode cX5_takeBehind 238 = .ok (.iconst 1, 1) := by decide +kernel
theorem dX5_takeBehind_239 : decode cX5_takeBehind 239 = .ok (.invokevirtual 63, 3) := by decide +kernel
theorem dX5_takeBehind_242 : decode cX5_takeBehind 242 = .ok (.ireturn, 1) := by decide +kernel
def F_X5_takeBehind_129 (t0 : Int32) (s0 : ae_S) : Option (Int32 × ae_S) := ae_gd (ae_zz t0) (some (t0, s0))
set_option maxHeartbeats 4000000 in
set_option maxRecDepth 100000 in
theorem t_X5_takeBehind_129 {l : Launch} {G : ae_G} (d : Nat) {rr : Int32} {ss : ae_S} (t0 : Int32) (s0 : ae_S) (hF : F_X5_takeBehind_129 t0 s0 = some (rr, ss)) : ae_T l G (d + 4) mX5_takeBehind (ae_Po (some (ae_i rr)) ss) 129 [] [ae_i t0] s0 := by
  unfold F_X5_takeBehind_129 at hF
  obtain ⟨hg1, hF2⟩ := ae_gdI hF
  obtain ⟨rfl, rfl⟩ := ae_retI hF2
  exact ae_iret dX5_takeBehind_129 rfl (ae_zzN (ae_zzI hg1)) ⟨rfl, rfl⟩
def F_X5_takeBehind_128 (s0 : ae_S) : Option (Int32 × ae_S) := F_X5_takeBehind_129 (0 : Int32) s0
set_option maxHeartbeats 4000000 in
set_option maxRecDepth 100000 in
theorem t_X5_takeBehind_128 {l : Launch} {G : ae_G} (d : Nat) {rr : Int32} {ss : ae_S} (s0 : ae_S) (hF : F_X5_takeBehind_128 s0 = some (rr, ss)) : ae_T l G (d + 4) mX5_takeBehind (ae_Po (some (ae_i rr)) ss) 128 [] [] s0 := by
  unfold F_X5_takeBehind_128 at hF
  refine ae_iconst (0 : Int32) dX5_takeBehind_128 (by decide) ?_
  refine ae_pick (lv' := []) [] rfl ?_
  exact t_X5_takeBehind_129 d (0 : Int32) s0 hF
def F_X5_takeBehind_171 (t0 : Int32) (s0 : ae_S) : Option (Int32 × ae_S) := ae_gd (ae_zz t0) (some (t0, s0))
set_option maxHeartbeats 4000000 in
set_option maxRecDepth 100000 in
theorem t_X5_takeBehind_171 {l : Launch} {G : ae_G} (d : Nat) {rr : Int32} {ss : ae_S} (t0 : Int32) (s0 : ae_S) (hF : F_X5_takeBehind_171 t0 s0 = some (rr, ss)) : ae_T l G (d + 4) mX5_takeBehind (ae_Po (some (ae_i rr)) ss) 171 [] [ae_i t0] s0 := by
  unfold F_X5_takeBehind_171 at hF
  obtain ⟨hg3, hF4⟩ := ae_gdI hF
  obtain ⟨rfl, rfl⟩ := ae_retI hF4
  exact ae_iret dX5_takeBehind_171 rfl (ae_zzN (ae_zzI hg3)) ⟨rfl, rfl⟩
def F_X5_takeBehind_170 (s0 : ae_S) : Option (Int32 × ae_S) := F_X5_takeBehind_171 (0 : Int32) s0
set_option maxHeartbeats 4000000 in
set_option maxRecDepth 100000 in
theorem t_X5_takeBehind_170 {l : Launch} {G : ae_G} (d : Nat) {rr : Int32} {ss : ae_S} (s0 : ae_S) (hF : F_X5_takeBehind_170 s0 = some (rr, ss)) : ae_T l G (d + 4) mX5_takeBehind (ae_Po (some (ae_i rr)) ss) 170 [] [] s0 := by
  unfold F_X5_takeBehind_170 at hF
  refine ae_iconst (0 : Int32) dX5_takeBehind_170 (by decide) ?_
  refine ae_pick (lv' := []) [] rfl ?_
  exact t_X5_takeBehind_171 d (0 : Int32) s0 hF
def F_X5_takeBehind (s0 : ae_S) : Option (Int32 × ae_S) := ae_bd (F_X5_operationHere s0) (fun (r5 : Int32) s6 => if r5 = (-1 : Int32) then (ae_bd (F_X5_settle (1 : Int32) s6) (fun (r11 : Unit) s12 => ae_bd (F_X5_awaitedFirst s12) (fun (r15 : Int32) s16 => ae_bd (F_X5_awaited s16) (fun (r19 : Int32) s20 => if r19 = (103 : Int32) then (ae_bd (F_X5_drop s20) (fun (r25 : Unit) s26 => ae_bd (F_X1_add (15 : Int32) (0 : Int64) (0 : Int32) s26) (fun (r29 : Int32) s30 => ae_bd (F_X5_await (102 : Int32) r29 (0 : Int32) s30) (fun (r33 : Unit) s34 => ae_lt (ae_wI s34 19 0 8 (0 : Int32)) (fun s37 => some ((1 : Int32), s37)))))) else (if r19 = (104 : Int32) then (ae_bd (F_X5_drop s20) (fun (r42 : Unit) s43 => ae_bd (F_X1_add (3 : Int32) r15.toInt64 (0 : Int32) s43) (fun (r46 : Int32) s47 => ae_bd (F_X8_takeSign (93 : Int32) s47) (fun (r50 : Int32) s51 => if r50 = 0 then (F_X5_takeBehind_170 s51) else (ae_bd (F_X5_takeEquals r15 s51) (fun (r56 : Int32) s57 => if r56 = 0 then (F_X5_takeBehind_170 s57) else (F_X5_takeBehind_171 (1 : Int32) s57))))))) else (if r19 = (105 : Int32) then (ae_bd (F_X5_awaitedSecond s20) (fun (r65 : Int32) s66 => ae_bd (F_X1_add (5 : Int32) r15.toInt64 r65 s66) (fun (r69 : Int32) s70 => ae_bd (F_X5_drop s70) (fun (r73 : Unit) s74 => ae_bd (F_X5_endStatement s74) (fun (r77 : Unit) s78 => ae_bd (F_X8_takeSign (59 : Int32) s78) (fun (r81 : Int32) s82 => ae_gd (ae_zz r81) (some (r81, s82)))))))) else (if r19 = (106 : Int32) then (ae_bd (F_X5_drop s20) (fun (r90 : Unit) s91 => ae_lt (ae_wI s91 19 0 7 ((s91.1 19 0 7) - (1 : Int32))) (fun s94 => ae_bd (F_X8_takeSign (41 : Int32) s94) (fun (r96 : Int32) s97 => ae_gd (ae_zz r96) (some (r96, s97)))))) else (if r19 = (107 : Int32) then (ae_bd (F_X5_drop s20) (fun (r105 : Unit) s106 => ae_bd (F_X1_add (3 : Int32) r15.toInt64 (0 : Int32) s106) (fun (r109 : Int32) s110 => ae_bd (F_X8_takeSign (93 : Int32) s110) (fun (r113 : Int32) s114 => if r113 = 0 then (F_X5_takeBehind_128 s114) else (ae_bd (F_X5_takeLoad r15 s114) (fun (r119 : Int32) s120 => if r119 = 0 then (F_X5_takeBehind_128 s120) else (F_X5_takeBehind_129 (1 : Int32) s120))))))) else (ae_bd (F_X8_refuse (1 : Int32) s20) (fun (r126 : Int32) s127 => ae_gd (ae_zz r126) (some (r126, s127)))))))))))) else (ae_bd (F_X5_takeOperation r5 s6) (fun (r137 : Int32) s138 => ae_gd (ae_zz r137) (some (r137, s138)))))
set_option maxHeartbeats 4000000 in
set_option maxRecDepth 100000 in
theorem c_X5_takeBehind {l : Launch} {G : ae_G} (d : Nat) {s0 ss : ae_S} {rr : Int32} (hF : F_X5_takeBehind s0 = some (rr, ss)) : ae_Met l G (d + 4) yX5_takeBehind mX5_takeBehind [ae_r (some (19, 0))] s0 (ae_Po (some (ae_i rr)) ss) := by
  refine ae_enter (by decide) rfl (Nat.le_of_ble_eq_true rfl) ?_
  show ae_T l G (d + 4) mX5_takeBehind (ae_Po (some (ae_i rr)) ss) 0 [(0, ae_r (some (19, 0)))] [] s0
  unfold F_X5_takeBehind at hF
  refine ae_aload_n 0 dX5_takeBehind_0 rfl ?_
  obtain ⟨r5, s6, hc7, hF8⟩ := ae_bdI hF
  refine ae_cV1 (q := (19, 0)) (As := []) dX5_takeBehind_1 ww_790 vy_X5_operationHere rfl rfl rfl rfl rfl (Nat.le_of_ble_eq_true rfl) (c_X5_operationHere (d + 2) hc7) ?_
  refine ae_istore_n (lv' := [(1, ae_i r5), (0, ae_r (some (19, 0)))]) dX5_takeBehind_4 (by decide) rfl ?_
  refine ae_iload_n 0 dX5_takeBehind_5 rfl ?_
  refine ae_iconst (-1 : Int32) dX5_takeBehind_6 (by decide) ?_
  refine ae_icmp_eq 16 dX5_takeBehind_7 rfl (fun hb9 => ?_) (fun hb9 => ?_)
  · have hF10 := ae_ifT hb9 hF8
    refine ae_aload_n 1 dX5_takeBehind_16 rfl ?_
    refine ae_iconst (1 : Int32) dX5_takeBehind_17 (by decide) ?_
    obtain ⟨r11, s12, hc13, hF14⟩ := ae_bdI hF10
    refine ae_cV0 (q := (19, 0)) (As := [ae_i (1 : Int32)]) dX5_takeBehind_18 ww_801 vy_X5_settle rfl rfl rfl rfl rfl (Nat.le_of_ble_eq_true rfl) (c_X5_settle (d + 2) hc13) ?_
    refine ae_aload_n 1 dX5_takeBehind_21 rfl ?_
    obtain ⟨r15, s16, hc17, hF18⟩ := ae_bdI hF14
    refine ae_cV1 (q := (19, 0)) (As := []) dX5_takeBehind_22 ww_662 vy_X5_awaitedFirst rfl rfl rfl rfl rfl (Nat.le_of_ble_eq_true rfl) (c_X5_awaitedFirst (d + 3) hc17) ?_
    refine ae_istore_n (lv' := [(2, ae_i r15), (1, ae_i r5), (0, ae_r (some (19, 0)))]) dX5_takeBehind_25 (by decide) rfl ?_
    refine ae_aload_n 2 dX5_takeBehind_26 rfl ?_
    obtain ⟨r19, s20, hc21, hF22⟩ := ae_bdI hF18
    refine ae_cV1 (q := (19, 0)) (As := []) dX5_takeBehind_27 ww_658 vy_X5_awaited rfl rfl rfl rfl rfl (Nat.le_of_ble_eq_true rfl) (c_X5_awaited (d + 3) hc21) ?_
    by_cases hb23 : r19 = (103 : Int32)
    · have hF24 := ae_ifT hb23 hF22
      refine ae_tabIn 205 dX5_takeBehind_30 (by rw [hb23]; decide) (by rw [hb23]; decide) (by rw [hb23]; rfl) rfl ?_
      refine ae_aload_n 2 dX5_takeBehind_205 rfl ?_
      obtain ⟨r25, s26, hc27, hF28⟩ := ae_bdI hF24
      refine ae_cV0 (q := (19, 0)) (As := []) dX5_takeBehind_206 ww_670 vy_X5_drop rfl rfl rfl rfl rfl (Nat.le_of_ble_eq_true rfl) (c_X5_drop (d + 3) hc27) ?_
      refine ae_aload_n 2 dX5_takeBehind_209 rfl ?_
      refine ae_bipush (102 : Int32) dX5_takeBehind_210 (by decide) ?_
      refine ae_aload_n 2 dX5_takeBehind_212 rfl ?_
      refine ae_getO (q := (19, 0)) (some (15, 0)) dX5_takeBehind_213 fl_RX5_19 rfl rfl rfl ?_
      refine ae_bipush (15 : Int32) dX5_takeBehind_216 (by decide) ?_
      refine ae_lconst (0 : Int64) dX5_takeBehind_218 (by decide) ?_
      refine ae_iconst (0 : Int32) dX5_takeBehind_219 (by decide) ?_
      obtain ⟨r29, s30, hc31, hF32⟩ := ae_bdI hF28
      refine ae_cV1 (q := (15, 0)) (As := [ae_i (15 : Int32), ae_l (0 : Int64), ae_i (0 : Int32)]) dX5_takeBehind_220 ww_642 vy_X1_add rfl rfl rfl rfl rfl (Nat.le_of_ble_eq_true rfl) (c_X1_add (d + 3) hc31) ?_
      refine ae_iconst (0 : Int32) dX5_takeBehind_223 (by decide) ?_
      obtain ⟨r33, s34, hc35, hF36⟩ := ae_bdI hF32
      refine ae_cV0 (q := (19, 0)) (As := [ae_i (102 : Int32), ae_i r29, ae_i (0 : Int32)]) dX5_takeBehind_224 ww_649 vy_X5_await rfl rfl rfl rfl rfl (Nat.le_of_ble_eq_true rfl) (c_X5_await (d + 3) hc35) ?_
      refine ae_aload_n 2 dX5_takeBehind_227 rfl ?_
      refine ae_iconst (0 : Int32) dX5_takeBehind_228 (by decide) ?_
      obtain ⟨s37, hs37, hF38⟩ := ae_ltI hF36
      refine ae_putI (q := (19, 0)) dX5_takeBehind_229 fl_RX5_45 rfl rfl (ae_nmS hs37 ?_)
      refine ae_iconst (1 : Int32) dX5_takeBehind_232 (by decide) ?_
      obtain ⟨rfl, rfl⟩ := ae_retI hF38
      exact ae_iret dX5_takeBehind_233 rfl (by decide) ⟨rfl, rfl⟩
    · have hF39 := ae_ifF hb23 hF22
      by_cases hb40 : r19 = (104 : Int32)
      · have hF41 := ae_ifT hb40 hF39
        refine ae_tabIn 130 dX5_takeBehind_30 (by rw [hb40]; decide) (by rw [hb40]; decide) (by rw [hb40]; rfl) rfl ?_
        refine ae_aload_n 2 dX5_takeBehind_130 rfl ?_
        obtain ⟨r42, s43, hc44, hF45⟩ := ae_bdI hF41
        refine ae_cV0 (q := (19, 0)) (As := []) dX5_takeBehind_131 ww_670 vy_X5_drop rfl rfl rfl rfl rfl (Nat.le_of_ble_eq_true rfl) (c_X5_drop (d + 3) hc44) ?_
        refine ae_aload_n 2 dX5_takeBehind_134 rfl ?_
        refine ae_getO (q := (19, 0)) (some (15, 0)) dX5_takeBehind_135 fl_RX5_19 rfl rfl rfl ?_
        refine ae_iconst (3 : Int32) dX5_takeBehind_138 (by decide) ?_
        refine ae_iload_n 0 dX5_takeBehind_139 rfl ?_
        refine ae_i2l dX5_takeBehind_140 ?_
        refine ae_iconst (0 : Int32) dX5_takeBehind_141 (by decide) ?_
        obtain ⟨r46, s47, hc48, hF49⟩ := ae_bdI hF45
        refine ae_cV1 (q := (15, 0)) (As := [ae_i (3 : Int32), ae_l r15.toInt64, ae_i (0 : Int32)]) dX5_takeBehind_142 ww_642 vy_X1_add rfl rfl rfl rfl rfl (Nat.le_of_ble_eq_true rfl) (c_X1_add (d + 3) hc48) ?_
        refine ae_pop dX5_takeBehind_145 rfl ?_
        refine ae_aload_n 2 dX5_takeBehind_146 rfl ?_
        refine ae_getO (q := (19, 0)) (some (12, 0)) dX5_takeBehind_147 fl_RX5_9 rfl rfl rfl ?_
        refine ae_bipush (93 : Int32) dX5_takeBehind_150 (by decide) ?_
        obtain ⟨r50, s51, hc52, hF53⟩ := ae_bdI hF49
        refine ae_cV1 (q := (12, 0)) (As := [ae_i (93 : Int32)]) dX5_takeBehind_152 ww_674 vy_X8_takeSign rfl rfl rfl rfl rfl (Nat.le_of_ble_eq_true rfl) (c_X8_takeSign (d + 2) hc52) ?_
        refine ae_if_eq 170 dX5_takeBehind_155 rfl (fun hb54 => ?_) (fun hb54 => ?_)
        · have hF55 := ae_ifT hb54 hF53
          refine ae_pick (lv' := []) [] rfl ?_
          exact t_X5_takeBehind_170 d s51 hF55
        · have hF55 := ae_ifF hb54 hF53
          refine ae_aload_n 2 dX5_takeBehind_158 rfl ?_
          refine ae_iload_n 0 dX5_takeBehind_159 rfl ?_
          obtain ⟨r56, s57, hc58, hF59⟩ := ae_bdI hF55
          refine ae_cV1 (q := (19, 0)) (As := [ae_i r15]) dX5_takeBehind_160 ww_699 vy_X5_takeEquals rfl rfl rfl rfl rfl (Nat.le_of_ble_eq_true rfl) (c_X5_takeEquals d hc58) ?_
          refine ae_if_eq 170 dX5_takeBehind_163 rfl (fun hb60 => ?_) (fun hb60 => ?_)
          · have hF61 := ae_ifT hb60 hF59
            refine ae_pick (lv' := []) [] rfl ?_
            exact t_X5_takeBehind_170 d s57 hF61
          · have hF61 := ae_ifF hb60 hF59
            refine ae_iconst (1 : Int32) dX5_takeBehind_166 (by decide) ?_
            refine ae_goto 171 dX5_takeBehind_167 rfl ?_
            refine ae_pick (lv' := []) [] rfl ?_
            exact t_X5_takeBehind_171 d (1 : Int32) s57 hF61
      · have hF62 := ae_ifF hb40 hF39
        by_cases hb63 : r19 = (105 : Int32)
        · have hF64 := ae_ifT hb63 hF62
          refine ae_tabIn 172 dX5_takeBehind_30 (by rw [hb63]; decide) (by rw [hb63]; decide) (by rw [hb63]; rfl) rfl ?_
          refine ae_aload_n 2 dX5_takeBehind_172 rfl ?_
          refine ae_getO (q := (19, 0)) (some (15, 0)) dX5_takeBehind_173 fl_RX5_19 rfl rfl rfl ?_
          refine ae_iconst (5 : Int32) dX5_takeBehind_176 (by decide) ?_
          refine ae_iload_n 0 dX5_takeBehind_177 rfl ?_
          refine ae_i2l dX5_takeBehind_178 ?_
          refine ae_aload_n 2 dX5_takeBehind_179 rfl ?_
          obtain ⟨r65, s66, hc67, hF68⟩ := ae_bdI hF64
          refine ae_cV1 (q := (19, 0)) (As := []) dX5_takeBehind_180 ww_805 vy_X5_awaitedSecond rfl rfl rfl rfl rfl (Nat.le_of_ble_eq_true rfl) (c_X5_awaitedSecond (d + 3) hc67) ?_
          obtain ⟨r69, s70, hc71, hF72⟩ := ae_bdI hF68
          refine ae_cV1 (q := (15, 0)) (As := [ae_i (5 : Int32), ae_l r15.toInt64, ae_i r65]) dX5_takeBehind_183 ww_642 vy_X1_add rfl rfl rfl rfl rfl (Nat.le_of_ble_eq_true rfl) (c_X1_add (d + 3) hc71) ?_
          refine ae_pop dX5_takeBehind_186 rfl ?_
          refine ae_aload_n 2 dX5_takeBehind_187 rfl ?_
          obtain ⟨r73, s74, hc75, hF76⟩ := ae_bdI hF72
          refine ae_cV0 (q := (19, 0)) (As := []) dX5_takeBehind_188 ww_670 vy_X5_drop rfl rfl rfl rfl rfl (Nat.le_of_ble_eq_true rfl) (c_X5_drop (d + 3) hc75) ?_
          refine ae_aload_n 2 dX5_takeBehind_191 rfl ?_
          obtain ⟨r77, s78, hc79, hF80⟩ := ae_bdI hF76
          refine ae_cV0 (q := (19, 0)) (As := []) dX5_takeBehind_192 ww_654 vy_X5_endStatement rfl rfl rfl rfl rfl (Nat.le_of_ble_eq_true rfl) (c_X5_endStatement (d + 2) hc79) ?_
          refine ae_aload_n 2 dX5_takeBehind_195 rfl ?_
          refine ae_getO (q := (19, 0)) (some (12, 0)) dX5_takeBehind_196 fl_RX5_9 rfl rfl rfl ?_
          refine ae_bipush (59 : Int32) dX5_takeBehind_199 (by decide) ?_
          obtain ⟨r81, s82, hc83, hF84⟩ := ae_bdI hF80
          refine ae_cV1 (q := (12, 0)) (As := [ae_i (59 : Int32)]) dX5_takeBehind_201 ww_674 vy_X8_takeSign rfl rfl rfl rfl rfl (Nat.le_of_ble_eq_true rfl) (c_X8_takeSign (d + 2) hc83) ?_
          obtain ⟨hg85, hF86⟩ := ae_gdI hF84
          obtain ⟨rfl, rfl⟩ := ae_retI hF86
          exact ae_iret dX5_takeBehind_204 rfl (ae_zzN (ae_zzI hg85)) ⟨rfl, rfl⟩
        · have hF87 := ae_ifF hb63 hF62
          by_cases hb88 : r19 = (106 : Int32)
          · have hF89 := ae_ifT hb88 hF87
            refine ae_tabIn 64 dX5_takeBehind_30 (by rw [hb88]; decide) (by rw [hb88]; decide) (by rw [hb88]; rfl) rfl ?_
            refine ae_aload_n 2 dX5_takeBehind_64 rfl ?_
            obtain ⟨r90, s91, hc92, hF93⟩ := ae_bdI hF89
            refine ae_cV0 (q := (19, 0)) (As := []) dX5_takeBehind_65 ww_670 vy_X5_drop rfl rfl rfl rfl rfl (Nat.le_of_ble_eq_true rfl) (c_X5_drop (d + 3) hc92) ?_
            refine ae_aload_n 2 dX5_takeBehind_68 rfl ?_
            refine ae_dup dX5_takeBehind_69 rfl ?_
            refine ae_getI (q := (19, 0)) dX5_takeBehind_70 fl_RX5_42 rfl rfl ?_
            refine ae_iconst (1 : Int32) dX5_takeBehind_73 (by decide) ?_
            refine ae_isub dX5_takeBehind_74 ?_
            obtain ⟨s94, hs94, hF95⟩ := ae_ltI hF93
            refine ae_putI (q := (19, 0)) dX5_takeBehind_75 fl_RX5_42 rfl rfl (ae_nmS hs94 ?_)
            refine ae_aload_n 2 dX5_takeBehind_78 rfl ?_
            refine ae_getO (q := (19, 0)) (some (12, 0)) dX5_takeBehind_79 fl_RX5_9 rfl rfl rfl ?_
            refine ae_bipush (41 : Int32) dX5_takeBehind_82 (by decide) ?_
            obtain ⟨r96, s97, hc98, hF99⟩ := ae_bdI hF95
            refine ae_cV1 (q := (12, 0)) (As := [ae_i (41 : Int32)]) dX5_takeBehind_84 ww_674 vy_X8_takeSign rfl rfl rfl rfl rfl (Nat.le_of_ble_eq_true rfl) (c_X8_takeSign (d + 2) hc98) ?_
            obtain ⟨hg100, hF101⟩ := ae_gdI hF99
            obtain ⟨rfl, rfl⟩ := ae_retI hF101
            exact ae_iret dX5_takeBehind_87 rfl (ae_zzN (ae_zzI hg100)) ⟨rfl, rfl⟩
          · have hF102 := ae_ifF hb88 hF87
            by_cases hb103 : r19 = (107 : Int32)
            · have hF104 := ae_ifT hb103 hF102
              refine ae_tabIn 88 dX5_takeBehind_30 (by rw [hb103]; decide) (by rw [hb103]; decide) (by rw [hb103]; rfl) rfl ?_
              refine ae_aload_n 2 dX5_takeBehind_88 rfl ?_
              obtain ⟨r105, s106, hc107, hF108⟩ := ae_bdI hF104
              refine ae_cV0 (q := (19, 0)) (As := []) dX5_takeBehind_89 ww_670 vy_X5_drop rfl rfl rfl rfl rfl (Nat.le_of_ble_eq_true rfl) (c_X5_drop (d + 3) hc107) ?_
              refine ae_aload_n 2 dX5_takeBehind_92 rfl ?_
              refine ae_getO (q := (19, 0)) (some (15, 0)) dX5_takeBehind_93 fl_RX5_19 rfl rfl rfl ?_
              refine ae_iconst (3 : Int32) dX5_takeBehind_96 (by decide) ?_
              refine ae_iload_n 0 dX5_takeBehind_97 rfl ?_
              refine ae_i2l dX5_takeBehind_98 ?_
              refine ae_iconst (0 : Int32) dX5_takeBehind_99 (by decide) ?_
              obtain ⟨r109, s110, hc111, hF112⟩ := ae_bdI hF108
              refine ae_cV1 (q := (15, 0)) (As := [ae_i (3 : Int32), ae_l r15.toInt64, ae_i (0 : Int32)]) dX5_takeBehind_100 ww_642 vy_X1_add rfl rfl rfl rfl rfl (Nat.le_of_ble_eq_true rfl) (c_X1_add (d + 3) hc111) ?_
              refine ae_pop dX5_takeBehind_103 rfl ?_
              refine ae_aload_n 2 dX5_takeBehind_104 rfl ?_
              refine ae_getO (q := (19, 0)) (some (12, 0)) dX5_takeBehind_105 fl_RX5_9 rfl rfl rfl ?_
              refine ae_bipush (93 : Int32) dX5_takeBehind_108 (by decide) ?_
              obtain ⟨r113, s114, hc115, hF116⟩ := ae_bdI hF112
              refine ae_cV1 (q := (12, 0)) (As := [ae_i (93 : Int32)]) dX5_takeBehind_110 ww_674 vy_X8_takeSign rfl rfl rfl rfl rfl (Nat.le_of_ble_eq_true rfl) (c_X8_takeSign (d + 2) hc115) ?_
              refine ae_if_eq 128 dX5_takeBehind_113 rfl (fun hb117 => ?_) (fun hb117 => ?_)
              · have hF118 := ae_ifT hb117 hF116
                refine ae_pick (lv' := []) [] rfl ?_
                exact t_X5_takeBehind_128 d s114 hF118
              · have hF118 := ae_ifF hb117 hF116
                refine ae_aload_n 2 dX5_takeBehind_116 rfl ?_
                refine ae_iload_n 0 dX5_takeBehind_117 rfl ?_
                obtain ⟨r119, s120, hc121, hF122⟩ := ae_bdI hF118
                refine ae_cV1 (q := (19, 0)) (As := [ae_i r15]) dX5_takeBehind_118 ww_782 vy_X5_takeLoad rfl rfl rfl rfl rfl (Nat.le_of_ble_eq_true rfl) (c_X5_takeLoad d hc121) ?_
                refine ae_if_eq 128 dX5_takeBehind_121 rfl (fun hb123 => ?_) (fun hb123 => ?_)
                · have hF124 := ae_ifT hb123 hF122
                  refine ae_pick (lv' := []) [] rfl ?_
                  exact t_X5_takeBehind_128 d s120 hF124
                · have hF124 := ae_ifF hb123 hF122
                  refine ae_iconst (1 : Int32) dX5_takeBehind_124 (by decide) ?_
                  refine ae_goto 129 dX5_takeBehind_125 rfl ?_
                  refine ae_pick (lv' := []) [] rfl ?_
                  exact t_X5_takeBehind_129 d (1 : Int32) s120 hF124
            · have hF125 := ae_ifF hb103 hF102
              have hn132 : ¬ (r19).toInt = 103 := lv_neT hb23 (by decide)
              have hn133 : ¬ (r19).toInt = 104 := lv_neT hb40 (by decide)
              have hn134 : ¬ (r19).toInt = 105 := lv_neT hb63 (by decide)
              have hn135 : ¬ (r19).toInt = 106 := lv_neT hb88 (by decide)
              have hn136 : ¬ (r19).toInt = 107 := lv_neT hb103 (by decide)
              refine ae_tabOut 234 dX5_takeBehind_30 (by omega) rfl ?_
              refine ae_aload_n 2 dX5_takeBehind_234 rfl ?_
              refine ae_getO (q := (19, 0)) (some (12, 0)) dX5_takeBehind_235 fl_RX5_9 rfl rfl rfl ?_
              refine ae_iconst (1 : Int32) dX5_takeBehind_238 (by decide) ?_
              obtain ⟨r126, s127, hc128, hF129⟩ := ae_bdI hF125
              refine ae_cV1 (q := (12, 0)) (As := [ae_i (1 : Int32)]) dX5_takeBehind_239 ww_680 vy_X8_refuse rfl rfl rfl rfl rfl (Nat.le_of_ble_eq_true rfl) (c_X8_refuse (d + 3) hc128) ?_
              obtain ⟨hg130, hF131⟩ := ae_gdI hF129
              obtain ⟨rfl, rfl⟩ := ae_retI hF131
              exact ae_iret dX5_takeBehind_242 rfl (ae_zzN (ae_zzI hg130)) ⟨rfl, rfl⟩
  · have hF10 := ae_ifF hb9 hF8
    refine ae_aload_n 1 dX5_takeBehind_10 rfl ?_
    refine ae_iload_n 0 dX5_takeBehind_11 rfl ?_
    obtain ⟨r137, s138, hc139, hF140⟩ := ae_bdI hF10
    refine ae_cV1 (q := (19, 0)) (As := [ae_i r5]) dX5_takeBehind_12 ww_794 vy_X5_takeOperation rfl rfl rfl rfl rfl (Nat.le_of_ble_eq_true rfl) (c_X5_takeOperation (d + 1) hc139) ?_
    obtain ⟨hg141, hF142⟩ := ae_gdI hF140
    obtain ⟨rfl, rfl⟩ := ae_retI hF142
    exact ae_iret dX5_takeBehind_15 rfl (ae_zzN (ae_zzI hg141)) ⟨rfl, rfl⟩
abbrev mX5_takeNumber : ae_M := (RX5, cX5_takeNumber, 7, some .boolean)
theorem vy_X5_takeNumber : ae_VY yX5_takeNumber mX5_takeNumber 0 := ⟨ww_719, wq_26, ww_11, ww_720, ⟨by decide, by decide, by decide +kernel⟩, by decide⟩
theorem dX5_takeNumber_0 : decode cX5_takeNumber 0 = .ok (.aload_n 0, 1) := by decide +kernel
theorem dX5_takeNumber_1 : decode cX5_takeNumber 1 = .ok (.getfield 9, 3) := by decide +kernel
theorem dX5_takeNumber_4 : decode cX5_takeNumber 4 = .ok (.invokevirtual 139, 3) := by decide +kernel
theorem dX5_takeNumber_7 : decode cX5_takeNumber 7 = .ok (.lstore_n 1, 1) := by decide +kernel
theorem dX5_takeNumber_8 : decode cX5_takeNumber 8 = .ok (.aload_n 0, 1) := by decide +kernel
theorem dX5_takeNumber_9 : decode cX5_takeNumber 9 = .ok (.getfield 9, 3) := by decide +kernel
theorem dX5_takeNumber_12 : decode cX5_takeNumber 12 = .ok (.invokevirtual 77, 3) := by decide +kernel
theorem dX5_takeNumber_15 : decode cX5_takeNumber 15 = .ok (.aload_n 0, 1) := by decide +kernel
theorem dX5_takeNumber_16 : decode cX5_takeNumber 16 = .ok (.iconst 2, 1) := by decide +kernel
theorem dX5_takeNumber_17 : decode cX5_takeNumber 17 = .ok (.putfield 45, 3) := by decide +kernel
theorem dX5_takeNumber_20 : decode cX5_takeNumber 20 = .ok (.aload_n 0, 1) := by decide +kernel
theorem dX5_takeNumber_21 : decode cX5_takeNumber 21 = .ok (.getfield 9, 3) := by decide +kernel
theorem dX5_takeNumber_24 : decode cX5_takeNumber 24 = .ok (.bipush 46, 2) := by decide +kernel
theorem dX5_takeNumber_26 : decode cX5_takeNumber 26 = .ok (.invokevirtual 93, 3) := by decide +kernel
theorem dX5_takeNumber_29 : decode cX5_takeNumber 29 = .ok (.ifCond .ne 16, 3) := by decide +kernel
theorem dX5_takeNumber_32 : decode cX5_takeNumber 32 = .ok (.aload_n 0, 1) := by decide +kernel
theorem dX5_takeNumber_33 : decode cX5_takeNumber 33 = .ok (.getfield 19, 3) := by decide +kernel
theorem dX5_takeNumber_36 : decode cX5_takeNumber 36 = .ok (.iconst 1, 1) := by decide +kernel
theorem dX5_takeNumber_37 : decode cX5_takeNumber 37 = .ok (.lload_n 1, 1) := by decide +kernel
theorem dX5_takeNumber_38 : decode cX5_takeNumber 38 = .ok (.iconst 0, 1) := by decide +kernel
theorem dX5_takeNumber_39 : decode cX5_takeNumber 39 = .ok (.invokevirtual 67, 3) := by decide +kernel
theorem dX5_takeNumber_42 : decode cX5_takeNumber 42 = .ok (.pop, 1) := by decide +kernel
theorem dX5_takeNumber_43 : decode cX5_takeNumber 43 = .ok (.iconst 1, 1) := by decide +kernel
theorem dX5_takeNumber_44 : decode cX5_takeNumber 44 = .ok (.ireturn, 1) := by decide +kernel
theorem dX5_takeNumber_45 : decode cX5_takeNumber 45 = .ok (.aload_n 0, 1) := by decide +kernel
theorem dX5_takeNumber_46 : decode cX5_takeNumber 46 = .ok (.getfield 9, 3) := by decide +kernel
theorem dX5_takeNumber_49 : decode cX5_takeNumber 49 = .ok (.invokevirtual 77, 3) := by decide +kernel
theorem dX5_takeNumber_52 : decode cX5_takeNumber 52 = .ok (.aload_n 0, 1) := by decide +kernel
theorem dX5_takeNumber_53 : decode cX5_takeNumber 53 = .ok (.getfield 9, 3) := by decide +kernel
theorem dX5_takeNumber_56 : decode cX5_takeNumber 56 = .ok (.invokevirtual 130, 3) := by decide +kernel
theorem dX5_takeNumber_59 : decode cX5_takeNumber 59 = .ok (.ifCond .ne 12, 3) := by decide +kernel
theorem dX5_takeNumber_62 : decode cX5_takeNumber 62 = .ok (.aload_n 0, 1) := by decide +kernel
theorem dX5_takeNumber_63 : decode cX5_takeNumber 63 = .ok (.getfield 9, 3) := by decide +kernel
theorem dX5_takeNumber_66 : decode cX5_takeNumber 66 = .ok (.iconst 1, 1) := by decide +kernel
theorem dX5_takeNumber_67 : decode cX5_takeNumber 67 = .ok (.invokevirtual 63, 3) := by decide +kernel
theorem dX5_takeNumber_70 : decode cX5_takeNumber 70 = .ok (.ireturn, 1) := by decide +kernel
theorem dX5_takeNumber_71 : decode cX5_takeNumber 71 = .ok (.lconst 1, 1) := by decide +kernel
theorem dX5_takeNumber_72 : decode cX5_takeNumber 72 = .ok (.lstore_n 3, 1) := by decide +kernel
theorem dX5_takeNumber_73 : decode cX5_takeNumber 73 = .ok (.iconst 0, 1) := by decide +kernel
theorem dX5_takeNumber_74 : decode cX5_takeNumber 74 = .ok (.istore 5, 2) := by decide +kernel
theorem dX5_takeNumber_76 : decode cX5_takeNumber 76 = .ok (.iload 5, 2) := by decide +kernel
theorem dX5_takeNumber_78 : decode cX5_takeNumber 78 = .ok (.aload_n 0, 1) := by decide +kernel
theorem dX5_takeNumber_79 : decode cX5_takeNumber 79 = .ok (.getfield 9, 3) := by decide +kernel
theorem dX5_takeNumber_82 : decode cX5_takeNumber 82 = .ok (.invokevirtual 143, 3) := by decide +kernel
theorem dX5_takeNumber_85 : decode cX5_takeNumber 85 = .ok (.if_icmp .ge 22, 3) := by decide +kernel
theorem dX5_takeNumber_88 : decode cX5_takeNumber 88 = .ok (.iload 5, 2) := by decide +kernel
theorem dX5_takeNumber_90 : decode cX5_takeNumber 90 = .ok (.bipush 9, 2) := by decide +kernel
theorem dX5_takeNumber_92 : decode cX5_takeNumber 92 = .ok (.if_icmp .ge 15, 3) := by decide +kernel
theorem dX5_takeNumber_95 : decode cX5_takeNumber 95 = .ok (.lload_n 3, 1) := by decide +kernel
theorem dX5_takeNumber_96 : decode cX5_takeNumber 96 = .ok (.ldc2_w 146, 3) := by decide +kernel
theorem dX5_takeNumber_99 : decode cX5_takeNumber 99 = .ok (.lmul, 1) := by decide +kernel
theorem dX5_takeNumber_100 : decode cX5_takeNumber 100 = .ok (.lstore_n 3, 1) := by decide +kernel
theorem dX5_takeNumber_101 : decode cX5_takeNumber 101 = .ok (.iinc 5 1, 3) := by decide +kernel
theorem dX5_takeNumber_104 : decode cX5_takeNumber 104 = .ok (.goto (-28), 3) := by decide +kernel
theorem dX5_takeNumber_107 : decode cX5_takeNumber 107 = .ok (.aload_n 0, 1) := by decide +kernel
theorem dX5_takeNumber_108 : decode cX5_takeNumber 108 = .ok (.getfield 9, 3) := by decide +kernel
theorem dX5_takeNumber_111 : decode cX5_takeNumber 111 = .ok (.invokevirtual 139, 3) := by decide +kernel
theorem dX5_takeNumber_114 : decode cX5_takeNumber 114 = .ok (.invokestatic 148, 3) := by decide +kernel
theorem dX5_takeNumber_117 : decode cX5_takeNumber 117 = .ok (.lload_n 3, 1) := by decide +kernel
theorem dX5_takeNumber_118 : decode cX5_takeNumber 118 = .ok (.invokestatic 148, 3) := by decide +kernel
theorem dX5_takeNumber_121 : decode cX5_takeNumber 121 = .ok (.invokestatic 154, 3) := by decide +kernel
theorem dX5_takeNumber_124 : decode cX5_takeNumber 124 = .ok (.lstore 5, 2) := by decide +kernel
theorem dX5_takeNumber_126 : decode cX5_takeNumber 126 = .ok (.aload_n 0, 1) := by decide +kernel
theorem dX5_takeNumber_127 : decode cX5_takeNumber 127 = .ok (.getfield 19, 3) := by decide +kernel
theorem dX5_takeNumber_130 : decode cX5_takeNumber 130 = .ok (.iconst 2, 1) := by decide +kernel
theorem dX5_takeNumber_131 : decode cX5_takeNumber 131 = .ok (.lload_n 1, 1) := by decide +kernel
theorem dX5_takeNumber_132 : decode cX5_takeNumber 132 = .ok (.invokestatic 148, 3) := by decide +kernel
theorem dX5_takeNumber_135 : decode cX5_takeNumber 135 = .ok (.lload 5, 2) := by decide +kernel
theorem dX5_takeNumber_137 : decode cX5_takeNumber 137 = .ok (.invokestatic 158, 3) := by decide +kernel
theorem dX5_takeNumber_140 : decode cX5_takeNumber 140 = .ok (.iconst 0, 1) := by decide +kernel
theorem dX5_takeNumber_141 : decode cX5_takeNumber 141 = .ok (.invokevirtual 67, 3) := by decide +kernel
theorem dX5_takeNumber_144 : decode cX5_takeNumber 144 = .ok (.pop, 1) := by decide +kernel
theorem dX5_takeNumber_145 : decode cX5_takeNumber 145 = .ok (.aload_n 0, 1) := by decide +kernel
theorem dX5_takeNumber_146 : decode cX5_takeNumber 146 = .ok (.getfield 9, 3) := by decide +kernel
theorem dX5_takeNumber_149 : decode cX5_takeNumber 149 = .ok (.invokevirtual 77, 3) := by decide +kernel
theorem dX5_takeNumber_152 : decode cX5_takeNumber 152 = .ok (.iconst 1, 1) := by decide +kernel
theorem dX5_takeNumber_153 : decode cX5_takeNumber 153 = .ok (.ireturn, 1) := by decide +kernel
def F_X5_takeNumber_107 (v1 : Int64) (v3 : Int64) (s0 : ae_S) : Option (Int32 × ae_S) := ae_bd (F_X8_value s0) (fun (r1 : Int64) s2 => ae_bd (F_X2_ofWhole r1 s2) (fun (r5 : Int64) s6 => ae_bd (F_X2_ofWhole v3 s6) (fun (r9 : Int64) s10 => ae_bd (F_X2_divide r5 r9 s10) (fun (r13 : Int64) s14 => ae_bd (F_X2_ofWhole v1 s14) (fun (r17 : Int64) s18 => ae_bd (F_X2_add r17 r13 s18) (fun (r21 : Int64) s22 => ae_bd (F_X1_add (2 : Int32) r21 (0 : Int32) s22) (fun (r25 : Int32) s26 => ae_bd (F_X8_advance s26) (fun (r29 : Unit) s30 => some ((1 : Int32), s30)))))))))
set_option maxHeartbeats 4000000 in
set_option maxRecDepth 100000 in
theorem t_X5_takeNumber_107 {l : Launch} {G : ae_G} (d : Nat) {rr : Int32} {ss : ae_S} (v1 : Int64) (v3 : Int64) (s0 : ae_S) (hF : F_X5_takeNumber_107 v1 v3 s0 = some (rr, ss)) : ae_T l G (d + 5) mX5_takeNumber (ae_Po (some (ae_i rr)) ss) 107 [(0, ae_r (some (19, 0))), (1, ae_l v1), (3, ae_l v3)] [] s0 := by
  unfold F_X5_takeNumber_107 at hF
  refine ae_aload_n 0 dX5_takeNumber_107 rfl ?_
  refine ae_getO (q := (19, 0)) (some (12, 0)) dX5_takeNumber_108 fl_RX5_9 rfl rfl rfl ?_
  obtain ⟨r1, s2, hc3, hF4⟩ := ae_bdI hF
  refine ae_cV1 (q := (12, 0)) (As := []) dX5_takeNumber_111 ww_694 vy_X8_value rfl rfl rfl rfl rfl (Nat.le_of_ble_eq_true rfl) (c_X8_value (d + 4) hc3) ?_
  obtain ⟨r5, s6, hc7, hF8⟩ := ae_bdI hF4
  refine ae_cS1 (As := [ae_l r1]) dX5_takeNumber_114 ww_726 vy_X2_ofWhole rfl rfl (Nat.le_of_ble_eq_true rfl) (c_X2_ofWhole (d + 1) hc7) ?_
  refine ae_lload_n 2 dX5_takeNumber_117 rfl ?_
  obtain ⟨r9, s10, hc11, hF12⟩ := ae_bdI hF8
  refine ae_cS1 (As := [ae_l v3]) dX5_takeNumber_118 ww_726 vy_X2_ofWhole rfl rfl (Nat.le_of_ble_eq_true rfl) (c_X2_ofWhole (d + 1) hc11) ?_
  obtain ⟨r13, s14, hc15, hF16⟩ := ae_bdI hF12
  refine ae_cS1 (As := [ae_l r5, ae_l r9]) dX5_takeNumber_121 ww_745 vy_X2_divide rfl rfl (Nat.le_of_ble_eq_true rfl) (c_X2_divide d hc15) ?_
  refine ae_lstore (lv' := [(5, ae_l r13), (0, ae_r (some (19, 0))), (1, ae_l v1), (3, ae_l v3)]) dX5_takeNumber_124 (by decide) rfl ?_
  refine ae_aload_n 1 dX5_takeNumber_126 rfl ?_
  refine ae_getO (q := (19, 0)) (some (15, 0)) dX5_takeNumber_127 fl_RX5_19 rfl rfl rfl ?_
  refine ae_iconst (2 : Int32) dX5_takeNumber_130 (by decide) ?_
  refine ae_lload_n 2 dX5_takeNumber_131 rfl ?_
  obtain ⟨r17, s18, hc19, hF20⟩ := ae_bdI hF16
  refine ae_cS1 (As := [ae_l v1]) dX5_takeNumber_132 ww_726 vy_X2_ofWhole rfl rfl (Nat.le_of_ble_eq_true rfl) (c_X2_ofWhole (d + 1) hc19) ?_
  refine ae_lload 0 dX5_takeNumber_135 rfl ?_
  obtain ⟨r21, s22, hc23, hF24⟩ := ae_bdI hF20
  refine ae_cS1 (As := [ae_l r17, ae_l r13]) dX5_takeNumber_137 ww_773 vy_X2_add rfl rfl (Nat.le_of_ble_eq_true rfl) (c_X2_add d hc23) ?_
  refine ae_iconst (0 : Int32) dX5_takeNumber_140 (by decide) ?_
  obtain ⟨r25, s26, hc27, hF28⟩ := ae_bdI hF24
  refine ae_cV1 (q := (15, 0)) (As := [ae_i (2 : Int32), ae_l r21, ae_i (0 : Int32)]) dX5_takeNumber_141 ww_642 vy_X1_add rfl rfl rfl rfl rfl (Nat.le_of_ble_eq_true rfl) (c_X1_add (d + 4) hc27) ?_
  refine ae_pop dX5_takeNumber_144 rfl ?_
  refine ae_aload_n 1 dX5_takeNumber_145 rfl ?_
  refine ae_getO (q := (19, 0)) (some (12, 0)) dX5_takeNumber_146 fl_RX5_9 rfl rfl rfl ?_
  obtain ⟨r29, s30, hc31, hF32⟩ := ae_bdI hF28
  refine ae_cV0 (q := (12, 0)) (As := []) dX5_takeNumber_149 ww_648 vy_X8_advance rfl rfl rfl rfl rfl (Nat.le_of_ble_eq_true rfl) (c_X8_advance (d + 4) hc31) ?_
  refine ae_iconst (1 : Int32) dX5_takeNumber_152 (by decide) ?_
  obtain ⟨rfl, rfl⟩ := ae_retI hF32
  exact ae_iret dX5_takeNumber_153 rfl (by decide) ⟨rfl, rfl⟩
def F_X5_takeNumber_76 : Nat → Int64 → Int64 → Int32 → ae_S → Option (Int32 × ae_S)
  | 0, _, _, _, _ => none
  | n + 1, v1, v3, v5, s0 => ae_bd (F_X8_length s0) (fun (r33 : Int32) s34 => if r33 ≤ v5 then (F_X5_takeNumber_107 v1 v3 s34) else (if (9 : Int32) ≤ v5 then (F_X5_takeNumber_107 v1 v3 s34) else (ae_lt (v3 * (10 : Int64)) (fun x41 => ae_lt (v5 + (1 : Int32)) (fun x43 => F_X5_takeNumber_76 n v1 x41 x43 s34)))))
set_option maxHeartbeats 4000000 in
set_option maxRecDepth 100000 in
theorem t_X5_takeNumber_76 {l : Launch} {G : ae_G} (d : Nat) {rr : Int32} {ss : ae_S} : ∀ (n : Nat) (v1 : Int64) (v3 : Int64) (v5 : Int32) (s0 : ae_S), F_X5_takeNumber_76 n v1 v3 v5 s0 = some (rr, ss) → ae_T l G (d + 5) mX5_takeNumber (ae_Po (some (ae_i rr)) ss) 76 [(0, ae_r (some (19, 0))), (1, ae_l v1), (3, ae_l v3), (5, ae_i v5)] [] s0 := by
  intro n
  induction n with
  | zero =>
    intro v1 v3 v5 s0 hF
    exact absurd (show (none : Option (Int32 × ae_S)) = some (rr, ss) from hF) (by simp)
  | succ n ih =>
    intro v1 v3 v5 s0 hF
    unfold F_X5_takeNumber_76 at hF
    refine ae_iload 3 dX5_takeNumber_76 rfl ?_
    refine ae_aload_n 0 dX5_takeNumber_78 rfl ?_
    refine ae_getO (q := (19, 0)) (some (12, 0)) dX5_takeNumber_79 fl_RX5_9 rfl rfl rfl ?_
    obtain ⟨r33, s34, hc35, hF36⟩ := ae_bdI hF
    refine ae_cV1 (q := (12, 0)) (As := []) dX5_takeNumber_82 ww_721 vy_X8_length rfl rfl rfl rfl rfl (Nat.le_of_ble_eq_true rfl) (c_X8_length (d + 4) hc35) ?_
    refine ae_icmp_ge 107 dX5_takeNumber_85 rfl (fun hb37 => ?_) (fun hb37 => ?_)
    · have hF38 := ae_ifT hb37 hF36
      refine ae_pick (lv' := [(0, ae_r (some (19, 0))), (1, ae_l v1), (3, ae_l v3)]) [0, 1, 2] rfl ?_
      exact t_X5_takeNumber_107 d v1 v3 s34 hF38
    · have hF38 := ae_ifF hb37 hF36
      refine ae_iload 3 dX5_takeNumber_88 rfl ?_
      refine ae_bipush (9 : Int32) dX5_takeNumber_90 (by decide) ?_
      refine ae_icmp_ge 107 dX5_takeNumber_92 rfl (fun hb39 => ?_) (fun hb39 => ?_)
      · have hF40 := ae_ifT hb39 hF38
        refine ae_pick (lv' := [(0, ae_r (some (19, 0))), (1, ae_l v1), (3, ae_l v3)]) [0, 1, 2] rfl ?_
        exact t_X5_takeNumber_107 d v1 v3 s34 hF40
      · have hF40 := ae_ifF hb39 hF38
        refine ae_lload_n 2 dX5_takeNumber_95 rfl ?_
        refine ae_ldc2 dX5_takeNumber_96 ww_725 ?_
        refine ae_lmul dX5_takeNumber_99 ?_
        obtain ⟨x41, hx41, hF42⟩ := ae_ltI hF40
        refine ae_nmL hx41 ?_
        refine ae_lstore_n (lv' := [(3, ae_l x41), (0, ae_r (some (19, 0))), (1, ae_l v1), (5, ae_i v5)]) dX5_takeNumber_100 (by decide) rfl ?_
        obtain ⟨x43, hx43, hF44⟩ := ae_ltI hF42
        refine ae_iinc (lv' := [(5, ae_i x43), (3, ae_l x41), (0, ae_r (some (19, 0))), (1, ae_l v1)]) 3 (1 : Int32) dX5_takeNumber_101 rfl (by decide) (by decide) (by rw [hx43]; rfl) ?_
        refine ae_goto 76 dX5_takeNumber_104 rfl ?_
        refine ae_pick (lv' := [(0, ae_r (some (19, 0))), (1, ae_l v1), (3, ae_l x41), (5, ae_i x43)]) [2, 3, 1, 0] rfl ?_
        exact ih v1 x41 x43 s34 hF44
def F_X5_takeNumber (s0 : ae_S) : Option (Int32 × ae_S) := ae_bd (F_X8_value s0) (fun (r45 : Int64) s46 => ae_bd (F_X8_advance s46) (fun (r49 : Unit) s50 => ae_lt (ae_wI s50 19 0 8 (2 : Int32)) (fun s53 => ae_bd (F_X8_isSign (46 : Int32) s53) (fun (r55 : Int32) s56 => if r55 = 0 then (ae_bd (F_X1_add (1 : Int32) r45 (0 : Int32) s56) (fun (r77 : Int32) s78 => some ((1 : Int32), s78))) else (ae_bd (F_X8_advance s56) (fun (r61 : Unit) s62 => ae_bd (F_X8_isNumber s62) (fun (r65 : Int32) s66 => if r65 = 0 then (ae_bd (F_X8_refuse (1 : Int32) s66) (fun (r71 : Int32) s72 => ae_gd (ae_zz r71) (some (r71, s72)))) else (F_X5_takeNumber_76 ae_fu r45 (1 : Int64) (0 : Int32) s66))))))))
set_option maxHeartbeats 4000000 in
set_option maxRecDepth 100000 in
theorem c_X5_takeNumber {l : Launch} {G : ae_G} (d : Nat) {s0 ss : ae_S} {rr : Int32} (hF : F_X5_takeNumber s0 = some (rr, ss)) : ae_Met l G (d + 5) yX5_takeNumber mX5_takeNumber [ae_r (some (19, 0))] s0 (ae_Po (some (ae_i rr)) ss) := by
  refine ae_enter (by decide) rfl (Nat.le_of_ble_eq_true rfl) ?_
  show ae_T l G (d + 5) mX5_takeNumber (ae_Po (some (ae_i rr)) ss) 0 [(0, ae_r (some (19, 0)))] [] s0
  unfold F_X5_takeNumber at hF
  refine ae_aload_n 0 dX5_takeNumber_0 rfl ?_
  refine ae_getO (q := (19, 0)) (some (12, 0)) dX5_takeNumber_1 fl_RX5_9 rfl rfl rfl ?_
  obtain ⟨r45, s46, hc47, hF48⟩ := ae_bdI hF
  refine ae_cV1 (q := (12, 0)) (As := []) dX5_takeNumber_4 ww_694 vy_X8_value rfl rfl rfl rfl rfl (Nat.le_of_ble_eq_true rfl) (c_X8_value (d + 4) hc47) ?_
  refine ae_lstore_n (lv' := [(1, ae_l r45), (0, ae_r (some (19, 0)))]) dX5_takeNumber_7 (by decide) rfl ?_
  refine ae_aload_n 1 dX5_takeNumber_8 rfl ?_
  refine ae_getO (q := (19, 0)) (some (12, 0)) dX5_takeNumber_9 fl_RX5_9 rfl rfl rfl ?_
  obtain ⟨r49, s50, hc51, hF52⟩ := ae_bdI hF48
  refine ae_cV0 (q := (12, 0)) (As := []) dX5_takeNumber_12 ww_648 vy_X8_advance rfl rfl rfl rfl rfl (Nat.le_of_ble_eq_true rfl) (c_X8_advance (d + 4) hc51) ?_
  refine ae_aload_n 1 dX5_takeNumber_15 rfl ?_
  refine ae_iconst (2 : Int32) dX5_takeNumber_16 (by decide) ?_
  obtain ⟨s53, hs53, hF54⟩ := ae_ltI hF52
  refine ae_putI (q := (19, 0)) dX5_takeNumber_17 fl_RX5_45 rfl rfl (ae_nmS hs53 ?_)
  refine ae_aload_n 1 dX5_takeNumber_20 rfl ?_
  refine ae_getO (q := (19, 0)) (some (12, 0)) dX5_takeNumber_21 fl_RX5_9 rfl rfl rfl ?_
  refine ae_bipush (46 : Int32) dX5_takeNumber_24 (by decide) ?_
  obtain ⟨r55, s56, hc57, hF58⟩ := ae_bdI hF54
  refine ae_cV1 (q := (12, 0)) (As := [ae_i (46 : Int32)]) dX5_takeNumber_26 ww_675 vy_X8_isSign rfl rfl rfl rfl rfl (Nat.le_of_ble_eq_true rfl) (c_X8_isSign (d + 4) hc57) ?_
  refine ae_if_ne 45 dX5_takeNumber_29 rfl (fun hb59 => ?_) (fun hb59 => ?_)
  · have hF60 := ae_ifF hb59 hF58
    refine ae_aload_n 1 dX5_takeNumber_45 rfl ?_
    refine ae_getO (q := (19, 0)) (some (12, 0)) dX5_takeNumber_46 fl_RX5_9 rfl rfl rfl ?_
    obtain ⟨r61, s62, hc63, hF64⟩ := ae_bdI hF60
    refine ae_cV0 (q := (12, 0)) (As := []) dX5_takeNumber_49 ww_648 vy_X8_advance rfl rfl rfl rfl rfl (Nat.le_of_ble_eq_true rfl) (c_X8_advance (d + 4) hc63) ?_
    refine ae_aload_n 1 dX5_takeNumber_52 rfl ?_
    refine ae_getO (q := (19, 0)) (some (12, 0)) dX5_takeNumber_53 fl_RX5_9 rfl rfl rfl ?_
    obtain ⟨r65, s66, hc67, hF68⟩ := ae_bdI hF64
    refine ae_cV1 (q := (12, 0)) (As := []) dX5_takeNumber_56 ww_716 vy_X8_isNumber rfl rfl rfl rfl rfl (Nat.le_of_ble_eq_true rfl) (c_X8_isNumber (d + 3) hc67) ?_
    refine ae_if_ne 71 dX5_takeNumber_59 rfl (fun hb69 => ?_) (fun hb69 => ?_)
    · have hF70 := ae_ifF hb69 hF68
      refine ae_lconst (1 : Int64) dX5_takeNumber_71 (by decide) ?_
      refine ae_lstore_n (lv' := [(3, ae_l (1 : Int64)), (1, ae_l r45), (0, ae_r (some (19, 0)))]) dX5_takeNumber_72 (by decide) rfl ?_
      refine ae_iconst (0 : Int32) dX5_takeNumber_73 (by decide) ?_
      refine ae_istore (lv' := [(5, ae_i (0 : Int32)), (3, ae_l (1 : Int64)), (1, ae_l r45), (0, ae_r (some (19, 0)))]) dX5_takeNumber_74 (by decide) rfl ?_
      refine ae_pick (lv' := [(0, ae_r (some (19, 0))), (1, ae_l r45), (3, ae_l (1 : Int64)), (5, ae_i (0 : Int32))]) [3, 2, 1, 0] rfl ?_
      exact t_X5_takeNumber_76 d ae_fu r45 (1 : Int64) (0 : Int32) s66 hF70
    · have hF70 := ae_ifT hb69 hF68
      refine ae_aload_n 1 dX5_takeNumber_62 rfl ?_
      refine ae_getO (q := (19, 0)) (some (12, 0)) dX5_takeNumber_63 fl_RX5_9 rfl rfl rfl ?_
      refine ae_iconst (1 : Int32) dX5_takeNumber_66 (by decide) ?_
      obtain ⟨r71, s72, hc73, hF74⟩ := ae_bdI hF70
      refine ae_cV1 (q := (12, 0)) (As := [ae_i (1 : Int32)]) dX5_takeNumber_67 ww_680 vy_X8_refuse rfl rfl rfl rfl rfl (Nat.le_of_ble_eq_true rfl) (c_X8_refuse (d + 4) hc73) ?_
      obtain ⟨hg75, hF76⟩ := ae_gdI hF74
      obtain ⟨rfl, rfl⟩ := ae_retI hF76
      exact ae_iret dX5_takeNumber_70 rfl (ae_zzN (ae_zzI hg75)) ⟨rfl, rfl⟩
  · have hF60 := ae_ifT hb59 hF58
    refine ae_aload_n 1 dX5_takeNumber_32 rfl ?_
    refine ae_getO (q := (19, 0)) (some (15, 0)) dX5_takeNumber_33 fl_RX5_19 rfl rfl rfl ?_
    refine ae_iconst (1 : Int32) dX5_takeNumber_36 (by decide) ?_
    refine ae_lload_n 0 dX5_takeNumber_37 rfl ?_
    refine ae_iconst (0 : Int32) dX5_takeNumber_38 (by decide) ?_
    obtain ⟨r77, s78, hc79, hF80⟩ := ae_bdI hF60
    refine ae_cV1 (q := (15, 0)) (As := [ae_i (1 : Int32), ae_l r45, ae_i (0 : Int32)]) dX5_takeNumber_39 ww_642 vy_X1_add rfl rfl rfl rfl rfl (Nat.le_of_ble_eq_true rfl) (c_X1_add (d + 4) hc79) ?_
    refine ae_pop dX5_takeNumber_42 rfl ?_
    refine ae_iconst (1 : Int32) dX5_takeNumber_43 (by decide) ?_
    obtain ⟨rfl, rfl⟩ := ae_retI hF80
    exact ae_iret dX5_takeNumber_44 rfl (by decide) ⟨rfl, rfl⟩
abbrev mX5_takeOpening : ae_M := (RX5, cX5_takeOpening, 3, some .boolean)
theorem vy_X5_takeOpening : ae_VY yX5_takeOpening mX5_takeOpening 2 := ⟨ww_678, wq_19, ww_11, ww_679, ⟨by decide, by decide, by decide +kernel⟩, by decide⟩
theorem dX5_takeOpening_0 : decode cX5_takeOpening 0 = .ok (.aload_n 0, 1) := by decide +kernel
theorem dX5_takeOpening_1 : decode cX5_takeOpening 1 = .ok (.getfield 42, 3) := by decide +kernel
theorem dX5_takeOpening_4 : decode cX5_takeOpening 4 = .ok (.iconst 5, 1) := by decide +kernel
theorem dX5_takeOpening_5 : decode cX5_takeOpening 5 = .ok (.if_icmp .lt 12, 3) := by decide +kernel
theorem dX5_takeOpening_8 : decode cX5_takeOpening 8 = .ok (.aload_n 0, 1) := by decide +kernel
theorem dX5_takeOpening_9 : decode cX5_takeOpening 9 = .ok (.getfield 9, 3) := by decide +kernel
theorem dX5_takeOpening_12 : decode cX5_takeOpening 12 = .ok (.iconst 5, 1) := by decide +kernel
theorem dX5_takeOpening_13 : decode cX5_takeOpening 13 = .ok (.invokevirtual 63, 3) := by decide +kernel
theorem dX5_takeOpening_16 : decode cX5_takeOpening 16 = .ok (.ireturn, 1) := by decide +kernel
theorem dX5_takeOpening_17 : decode cX5_takeOpening 17 = .ok (.aload_n 0, 1) := by decide +kernel
theorem dX5_takeOpening_18 : decode cX5_takeOpening 18 = .ok (.dup, 1) := by decide +kernel
theorem dX5_takeOpening_19 : decode cX5_takeOpening 19 = .ok (.getfield 42, 3) := by decide +kernel
theorem dX5_takeOpening_22 : decode cX5_takeOpening 22 = .ok (.iconst 1, 1) := by decide +kernel
theorem dX5_takeOpening_23 : decode cX5_takeOpening 23 = .ok (.iadd, 1) := by decide +kernel
theorem dX5_takeOpening_24 : decode cX5_takeOpening 24 = .ok (.putfield 42, 3) := by decide +kernel
theorem dX5_takeOpening_27 : decode cX5_takeOpening 27 = .ok (.aload_n 0, 1) := by decide +kernel
theorem dX5_takeOpening_28 : decode cX5_takeOpening 28 = .ok (.iload_n 1, 1) := by decide +kernel
theorem dX5_takeOpening_29 : decode cX5_takeOpening 29 = .ok (.iload_n 2, 1) := by decide +kernel
theorem dX5_takeOpening_30 : decode cX5_takeOpening 30 = .ok (.iconst 0, 1) := by decide +kernel
theorem dX5_takeOpening_31 : decode cX5_takeOpening 31 = .ok (.invokevirtual 80, 3) := by decide +kernel
theorem dX5_takeOpening_34 : decode cX5_takeOpening 34 = .ok (.aload_n 0, 1) := by decide +kernel
theorem dX5_takeOpening_35 : decode cX5_takeOpening 35 = .ok (.getfield 9, 3) := by decide +kernel
theorem dX5_takeOpening_38 : decode cX5_takeOpening 38 = .ok (.invokevirtual 77, 3) := by decide +kernel
theorem dX5_takeOpening_41 : decode cX5_takeOpening 41 = .ok (.iconst 1, 1) := by decide +kernel
theorem dX5_takeOpening_42 : decode cX5_takeOpening 42 = .ok (.ireturn, 1) := by decide +kernel
def F_X5_takeOpening (v1 : Int32) (v2 : Int32) (s0 : ae_S) : Option (Int32 × ae_S) := if (s0.1 19 0 7) < (5 : Int32) then (ae_lt (ae_wI s0 19 0 7 ((s0.1 19 0 7) + (1 : Int32))) (fun s3 => ae_bd (F_X5_await v1 v2 (0 : Int32) s3) (fun (r5 : Unit) s6 => ae_bd (F_X8_advance s6) (fun (r9 : Unit) s10 => some ((1 : Int32), s10))))) else (ae_bd (F_X8_refuse (5 : Int32) s0) (fun (r13 : Int32) s14 => ae_gd (ae_zz r13) (some (r13, s14))))
set_option maxHeartbeats 4000000 in
set_option maxRecDepth 100000 in
theorem c_X5_takeOpening {l : Launch} {G : ae_G} (d : Nat) {v1 : Int32} {v2 : Int32} {s0 ss : ae_S} {rr : Int32} (hF : F_X5_takeOpening v1 v2 s0 = some (rr, ss)) : ae_Met l G (d + 1) yX5_takeOpening mX5_takeOpening [ae_r (some (19, 0)), ae_i v1, ae_i v2] s0 (ae_Po (some (ae_i rr)) ss) := by
  refine ae_enter (by decide) rfl (Nat.le_of_ble_eq_true rfl) ?_
  show ae_T l G (d + 1) mX5_takeOpening (ae_Po (some (ae_i rr)) ss) 0 [(0, ae_r (some (19, 0))), (1, ae_i v1), (2, ae_i v2)] [] s0
  unfold F_X5_takeOpening at hF
  refine ae_aload_n 0 dX5_takeOpening_0 rfl ?_
  refine ae_getI (q := (19, 0)) dX5_takeOpening_1 fl_RX5_42 rfl rfl ?_
  refine ae_iconst (5 : Int32) dX5_takeOpening_4 (by decide) ?_
  refine ae_icmp_lt 17 dX5_takeOpening_5 rfl (fun hb1 => ?_) (fun hb1 => ?_)
  · have hF2 := ae_ifT hb1 hF
    refine ae_aload_n 0 dX5_takeOpening_17 rfl ?_
    refine ae_dup dX5_takeOpening_18 rfl ?_
    refine ae_getI (q := (19, 0)) dX5_takeOpening_19 fl_RX5_42 rfl rfl ?_
    refine ae_iconst (1 : Int32) dX5_takeOpening_22 (by decide) ?_
    refine ae_iadd dX5_takeOpening_23 ?_
    obtain ⟨s3, hs3, hF4⟩ := ae_ltI hF2
    refine ae_putI (q := (19, 0)) dX5_takeOpening_24 fl_RX5_42 rfl rfl (ae_nmS hs3 ?_)
    refine ae_aload_n 0 dX5_takeOpening_27 rfl ?_
    refine ae_iload_n 1 dX5_takeOpening_28 rfl ?_
    refine ae_iload_n 2 dX5_takeOpening_29 rfl ?_
    refine ae_iconst (0 : Int32) dX5_takeOpening_30 (by decide) ?_
    obtain ⟨r5, s6, hc7, hF8⟩ := ae_bdI hF4
    refine ae_cV0 (q := (19, 0)) (As := [ae_i v1, ae_i v2, ae_i (0 : Int32)]) dX5_takeOpening_31 ww_649 vy_X5_await rfl rfl rfl rfl rfl (Nat.le_of_ble_eq_true rfl) (c_X5_await d hc7) ?_
    refine ae_aload_n 0 dX5_takeOpening_34 rfl ?_
    refine ae_getO (q := (19, 0)) (some (12, 0)) dX5_takeOpening_35 fl_RX5_9 rfl rfl rfl ?_
    obtain ⟨r9, s10, hc11, hF12⟩ := ae_bdI hF8
    refine ae_cV0 (q := (12, 0)) (As := []) dX5_takeOpening_38 ww_648 vy_X8_advance rfl rfl rfl rfl rfl (Nat.le_of_ble_eq_true rfl) (c_X8_advance d hc11) ?_
    refine ae_iconst (1 : Int32) dX5_takeOpening_41 (by decide) ?_
    obtain ⟨rfl, rfl⟩ := ae_retI hF12
    exact ae_iret dX5_takeOpening_42 rfl (by decide) ⟨rfl, rfl⟩
  · have hF2 := ae_ifF hb1 hF
    refine ae_aload_n 0 dX5_takeOpening_8 rfl ?_
    refine ae_getO (q := (19, 0)) (some (12, 0)) dX5_takeOpening_9 fl_RX5_9 rfl rfl rfl ?_
    refine ae_iconst (5 : Int32) dX5_takeOpening_12 (by decide) ?_
    obtain ⟨r13, s14, hc15, hF16⟩ := ae_bdI hF2
    refine ae_cV1 (q := (12, 0)) (As := [ae_i (5 : Int32)]) dX5_takeOpening_13 ww_680 vy_X8_refuse rfl rfl rfl rfl rfl (Nat.le_of_ble_eq_true rfl) (c_X8_refuse d hc15) ?_
    obtain ⟨hg17, hF18⟩ := ae_gdI hF16
    obtain ⟨rfl, rfl⟩ := ae_retI hF18
    exact ae_iret dX5_takeOpening_16 rfl (ae_zzN (ae_zzI hg17)) ⟨rfl, rfl⟩
abbrev mX5_takeViewName : ae_M := (RX5, cX5_takeViewName, 2, some .int)
theorem vy_X5_takeViewName : ae_VY yX5_takeViewName mX5_takeViewName 0 := ⟨ww_691, wq_22, ww_11, ww_692, ⟨by decide, by decide, by decide +kernel⟩, by decide⟩
theorem dX5_takeViewName_0 : decode cX5_takeViewName 0 = .ok (.aload_n 0, 1) := by decide +kernel
theorem dX5_takeViewName_1 : decode cX5_takeViewName 1 = .ok (.getfield 9, 3) := by decide +kernel
theorem dX5_takeViewName_4 : decode cX5_takeViewName 4 = .ok (.invokevirtual 160, 3) := by decide +kernel
theorem dX5_takeViewName_7 : decode cX5_takeViewName 7 = .ok (.ifCond .ne 14, 3) := by decide +kernel
theorem dX5_takeViewName_10 : decode cX5_takeViewName 10 = .ok (.aload_n 0, 1) := by decide +kernel
theorem dX5_takeViewName_11 : decode cX5_takeViewName 11 = .ok (.getfield 9, 3) := by decide +kernel
theorem dX5_takeViewName_14 : decode cX5_takeViewName 14 = .ok (.iconst 1, 1) := by decide +kernel
theorem dX5_takeViewName_15 : decode cX5_takeViewName 15 = .ok (.invokevirtual 63, 3) := by decide +kernel
theorem dX5_takeViewName_18 : decode cX5_takeViewName 18 = .ok (.pop, 1) := by decide +kernel
theorem dX5_takeViewName_19 : decode cX5_takeViewName 19 = .ok (.iconst (-1), 1) := by decide +kernel
theorem dX5_takeViewName_20 : decode cX5_takeViewName 20 = .ok (.ireturn, 1) := by decide +kernel
theorem dX5_takeViewName_21 : decode cX5_takeViewName 21 = .ok (.aload_n 0, 1) := by decide +kernel
theorem dX5_takeViewName_22 : decode cX5_takeViewName 22 = .ok (.getfield 15, 3) := by decide +kernel
theorem dX5_takeViewName_25 : decode cX5_takeViewName 25 = .ok (.aload_n 0, 1) := by decide +kernel
theorem dX5_takeViewName_26 : decode cX5_takeViewName 26 = .ok (.getfield 9, 3) := by decide +kernel
theorem dX5_takeViewName_29 : decode cX5_takeViewName 29 = .ok (.invokevirtual 139, 3) := by decide +kernel
theorem dX5_takeViewName_32 : decode cX5_takeViewName 32 = .ok (.invokevirtual 163, 3) := by decide +kernel
theorem dX5_takeViewName_35 : decode cX5_takeViewName 35 = .ok (.istore_n 1, 1) := by decide +kernel
theorem dX5_takeViewName_36 : decode cX5_takeViewName 36 = .ok (.iload_n 1, 1) := by decide +kernel
theorem dX5_takeViewName_37 : decode cX5_takeViewName 37 = .ok (.iconst (-1), 1) := by decide +kernel
theorem dX5_takeViewName_38 : decode cX5_takeViewName 38 = .ok (.if_icmp .ne 14, 3) := by decide +kernel
theorem dX5_takeViewName_41 : decode cX5_takeViewName 41 = .ok (.aload_n 0, 1) := by decide +kernel
theorem dX5_takeViewName_42 : decode cX5_takeViewName 42 = .ok (.getfield 9, 3) := by decide +kernel
theorem dX5_takeViewName_45 : decode cX5_takeViewName 45 = .ok (.iconst 2, 1) := by decide +kernel
theorem dX5_takeViewName_46 : decode cX5_takeViewName 46 = .ok (.invokevirtual 63, 3) := by decide +kernel
theorem dX5_takeViewName_49 : decode cX5_takeViewName 49 = .ok (.pop, 1) := by decide +kernel
theorem dX5_takeViewName_50 : decode cX5_takeViewName 50 = .ok (.iconst (-1), 1) := by decide +kernel
theorem dX5_takeViewName_51 : decode cX5_takeViewName 51 = .ok (.ireturn, 1) := by decide +kernel
theorem dX5_takeViewName_52 : decode cX5_takeViewName 52 = .ok (.aload_n 0, 1) := by decide +kernel
theorem dX5_takeViewName_53 : decode cX5_takeViewName 53 = .ok (.getfield 9, 3) := by decide +kernel
theorem dX5_takeViewName_56 : decode cX5_takeViewName 56 = .ok (.invokevirtual 77, 3) := by decide +kernel
theorem dX5_takeViewName_59 : decode cX5_takeViewName 59 = .ok (.iload_n 1, 1) := by decide +kernel
theorem dX5_takeViewName_60 : decode cX5_takeViewName 60 = .ok (.ireturn, 1) := by decide +kernel
def F_X5_takeViewName (s0 : ae_S) : Option (Int32 × ae_S) := ae_bd (F_X8_isName s0) (fun (r1 : Int32) s2 => if r1 = 0 then (ae_bd (F_X8_refuse (1 : Int32) s2) (fun (r25 : Int32) s26 => some ((-1 : Int32), s26))) else (ae_bd (F_X8_value s2) (fun (r7 : Int64) s8 => ae_bd (F_X6_numberOf r7 s8) (fun (r11 : Int32) s12 => if r11 = (-1 : Int32) then (ae_bd (F_X8_refuse (2 : Int32) s12) (fun (r21 : Int32) s22 => some ((-1 : Int32), s22))) else (ae_bd (F_X8_advance s12) (fun (r17 : Unit) s18 => some (r11, s18)))))))
set_option maxHeartbeats 4000000 in
set_option maxRecDepth 100000 in
theorem c_X5_takeViewName {l : Launch} {G : ae_G} (d : Nat) {s0 ss : ae_S} {rr : Int32} (hF : F_X5_takeViewName s0 = some (rr, ss)) : ae_Met l G (d + 2) yX5_takeViewName mX5_takeViewName [ae_r (some (19, 0))] s0 (ae_Po (some (ae_i rr)) ss) := by
  refine ae_enter (by decide) rfl (Nat.le_of_ble_eq_true rfl) ?_
  show ae_T l G (d + 2) mX5_takeViewName (ae_Po (some (ae_i rr)) ss) 0 [(0, ae_r (some (19, 0)))] [] s0
  unfold F_X5_takeViewName at hF
  refine ae_aload_n 0 dX5_takeViewName_0 rfl ?_
  refine ae_getO (q := (19, 0)) (some (12, 0)) dX5_takeViewName_1 fl_RX5_9 rfl rfl rfl ?_
  obtain ⟨r1, s2, hc3, hF4⟩ := ae_bdI hF
  refine ae_cV1 (q := (12, 0)) (As := []) dX5_takeViewName_4 ww_693 vy_X8_isName rfl rfl rfl rfl rfl (Nat.le_of_ble_eq_true rfl) (c_X8_isName d hc3) ?_
  refine ae_if_ne 21 dX5_takeViewName_7 rfl (fun hb5 => ?_) (fun hb5 => ?_)
  · have hF6 := ae_ifF hb5 hF4
    refine ae_aload_n 0 dX5_takeViewName_21 rfl ?_
    refine ae_getO (q := (19, 0)) (some (6, 0)) dX5_takeViewName_22 fl_RX5_15 rfl rfl rfl ?_
    refine ae_aload_n 0 dX5_takeViewName_25 rfl ?_
    refine ae_getO (q := (19, 0)) (some (12, 0)) dX5_takeViewName_26 fl_RX5_9 rfl rfl rfl ?_
    obtain ⟨r7, s8, hc9, hF10⟩ := ae_bdI hF6
    refine ae_cV1 (q := (12, 0)) (As := []) dX5_takeViewName_29 ww_694 vy_X8_value rfl rfl rfl rfl rfl (Nat.le_of_ble_eq_true rfl) (c_X8_value (d + 1) hc9) ?_
    obtain ⟨r11, s12, hc13, hF14⟩ := ae_bdI hF10
    refine ae_cV1 (q := (6, 0)) (As := [ae_l r7]) dX5_takeViewName_32 ww_695 vy_X6_numberOf rfl rfl rfl rfl rfl (Nat.le_of_ble_eq_true rfl) (c_X6_numberOf d hc13) ?_
    refine ae_istore_n (lv' := [(1, ae_i r11), (0, ae_r (some (19, 0)))]) dX5_takeViewName_35 (by decide) rfl ?_
    refine ae_iload_n 0 dX5_takeViewName_36 rfl ?_
    refine ae_iconst (-1 : Int32) dX5_takeViewName_37 (by decide) ?_
    refine ae_icmp_ne 52 dX5_takeViewName_38 rfl (fun hb15 => ?_) (fun hb15 => ?_)
    · have hF16 := ae_ifF hb15 hF14
      refine ae_aload_n 1 dX5_takeViewName_52 rfl ?_
      refine ae_getO (q := (19, 0)) (some (12, 0)) dX5_takeViewName_53 fl_RX5_9 rfl rfl rfl ?_
      obtain ⟨r17, s18, hc19, hF20⟩ := ae_bdI hF16
      refine ae_cV0 (q := (12, 0)) (As := []) dX5_takeViewName_56 ww_648 vy_X8_advance rfl rfl rfl rfl rfl (Nat.le_of_ble_eq_true rfl) (c_X8_advance (d + 1) hc19) ?_
      refine ae_iload_n 0 dX5_takeViewName_59 rfl ?_
      obtain ⟨rfl, rfl⟩ := ae_retI hF20
      exact ae_iret dX5_takeViewName_60 rfl rfl ⟨rfl, rfl⟩
    · have hF16 := ae_ifT hb15 hF14
      refine ae_aload_n 1 dX5_takeViewName_41 rfl ?_
      refine ae_getO (q := (19, 0)) (some (12, 0)) dX5_takeViewName_42 fl_RX5_9 rfl rfl rfl ?_
      refine ae_iconst (2 : Int32) dX5_takeViewName_45 (by decide) ?_
      obtain ⟨r21, s22, hc23, hF24⟩ := ae_bdI hF16
      refine ae_cV1 (q := (12, 0)) (As := [ae_i (2 : Int32)]) dX5_takeViewName_46 ww_680 vy_X8_refuse rfl rfl rfl rfl rfl (Nat.le_of_ble_eq_true rfl) (c_X8_refuse (d + 1) hc23) ?_
      refine ae_pop dX5_takeViewName_49 rfl ?_
      refine ae_iconst (-1 : Int32) dX5_takeViewName_50 (by decide) ?_
      obtain ⟨rfl, rfl⟩ := ae_retI hF24
      exact ae_iret dX5_takeViewName_51 rfl rfl ⟨rfl, rfl⟩
  · have hF6 := ae_ifT hb5 hF4
    refine ae_aload_n 0 dX5_takeViewName_10 rfl ?_
    refine ae_getO (q := (19, 0)) (some (12, 0)) dX5_takeViewName_11 fl_RX5_9 rfl rfl rfl ?_
    refine ae_iconst (1 : Int32) dX5_takeViewName_14 (by decide) ?_
    obtain ⟨r25, s26, hc27, hF28⟩ := ae_bdI hF6
    refine ae_cV1 (q := (12, 0)) (As := [ae_i (1 : Int32)]) dX5_takeViewName_15 ww_680 vy_X8_refuse rfl rfl rfl rfl rfl (Nat.le_of_ble_eq_true rfl) (c_X8_refuse (d + 1) hc27) ?_
    refine ae_pop dX5_takeViewName_18 rfl ?_
    refine ae_iconst (-1 : Int32) dX5_takeViewName_19 (by decide) ?_
    obtain ⟨rfl, rfl⟩ := ae_retI hF28
    exact ae_iret dX5_takeViewName_20 rfl rfl ⟨rfl, rfl⟩
abbrev mX5_takeOperand : ae_M := (RX5, cX5_takeOperand, 2, some .boolean)
theorem vy_X5_takeOperand : ae_VY yX5_takeOperand mX5_takeOperand 0 := ⟨ww_714, wq_25, ww_11, ww_715, ⟨by decide, by decide, by decide +kernel⟩, by decide⟩
theorem dX5_takeOperand_0 : decode cX5_takeOperand 0 = .ok (.aload_n 0, 1) := by decide +kernel
theorem dX5_takeOperand_1 : decode cX5_takeOperand 1 = .ok (.getfield 9, 3) := by decide +kernel
theorem dX5_takeOperand_4 : decode cX5_takeOperand 4 = .ok (.bipush 45, 2) := by decide +kernel
theorem dX5_takeOperand_6 : decode cX5_takeOperand 6 = .ok (.invokevirtual 93, 3) := by decide +kernel
theorem dX5_takeOperand_9 : decode cX5_takeOperand 9 = .ok (.ifCond .eq 20, 3) := by decide +kernel
theorem dX5_takeOperand_12 : decode cX5_takeOperand 12 = .ok (.aload_n 0, 1) := by decide +kernel
theorem dX5_takeOperand_13 : decode cX5_takeOperand 13 = .ok (.getfield 9, 3) := by decide +kernel
theorem dX5_takeOperand_16 : decode cX5_takeOperand 16 = .ok (.invokevirtual 77, 3) := by decide +kernel
theorem dX5_takeOperand_19 : decode cX5_takeOperand 19 = .ok (.aload_n 0, 1) := by decide +kernel
theorem dX5_takeOperand_20 : decode cX5_takeOperand 20 = .ok (.bipush 6, 2) := by decide +kernel
theorem dX5_takeOperand_22 : decode cX5_takeOperand 22 = .ok (.iconst 0, 1) := by decide +kernel
theorem dX5_takeOperand_23 : decode cX5_takeOperand 23 = .ok (.iconst 0, 1) := by decide +kernel
theorem dX5_takeOperand_24 : decode cX5_takeOperand 24 = .ok (.invokevirtual 80, 3) := by decide +kernel
theorem dX5_takeOperand_27 : decode cX5_takeOperand 27 = .ok (.iconst 1, 1) := by decide +kernel
theorem dX5_takeOperand_28 : decode cX5_takeOperand 28 = .ok (.ireturn, 1) := by decide +kernel
theorem dX5_takeOperand_29 : decode cX5_takeOperand 29 = .ok (.aload_n 0, 1) := by decide +kernel
theorem dX5_takeOperand_30 : decode cX5_takeOperand 30 = .ok (.getfield 9, 3) := by decide +kernel
theorem dX5_takeOperand_33 : decode cX5_takeOperand 33 = .ok (.bipush 40, 2) := by decide +kernel
theorem dX5_takeOperand_35 : decode cX5_takeOperand 35 = .ok (.invokevirtual 93, 3) := by decide +kernel
theorem dX5_takeOperand_38 : decode cX5_takeOperand 38 = .ok (.ifCond .eq 11, 3) := by decide +kernel
theorem dX5_takeOperand_41 : decode cX5_takeOperand 41 = .ok (.aload_n 0, 1) := by decide +kernel
theorem dX5_takeOperand_42 : decode cX5_takeOperand 42 = .ok (.bipush 106, 2) := by decide +kernel
theorem dX5_takeOperand_44 : decode cX5_takeOperand 44 = .ok (.iconst 0, 1) := by decide +kernel
theorem dX5_takeOperand_45 : decode cX5_takeOperand 45 = .ok (.invokevirtual 96, 3) := by decide +kernel
theorem dX5_takeOperand_48 : decode cX5_takeOperand 48 = .ok (.ireturn, 1) := by decide +kernel
theorem dX5_takeOperand_49 : decode cX5_takeOperand 49 = .ok (.aload_n 0, 1) := by decide +kernel
theorem dX5_takeOperand_50 : decode cX5_takeOperand 50 = .ok (.getfield 9, 3) := by decide +kernel
theorem dX5_takeOperand_53 : decode cX5_takeOperand 53 = .ok (.invokevirtual 130, 3) := by decide +kernel
theorem dX5_takeOperand_56 : decode cX5_takeOperand 56 = .ok (.ifCond .eq 8, 3) := by decide +kernel
theorem dX5_takeOperand_59 : decode cX5_takeOperand 59 = .ok (.aload_n 0, 1) := by decide +kernel
theorem dX5_takeOperand_60 : decode cX5_takeOperand 60 = .ok (.invokevirtual 133, 3) := by decide +kernel
theorem dX5_takeOperand_63 : decode cX5_takeOperand 63 = .ok (.ireturn, 1) := by decide +kernel
theorem dX5_takeOperand_64 : decode cX5_takeOperand 64 = .ok (.aload_n 0, 1) := by decide +kernel
theorem dX5_takeOperand_65 : decode cX5_takeOperand 65 = .ok (.invokevirtual 120, 3) := by decide +kernel
theorem dX5_takeOperand_68 : decode cX5_takeOperand 68 = .ok (.istore_n 1, 1) := by decide +kernel
theorem dX5_takeOperand_69 : decode cX5_takeOperand 69 = .ok (.iload_n 1, 1) := by decide +kernel
theorem dX5_takeOperand_70 : decode cX5_takeOperand 70 = .ok (.iconst (-1), 1) := by decide +kernel
theorem dX5_takeOperand_71 : decode cX5_takeOperand 71 = .ok (.if_icmp .ne 5, 3) := by decide +kernel
theorem dX5_takeOperand_74 : decode cX5_takeOperand 74 = .ok (.iconst 0, 1) := by decide +kernel
theorem dX5_takeOperand_75 : decode cX5_takeOperand 75 = .ok (.ireturn, 1) := by decide +kernel
theorem dX5_takeOperand_76 : decode cX5_takeOperand 76 = .ok (.aload_n 0, 1) := by decide +kernel
theorem dX5_takeOperand_77 : decode cX5_takeOperand 77 = .ok (.getfield 9, 3) := by decide +kernel
theorem dX5_takeOperand_80 : decode cX5_takeOperand 80 = .ok (.bipush 91, 2) := by decide +kernel
theorem dX5_takeOperand_82 : decode cX5_takeOperand 82 = .ok (.invokevirtual 93, 3) := by decide +kernel
theorem dX5_takeOperand_85 : decode cX5_takeOperand 85 = .ok (.ifCond .eq 20, 3) := by decide +kernel
theorem dX5_takeOperand_88 : decode cX5_takeOperand 88 = .ok (.aload_n 0, 1) := by decide +kernel
theorem dX5_takeOperand_89 : decode cX5_takeOperand 89 = .ok (.getfield 9, 3) := by decide +kernel
theorem dX5_takeOperand_92 : decode cX5_takeOperand 92 = .ok (.invokevirtual 77, 3) := by decide +kernel
theorem dX5_takeOperand_95 : decode cX5_takeOperand 95 = .ok (.aload_n 0, 1) := by decide +kernel
theorem dX5_takeOperand_96 : decode cX5_takeOperand 96 = .ok (.bipush 107, 2) := by decide +kernel
theorem dX5_takeOperand_98 : decode cX5_takeOperand 98 = .ok (.iload_n 1, 1) := by decide +kernel
theorem dX5_takeOperand_99 : decode cX5_takeOperand 99 = .ok (.iconst 0, 1) := by decide +kernel
theorem dX5_takeOperand_100 : decode cX5_takeOperand 100 = .ok (.invokevirtual 80, 3) := by decide +kernel
theorem dX5_takeOperand_103 : decode cX5_takeOperand 103 = .ok (.iconst 1, 1) := by decide +kernel
theorem dX5_takeOperand_104 : decode cX5_takeOperand 104 = .ok (.ireturn, 1) := by decide +kernel
theorem dX5_takeOperand_105 : decode cX5_takeOperand 105 = .ok (.aload_n 0, 1) := by decide +kernel
theorem dX5_takeOperand_106 : decode cX5_takeOperand 106 = .ok (.getfield 19, 3) := by decide +kernel
theorem dX5_takeOperand_109 : decode cX5_takeOperand 109 = .ok (.iconst 1, 1) := by decide +kernel
theorem dX5_takeOperand_110 : decode cX5_takeOperand 110 = .ok (.lconst 0, 1) := by decide +kernel
theorem dX5_takeOperand_111 : decode cX5_takeOperand 111 = .ok (.iconst 0, 1) := by decide +kernel
theorem dX5_takeOperand_112 : decode cX5_takeOperand 112 = .ok (.invokevirtual 67, 3) := by decide +kernel
theorem dX5_takeOperand_115 : decode cX5_takeOperand 115 = .ok (.pop, 1) := by decide +kernel
theorem dX5_takeOperand_116 : decode cX5_takeOperand 116 = .ok (.aload_n 0, 1) := by decide +kernel
theorem dX5_takeOperand_117 : decode cX5_takeOperand 117 = .ok (.iload_n 1, 1) := by decide +kernel
theorem dX5_takeOperand_118 : decode cX5_takeOperand 118 = .ok (.invokevirtual 136, 3) := by decide +kernel
theorem dX5_takeOperand_121 : decode cX5_takeOperand 121 = .ok (.ireturn, 1) := by decide +kernel
def F_X5_takeOperand (s0 : ae_S) : Option (Int32 × ae_S) := ae_bd (F_X8_isSign (45 : Int32) s0) (fun (r1 : Int32) s2 => if r1 = 0 then (ae_bd (F_X8_isSign (40 : Int32) s2) (fun (r7 : Int32) s8 => if r7 = 0 then (ae_bd (F_X8_isNumber s8) (fun (r13 : Int32) s14 => if r13 = 0 then (ae_bd (F_X5_takeViewName s14) (fun (r19 : Int32) s20 => if r19 = (-1 : Int32) then (some ((0 : Int32), s20)) else (ae_bd (F_X8_isSign (91 : Int32) s20) (fun (r25 : Int32) s26 => if r25 = 0 then (ae_bd (F_X1_add (1 : Int32) (0 : Int64) (0 : Int32) s26) (fun (r31 : Int32) s32 => ae_bd (F_X5_takeLoad r19 s32) (fun (r35 : Int32) s36 => ae_gd (ae_zz r35) (some (r35, s36))))) else (ae_bd (F_X8_advance s26) (fun (r41 : Unit) s42 => ae_bd (F_X5_await (107 : Int32) r19 (0 : Int32) s42) (fun (r45 : Unit) s46 => some ((1 : Int32), s46)))))))) else (ae_bd (F_X5_takeNumber s14) (fun (r49 : Int32) s50 => ae_gd (ae_zz r49) (some (r49, s50)))))) else (ae_bd (F_X5_takeOpening (106 : Int32) (0 : Int32) s8) (fun (r55 : Int32) s56 => ae_gd (ae_zz r55) (some (r55, s56)))))) else (ae_bd (F_X8_advance s2) (fun (r61 : Unit) s62 => ae_bd (F_X5_await (6 : Int32) (0 : Int32) (0 : Int32) s62) (fun (r65 : Unit) s66 => some ((1 : Int32), s66)))))
set_option maxHeartbeats 4000000 in
set_option maxRecDepth 100000 in
theorem c_X5_takeOperand {l : Launch} {G : ae_G} (d : Nat) {s0 ss : ae_S} {rr : Int32} (hF : F_X5_takeOperand s0 = some (rr, ss)) : ae_Met l G (d + 6) yX5_takeOperand mX5_takeOperand [ae_r (some (19, 0))] s0 (ae_Po (some (ae_i rr)) ss) := by
  refine ae_enter (by decide) rfl (Nat.le_of_ble_eq_true rfl) ?_
  show ae_T l G (d + 6) mX5_takeOperand (ae_Po (some (ae_i rr)) ss) 0 [(0, ae_r (some (19, 0)))] [] s0
  unfold F_X5_takeOperand at hF
  refine ae_aload_n 0 dX5_takeOperand_0 rfl ?_
  refine ae_getO (q := (19, 0)) (some (12, 0)) dX5_takeOperand_1 fl_RX5_9 rfl rfl rfl ?_
  refine ae_bipush (45 : Int32) dX5_takeOperand_4 (by decide) ?_
  obtain ⟨r1, s2, hc3, hF4⟩ := ae_bdI hF
  refine ae_cV1 (q := (12, 0)) (As := [ae_i (45 : Int32)]) dX5_takeOperand_6 ww_675 vy_X8_isSign rfl rfl rfl rfl rfl (Nat.le_of_ble_eq_true rfl) (c_X8_isSign (d + 5) hc3) ?_
  refine ae_if_eq 29 dX5_takeOperand_9 rfl (fun hb5 => ?_) (fun hb5 => ?_)
  · have hF6 := ae_ifT hb5 hF4
    refine ae_aload_n 0 dX5_takeOperand_29 rfl ?_
    refine ae_getO (q := (19, 0)) (some (12, 0)) dX5_takeOperand_30 fl_RX5_9 rfl rfl rfl ?_
    refine ae_bipush (40 : Int32) dX5_takeOperand_33 (by decide) ?_
    obtain ⟨r7, s8, hc9, hF10⟩ := ae_bdI hF6
    refine ae_cV1 (q := (12, 0)) (As := [ae_i (40 : Int32)]) dX5_takeOperand_35 ww_675 vy_X8_isSign rfl rfl rfl rfl rfl (Nat.le_of_ble_eq_true rfl) (c_X8_isSign (d + 5) hc9) ?_
    refine ae_if_eq 49 dX5_takeOperand_38 rfl (fun hb11 => ?_) (fun hb11 => ?_)
    · have hF12 := ae_ifT hb11 hF10
      refine ae_aload_n 0 dX5_takeOperand_49 rfl ?_
      refine ae_getO (q := (19, 0)) (some (12, 0)) dX5_takeOperand_50 fl_RX5_9 rfl rfl rfl ?_
      obtain ⟨r13, s14, hc15, hF16⟩ := ae_bdI hF12
      refine ae_cV1 (q := (12, 0)) (As := []) dX5_takeOperand_53 ww_716 vy_X8_isNumber rfl rfl rfl rfl rfl (Nat.le_of_ble_eq_true rfl) (c_X8_isNumber (d + 4) hc15) ?_
      refine ae_if_eq 64 dX5_takeOperand_56 rfl (fun hb17 => ?_) (fun hb17 => ?_)
      · have hF18 := ae_ifT hb17 hF16
        refine ae_aload_n 0 dX5_takeOperand_64 rfl ?_
        obtain ⟨r19, s20, hc21, hF22⟩ := ae_bdI hF18
        refine ae_cV1 (q := (19, 0)) (As := []) dX5_takeOperand_65 ww_689 vy_X5_takeViewName rfl rfl rfl rfl rfl (Nat.le_of_ble_eq_true rfl) (c_X5_takeViewName (d + 3) hc21) ?_
        refine ae_istore_n (lv' := [(1, ae_i r19), (0, ae_r (some (19, 0)))]) dX5_takeOperand_68 (by decide) rfl ?_
        refine ae_iload_n 0 dX5_takeOperand_69 rfl ?_
        refine ae_iconst (-1 : Int32) dX5_takeOperand_70 (by decide) ?_
        refine ae_icmp_ne 76 dX5_takeOperand_71 rfl (fun hb23 => ?_) (fun hb23 => ?_)
        · have hF24 := ae_ifF hb23 hF22
          refine ae_aload_n 1 dX5_takeOperand_76 rfl ?_
          refine ae_getO (q := (19, 0)) (some (12, 0)) dX5_takeOperand_77 fl_RX5_9 rfl rfl rfl ?_
          refine ae_bipush (91 : Int32) dX5_takeOperand_80 (by decide) ?_
          obtain ⟨r25, s26, hc27, hF28⟩ := ae_bdI hF24
          refine ae_cV1 (q := (12, 0)) (As := [ae_i (91 : Int32)]) dX5_takeOperand_82 ww_675 vy_X8_isSign rfl rfl rfl rfl rfl (Nat.le_of_ble_eq_true rfl) (c_X8_isSign (d + 5) hc27) ?_
          refine ae_if_eq 105 dX5_takeOperand_85 rfl (fun hb29 => ?_) (fun hb29 => ?_)
          · have hF30 := ae_ifT hb29 hF28
            refine ae_aload_n 1 dX5_takeOperand_105 rfl ?_
            refine ae_getO (q := (19, 0)) (some (15, 0)) dX5_takeOperand_106 fl_RX5_19 rfl rfl rfl ?_
            refine ae_iconst (1 : Int32) dX5_takeOperand_109 (by decide) ?_
            refine ae_lconst (0 : Int64) dX5_takeOperand_110 (by decide) ?_
            refine ae_iconst (0 : Int32) dX5_takeOperand_111 (by decide) ?_
            obtain ⟨r31, s32, hc33, hF34⟩ := ae_bdI hF30
            refine ae_cV1 (q := (15, 0)) (As := [ae_i (1 : Int32), ae_l (0 : Int64), ae_i (0 : Int32)]) dX5_takeOperand_112 ww_642 vy_X1_add rfl rfl rfl rfl rfl (Nat.le_of_ble_eq_true rfl) (c_X1_add (d + 5) hc33) ?_
            refine ae_pop dX5_takeOperand_115 rfl ?_
            refine ae_aload_n 1 dX5_takeOperand_116 rfl ?_
            refine ae_iload_n 0 dX5_takeOperand_117 rfl ?_
            obtain ⟨r35, s36, hc37, hF38⟩ := ae_bdI hF34
            refine ae_cV1 (q := (19, 0)) (As := [ae_i r19]) dX5_takeOperand_118 ww_782 vy_X5_takeLoad rfl rfl rfl rfl rfl (Nat.le_of_ble_eq_true rfl) (c_X5_takeLoad (d + 2) hc37) ?_
            obtain ⟨hg39, hF40⟩ := ae_gdI hF38
            obtain ⟨rfl, rfl⟩ := ae_retI hF40
            exact ae_iret dX5_takeOperand_121 rfl (ae_zzN (ae_zzI hg39)) ⟨rfl, rfl⟩
          · have hF30 := ae_ifF hb29 hF28
            refine ae_aload_n 1 dX5_takeOperand_88 rfl ?_
            refine ae_getO (q := (19, 0)) (some (12, 0)) dX5_takeOperand_89 fl_RX5_9 rfl rfl rfl ?_
            obtain ⟨r41, s42, hc43, hF44⟩ := ae_bdI hF30
            refine ae_cV0 (q := (12, 0)) (As := []) dX5_takeOperand_92 ww_648 vy_X8_advance rfl rfl rfl rfl rfl (Nat.le_of_ble_eq_true rfl) (c_X8_advance (d + 5) hc43) ?_
            refine ae_aload_n 1 dX5_takeOperand_95 rfl ?_
            refine ae_bipush (107 : Int32) dX5_takeOperand_96 (by decide) ?_
            refine ae_iload_n 0 dX5_takeOperand_98 rfl ?_
            refine ae_iconst (0 : Int32) dX5_takeOperand_99 (by decide) ?_
            obtain ⟨r45, s46, hc47, hF48⟩ := ae_bdI hF44
            refine ae_cV0 (q := (19, 0)) (As := [ae_i (107 : Int32), ae_i r19, ae_i (0 : Int32)]) dX5_takeOperand_100 ww_649 vy_X5_await rfl rfl rfl rfl rfl (Nat.le_of_ble_eq_true rfl) (c_X5_await (d + 5) hc47) ?_
            refine ae_iconst (1 : Int32) dX5_takeOperand_103 (by decide) ?_
            obtain ⟨rfl, rfl⟩ := ae_retI hF48
            exact ae_iret dX5_takeOperand_104 rfl (by decide) ⟨rfl, rfl⟩
        · have hF24 := ae_ifT hb23 hF22
          refine ae_iconst (0 : Int32) dX5_takeOperand_74 (by decide) ?_
          obtain ⟨rfl, rfl⟩ := ae_retI hF24
          exact ae_iret dX5_takeOperand_75 rfl (by decide) ⟨rfl, rfl⟩
      · have hF18 := ae_ifF hb17 hF16
        refine ae_aload_n 0 dX5_takeOperand_59 rfl ?_
        obtain ⟨r49, s50, hc51, hF52⟩ := ae_bdI hF18
        refine ae_cV1 (q := (19, 0)) (As := []) dX5_takeOperand_60 ww_717 vy_X5_takeNumber rfl rfl rfl rfl rfl (Nat.le_of_ble_eq_true rfl) (c_X5_takeNumber d hc51) ?_
        obtain ⟨hg53, hF54⟩ := ae_gdI hF52
        obtain ⟨rfl, rfl⟩ := ae_retI hF54
        exact ae_iret dX5_takeOperand_63 rfl (ae_zzN (ae_zzI hg53)) ⟨rfl, rfl⟩
    · have hF12 := ae_ifF hb11 hF10
      refine ae_aload_n 0 dX5_takeOperand_41 rfl ?_
      refine ae_bipush (106 : Int32) dX5_takeOperand_42 (by decide) ?_
      refine ae_iconst (0 : Int32) dX5_takeOperand_44 (by decide) ?_
      obtain ⟨r55, s56, hc57, hF58⟩ := ae_bdI hF12
      refine ae_cV1 (q := (19, 0)) (As := [ae_i (106 : Int32), ae_i (0 : Int32)]) dX5_takeOperand_45 ww_676 vy_X5_takeOpening rfl rfl rfl rfl rfl (Nat.le_of_ble_eq_true rfl) (c_X5_takeOpening (d + 4) hc57) ?_
      obtain ⟨hg59, hF60⟩ := ae_gdI hF58
      obtain ⟨rfl, rfl⟩ := ae_retI hF60
      exact ae_iret dX5_takeOperand_48 rfl (ae_zzN (ae_zzI hg59)) ⟨rfl, rfl⟩
  · have hF6 := ae_ifF hb5 hF4
    refine ae_aload_n 0 dX5_takeOperand_12 rfl ?_
    refine ae_getO (q := (19, 0)) (some (12, 0)) dX5_takeOperand_13 fl_RX5_9 rfl rfl rfl ?_
    obtain ⟨r61, s62, hc63, hF64⟩ := ae_bdI hF6
    refine ae_cV0 (q := (12, 0)) (As := []) dX5_takeOperand_16 ww_648 vy_X8_advance rfl rfl rfl rfl rfl (Nat.le_of_ble_eq_true rfl) (c_X8_advance (d + 5) hc63) ?_
    refine ae_aload_n 0 dX5_takeOperand_19 rfl ?_
    refine ae_bipush (6 : Int32) dX5_takeOperand_20 (by decide) ?_
    refine ae_iconst (0 : Int32) dX5_takeOperand_22 (by decide) ?_
    refine ae_iconst (0 : Int32) dX5_takeOperand_23 (by decide) ?_
    obtain ⟨r65, s66, hc67, hF68⟩ := ae_bdI hF64
    refine ae_cV0 (q := (19, 0)) (As := [ae_i (6 : Int32), ae_i (0 : Int32), ae_i (0 : Int32)]) dX5_takeOperand_24 ww_649 vy_X5_await rfl rfl rfl rfl rfl (Nat.le_of_ble_eq_true rfl) (c_X5_await (d + 5) hc67) ?_
    refine ae_iconst (1 : Int32) dX5_takeOperand_27 (by decide) ?_
    obtain ⟨rfl, rfl⟩ := ae_retI hF68
    exact ae_iret dX5_takeOperand_28 rfl (by decide) ⟨rfl, rfl⟩
abbrev mX5_closeGroup : ae_M := (RX5, cX5_closeGroup, 1, none)
theorem vy_X5_closeGroup : ae_VY yX5_closeGroup mX5_closeGroup 0 := ⟨ww_683, wq_20, ww_11, ww_684, ⟨by decide, by decide, by decide +kernel⟩, by decide⟩
theorem dX5_closeGroup_0 : decode cX5_closeGroup 0 = .ok (.aload_n 0, 1) := by decide +kernel
theorem dX5_closeGroup_1 : decode cX5_closeGroup 1 = .ok (.getfield 19, 3) := by decide +kernel
theorem dX5_closeGroup_4 : decode cX5_closeGroup 4 = .ok (.bipush 18, 2) := by decide +kernel
theorem dX5_closeGroup_6 : decode cX5_closeGroup 6 = .ok (.lconst 0, 1) := by decide +kernel
theorem dX5_closeGroup_7 : decode cX5_closeGroup 7 = .ok (.iconst 0, 1) := by decide +kernel
theorem dX5_closeGroup_8 : decode cX5_closeGroup 8 = .ok (.invokevirtual 67, 3) := by decide +kernel
theorem dX5_closeGroup_11 : decode cX5_closeGroup 11 = .ok (.pop, 1) := by decide +kernel
theorem dX5_closeGroup_12 : decode cX5_closeGroup 12 = .ok (.aload_n 0, 1) := by decide +kernel
theorem dX5_closeGroup_13 : decode cX5_closeGroup 13 = .ok (.getfield 19, 3) := by decide +kernel
theorem dX5_closeGroup_16 : decode cX5_closeGroup 16 = .ok (.aload_n 0, 1) := by decide +kernel
theorem dX5_closeGroup_17 : decode cX5_closeGroup 17 = .ok (.invokevirtual 110, 3) := by decide +kernel
theorem dX5_closeGroup_20 : decode cX5_closeGroup 20 = .ok (.invokevirtual 113, 3) := by decide +kernel
theorem dX5_closeGroup_23 : decode cX5_closeGroup 23 = .ok (.aload_n 0, 1) := by decide +kernel
theorem dX5_closeGroup_24 : decode cX5_closeGroup 24 = .ok (.invokevirtual 117, 3) := by decide +kernel
theorem dX5_closeGroup_27 : decode cX5_closeGroup 27 = .ok (.aload_n 0, 1) := by decide +kernel
theorem dX5_closeGroup_28 : decode cX5_closeGroup 28 = .ok (.dup, 1) := by decide +kernel
theorem dX5_closeGroup_29 : decode cX5_closeGroup 29 = .ok (.getfield 42, 3) := by decide +kernel
theorem dX5_closeGroup_32 : decode cX5_closeGroup 32 = .ok (.iconst 1, 1) := by decide +kernel
theorem dX5_closeGroup_33 : decode cX5_closeGroup 33 = .ok (.isub, 1) := by decide +kernel
theorem dX5_closeGroup_34 : decode cX5_closeGroup 34 = .ok (.putfield 42, 3) := by decide +kernel
theorem dX5_closeGroup_37 : decode cX5_closeGroup 37 = .ok (.aload_n 0, 1) := by decide +kernel
theorem dX5_closeGroup_38 : decode cX5_closeGroup 38 = .ok (.getfield 9, 3) := by decide +kernel
theorem dX5_closeGroup_41 : decode cX5_closeGroup 41 = .ok (.invokevirtual 77, 3) := by decide +kernel
theorem dX5_closeGroup_44 : decode cX5_closeGroup 44 = .ok (.aload_n 0, 1) := by decide +kernel
theorem dX5_closeGroup_45 : decode cX5_closeGroup 45 = .ok (.invokevirtual 86, 3) := by decide +kernel
theorem dX5_closeGroup_48 : decode cX5_closeGroup 48 = .ok (.return_, 1) := by decide +kernel
def F_X5_closeGroup (s0 : ae_S) : Option (Unit × ae_S) := ae_bd (F_X1_add (18 : Int32) (0 : Int64) (0 : Int32) s0) (fun (r1 : Int32) s2 => ae_bd (F_X5_awaitedFirst s2) (fun (r5 : Int32) s6 => ae_bd (F_X1_leadHere r5 s6) (fun (r9 : Unit) s10 => ae_bd (F_X5_drop s10) (fun (r13 : Unit) s14 => ae_lt (ae_wI s14 19 0 7 ((s14.1 19 0 7) - (1 : Int32))) (fun s17 => ae_bd (F_X8_advance s17) (fun (r19 : Unit) s20 => ae_bd (F_X5_endStatement s20) (fun (r23 : Unit) s24 => some ((), s24))))))))
set_option maxHeartbeats 4000000 in
set_option maxRecDepth 100000 in
theorem c_X5_closeGroup {l : Launch} {G : ae_G} (d : Nat) {s0 ss : ae_S} {rr : Unit} (hF : F_X5_closeGroup s0 = some (rr, ss)) : ae_Met l G (d + 2) yX5_closeGroup mX5_closeGroup [ae_r (some (19, 0))] s0 (ae_Po none ss) := by
  refine ae_enter (by decide) rfl (Nat.le_of_ble_eq_true rfl) ?_
  show ae_T l G (d + 2) mX5_closeGroup (ae_Po none ss) 0 [(0, ae_r (some (19, 0)))] [] s0
  unfold F_X5_closeGroup at hF
  refine ae_aload_n 0 dX5_closeGroup_0 rfl ?_
  refine ae_getO (q := (19, 0)) (some (15, 0)) dX5_closeGroup_1 fl_RX5_19 rfl rfl rfl ?_
  refine ae_bipush (18 : Int32) dX5_closeGroup_4 (by decide) ?_
  refine ae_lconst (0 : Int64) dX5_closeGroup_6 (by decide) ?_
  refine ae_iconst (0 : Int32) dX5_closeGroup_7 (by decide) ?_
  obtain ⟨r1, s2, hc3, hF4⟩ := ae_bdI hF
  refine ae_cV1 (q := (15, 0)) (As := [ae_i (18 : Int32), ae_l (0 : Int64), ae_i (0 : Int32)]) dX5_closeGroup_8 ww_642 vy_X1_add rfl rfl rfl rfl rfl (Nat.le_of_ble_eq_true rfl) (c_X1_add (d + 1) hc3) ?_
  refine ae_pop dX5_closeGroup_11 rfl ?_
  refine ae_aload_n 0 dX5_closeGroup_12 rfl ?_
  refine ae_getO (q := (19, 0)) (some (15, 0)) dX5_closeGroup_13 fl_RX5_19 rfl rfl rfl ?_
  refine ae_aload_n 0 dX5_closeGroup_16 rfl ?_
  obtain ⟨r5, s6, hc7, hF8⟩ := ae_bdI hF4
  refine ae_cV1 (q := (19, 0)) (As := []) dX5_closeGroup_17 ww_662 vy_X5_awaitedFirst rfl rfl rfl rfl rfl (Nat.le_of_ble_eq_true rfl) (c_X5_awaitedFirst (d + 1) hc7) ?_
  obtain ⟨r9, s10, hc11, hF12⟩ := ae_bdI hF8
  refine ae_cV0 (q := (15, 0)) (As := [ae_i r5]) dX5_closeGroup_20 ww_666 vy_X1_leadHere rfl rfl rfl rfl rfl (Nat.le_of_ble_eq_true rfl) (c_X1_leadHere (d + 1) hc11) ?_
  refine ae_aload_n 0 dX5_closeGroup_23 rfl ?_
  obtain ⟨r13, s14, hc15, hF16⟩ := ae_bdI hF12
  refine ae_cV0 (q := (19, 0)) (As := []) dX5_closeGroup_24 ww_670 vy_X5_drop rfl rfl rfl rfl rfl (Nat.le_of_ble_eq_true rfl) (c_X5_drop (d + 1) hc15) ?_
  refine ae_aload_n 0 dX5_closeGroup_27 rfl ?_
  refine ae_dup dX5_closeGroup_28 rfl ?_
  refine ae_getI (q := (19, 0)) dX5_closeGroup_29 fl_RX5_42 rfl rfl ?_
  refine ae_iconst (1 : Int32) dX5_closeGroup_32 (by decide) ?_
  refine ae_isub dX5_closeGroup_33 ?_
  obtain ⟨s17, hs17, hF18⟩ := ae_ltI hF16
  refine ae_putI (q := (19, 0)) dX5_closeGroup_34 fl_RX5_42 rfl rfl (ae_nmS hs17 ?_)
  refine ae_aload_n 0 dX5_closeGroup_37 rfl ?_
  refine ae_getO (q := (19, 0)) (some (12, 0)) dX5_closeGroup_38 fl_RX5_9 rfl rfl rfl ?_
  obtain ⟨r19, s20, hc21, hF22⟩ := ae_bdI hF18
  refine ae_cV0 (q := (12, 0)) (As := []) dX5_closeGroup_41 ww_648 vy_X8_advance rfl rfl rfl rfl rfl (Nat.le_of_ble_eq_true rfl) (c_X8_advance (d + 1) hc21) ?_
  refine ae_aload_n 0 dX5_closeGroup_44 rfl ?_
  obtain ⟨r23, s24, hc25, hF26⟩ := ae_bdI hF22
  refine ae_cV0 (q := (19, 0)) (As := []) dX5_closeGroup_45 ww_654 vy_X5_endStatement rfl rfl rfl rfl rfl (Nat.le_of_ble_eq_true rfl) (c_X5_endStatement d hc25) ?_
  obtain ⟨rfl, rfl⟩ := ae_retI hF26
  exact ae_vret dX5_closeGroup_48 rfl ⟨rfl, rfl⟩
abbrev mX5_takeTarget : ae_M := (RX5, cX5_takeTarget, 2, some .boolean)
theorem vy_X5_takeTarget : ae_VY yX5_takeTarget mX5_takeTarget 0 := ⟨ww_687, wq_21, ww_11, ww_688, ⟨by decide, by decide, by decide +kernel⟩, by decide⟩
theorem dX5_takeTarget_0 : decode cX5_takeTarget 0 = .ok (.aload_n 0, 1) := by decide +kernel
theorem dX5_takeTarget_1 : decode cX5_takeTarget 1 = .ok (.invokevirtual 120, 3) := by decide +kernel
theorem dX5_takeTarget_4 : decode cX5_takeTarget 4 = .ok (.istore_n 1, 1) := by decide +kernel
theorem dX5_takeTarget_5 : decode cX5_takeTarget 5 = .ok (.iload_n 1, 1) := by decide +kernel
theorem dX5_takeTarget_6 : decode cX5_takeTarget 6 = .ok (.iconst (-1), 1) := by decide +kernel
theorem dX5_takeTarget_7 : decode cX5_takeTarget 7 = .ok (.if_icmp .ne 5, 3) := by decide +kernel
theorem dX5_takeTarget_10 : decode cX5_takeTarget 10 = .ok (.iconst 0, 1) := by decide +kernel
theorem dX5_takeTarget_11 : decode cX5_takeTarget 11 = .ok (.ireturn, 1) := by decide +kernel
theorem dX5_takeTarget_12 : decode cX5_takeTarget 12 = .ok (.aload_n 0, 1) := by decide +kernel
theorem dX5_takeTarget_13 : decode cX5_takeTarget 13 = .ok (.getfield 9, 3) := by decide +kernel
theorem dX5_takeTarget_16 : decode cX5_takeTarget 16 = .ok (.bipush 91, 2) := by decide +kernel
theorem dX5_takeTarget_18 : decode cX5_takeTarget 18 = .ok (.invokevirtual 93, 3) := by decide +kernel
theorem dX5_takeTarget_21 : decode cX5_takeTarget 21 = .ok (.ifCond .eq 25, 3) := by decide +kernel
theorem dX5_takeTarget_24 : decode cX5_takeTarget 24 = .ok (.aload_n 0, 1) := by decide +kernel
theorem dX5_takeTarget_25 : decode cX5_takeTarget 25 = .ok (.getfield 9, 3) := by decide +kernel
theorem dX5_takeTarget_28 : decode cX5_takeTarget 28 = .ok (.invokevirtual 77, 3) := by decide +kernel
theorem dX5_takeTarget_31 : decode cX5_takeTarget 31 = .ok (.aload_n 0, 1) := by decide +kernel
theorem dX5_takeTarget_32 : decode cX5_takeTarget 32 = .ok (.bipush 104, 2) := by decide +kernel
theorem dX5_takeTarget_34 : decode cX5_takeTarget 34 = .ok (.iload_n 1, 1) := by decide +kernel
theorem dX5_takeTarget_35 : decode cX5_takeTarget 35 = .ok (.iconst 0, 1) := by decide +kernel
theorem dX5_takeTarget_36 : decode cX5_takeTarget 36 = .ok (.invokevirtual 80, 3) := by decide +kernel
theorem dX5_takeTarget_39 : decode cX5_takeTarget 39 = .ok (.aload_n 0, 1) := by decide +kernel
theorem dX5_takeTarget_40 : decode cX5_takeTarget 40 = .ok (.iconst 1, 1) := by decide +kernel
theorem dX5_takeTarget_41 : decode cX5_takeTarget 41 = .ok (.putfield 45, 3) := by decide +kernel
theorem dX5_takeTarget_44 : decode cX5_takeTarget 44 = .ok (.iconst 1, 1) := by decide +kernel
theorem dX5_takeTarget_45 : decode cX5_takeTarget 45 = .ok (.ireturn, 1) := by decide +kernel
theorem dX5_takeTarget_46 : decode cX5_takeTarget 46 = .ok (.aload_n 0, 1) := by decide +kernel
theorem dX5_takeTarget_47 : decode cX5_takeTarget 47 = .ok (.getfield 19, 3) := by decide +kernel
theorem dX5_takeTarget_50 : decode cX5_takeTarget 50 = .ok (.iconst 1, 1) := by decide +kernel
theorem dX5_takeTarget_51 : decode cX5_takeTarget 51 = .ok (.lconst 0, 1) := by decide +kernel
theorem dX5_takeTarget_52 : decode cX5_takeTarget 52 = .ok (.iconst 0, 1) := by decide +kernel
theorem dX5_takeTarget_53 : decode cX5_takeTarget 53 = .ok (.invokevirtual 67, 3) := by decide +kernel
theorem dX5_takeTarget_56 : decode cX5_takeTarget 56 = .ok (.pop, 1) := by decide +kernel
theorem dX5_takeTarget_57 : decode cX5_takeTarget 57 = .ok (.aload_n 0, 1) := by decide +kernel
theorem dX5_takeTarget_58 : decode cX5_takeTarget 58 = .ok (.iload_n 1, 1) := by decide +kernel
theorem dX5_takeTarget_59 : decode cX5_takeTarget 59 = .ok (.invokevirtual 123, 3) := by decide +kernel
theorem dX5_takeTarget_62 : decode cX5_takeTarget 62 = .ok (.ireturn, 1) := by decide +kernel
def F_X5_takeTarget (s0 : ae_S) : Option (Int32 × ae_S) := ae_bd (F_X5_takeViewName s0) (fun (r1 : Int32) s2 => if r1 = (-1 : Int32) then (some ((0 : Int32), s2)) else (ae_bd (F_X8_isSign (91 : Int32) s2) (fun (r7 : Int32) s8 => if r7 = 0 then (ae_bd (F_X1_add (1 : Int32) (0 : Int64) (0 : Int32) s8) (fun (r13 : Int32) s14 => ae_bd (F_X5_takeEquals r1 s14) (fun (r17 : Int32) s18 => ae_gd (ae_zz r17) (some (r17, s18))))) else (ae_bd (F_X8_advance s8) (fun (r23 : Unit) s24 => ae_bd (F_X5_await (104 : Int32) r1 (0 : Int32) s24) (fun (r27 : Unit) s28 => ae_lt (ae_wI s28 19 0 8 (1 : Int32)) (fun s31 => some ((1 : Int32), s31))))))))
set_option maxHeartbeats 4000000 in
set_option maxRecDepth 100000 in
theorem c_X5_takeTarget {l : Launch} {G : ae_G} (d : Nat) {s0 ss : ae_S} {rr : Int32} (hF : F_X5_takeTarget s0 = some (rr, ss)) : ae_Met l G (d + 4) yX5_takeTarget mX5_takeTarget [ae_r (some (19, 0))] s0 (ae_Po (some (ae_i rr)) ss) := by
  refine ae_enter (by decide) rfl (Nat.le_of_ble_eq_true rfl) ?_
  show ae_T l G (d + 4) mX5_takeTarget (ae_Po (some (ae_i rr)) ss) 0 [(0, ae_r (some (19, 0)))] [] s0
  unfold F_X5_takeTarget at hF
  refine ae_aload_n 0 dX5_takeTarget_0 rfl ?_
  obtain ⟨r1, s2, hc3, hF4⟩ := ae_bdI hF
  refine ae_cV1 (q := (19, 0)) (As := []) dX5_takeTarget_1 ww_689 vy_X5_takeViewName rfl rfl rfl rfl rfl (Nat.le_of_ble_eq_true rfl) (c_X5_takeViewName (d + 1) hc3) ?_
  refine ae_istore_n (lv' := [(1, ae_i r1), (0, ae_r (some (19, 0)))]) dX5_takeTarget_4 (by decide) rfl ?_
  refine ae_iload_n 0 dX5_takeTarget_5 rfl ?_
  refine ae_iconst (-1 : Int32) dX5_takeTarget_6 (by decide) ?_
  refine ae_icmp_ne 12 dX5_takeTarget_7 rfl (fun hb5 => ?_) (fun hb5 => ?_)
  · have hF6 := ae_ifF hb5 hF4
    refine ae_aload_n 1 dX5_takeTarget_12 rfl ?_
    refine ae_getO (q := (19, 0)) (some (12, 0)) dX5_takeTarget_13 fl_RX5_9 rfl rfl rfl ?_
    refine ae_bipush (91 : Int32) dX5_takeTarget_16 (by decide) ?_
    obtain ⟨r7, s8, hc9, hF10⟩ := ae_bdI hF6
    refine ae_cV1 (q := (12, 0)) (As := [ae_i (91 : Int32)]) dX5_takeTarget_18 ww_675 vy_X8_isSign rfl rfl rfl rfl rfl (Nat.le_of_ble_eq_true rfl) (c_X8_isSign (d + 3) hc9) ?_
    refine ae_if_eq 46 dX5_takeTarget_21 rfl (fun hb11 => ?_) (fun hb11 => ?_)
    · have hF12 := ae_ifT hb11 hF10
      refine ae_aload_n 1 dX5_takeTarget_46 rfl ?_
      refine ae_getO (q := (19, 0)) (some (15, 0)) dX5_takeTarget_47 fl_RX5_19 rfl rfl rfl ?_
      refine ae_iconst (1 : Int32) dX5_takeTarget_50 (by decide) ?_
      refine ae_lconst (0 : Int64) dX5_takeTarget_51 (by decide) ?_
      refine ae_iconst (0 : Int32) dX5_takeTarget_52 (by decide) ?_
      obtain ⟨r13, s14, hc15, hF16⟩ := ae_bdI hF12
      refine ae_cV1 (q := (15, 0)) (As := [ae_i (1 : Int32), ae_l (0 : Int64), ae_i (0 : Int32)]) dX5_takeTarget_53 ww_642 vy_X1_add rfl rfl rfl rfl rfl (Nat.le_of_ble_eq_true rfl) (c_X1_add (d + 3) hc15) ?_
      refine ae_pop dX5_takeTarget_56 rfl ?_
      refine ae_aload_n 1 dX5_takeTarget_57 rfl ?_
      refine ae_iload_n 0 dX5_takeTarget_58 rfl ?_
      obtain ⟨r17, s18, hc19, hF20⟩ := ae_bdI hF16
      refine ae_cV1 (q := (19, 0)) (As := [ae_i r1]) dX5_takeTarget_59 ww_699 vy_X5_takeEquals rfl rfl rfl rfl rfl (Nat.le_of_ble_eq_true rfl) (c_X5_takeEquals d hc19) ?_
      obtain ⟨hg21, hF22⟩ := ae_gdI hF20
      obtain ⟨rfl, rfl⟩ := ae_retI hF22
      exact ae_iret dX5_takeTarget_62 rfl (ae_zzN (ae_zzI hg21)) ⟨rfl, rfl⟩
    · have hF12 := ae_ifF hb11 hF10
      refine ae_aload_n 1 dX5_takeTarget_24 rfl ?_
      refine ae_getO (q := (19, 0)) (some (12, 0)) dX5_takeTarget_25 fl_RX5_9 rfl rfl rfl ?_
      obtain ⟨r23, s24, hc25, hF26⟩ := ae_bdI hF12
      refine ae_cV0 (q := (12, 0)) (As := []) dX5_takeTarget_28 ww_648 vy_X8_advance rfl rfl rfl rfl rfl (Nat.le_of_ble_eq_true rfl) (c_X8_advance (d + 3) hc25) ?_
      refine ae_aload_n 1 dX5_takeTarget_31 rfl ?_
      refine ae_bipush (104 : Int32) dX5_takeTarget_32 (by decide) ?_
      refine ae_iload_n 0 dX5_takeTarget_34 rfl ?_
      refine ae_iconst (0 : Int32) dX5_takeTarget_35 (by decide) ?_
      obtain ⟨r27, s28, hc29, hF30⟩ := ae_bdI hF26
      refine ae_cV0 (q := (19, 0)) (As := [ae_i (104 : Int32), ae_i r1, ae_i (0 : Int32)]) dX5_takeTarget_36 ww_649 vy_X5_await rfl rfl rfl rfl rfl (Nat.le_of_ble_eq_true rfl) (c_X5_await (d + 3) hc29) ?_
      refine ae_aload_n 1 dX5_takeTarget_39 rfl ?_
      refine ae_iconst (1 : Int32) dX5_takeTarget_40 (by decide) ?_
      obtain ⟨s31, hs31, hF32⟩ := ae_ltI hF30
      refine ae_putI (q := (19, 0)) dX5_takeTarget_41 fl_RX5_45 rfl rfl (ae_nmS hs31 ?_)
      refine ae_iconst (1 : Int32) dX5_takeTarget_44 (by decide) ?_
      obtain ⟨rfl, rfl⟩ := ae_retI hF32
      exact ae_iret dX5_takeTarget_45 rfl (by decide) ⟨rfl, rfl⟩
  · have hF6 := ae_ifT hb5 hF4
    refine ae_iconst (0 : Int32) dX5_takeTarget_10 (by decide) ?_
    obtain ⟨rfl, rfl⟩ := ae_retI hF6
    exact ae_iret dX5_takeTarget_11 rfl (by decide) ⟨rfl, rfl⟩
abbrev mX5_takeStatement : ae_M := (RX5, cX5_takeStatement, 1, some .boolean)
theorem vy_X5_takeStatement : ae_VY yX5_takeStatement mX5_takeStatement 0 := ⟨ww_640, wq_13, ww_11, ww_641, ⟨by decide, by decide, by decide +kernel⟩, by decide⟩
theorem dX5_takeStatement_0 : decode cX5_takeStatement 0 = .ok (.aload_n 0, 1) := by decide +kernel
theorem dX5_takeStatement_1 : decode cX5_takeStatement 1 = .ok (.getfield 38, 3) := by decide +kernel
theorem dX5_takeStatement_4 : decode cX5_takeStatement 4 = .ok (.ifCond .ne 15, 3) := by decide +kernel
theorem dX5_takeStatement_7 : decode cX5_takeStatement 7 = .ok (.aload_n 0, 1) := by decide +kernel
theorem dX5_takeStatement_8 : decode cX5_takeStatement 8 = .ok (.getfield 19, 3) := by decide +kernel
theorem dX5_takeStatement_11 : decode cX5_takeStatement 11 = .ok (.bipush 19, 2) := by decide +kernel
theorem dX5_takeStatement_13 : decode cX5_takeStatement 13 = .ok (.lconst 0, 1) := by decide +kernel
theorem dX5_takeStatement_14 : decode cX5_takeStatement 14 = .ok (.iconst 0, 1) := by decide +kernel
theorem dX5_takeStatement_15 : decode cX5_takeStatement 15 = .ok (.invokevirtual 67, 3) := by decide +kernel
theorem dX5_takeStatement_18 : decode cX5_takeStatement 18 = .ok (.pop, 1) := by decide +kernel
theorem dX5_takeStatement_19 : decode cX5_takeStatement 19 = .ok (.aload_n 0, 1) := by decide +kernel
theorem dX5_takeStatement_20 : decode cX5_takeStatement 20 = .ok (.getfield 9, 3) := by decide +kernel
theorem dX5_takeStatement_23 : decode cX5_takeStatement 23 = .ok (.ldc 71, 2) := by decide +kernel
theorem dX5_takeStatement_25 : decode cX5_takeStatement 25 = .ok (.invokevirtual 73, 3) := by decide +kernel
theorem dX5_takeStatement_28 : decode cX5_takeStatement 28 = .ok (.ifCond .eq 25, 3) := by decide +kernel
theorem dX5_takeStatement_31 : decode cX5_takeStatement 31 = .ok (.aload_n 0, 1) := by decide +kernel
theorem dX5_takeStatement_32 : decode cX5_takeStatement 32 = .ok (.getfield 9, 3) := by decide +kernel
theorem dX5_takeStatement_35 : decode cX5_takeStatement 35 = .ok (.invokevirtual 77, 3) := by decide +kernel
theorem dX5_takeStatement_38 : decode cX5_takeStatement 38 = .ok (.aload_n 0, 1) := by decide +kernel
theorem dX5_takeStatement_39 : decode cX5_takeStatement 39 = .ok (.bipush 103, 2) := by decide +kernel
theorem dX5_takeStatement_41 : decode cX5_takeStatement 41 = .ok (.iconst 0, 1) := by decide +kernel
theorem dX5_takeStatement_42 : decode cX5_takeStatement 42 = .ok (.iconst 0, 1) := by decide +kernel
theorem dX5_takeStatement_43 : decode cX5_takeStatement 43 = .ok (.invokevirtual 80, 3) := by decide +kernel
theorem dX5_takeStatement_46 : decode cX5_takeStatement 46 = .ok (.aload_n 0, 1) := by decide +kernel
theorem dX5_takeStatement_47 : decode cX5_takeStatement 47 = .ok (.iconst 1, 1) := by decide +kernel
theorem dX5_takeStatement_48 : decode cX5_takeStatement 48 = .ok (.putfield 45, 3) := by decide +kernel
theorem dX5_takeStatement_51 : decode cX5_takeStatement 51 = .ok (.iconst 1, 1) := by decide +kernel
theorem dX5_takeStatement_52 : decode cX5_takeStatement 52 = .ok (.ireturn, 1) := by decide +kernel
theorem dX5_takeStatement_53 : decode cX5_takeStatement 53 = .ok (.aload_n 0, 1) := by decide +kernel
theorem dX5_takeStatement_54 : decode cX5_takeStatement 54 = .ok (.getfield 9, 3) := by decide +kernel
theorem dX5_takeStatement_57 : decode cX5_takeStatement 57 = .ok (.ldc 84, 2) := by decide +kernel
theorem dX5_takeStatement_59 : decode cX5_takeStatement 59 = .ok (.invokevirtual 73, 3) := by decide +kernel
theorem dX5_takeStatement_62 : decode cX5_takeStatement 62 = .ok (.ifCond .eq 36, 3) := by decide +kernel
theorem dX5_takeStatement_65 : decode cX5_takeStatement 65 = .ok (.aload_n 0, 1) := by decide +kernel
theorem dX5_takeStatement_66 : decode cX5_takeStatement 66 = .ok (.getfield 9, 3) := by decide +kernel
theorem dX5_takeStatement_69 : decode cX5_takeStatement 69 = .ok (.invokevirtual 77, 3) := by decide +kernel
theorem dX5_takeStatement_72 : decode cX5_takeStatement 72 = .ok (.aload_n 0, 1) := by decide +kernel
theorem dX5_takeStatement_73 : decode cX5_takeStatement 73 = .ok (.getfield 19, 3) := by decide +kernel
theorem dX5_takeStatement_76 : decode cX5_takeStatement 76 = .ok (.bipush 16, 2) := by decide +kernel
theorem dX5_takeStatement_78 : decode cX5_takeStatement 78 = .ok (.lconst 0, 1) := by decide +kernel
theorem dX5_takeStatement_79 : decode cX5_takeStatement 79 = .ok (.iconst 0, 1) := by decide +kernel
theorem dX5_takeStatement_80 : decode cX5_takeStatement 80 = .ok (.invokevirtual 67, 3) := by decide +kernel
theorem dX5_takeStatement_83 : decode cX5_takeStatement 83 = .ok (.pop, 1) := by decide +kernel
theorem dX5_takeStatement_84 : decode cX5_takeStatement 84 = .ok (.aload_n 0, 1) := by decide +kernel
theorem dX5_takeStatement_85 : decode cX5_takeStatement 85 = .ok (.invokevirtual 86, 3) := by decide +kernel
theorem dX5_takeStatement_88 : decode cX5_takeStatement 88 = .ok (.aload_n 0, 1) := by decide +kernel
theorem dX5_takeStatement_89 : decode cX5_takeStatement 89 = .ok (.getfield 9, 3) := by decide +kernel
theorem dX5_takeStatement_92 : decode cX5_takeStatement 92 = .ok (.bipush 59, 2) := by decide +kernel
theorem dX5_takeStatement_94 : decode cX5_takeStatement 94 = .ok (.invokevirtual 89, 3) := by decide +kernel
theorem dX5_takeStatement_97 : decode cX5_takeStatement 97 = .ok (.ireturn, 1) := by decide +kernel
theorem dX5_takeStatement_98 : decode cX5_takeStatement 98 = .ok (.aload_n 0, 1) := by decide +kernel
theorem dX5_takeStatement_99 : decode cX5_takeStatement 99 = .ok (.getfield 9, 3) := by decide +kernel
theorem dX5_takeStatement_102 : decode cX5_takeStatement 102 = .ok (.bipush 40, 2) := by decide +kernel
theorem dX5_takeStatement_104 : decode cX5_takeStatement 104 = .ok (.invokevirtual 93, 3) := by decide +kernel
theorem dX5_takeStatement_107 : decode cX5_takeStatement 107 = .ok (.ifCond .eq 21, 3) := by decide +kernel
theorem dX5_takeStatement_110 : decode cX5_takeStatement 110 = .ok (.aload_n 0, 1) := by decide +kernel
theorem dX5_takeStatement_111 : decode cX5_takeStatement 111 = .ok (.bipush 101, 2) := by decide +kernel
theorem dX5_takeStatement_113 : decode cX5_takeStatement 113 = .ok (.aload_n 0, 1) := by decide +kernel
theorem dX5_takeStatement_114 : decode cX5_takeStatement 114 = .ok (.getfield 19, 3) := by decide +kernel
theorem dX5_takeStatement_117 : decode cX5_takeStatement 117 = .ok (.bipush 17, 2) := by decide +kernel
theorem dX5_takeStatement_119 : decode cX5_takeStatement 119 = .ok (.lconst 0, 1) := by decide +kernel
theorem dX5_takeStatement_120 : decode cX5_takeStatement 120 = .ok (.iconst 0, 1) := by decide +kernel
theorem dX5_takeStatement_121 : decode cX5_takeStatement 121 = .ok (.invokevirtual 67, 3) := by decide +kernel
theorem dX5_takeStatement_124 : decode cX5_takeStatement 124 = .ok (.invokevirtual 96, 3) := by decide +kernel
theorem dX5_takeStatement_127 : decode cX5_takeStatement 127 = .ok (.ireturn, 1) := by decide +kernel
theorem dX5_takeStatement_128 : decode cX5_takeStatement 128 = .ok (.aload_n 0, 1) := by decide +kernel
theorem dX5_takeStatement_129 : decode cX5_takeStatement 129 = .ok (.getfield 9, 3) := by decide +kernel
theorem dX5_takeStatement_132 : decode cX5_takeStatement 132 = .ok (.bipush 41, 2) := by decide +kernel
theorem dX5_takeStatement_134 : decode cX5_takeStatement 134 = .ok (.invokevirtual 93, 3) := by decide +kernel
theorem dX5_takeStatement_137 : decode cX5_takeStatement 137 = .ok (.ifCond .eq 18, 3) := by decide +kernel
theorem dX5_takeStatement_140 : decode cX5_takeStatement 140 = .ok (.aload_n 0, 1) := by decide +kernel
theorem dX5_takeStatement_141 : decode cX5_takeStatement 141 = .ok (.invokevirtual 100, 3) := by decide +kernel
theorem dX5_takeStatement_144 : decode cX5_takeStatement 144 = .ok (.bipush 101, 2) := by decide +kernel
theorem dX5_takeStatement_146 : decode cX5_takeStatement 146 = .ok (.if_icmp .ne 9, 3) := by decide +kernel
theorem dX5_takeStatement_149 : decode cX5_takeStatement 149 = .ok (.aload_n 0, 1) := by decide +kernel
theorem dX5_takeStatement_150 : decode cX5_takeStatement 150 = .ok (.invokevirtual 104, 3) := by decide +kernel
theorem dX5_takeStatement_153 : decode cX5_takeStatement 153 = .ok (.iconst 1, 1) := by decide +kernel
theorem dX5_takeStatement_154 : decode cX5_takeStatement 154 = .ok (.ireturn, 1) := by decide +kernel
theorem dX5_takeStatement_155 : decode cX5_takeStatement 155 = .ok (.aload_n 0, 1) := by decide +kernel
theorem dX5_takeStatement_156 : decode cX5_takeStatement 156 = .ok (.invokevirtual 107, 3) := by decide +kernel
theorem dX5_takeStatement_159 : decode cX5_takeStatement 159 = .ok (.ireturn, 1) := by decide +kernel
def F_X5_takeStatement_155 (s0 : ae_S) : Option (Int32 × ae_S) := ae_bd (F_X5_takeTarget s0) (fun (r1 : Int32) s2 => ae_gd (ae_zz r1) (some (r1, s2)))
set_option maxHeartbeats 4000000 in
set_option maxRecDepth 100000 in
theorem t_X5_takeStatement_155 {l : Launch} {G : ae_G} (d : Nat) {rr : Int32} {ss : ae_S} (s0 : ae_S) (hF : F_X5_takeStatement_155 s0 = some (rr, ss)) : ae_T l G (d + 6) mX5_takeStatement (ae_Po (some (ae_i rr)) ss) 155 [(0, ae_r (some (19, 0)))] [] s0 := by
  unfold F_X5_takeStatement_155 at hF
  refine ae_aload_n 0 dX5_takeStatement_155 rfl ?_
  obtain ⟨r1, s2, hc3, hF4⟩ := ae_bdI hF
  refine ae_cV1 (q := (19, 0)) (As := []) dX5_takeStatement_156 ww_685 vy_X5_takeTarget rfl rfl rfl rfl rfl (Nat.le_of_ble_eq_true rfl) (c_X5_takeTarget (d + 1) hc3) ?_
  obtain ⟨hg5, hF6⟩ := ae_gdI hF4
  obtain ⟨rfl, rfl⟩ := ae_retI hF6
  exact ae_iret dX5_takeStatement_159 rfl (ae_zzN (ae_zzI hg5)) ⟨rfl, rfl⟩
def F_X5_takeStatement_19 (s0 : ae_S) : Option (Int32 × ae_S) := ae_bd (F_X8_isWord (7 : Fin 32) s0) (fun (r7 : Int32) s8 => if r7 = 0 then (ae_bd (F_X8_isWord (8 : Fin 32) s8) (fun (r13 : Int32) s14 => if r13 = 0 then (ae_bd (F_X8_isSign (40 : Int32) s14) (fun (r19 : Int32) s20 => if r19 = 0 then (ae_bd (F_X8_isSign (41 : Int32) s20) (fun (r25 : Int32) s26 => if r25 = 0 then (F_X5_takeStatement_155 s26) else (ae_bd (F_X5_awaited s26) (fun (r31 : Int32) s32 => if r31 = (101 : Int32) then (ae_bd (F_X5_closeGroup s32) (fun (r37 : Unit) s38 => some ((1 : Int32), s38))) else (F_X5_takeStatement_155 s32))))) else (ae_bd (F_X1_add (17 : Int32) (0 : Int64) (0 : Int32) s20) (fun (r41 : Int32) s42 => ae_bd (F_X5_takeOpening (101 : Int32) r41 s42) (fun (r45 : Int32) s46 => ae_gd (ae_zz r45) (some (r45, s46))))))) else (ae_bd (F_X8_advance s14) (fun (r51 : Unit) s52 => ae_bd (F_X1_add (16 : Int32) (0 : Int64) (0 : Int32) s52) (fun (r55 : Int32) s56 => ae_bd (F_X5_endStatement s56) (fun (r59 : Unit) s60 => ae_bd (F_X8_takeSign (59 : Int32) s60) (fun (r63 : Int32) s64 => ae_gd (ae_zz r63) (some (r63, s64))))))))) else (ae_bd (F_X8_advance s8) (fun (r69 : Unit) s70 => ae_bd (F_X5_await (103 : Int32) (0 : Int32) (0 : Int32) s70) (fun (r73 : Unit) s74 => ae_lt (ae_wI s74 19 0 8 (1 : Int32)) (fun s77 => some ((1 : Int32), s77))))))
set_option maxHeartbeats 4000000 in
set_option maxRecDepth 100000 in
theorem t_X5_takeStatement_19 {l : Launch} {G : ae_G} (d : Nat) {rr : Int32} {ss : ae_S} (s0 : ae_S) (hF : F_X5_takeStatement_19 s0 = some (rr, ss)) : ae_T l G (d + 6) mX5_takeStatement (ae_Po (some (ae_i rr)) ss) 19 [(0, ae_r (some (19, 0)))] [] s0 := by
  unfold F_X5_takeStatement_19 at hF
  refine ae_aload_n 0 dX5_takeStatement_19 rfl ?_
  refine ae_getO (q := (19, 0)) (some (12, 0)) dX5_takeStatement_20 fl_RX5_9 rfl rfl rfl ?_
  refine ae_ldcS (i := 7) (tx := "if") 16 dX5_takeStatement_23 rfl ?_
  obtain ⟨r7, s8, hc9, hF10⟩ := ae_bdI hF
  refine ae_cV1 (q := (12, 0)) (As := [ae_r (some (62, 7))]) dX5_takeStatement_25 ww_647 vy_X8_isWord rfl rfl rfl rfl rfl (Nat.le_of_ble_eq_true rfl) (c_X8_isWord d hc9) ?_
  refine ae_if_eq 53 dX5_takeStatement_28 rfl (fun hb11 => ?_) (fun hb11 => ?_)
  · have hF12 := ae_ifT hb11 hF10
    refine ae_aload_n 0 dX5_takeStatement_53 rfl ?_
    refine ae_getO (q := (19, 0)) (some (12, 0)) dX5_takeStatement_54 fl_RX5_9 rfl rfl rfl ?_
    refine ae_ldcS (i := 8) (tx := "fail") 17 dX5_takeStatement_57 rfl ?_
    obtain ⟨r13, s14, hc15, hF16⟩ := ae_bdI hF12
    refine ae_cV1 (q := (12, 0)) (As := [ae_r (some (62, 8))]) dX5_takeStatement_59 ww_647 vy_X8_isWord rfl rfl rfl rfl rfl (Nat.le_of_ble_eq_true rfl) (c_X8_isWord d hc15) ?_
    refine ae_if_eq 98 dX5_takeStatement_62 rfl (fun hb17 => ?_) (fun hb17 => ?_)
    · have hF18 := ae_ifT hb17 hF16
      refine ae_aload_n 0 dX5_takeStatement_98 rfl ?_
      refine ae_getO (q := (19, 0)) (some (12, 0)) dX5_takeStatement_99 fl_RX5_9 rfl rfl rfl ?_
      refine ae_bipush (40 : Int32) dX5_takeStatement_102 (by decide) ?_
      obtain ⟨r19, s20, hc21, hF22⟩ := ae_bdI hF18
      refine ae_cV1 (q := (12, 0)) (As := [ae_i (40 : Int32)]) dX5_takeStatement_104 ww_675 vy_X8_isSign rfl rfl rfl rfl rfl (Nat.le_of_ble_eq_true rfl) (c_X8_isSign (d + 5) hc21) ?_
      refine ae_if_eq 128 dX5_takeStatement_107 rfl (fun hb23 => ?_) (fun hb23 => ?_)
      · have hF24 := ae_ifT hb23 hF22
        refine ae_aload_n 0 dX5_takeStatement_128 rfl ?_
        refine ae_getO (q := (19, 0)) (some (12, 0)) dX5_takeStatement_129 fl_RX5_9 rfl rfl rfl ?_
        refine ae_bipush (41 : Int32) dX5_takeStatement_132 (by decide) ?_
        obtain ⟨r25, s26, hc27, hF28⟩ := ae_bdI hF24
        refine ae_cV1 (q := (12, 0)) (As := [ae_i (41 : Int32)]) dX5_takeStatement_134 ww_675 vy_X8_isSign rfl rfl rfl rfl rfl (Nat.le_of_ble_eq_true rfl) (c_X8_isSign (d + 5) hc27) ?_
        refine ae_if_eq 155 dX5_takeStatement_137 rfl (fun hb29 => ?_) (fun hb29 => ?_)
        · have hF30 := ae_ifT hb29 hF28
          refine ae_pick (lv' := [(0, ae_r (some (19, 0)))]) [0] rfl ?_
          exact t_X5_takeStatement_155 d s26 hF30
        · have hF30 := ae_ifF hb29 hF28
          refine ae_aload_n 0 dX5_takeStatement_140 rfl ?_
          obtain ⟨r31, s32, hc33, hF34⟩ := ae_bdI hF30
          refine ae_cV1 (q := (19, 0)) (As := []) dX5_takeStatement_141 ww_658 vy_X5_awaited rfl rfl rfl rfl rfl (Nat.le_of_ble_eq_true rfl) (c_X5_awaited (d + 5) hc33) ?_
          refine ae_bipush (101 : Int32) dX5_takeStatement_144 (by decide) ?_
          refine ae_icmp_ne 155 dX5_takeStatement_146 rfl (fun hb35 => ?_) (fun hb35 => ?_)
          · have hF36 := ae_ifF hb35 hF34
            refine ae_pick (lv' := [(0, ae_r (some (19, 0)))]) [0] rfl ?_
            exact t_X5_takeStatement_155 d s32 hF36
          · have hF36 := ae_ifT hb35 hF34
            refine ae_aload_n 0 dX5_takeStatement_149 rfl ?_
            obtain ⟨r37, s38, hc39, hF40⟩ := ae_bdI hF36
            refine ae_cV0 (q := (19, 0)) (As := []) dX5_takeStatement_150 ww_681 vy_X5_closeGroup rfl rfl rfl rfl rfl (Nat.le_of_ble_eq_true rfl) (c_X5_closeGroup (d + 3) hc39) ?_
            refine ae_iconst (1 : Int32) dX5_takeStatement_153 (by decide) ?_
            obtain ⟨rfl, rfl⟩ := ae_retI hF40
            exact ae_iret dX5_takeStatement_154 rfl (by decide) ⟨rfl, rfl⟩
      · have hF24 := ae_ifF hb23 hF22
        refine ae_aload_n 0 dX5_takeStatement_110 rfl ?_
        refine ae_bipush (101 : Int32) dX5_takeStatement_111 (by decide) ?_
        refine ae_aload_n 0 dX5_takeStatement_113 rfl ?_
        refine ae_getO (q := (19, 0)) (some (15, 0)) dX5_takeStatement_114 fl_RX5_19 rfl rfl rfl ?_
        refine ae_bipush (17 : Int32) dX5_takeStatement_117 (by decide) ?_
        refine ae_lconst (0 : Int64) dX5_takeStatement_119 (by decide) ?_
        refine ae_iconst (0 : Int32) dX5_takeStatement_120 (by decide) ?_
        obtain ⟨r41, s42, hc43, hF44⟩ := ae_bdI hF24
        refine ae_cV1 (q := (15, 0)) (As := [ae_i (17 : Int32), ae_l (0 : Int64), ae_i (0 : Int32)]) dX5_takeStatement_121 ww_642 vy_X1_add rfl rfl rfl rfl rfl (Nat.le_of_ble_eq_true rfl) (c_X1_add (d + 5) hc43) ?_
        obtain ⟨r45, s46, hc47, hF48⟩ := ae_bdI hF44
        refine ae_cV1 (q := (19, 0)) (As := [ae_i (101 : Int32), ae_i r41]) dX5_takeStatement_124 ww_676 vy_X5_takeOpening rfl rfl rfl rfl rfl (Nat.le_of_ble_eq_true rfl) (c_X5_takeOpening (d + 4) hc47) ?_
        obtain ⟨hg49, hF50⟩ := ae_gdI hF48
        obtain ⟨rfl, rfl⟩ := ae_retI hF50
        exact ae_iret dX5_takeStatement_127 rfl (ae_zzN (ae_zzI hg49)) ⟨rfl, rfl⟩
    · have hF18 := ae_ifF hb17 hF16
      refine ae_aload_n 0 dX5_takeStatement_65 rfl ?_
      refine ae_getO (q := (19, 0)) (some (12, 0)) dX5_takeStatement_66 fl_RX5_9 rfl rfl rfl ?_
      obtain ⟨r51, s52, hc53, hF54⟩ := ae_bdI hF18
      refine ae_cV0 (q := (12, 0)) (As := []) dX5_takeStatement_69 ww_648 vy_X8_advance rfl rfl rfl rfl rfl (Nat.le_of_ble_eq_true rfl) (c_X8_advance (d + 5) hc53) ?_
      refine ae_aload_n 0 dX5_takeStatement_72 rfl ?_
      refine ae_getO (q := (19, 0)) (some (15, 0)) dX5_takeStatement_73 fl_RX5_19 rfl rfl rfl ?_
      refine ae_bipush (16 : Int32) dX5_takeStatement_76 (by decide) ?_
      refine ae_lconst (0 : Int64) dX5_takeStatement_78 (by decide) ?_
      refine ae_iconst (0 : Int32) dX5_takeStatement_79 (by decide) ?_
      obtain ⟨r55, s56, hc57, hF58⟩ := ae_bdI hF54
      refine ae_cV1 (q := (15, 0)) (As := [ae_i (16 : Int32), ae_l (0 : Int64), ae_i (0 : Int32)]) dX5_takeStatement_80 ww_642 vy_X1_add rfl rfl rfl rfl rfl (Nat.le_of_ble_eq_true rfl) (c_X1_add (d + 5) hc57) ?_
      refine ae_pop dX5_takeStatement_83 rfl ?_
      refine ae_aload_n 0 dX5_takeStatement_84 rfl ?_
      obtain ⟨r59, s60, hc61, hF62⟩ := ae_bdI hF58
      refine ae_cV0 (q := (19, 0)) (As := []) dX5_takeStatement_85 ww_654 vy_X5_endStatement rfl rfl rfl rfl rfl (Nat.le_of_ble_eq_true rfl) (c_X5_endStatement (d + 4) hc61) ?_
      refine ae_aload_n 0 dX5_takeStatement_88 rfl ?_
      refine ae_getO (q := (19, 0)) (some (12, 0)) dX5_takeStatement_89 fl_RX5_9 rfl rfl rfl ?_
      refine ae_bipush (59 : Int32) dX5_takeStatement_92 (by decide) ?_
      obtain ⟨r63, s64, hc65, hF66⟩ := ae_bdI hF62
      refine ae_cV1 (q := (12, 0)) (As := [ae_i (59 : Int32)]) dX5_takeStatement_94 ww_674 vy_X8_takeSign rfl rfl rfl rfl rfl (Nat.le_of_ble_eq_true rfl) (c_X8_takeSign (d + 4) hc65) ?_
      obtain ⟨hg67, hF68⟩ := ae_gdI hF66
      obtain ⟨rfl, rfl⟩ := ae_retI hF68
      exact ae_iret dX5_takeStatement_97 rfl (ae_zzN (ae_zzI hg67)) ⟨rfl, rfl⟩
  · have hF12 := ae_ifF hb11 hF10
    refine ae_aload_n 0 dX5_takeStatement_31 rfl ?_
    refine ae_getO (q := (19, 0)) (some (12, 0)) dX5_takeStatement_32 fl_RX5_9 rfl rfl rfl ?_
    obtain ⟨r69, s70, hc71, hF72⟩ := ae_bdI hF12
    refine ae_cV0 (q := (12, 0)) (As := []) dX5_takeStatement_35 ww_648 vy_X8_advance rfl rfl rfl rfl rfl (Nat.le_of_ble_eq_true rfl) (c_X8_advance (d + 5) hc71) ?_
    refine ae_aload_n 0 dX5_takeStatement_38 rfl ?_
    refine ae_bipush (103 : Int32) dX5_takeStatement_39 (by decide) ?_
    refine ae_iconst (0 : Int32) dX5_takeStatement_41 (by decide) ?_
    refine ae_iconst (0 : Int32) dX5_takeStatement_42 (by decide) ?_
    obtain ⟨r73, s74, hc75, hF76⟩ := ae_bdI hF72
    refine ae_cV0 (q := (19, 0)) (As := [ae_i (103 : Int32), ae_i (0 : Int32), ae_i (0 : Int32)]) dX5_takeStatement_43 ww_649 vy_X5_await rfl rfl rfl rfl rfl (Nat.le_of_ble_eq_true rfl) (c_X5_await (d + 5) hc75) ?_
    refine ae_aload_n 0 dX5_takeStatement_46 rfl ?_
    refine ae_iconst (1 : Int32) dX5_takeStatement_47 (by decide) ?_
    obtain ⟨s77, hs77, hF78⟩ := ae_ltI hF76
    refine ae_putI (q := (19, 0)) dX5_takeStatement_48 fl_RX5_45 rfl rfl (ae_nmS hs77 ?_)
    refine ae_iconst (1 : Int32) dX5_takeStatement_51 (by decide) ?_
    obtain ⟨rfl, rfl⟩ := ae_retI hF78
    exact ae_iret dX5_takeStatement_52 rfl (by decide) ⟨rfl, rfl⟩
def F_X5_takeStatement (s0 : ae_S) : Option (Int32 × ae_S) := if (s0.1 19 0 6) = 0 then (ae_bd (F_X1_add (19 : Int32) (0 : Int64) (0 : Int32) s0) (fun (r81 : Int32) s82 => F_X5_takeStatement_19 s82)) else (F_X5_takeStatement_19 s0)
set_option maxHeartbeats 4000000 in
set_option maxRecDepth 100000 in
theorem c_X5_takeStatement {l : Launch} {G : ae_G} (d : Nat) {s0 ss : ae_S} {rr : Int32} (hF : F_X5_takeStatement s0 = some (rr, ss)) : ae_Met l G (d + 6) yX5_takeStatement mX5_takeStatement [ae_r (some (19, 0))] s0 (ae_Po (some (ae_i rr)) ss) := by
  refine ae_enter (by decide) rfl (Nat.le_of_ble_eq_true rfl) ?_
  show ae_T l G (d + 6) mX5_takeStatement (ae_Po (some (ae_i rr)) ss) 0 [(0, ae_r (some (19, 0)))] [] s0
  unfold F_X5_takeStatement at hF
  refine ae_aload_n 0 dX5_takeStatement_0 rfl ?_
  refine ae_getI (q := (19, 0)) dX5_takeStatement_1 fl_RX5_38 rfl rfl ?_
  refine ae_if_ne 19 dX5_takeStatement_4 rfl (fun hb79 => ?_) (fun hb79 => ?_)
  · have hF80 := ae_ifF hb79 hF
    refine ae_pick (lv' := [(0, ae_r (some (19, 0)))]) [0] rfl ?_
    exact t_X5_takeStatement_19 d s0 hF80
  · have hF80 := ae_ifT hb79 hF
    refine ae_aload_n 0 dX5_takeStatement_7 rfl ?_
    refine ae_getO (q := (19, 0)) (some (15, 0)) dX5_takeStatement_8 fl_RX5_19 rfl rfl rfl ?_
    refine ae_bipush (19 : Int32) dX5_takeStatement_11 (by decide) ?_
    refine ae_lconst (0 : Int64) dX5_takeStatement_13 (by decide) ?_
    refine ae_iconst (0 : Int32) dX5_takeStatement_14 (by decide) ?_
    obtain ⟨r81, s82, hc83, hF84⟩ := ae_bdI hF80
    refine ae_cV1 (q := (15, 0)) (As := [ae_i (19 : Int32), ae_l (0 : Int64), ae_i (0 : Int32)]) dX5_takeStatement_15 ww_642 vy_X1_add rfl rfl rfl rfl rfl (Nat.le_of_ble_eq_true rfl) (c_X1_add (d + 5) hc83) ?_
    refine ae_pop dX5_takeStatement_18 rfl ?_
    refine ae_pick (lv' := [(0, ae_r (some (19, 0)))]) [0] rfl ?_
    exact t_X5_takeStatement_19 d s82 hF84
abbrev mX5_compile : ae_M := (RX5, cX5_compile, 3, some .boolean)
theorem vy_X5_compile : ae_VY yX5_compile mX5_compile 0 := ⟨ww_630, ww_631, ww_11, ww_632, ⟨by decide, by decide, by decide +kernel⟩, by decide⟩
theorem dX5_compile_0 : decode cX5_compile 0 = .ok (.aload_n 0, 1) := by decide +kernel
theorem dX5_compile_1 : decode cX5_compile 1 = .ok (.getfield 19, 3) := by decide +kernel
theorem dX5_compile_4 : decode cX5_compile 4 = .ok (.invokevirtual 33, 3) := by decide +kernel
theorem dX5_compile_7 : decode cX5_compile 7 = .ok (.aload_n 0, 1) := by decide +kernel
theorem dX5_compile_8 : decode cX5_compile 8 = .ok (.iconst 0, 1) := by decide +kernel
theorem dX5_compile_9 : decode cX5_compile 9 = .ok (.putfield 38, 3) := by decide +kernel
theorem dX5_compile_12 : decode cX5_compile 12 = .ok (.aload_n 0, 1) := by decide +kernel
theorem dX5_compile_13 : decode cX5_compile 13 = .ok (.iconst 0, 1) := by decide +kernel
theorem dX5_compile_14 : decode cX5_compile 14 = .ok (.putfield 42, 3) := by decide +kernel
theorem dX5_compile_17 : decode cX5_compile 17 = .ok (.aload_n 0, 1) := by decide +kernel
theorem dX5_compile_18 : decode cX5_compile 18 = .ok (.iconst 0, 1) := by decide +kernel
theorem dX5_compile_19 : decode cX5_compile 19 = .ok (.putfield 45, 3) := by decide +kernel
theorem dX5_compile_22 : decode cX5_compile 22 = .ok (.iconst 0, 1) := by decide +kernel
theorem dX5_compile_23 : decode cX5_compile 23 = .ok (.istore_n 1, 1) := by decide +kernel
theorem dX5_compile_24 : decode cX5_compile 24 = .ok (.iload_n 1, 1) := by decide +kernel
theorem dX5_compile_25 : decode cX5_compile 25 = .ok (.sipush 1000, 3) := by decide +kernel
theorem dX5_compile_28 : decode cX5_compile 28 = .ok (.if_icmp .gt 75, 3) := by decide +kernel
theorem dX5_compile_31 : decode cX5_compile 31 = .ok (.aload_n 0, 1) := by decide +kernel
theorem dX5_compile_32 : decode cX5_compile 32 = .ok (.getfield 45, 3) := by decide +kernel
theorem dX5_compile_35 : decode cX5_compile 35 = .ok (.ifCond .ne 22, 3) := by decide +kernel
theorem dX5_compile_38 : decode cX5_compile 38 = .ok (.aload_n 0, 1) := by decide +kernel
theorem dX5_compile_39 : decode cX5_compile 39 = .ok (.getfield 38, 3) := by decide +kernel
theorem dX5_compile_42 : decode cX5_compile 42 = .ok (.ifCond .ne 15, 3) := by decide +kernel
theorem dX5_compile_45 : decode cX5_compile 45 = .ok (.aload_n 0, 1) := by decide +kernel
theorem dX5_compile_46 : decode cX5_compile 46 = .ok (.getfield 9, 3) := by decide +kernel
theorem dX5_compile_49 : decode cX5_compile 49 = .ok (.invokevirtual 48, 3) := by decide +kernel
theorem dX5_compile_52 : decode cX5_compile 52 = .ok (.ifCond .eq 5, 3) := by decide +kernel
theorem dX5_compile_55 : decode cX5_compile 55 = .ok (.iconst 1, 1) := by decide +kernel
theorem dX5_compile_56 : decode cX5_compile 56 = .ok (.ireturn, 1) := by decide +kernel
theorem dX5_compile_57 : decode cX5_compile 57 = .ok (.aload_n 0, 1) := by decide +kernel
theorem dX5_compile_58 : decode cX5_compile 58 = .ok (.getfield 45, 3) := by decide +kernel
theorem dX5_compile_61 : decode cX5_compile 61 = .ok (.ifCond .ne 10, 3) := by decide +kernel
theorem dX5_compile_64 : decode cX5_compile 64 = .ok (.aload_n 0, 1) := by decide +kernel
theorem dX5_compile_65 : decode cX5_compile 65 = .ok (.invokevirtual 54, 3) := by decide +kernel
theorem dX5_compile_68 : decode cX5_compile 68 = .ok (.goto 22, 3) := by decide +kernel
theorem dX5_compile_71 : decode cX5_compile 71 = .ok (.aload_n 0, 1) := by decide +kernel
theorem dX5_compile_72 : decode cX5_compile 72 = .ok (.getfield 45, 3) := by decide +kernel
theorem dX5_compile_75 : decode cX5_compile 75 = .ok (.iconst 1, 1) := by decide +kernel
theorem dX5_compile_76 : decode cX5_compile 76 = .ok (.if_icmp .ne 10, 3) := by decide +kernel
theorem dX5_compile_79 : decode cX5_compile 79 = .ok (.aload_n 0, 1) := by decide +kernel
theorem dX5_compile_80 : decode cX5_compile 80 = .ok (.invokevirtual 57, 3) := by decide +kernel
theorem dX5_compile_83 : decode cX5_compile 83 = .ok (.goto 7, 3) := by decide +kernel
theorem dX5_compile_86 : decode cX5_compile 86 = .ok (.aload_n 0, 1) := by decide +kernel
theorem dX5_compile_87 : decode cX5_compile 87 = .ok (.invokevirtual 60, 3) := by decide +kernel
theorem dX5_compile_90 : decode cX5_compile 90 = .ok (.istore_n 2, 1) := by decide +kernel
theorem dX5_compile_91 : decode cX5_compile 91 = .ok (.iload_n 2, 1) := by decide +kernel
theorem dX5_compile_92 : decode cX5_compile 92 = .ok (.ifCond .ne 5, 3) := by decide +kernel
theorem dX5_compile_95 : decode cX5_compile 95 = .ok (.iconst 0, 1) := by decide +kernel
theorem dX5_compile_96 : decode cX5_compile 96 = .ok (.ireturn, 1) := by decide +kernel
theorem dX5_compile_97 : decode cX5_compile 97 = .ok (.iinc 1 1, 3) := by decide +kernel
theorem dX5_compile_100 : decode cX5_compile 100 = .ok (.goto (-76), 3) := by decide +kernel
theorem dX5_compile_103 : decode cX5_compile 103 = .ok (.aload_n 0, 1) := by decide +kernel
theorem dX5_compile_104 : decode cX5_compile 104 = .ok (.getfield 9, 3) := by decide +kernel
theorem dX5_compile_107 : decode cX5_compile 107 = .ok (.iconst 1, 1) := by decide +kernel
theorem dX5_compile_108 : decode cX5_compile 108 = .ok (.invokevirtual 63, 3) := by decide +kernel
theorem dX5_compile_111 : decode cX5_compile 111 = .ok (.ireturn, 1) := by decide +kernel
def F_X5_compile_90 (k24 : Int32 → ae_S → Option (Int32 × ae_S)) (v1 : Int32) (t0 : Int32) (s0 : ae_S) : Option (Int32 × ae_S) := if t0 = 0 then (some ((0 : Int32), s0)) else (ae_lt (v1 + (1 : Int32)) (fun x3 => k24 x3 s0))
set_option maxHeartbeats 4000000 in
set_option maxRecDepth 100000 in
theorem t_X5_compile_90 {l : Launch} {G : ae_G} (d : Nat) (k24 : Int32 → ae_S → Option (Int32 × ae_S)) {rr : Int32} {ss : ae_S} (hk24 : ∀ (v1 : Int32) (s0 : ae_S), k24 v1 s0 = some (rr, ss) → ae_T l G (d + 7) mX5_compile (ae_Po (some (ae_i rr)) ss) 24 [(0, ae_r (some (19, 0))), (1, ae_i v1)] [] s0) (v1 : Int32) (t0 : Int32) (s0 : ae_S) (hF : F_X5_compile_90 k24 v1 t0 s0 = some (rr, ss)) : ae_T l G (d + 7) mX5_compile (ae_Po (some (ae_i rr)) ss) 90 [(0, ae_r (some (19, 0))), (1, ae_i v1)] [ae_i t0] s0 := by
  unfold F_X5_compile_90 at hF
  refine ae_istore_n (lv' := [(2, ae_i t0), (0, ae_r (some (19, 0))), (1, ae_i v1)]) dX5_compile_90 (by decide) rfl ?_
  refine ae_iload_n 0 dX5_compile_91 rfl ?_
  refine ae_if_ne 97 dX5_compile_92 rfl (fun hb1 => ?_) (fun hb1 => ?_)
  · have hF2 := ae_ifF hb1 hF
    obtain ⟨x3, hx3, hF4⟩ := ae_ltI hF2
    refine ae_iinc (lv' := [(1, ae_i x3), (2, ae_i t0), (0, ae_r (some (19, 0)))]) 2 (1 : Int32) dX5_compile_97 rfl (by decide) (by decide) (by rw [hx3]; rfl) ?_
    refine ae_goto 24 dX5_compile_100 rfl ?_
    refine ae_pick (lv' := [(0, ae_r (some (19, 0))), (1, ae_i x3)]) [2, 0] rfl ?_
    exact hk24 x3 s0 hF4
  · have hF2 := ae_ifT hb1 hF
    refine ae_iconst (0 : Int32) dX5_compile_95 (by decide) ?_
    obtain ⟨rfl, rfl⟩ := ae_retI hF2
    exact ae_iret dX5_compile_96 rfl (by decide) ⟨rfl, rfl⟩
def F_X5_compile_57 (k24 : Int32 → ae_S → Option (Int32 × ae_S)) (v1 : Int32) (s0 : ae_S) : Option (Int32 × ae_S) := if (s0.1 19 0 8) = 0 then (ae_bd (F_X5_takeStatement s0) (fun (r17 : Int32) s18 => F_X5_compile_90 k24 v1 r17 s18)) else (if (s0.1 19 0 8) = (1 : Int32) then (ae_bd (F_X5_takeOperand s0) (fun (r13 : Int32) s14 => F_X5_compile_90 k24 v1 r13 s14)) else (ae_bd (F_X5_takeBehind s0) (fun (r9 : Int32) s10 => F_X5_compile_90 k24 v1 r9 s10)))
set_option maxHeartbeats 4000000 in
set_option maxRecDepth 100000 in
theorem t_X5_compile_57 {l : Launch} {G : ae_G} (d : Nat) (k24 : Int32 → ae_S → Option (Int32 × ae_S)) {rr : Int32} {ss : ae_S} (hk24 : ∀ (v1 : Int32) (s0 : ae_S), k24 v1 s0 = some (rr, ss) → ae_T l G (d + 7) mX5_compile (ae_Po (some (ae_i rr)) ss) 24 [(0, ae_r (some (19, 0))), (1, ae_i v1)] [] s0) (v1 : Int32) (s0 : ae_S) (hF : F_X5_compile_57 k24 v1 s0 = some (rr, ss)) : ae_T l G (d + 7) mX5_compile (ae_Po (some (ae_i rr)) ss) 57 [(0, ae_r (some (19, 0))), (1, ae_i v1)] [] s0 := by
  unfold F_X5_compile_57 at hF
  refine ae_aload_n 0 dX5_compile_57 rfl ?_
  refine ae_getI (q := (19, 0)) dX5_compile_58 fl_RX5_45 rfl rfl ?_
  refine ae_if_ne 71 dX5_compile_61 rfl (fun hb5 => ?_) (fun hb5 => ?_)
  · have hF6 := ae_ifF hb5 hF
    refine ae_aload_n 0 dX5_compile_71 rfl ?_
    refine ae_getI (q := (19, 0)) dX5_compile_72 fl_RX5_45 rfl rfl ?_
    refine ae_iconst (1 : Int32) dX5_compile_75 (by decide) ?_
    refine ae_icmp_ne 86 dX5_compile_76 rfl (fun hb7 => ?_) (fun hb7 => ?_)
    · have hF8 := ae_ifF hb7 hF6
      refine ae_aload_n 0 dX5_compile_86 rfl ?_
      obtain ⟨r9, s10, hc11, hF12⟩ := ae_bdI hF8
      refine ae_cV1 (q := (19, 0)) (As := []) dX5_compile_87 ww_786 vy_X5_takeBehind rfl rfl rfl rfl rfl (Nat.le_of_ble_eq_true rfl) (c_X5_takeBehind (d + 2) hc11) ?_
      refine ae_pick (lv' := [(0, ae_r (some (19, 0))), (1, ae_i v1)]) [0, 1] rfl ?_
      exact t_X5_compile_90 d k24 hk24 v1 r9 s10 hF12
    · have hF8 := ae_ifT hb7 hF6
      refine ae_aload_n 0 dX5_compile_79 rfl ?_
      obtain ⟨r13, s14, hc15, hF16⟩ := ae_bdI hF8
      refine ae_cV1 (q := (19, 0)) (As := []) dX5_compile_80 ww_712 vy_X5_takeOperand rfl rfl rfl rfl rfl (Nat.le_of_ble_eq_true rfl) (c_X5_takeOperand d hc15) ?_
      refine ae_goto 90 dX5_compile_83 rfl ?_
      refine ae_pick (lv' := [(0, ae_r (some (19, 0))), (1, ae_i v1)]) [0, 1] rfl ?_
      exact t_X5_compile_90 d k24 hk24 v1 r13 s14 hF16
  · have hF6 := ae_ifT hb5 hF
    refine ae_aload_n 0 dX5_compile_64 rfl ?_
    obtain ⟨r17, s18, hc19, hF20⟩ := ae_bdI hF6
    refine ae_cV1 (q := (19, 0)) (As := []) dX5_compile_65 ww_638 vy_X5_takeStatement rfl rfl rfl rfl rfl (Nat.le_of_ble_eq_true rfl) (c_X5_takeStatement d hc19) ?_
    refine ae_goto 90 dX5_compile_68 rfl ?_
    refine ae_pick (lv' := [(0, ae_r (some (19, 0))), (1, ae_i v1)]) [0, 1] rfl ?_
    exact t_X5_compile_90 d k24 hk24 v1 r17 s18 hF20
def F_X5_compile_24 : Nat → Int32 → ae_S → Option (Int32 × ae_S)
  | 0, _, _ => none
  | n + 1, v1, s0 => if (1000 : Int32) < v1 then (ae_bd (F_X8_refuse (1 : Int32) s0) (fun (r23 : Int32) s24 => ae_gd (ae_zz r23) (some (r23, s24)))) else (if (s0.1 19 0 8) = 0 then (if (s0.1 19 0 6) = 0 then (ae_bd (F_X8_isEnd s0) (fun (r33 : Int32) s34 => if r33 = 0 then (F_X5_compile_57 (F_X5_compile_24 n) v1 s34) else (some ((1 : Int32), s34)))) else (F_X5_compile_57 (F_X5_compile_24 n) v1 s0)) else (F_X5_compile_57 (F_X5_compile_24 n) v1 s0))
set_option maxHeartbeats 4000000 in
set_option maxRecDepth 100000 in
theorem t_X5_compile_24 {l : Launch} {G : ae_G} (d : Nat) {rr : Int32} {ss : ae_S} : ∀ (n : Nat) (v1 : Int32) (s0 : ae_S), F_X5_compile_24 n v1 s0 = some (rr, ss) → ae_T l G (d + 7) mX5_compile (ae_Po (some (ae_i rr)) ss) 24 [(0, ae_r (some (19, 0))), (1, ae_i v1)] [] s0 := by
  intro n
  induction n with
  | zero =>
    intro v1 s0 hF
    exact absurd (show (none : Option (Int32 × ae_S)) = some (rr, ss) from hF) (by simp)
  | succ n ih =>
    intro v1 s0 hF
    unfold F_X5_compile_24 at hF
    refine ae_iload_n 1 dX5_compile_24 rfl ?_
    refine ae_sipush (1000 : Int32) dX5_compile_25 (by decide) ?_
    refine ae_icmp_gt 103 dX5_compile_28 rfl (fun hb21 => ?_) (fun hb21 => ?_)
    · have hF22 := ae_ifT hb21 hF
      refine ae_aload_n 0 dX5_compile_103 rfl ?_
      refine ae_getO (q := (19, 0)) (some (12, 0)) dX5_compile_104 fl_RX5_9 rfl rfl rfl ?_
      refine ae_iconst (1 : Int32) dX5_compile_107 (by decide) ?_
      obtain ⟨r23, s24, hc25, hF26⟩ := ae_bdI hF22
      refine ae_cV1 (q := (12, 0)) (As := [ae_i (1 : Int32)]) dX5_compile_108 ww_680 vy_X8_refuse rfl rfl rfl rfl rfl (Nat.le_of_ble_eq_true rfl) (c_X8_refuse (d + 6) hc25) ?_
      obtain ⟨hg27, hF28⟩ := ae_gdI hF26
      obtain ⟨rfl, rfl⟩ := ae_retI hF28
      exact ae_iret dX5_compile_111 rfl (ae_zzN (ae_zzI hg27)) ⟨rfl, rfl⟩
    · have hF22 := ae_ifF hb21 hF
      refine ae_aload_n 0 dX5_compile_31 rfl ?_
      refine ae_getI (q := (19, 0)) dX5_compile_32 fl_RX5_45 rfl rfl ?_
      refine ae_if_ne 57 dX5_compile_35 rfl (fun hb29 => ?_) (fun hb29 => ?_)
      · have hF30 := ae_ifF hb29 hF22
        refine ae_pick (lv' := [(0, ae_r (some (19, 0))), (1, ae_i v1)]) [0, 1] rfl ?_
        exact t_X5_compile_57 d (F_X5_compile_24 n) ih v1 s0 hF30
      · have hF30 := ae_ifT hb29 hF22
        refine ae_aload_n 0 dX5_compile_38 rfl ?_
        refine ae_getI (q := (19, 0)) dX5_compile_39 fl_RX5_38 rfl rfl ?_
        refine ae_if_ne 57 dX5_compile_42 rfl (fun hb31 => ?_) (fun hb31 => ?_)
        · have hF32 := ae_ifF hb31 hF30
          refine ae_pick (lv' := [(0, ae_r (some (19, 0))), (1, ae_i v1)]) [0, 1] rfl ?_
          exact t_X5_compile_57 d (F_X5_compile_24 n) ih v1 s0 hF32
        · have hF32 := ae_ifT hb31 hF30
          refine ae_aload_n 0 dX5_compile_45 rfl ?_
          refine ae_getO (q := (19, 0)) (some (12, 0)) dX5_compile_46 fl_RX5_9 rfl rfl rfl ?_
          obtain ⟨r33, s34, hc35, hF36⟩ := ae_bdI hF32
          refine ae_cV1 (q := (12, 0)) (As := []) dX5_compile_49 ww_637 vy_X8_isEnd rfl rfl rfl rfl rfl (Nat.le_of_ble_eq_true rfl) (c_X8_isEnd (d + 5) hc35) ?_
          refine ae_if_eq 57 dX5_compile_52 rfl (fun hb37 => ?_) (fun hb37 => ?_)
          · have hF38 := ae_ifT hb37 hF36
            refine ae_pick (lv' := [(0, ae_r (some (19, 0))), (1, ae_i v1)]) [0, 1] rfl ?_
            exact t_X5_compile_57 d (F_X5_compile_24 n) ih v1 s34 hF38
          · have hF38 := ae_ifF hb37 hF36
            refine ae_iconst (1 : Int32) dX5_compile_55 (by decide) ?_
            obtain ⟨rfl, rfl⟩ := ae_retI hF38
            exact ae_iret dX5_compile_56 rfl (by decide) ⟨rfl, rfl⟩
def F_X5_compile (s0 : ae_S) : Option (Int32 × ae_S) := ae_bd (F_X1_clear s0) (fun (r39 : Unit) s40 => ae_lt (ae_wI s40 19 0 6 (0 : Int32)) (fun s43 => ae_lt (ae_wI s43 19 0 7 (0 : Int32)) (fun s45 => ae_lt (ae_wI s45 19 0 8 (0 : Int32)) (fun s47 => F_X5_compile_24 ae_fu (0 : Int32) s47))))
set_option maxHeartbeats 4000000 in
set_option maxRecDepth 100000 in
theorem c_X5_compile {l : Launch} {G : ae_G} (d : Nat) {s0 ss : ae_S} {rr : Int32} (hF : F_X5_compile s0 = some (rr, ss)) : ae_Met l G (d + 7) yX5_compile mX5_compile [ae_r (some (19, 0))] s0 (ae_Po (some (ae_i rr)) ss) := by
  refine ae_enter (by decide) rfl (Nat.le_of_ble_eq_true rfl) ?_
  show ae_T l G (d + 7) mX5_compile (ae_Po (some (ae_i rr)) ss) 0 [(0, ae_r (some (19, 0)))] [] s0
  unfold F_X5_compile at hF
  refine ae_aload_n 0 dX5_compile_0 rfl ?_
  refine ae_getO (q := (19, 0)) (some (15, 0)) dX5_compile_1 fl_RX5_19 rfl rfl rfl ?_
  obtain ⟨r39, s40, hc41, hF42⟩ := ae_bdI hF
  refine ae_cV0 (q := (15, 0)) (As := []) dX5_compile_4 ww_633 vy_X1_clear rfl rfl rfl rfl rfl (Nat.le_of_ble_eq_true rfl) (c_X1_clear (d + 6) hc41) ?_
  refine ae_aload_n 0 dX5_compile_7 rfl ?_
  refine ae_iconst (0 : Int32) dX5_compile_8 (by decide) ?_
  obtain ⟨s43, hs43, hF44⟩ := ae_ltI hF42
  refine ae_putI (q := (19, 0)) dX5_compile_9 fl_RX5_38 rfl rfl (ae_nmS hs43 ?_)
  refine ae_aload_n 0 dX5_compile_12 rfl ?_
  refine ae_iconst (0 : Int32) dX5_compile_13 (by decide) ?_
  obtain ⟨s45, hs45, hF46⟩ := ae_ltI hF44
  refine ae_putI (q := (19, 0)) dX5_compile_14 fl_RX5_42 rfl rfl (ae_nmS hs45 ?_)
  refine ae_aload_n 0 dX5_compile_17 rfl ?_
  refine ae_iconst (0 : Int32) dX5_compile_18 (by decide) ?_
  obtain ⟨s47, hs47, hF48⟩ := ae_ltI hF46
  refine ae_putI (q := (19, 0)) dX5_compile_19 fl_RX5_45 rfl rfl (ae_nmS hs47 ?_)
  refine ae_iconst (0 : Int32) dX5_compile_22 (by decide) ?_
  refine ae_istore_n (lv' := [(1, ae_i (0 : Int32)), (0, ae_r (some (19, 0)))]) dX5_compile_23 (by decide) rfl ?_
  refine ae_pick (lv' := [(0, ae_r (some (19, 0))), (1, ae_i (0 : Int32))]) [1, 0] rfl ?_
  exact t_X5_compile_24 d ae_fu (0 : Int32) s47 hF48
