/-! methods as functions: X8_forgetFault X8_addToken X8_isDigit X8_addNumberFrom X8_isLetter X8_isLetterOrDigit X8_packed X8_kindOf X8_isReserved X8_addWordFrom X8_scan X8_isType X8_isEnd X8_isName X8_refuse X8_value X8_advance X8_kindHere X8_isWord X8_isNumber X8_place X8_refuseAt X8_isSign X8_takeSign X8_length X8_faultNumber X8_faultPlace -/
theorem fl_RX8_29 : ae_FL RX8 29 6 8 (.int) false := ⟨_, _, _, rfl, by decide, ww_165, rfl, rfl, rfl⟩
theorem fl_RX8_33 : ae_FL RX8 33 6 7 (.int) false := ⟨_, _, _, rfl, by decide, ww_164, rfl, rfl, rfl⟩
theorem fl_RX8_15 : ae_FL RX8 15 6 1 (.array .int) true := ⟨_, _, _, rfl, by decide, ww_158, rfl, rfl, rfl⟩
theorem fl_RX8_19 : ae_FL RX8 19 6 2 (.array .int) true := ⟨_, _, _, rfl, by decide, ww_159, rfl, rfl, rfl⟩
theorem fl_RX8_22 : ae_FL RX8 22 6 3 (.array .int) true := ⟨_, _, _, rfl, by decide, ww_160, rfl, rfl, rfl⟩
theorem fl_RX8_25 : ae_FL RX8 25 6 4 (.array .long) true := ⟨_, _, _, rfl, by decide, ww_161, rfl, rfl, rfl⟩
theorem fl_RX8_36 : ae_FL RX8 36 6 5 (.int) false := ⟨_, _, _, rfl, by decide, ww_162, rfl, rfl, rfl⟩
theorem fl_RX8_9 : ae_FL RX8 9 6 0 (.object "ByteViews$Text") true := ⟨_, _, _, rfl, by decide, ww_157, rfl, rfl, rfl⟩
theorem fl_RX8_39 : ae_FL RX8 39 6 6 (.int) false := ⟨_, _, _, rfl, by decide, ww_163, rfl, rfl, rfl⟩
abbrev mX8_forgetFault : ae_M := (RX8, cX8_forgetFault, 1, none)
theorem vy_X8_forgetFault : ae_VY yX8_forgetFault mX8_forgetFault 0 := ⟨ww_371, ww_372, ww_8, ww_373, ⟨by decide, by decide, by decide +kernel⟩, by decide⟩
theorem dX8_forgetFault_0 : decode cX8_forgetFault 0 = .ok (.aload_n 0, 1) := by decide +kernel
theorem dX8_forgetFault_1 : decode cX8_forgetFault 1 = .ok (.iconst 0, 1) := by decide +kernel
theorem dX8_forgetFault_2 : decode cX8_forgetFault 2 = .ok (.putfield 33, 3) := by decide +kernel
theorem dX8_forgetFault_5 : decode cX8_forgetFault 5 = .ok (.aload_n 0, 1) := by decide +kernel
theorem dX8_forgetFault_6 : decode cX8_forgetFault 6 = .ok (.iconst (-1), 1) := by decide +kernel
theorem dX8_forgetFault_7 : decode cX8_forgetFault 7 = .ok (.putfield 29, 3) := by decide +kernel
theorem dX8_forgetFault_10 : decode cX8_forgetFault 10 = .ok (.return_, 1) := by decide +kernel
def F_X8_forgetFault (s0 : ae_S) : Option (Unit × ae_S) := ae_lt (ae_wI s0 12 0 7 (0 : Int32)) (fun s1 => ae_lt (ae_wI s1 12 0 8 (-1 : Int32)) (fun s3 => some ((), s3)))
set_option maxHeartbeats 4000000 in
set_option maxRecDepth 100000 in
theorem c_X8_forgetFault {l : Launch} {G : ae_G} (d : Nat) {s0 ss : ae_S} {rr : Unit} (hF : F_X8_forgetFault s0 = some (rr, ss)) : ae_Met l G d yX8_forgetFault mX8_forgetFault [ae_r (some (12, 0))] s0 (ae_Po none ss) := by
  refine ae_enter (by decide) rfl (Nat.le_of_ble_eq_true rfl) ?_
  show ae_T l G d mX8_forgetFault (ae_Po none ss) 0 [(0, ae_r (some (12, 0)))] [] s0
  unfold F_X8_forgetFault at hF
  refine ae_aload_n 0 dX8_forgetFault_0 rfl ?_
  refine ae_iconst (0 : Int32) dX8_forgetFault_1 (by decide) ?_
  obtain ⟨s1, hs1, hF2⟩ := ae_ltI hF
  refine ae_putI (q := (12, 0)) dX8_forgetFault_2 fl_RX8_33 rfl rfl (ae_nmS hs1 ?_)
  refine ae_aload_n 0 dX8_forgetFault_5 rfl ?_
  refine ae_iconst (-1 : Int32) dX8_forgetFault_6 (by decide) ?_
  obtain ⟨s3, hs3, hF4⟩ := ae_ltI hF2
  refine ae_putI (q := (12, 0)) dX8_forgetFault_7 fl_RX8_29 rfl rfl (ae_nmS hs3 ?_)
  obtain ⟨rfl, rfl⟩ := ae_retI hF4
  exact ae_vret dX8_forgetFault_10 rfl ⟨rfl, rfl⟩
abbrev mX8_addToken : ae_M := (RX8, cX8_addToken, 6, none)
theorem vy_X8_addToken : ae_VY yX8_addToken mX8_addToken 4 := ⟨ww_398, wq_1, ww_8, ww_399, ⟨by decide, by decide, by decide +kernel⟩, by decide⟩
theorem dX8_addToken_0 : decode cX8_addToken 0 = .ok (.aload_n 0, 1) := by decide +kernel
theorem dX8_addToken_1 : decode cX8_addToken 1 = .ok (.getfield 36, 3) := by decide +kernel
theorem dX8_addToken_4 : decode cX8_addToken 4 = .ok (.aload_n 0, 1) := by decide +kernel
theorem dX8_addToken_5 : decode cX8_addToken 5 = .ok (.getfield 15, 3) := by decide +kernel
theorem dX8_addToken_8 : decode cX8_addToken 8 = .ok (.arraylength, 1) := by decide +kernel
theorem dX8_addToken_9 : decode cX8_addToken 9 = .ok (.if_icmp .ge 54, 3) := by decide +kernel
theorem dX8_addToken_12 : decode cX8_addToken 12 = .ok (.aload_n 0, 1) := by decide +kernel
theorem dX8_addToken_13 : decode cX8_addToken 13 = .ok (.getfield 15, 3) := by decide +kernel
theorem dX8_addToken_16 : decode cX8_addToken 16 = .ok (.aload_n 0, 1) := by decide +kernel
theorem dX8_addToken_17 : decode cX8_addToken 17 = .ok (.getfield 36, 3) := by decide +kernel
theorem dX8_addToken_20 : decode cX8_addToken 20 = .ok (.iload_n 1, 1) := by decide +kernel
theorem dX8_addToken_21 : decode cX8_addToken 21 = .ok (.iastore, 1) := by decide +kernel
theorem dX8_addToken_22 : decode cX8_addToken 22 = .ok (.aload_n 0, 1) := by decide +kernel
theorem dX8_addToken_23 : decode cX8_addToken 23 = .ok (.getfield 19, 3) := by decide +kernel
theorem dX8_addToken_26 : decode cX8_addToken 26 = .ok (.aload_n 0, 1) := by decide +kernel
theorem dX8_addToken_27 : decode cX8_addToken 27 = .ok (.getfield 36, 3) := by decide +kernel
theorem dX8_addToken_30 : decode cX8_addToken 30 = .ok (.iload_n 2, 1) := by decide +kernel
theorem dX8_addToken_31 : decode cX8_addToken 31 = .ok (.iastore, 1) := by decide +kernel
theorem dX8_addToken_32 : decode cX8_addToken 32 = .ok (.aload_n 0, 1) := by decide +kernel
theorem dX8_addToken_33 : decode cX8_addToken 33 = .ok (.getfield 22, 3) := by decide +kernel
theorem dX8_addToken_36 : decode cX8_addToken 36 = .ok (.aload_n 0, 1) := by decide +kernel
theorem dX8_addToken_37 : decode cX8_addToken 37 = .ok (.getfield 36, 3) := by decide +kernel
theorem dX8_addToken_40 : decode cX8_addToken 40 = .ok (.iload_n 3, 1) := by decide +kernel
theorem dX8_addToken_41 : decode cX8_addToken 41 = .ok (.iastore, 1) := by decide +kernel
theorem dX8_addToken_42 : decode cX8_addToken 42 = .ok (.aload_n 0, 1) := by decide +kernel
theorem dX8_addToken_43 : decode cX8_addToken 43 = .ok (.getfield 25, 3) := by decide +kernel
theorem dX8_addToken_46 : decode cX8_addToken 46 = .ok (.aload_n 0, 1) := by decide +kernel
theorem dX8_addToken_47 : decode cX8_addToken 47 = .ok (.getfield 36, 3) := by decide +kernel
theorem dX8_addToken_50 : decode cX8_addToken 50 = .ok (.lload 4, 2) := by decide +kernel
theorem dX8_addToken_52 : decode cX8_addToken 52 = .ok (.lastore, 1) := by decide +kernel
theorem dX8_addToken_53 : decode cX8_addToken 53 = .ok (.aload_n 0, 1) := by decide +kernel
theorem dX8_addToken_54 : decode cX8_addToken 54 = .ok (.dup, 1) := by decide +kernel
theorem dX8_addToken_55 : decode cX8_addToken 55 = .ok (.getfield 36, 3) := by decide +kernel
theorem dX8_addToken_58 : decode cX8_addToken 58 = .ok (.iconst 1, 1) := by decide +kernel
theorem dX8_addToken_59 : decode cX8_addToken 59 = .ok (.iadd, 1) := by decide +kernel
theorem dX8_addToken_60 : decode cX8_addToken 60 = .ok (.putfield 36, 3) := by decide +kernel
theorem dX8_addToken_63 : decode cX8_addToken 63 = .ok (.return_, 1) := by decide +kernel
def F_X8_addToken_63 (s0 : ae_S) : Option (Unit × ae_S) := some ((), s0)
set_option maxHeartbeats 4000000 in
set_option maxRecDepth 100000 in
theorem t_X8_addToken_63 {l : Launch} {G : ae_G} (d : Nat) {rr : Unit} {ss : ae_S} (s0 : ae_S) (hF : F_X8_addToken_63 s0 = some (rr, ss)) : ae_T l G d mX8_addToken (ae_Po none ss) 63 [] [] s0 := by
  unfold F_X8_addToken_63 at hF
  obtain ⟨rfl, rfl⟩ := ae_retI hF
  exact ae_vret dX8_addToken_63 rfl ⟨rfl, rfl⟩
def F_X8_addToken (v1 : Int32) (v2 : Int32) (v3 : Int32) (v4 : Int64) (s0 : ae_S) : Option (Unit × ae_S) := if (501 : Int32) ≤ (s0.1 12 0 5) then (F_X8_addToken_63 s0) else (ae_gd (ae_ib (s0.1 12 0 5) 501) (ae_lt (ae_wI s0 13 0 (s0.1 12 0 5).toNatClampNeg v1) (fun s5 => ae_gd (ae_ib (s5.1 12 0 5) 501) (ae_lt (ae_wI s5 13 1 (s5.1 12 0 5).toNatClampNeg v2) (fun s9 => ae_gd (ae_ib (s9.1 12 0 5) 501) (ae_lt (ae_wI s9 13 2 (s9.1 12 0 5).toNatClampNeg v3) (fun s13 => ae_gd (ae_ib (s13.1 12 0 5) 501) (ae_lt (ae_wL s13 14 0 (s13.1 12 0 5).toNatClampNeg v4) (fun s17 => ae_lt (ae_wI s17 12 0 5 ((s17.1 12 0 5) + (1 : Int32))) (fun s19 => F_X8_addToken_63 s19))))))))))
set_option maxHeartbeats 4000000 in
set_option maxRecDepth 100000 in
theorem c_X8_addToken {l : Launch} {G : ae_G} (d : Nat) {v1 : Int32} {v2 : Int32} {v3 : Int32} {v4 : Int64} {s0 ss : ae_S} {rr : Unit} (hF : F_X8_addToken v1 v2 v3 v4 s0 = some (rr, ss)) : ae_Met l G d yX8_addToken mX8_addToken [ae_r (some (12, 0)), ae_i v1, ae_i v2, ae_i v3, ae_l v4] s0 (ae_Po none ss) := by
  refine ae_enter (by decide) rfl (Nat.le_of_ble_eq_true rfl) ?_
  show ae_T l G d mX8_addToken (ae_Po none ss) 0 [(0, ae_r (some (12, 0))), (1, ae_i v1), (2, ae_i v2), (3, ae_i v3), (4, ae_l v4)] [] s0
  unfold F_X8_addToken at hF
  refine ae_aload_n 0 dX8_addToken_0 rfl ?_
  refine ae_getI (q := (12, 0)) dX8_addToken_1 fl_RX8_36 rfl rfl ?_
  refine ae_aload_n 0 dX8_addToken_4 rfl ?_
  refine ae_getA (q := (12, 0)) (some (13, 0)) dX8_addToken_5 fl_RX8_15 rfl rfl rfl ?_
  refine ae_alen (q := (13, 0)) (501 : Int32) dX8_addToken_8 rfl rfl (by simp [ae_at]) (by decide) ?_
  refine ae_icmp_ge 63 dX8_addToken_9 rfl (fun hb1 => ?_) (fun hb1 => ?_)
  · have hF2 := ae_ifT hb1 hF
    refine ae_pick (lv' := []) [] rfl ?_
    exact t_X8_addToken_63 d s0 hF2
  · have hF2 := ae_ifF hb1 hF
    refine ae_aload_n 0 dX8_addToken_12 rfl ?_
    refine ae_getA (q := (12, 0)) (some (13, 0)) dX8_addToken_13 fl_RX8_15 rfl rfl rfl ?_
    refine ae_aload_n 0 dX8_addToken_16 rfl ?_
    refine ae_getI (q := (12, 0)) dX8_addToken_17 fl_RX8_36 rfl rfl ?_
    refine ae_iload_n 1 dX8_addToken_20 rfl ?_
    obtain ⟨hg3, hF4⟩ := ae_gdI hF2
    obtain ⟨s5, hs5, hF6⟩ := ae_ltI hF4
    refine ae_iast (q := (13, 0)) dX8_addToken_21 rfl rfl (ae_ibI hg3) (ae_nmS hs5 ?_)
    refine ae_aload_n 0 dX8_addToken_22 rfl ?_
    refine ae_getA (q := (12, 0)) (some (13, 1)) dX8_addToken_23 fl_RX8_19 rfl rfl rfl ?_
    refine ae_aload_n 0 dX8_addToken_26 rfl ?_
    refine ae_getI (q := (12, 0)) dX8_addToken_27 fl_RX8_36 rfl rfl ?_
    refine ae_iload_n 2 dX8_addToken_30 rfl ?_
    obtain ⟨hg7, hF8⟩ := ae_gdI hF6
    obtain ⟨s9, hs9, hF10⟩ := ae_ltI hF8
    refine ae_iast (q := (13, 1)) dX8_addToken_31 rfl rfl (ae_ibI hg7) (ae_nmS hs9 ?_)
    refine ae_aload_n 0 dX8_addToken_32 rfl ?_
    refine ae_getA (q := (12, 0)) (some (13, 2)) dX8_addToken_33 fl_RX8_22 rfl rfl rfl ?_
    refine ae_aload_n 0 dX8_addToken_36 rfl ?_
    refine ae_getI (q := (12, 0)) dX8_addToken_37 fl_RX8_36 rfl rfl ?_
    refine ae_iload_n 3 dX8_addToken_40 rfl ?_
    obtain ⟨hg11, hF12⟩ := ae_gdI hF10
    obtain ⟨s13, hs13, hF14⟩ := ae_ltI hF12
    refine ae_iast (q := (13, 2)) dX8_addToken_41 rfl rfl (ae_ibI hg11) (ae_nmS hs13 ?_)
    refine ae_aload_n 0 dX8_addToken_42 rfl ?_
    refine ae_getA (q := (12, 0)) (some (14, 0)) dX8_addToken_43 fl_RX8_25 rfl rfl rfl ?_
    refine ae_aload_n 0 dX8_addToken_46 rfl ?_
    refine ae_getI (q := (12, 0)) dX8_addToken_47 fl_RX8_36 rfl rfl ?_
    refine ae_lload 4 dX8_addToken_50 rfl ?_
    obtain ⟨hg15, hF16⟩ := ae_gdI hF14
    obtain ⟨s17, hs17, hF18⟩ := ae_ltI hF16
    refine ae_last (q := (14, 0)) dX8_addToken_52 rfl rfl (ae_ibI hg15) (ae_nmS hs17 ?_)
    refine ae_aload_n 0 dX8_addToken_53 rfl ?_
    refine ae_dup dX8_addToken_54 rfl ?_
    refine ae_getI (q := (12, 0)) dX8_addToken_55 fl_RX8_36 rfl rfl ?_
    refine ae_iconst (1 : Int32) dX8_addToken_58 (by decide) ?_
    refine ae_iadd dX8_addToken_59 ?_
    obtain ⟨s19, hs19, hF20⟩ := ae_ltI hF18
    refine ae_putI (q := (12, 0)) dX8_addToken_60 fl_RX8_36 rfl rfl (ae_nmS hs19 ?_)
    refine ae_pick (lv' := []) [] rfl ?_
    exact t_X8_addToken_63 d s19 hF20
abbrev mX8_isDigit : ae_M := (RX8, cX8_isDigit, 1, some .boolean)
theorem vy_X8_isDigit : ae_SY yX8_isDigit mX8_isDigit 1 := ⟨ww_394, ww_8, ww_395, ⟨by decide, by decide, by decide +kernel⟩, by decide⟩
theorem dX8_isDigit_0 : decode cX8_isDigit 0 = .ok (.iload_n 0, 1) := by decide +kernel
theorem dX8_isDigit_1 : decode cX8_isDigit 1 = .ok (.bipush 48, 2) := by decide +kernel
theorem dX8_isDigit_3 : decode cX8_isDigit 3 = .ok (.if_icmp .lt 13, 3) := by decide +kernel
theorem dX8_isDigit_6 : decode cX8_isDigit 6 = .ok (.iload_n 0, 1) := by decide +kernel
theorem dX8_isDigit_7 : decode cX8_isDigit 7 = .ok (.bipush 57, 2) := by decide +kernel
theorem dX8_isDigit_9 : decode cX8_isDigit 9 = .ok (.if_icmp .gt 7, 3) := by decide +kernel
theorem dX8_isDigit_12 : decode cX8_isDigit 12 = .ok (.iconst 1, 1) := by decide +kernel
theorem dX8_isDigit_13 : decode cX8_isDigit 13 = .ok (.goto 4, 3) := by decide +kernel
theorem dX8_isDigit_16 : decode cX8_isDigit 16 = .ok (.iconst 0, 1) := by decide +kernel
theorem dX8_isDigit_17 : decode cX8_isDigit 17 = .ok (.ireturn, 1) := by decide +kernel
def F_X8_isDigit_17 (t0 : Int32) (s0 : ae_S) : Option (Int32 × ae_S) := ae_gd (ae_zz t0) (some (t0, s0))
set_option maxHeartbeats 4000000 in
set_option maxRecDepth 100000 in
theorem t_X8_isDigit_17 {l : Launch} {G : ae_G} (d : Nat) {rr : Int32} {ss : ae_S} (t0 : Int32) (s0 : ae_S) (hF : F_X8_isDigit_17 t0 s0 = some (rr, ss)) : ae_T l G d mX8_isDigit (ae_Po (some (ae_i rr)) ss) 17 [] [ae_i t0] s0 := by
  unfold F_X8_isDigit_17 at hF
  obtain ⟨hg1, hF2⟩ := ae_gdI hF
  obtain ⟨rfl, rfl⟩ := ae_retI hF2
  exact ae_iret dX8_isDigit_17 rfl (ae_zzN (ae_zzI hg1)) ⟨rfl, rfl⟩
def F_X8_isDigit_16 (s0 : ae_S) : Option (Int32 × ae_S) := F_X8_isDigit_17 (0 : Int32) s0
set_option maxHeartbeats 4000000 in
set_option maxRecDepth 100000 in
theorem t_X8_isDigit_16 {l : Launch} {G : ae_G} (d : Nat) {rr : Int32} {ss : ae_S} (s0 : ae_S) (hF : F_X8_isDigit_16 s0 = some (rr, ss)) : ae_T l G d mX8_isDigit (ae_Po (some (ae_i rr)) ss) 16 [] [] s0 := by
  unfold F_X8_isDigit_16 at hF
  refine ae_iconst (0 : Int32) dX8_isDigit_16 (by decide) ?_
  refine ae_pick (lv' := []) [] rfl ?_
  exact t_X8_isDigit_17 d (0 : Int32) s0 hF
def F_X8_isDigit (v0 : Int32) (s0 : ae_S) : Option (Int32 × ae_S) := if v0 < (48 : Int32) then (F_X8_isDigit_16 s0) else (if (57 : Int32) < v0 then (F_X8_isDigit_16 s0) else (F_X8_isDigit_17 (1 : Int32) s0))
set_option maxHeartbeats 4000000 in
set_option maxRecDepth 100000 in
theorem c_X8_isDigit {l : Launch} {G : ae_G} (d : Nat) {v0 : Int32} {s0 ss : ae_S} {rr : Int32} (hF : F_X8_isDigit v0 s0 = some (rr, ss)) : ae_Met l G d yX8_isDigit mX8_isDigit [ae_i v0] s0 (ae_Po (some (ae_i rr)) ss) := by
  refine ae_enter (by decide) rfl (Nat.le_of_ble_eq_true rfl) ?_
  show ae_T l G d mX8_isDigit (ae_Po (some (ae_i rr)) ss) 0 [(0, ae_i v0)] [] s0
  unfold F_X8_isDigit at hF
  refine ae_iload_n 0 dX8_isDigit_0 rfl ?_
  refine ae_bipush (48 : Int32) dX8_isDigit_1 (by decide) ?_
  refine ae_icmp_lt 16 dX8_isDigit_3 rfl (fun hb3 => ?_) (fun hb3 => ?_)
  · have hF4 := ae_ifT hb3 hF
    refine ae_pick (lv' := []) [] rfl ?_
    exact t_X8_isDigit_16 d s0 hF4
  · have hF4 := ae_ifF hb3 hF
    refine ae_iload_n 0 dX8_isDigit_6 rfl ?_
    refine ae_bipush (57 : Int32) dX8_isDigit_7 (by decide) ?_
    refine ae_icmp_gt 16 dX8_isDigit_9 rfl (fun hb5 => ?_) (fun hb5 => ?_)
    · have hF6 := ae_ifT hb5 hF4
      refine ae_pick (lv' := []) [] rfl ?_
      exact t_X8_isDigit_16 d s0 hF6
    · have hF6 := ae_ifF hb5 hF4
      refine ae_iconst (1 : Int32) dX8_isDigit_12 (by decide) ?_
      refine ae_goto 17 dX8_isDigit_13 rfl ?_
      refine ae_pick (lv' := []) [] rfl ?_
      exact t_X8_isDigit_17 d (1 : Int32) s0 hF6
abbrev mX8_addNumberFrom : ae_M := (RX8, cX8_addNumberFrom, 7, some .int)
theorem vy_X8_addNumberFrom : ae_VY yX8_addNumberFrom mX8_addNumberFrom 2 := ⟨ww_470, wq_2, ww_8, ww_471, ⟨by decide, by decide, by decide +kernel⟩, by decide⟩
theorem dX8_addNumberFrom_0 : decode cX8_addNumberFrom 0 = .ok (.iload_n 1, 1) := by decide +kernel
theorem dX8_addNumberFrom_1 : decode cX8_addNumberFrom 1 = .ok (.istore_n 3, 1) := by decide +kernel
theorem dX8_addNumberFrom_2 : decode cX8_addNumberFrom 2 = .ok (.lconst 0, 1) := by decide +kernel
theorem dX8_addNumberFrom_3 : decode cX8_addNumberFrom 3 = .ok (.lstore 4, 2) := by decide +kernel
theorem dX8_addNumberFrom_5 : decode cX8_addNumberFrom 5 = .ok (.iload_n 3, 1) := by decide +kernel
theorem dX8_addNumberFrom_6 : decode cX8_addNumberFrom 6 = .ok (.aload_n 0, 1) := by decide +kernel
theorem dX8_addNumberFrom_7 : decode cX8_addNumberFrom 7 = .ok (.getfield 9, 3) := by decide +kernel
theorem dX8_addNumberFrom_10 : decode cX8_addNumberFrom 10 = .ok (.invokevirtual 42, 3) := by decide +kernel
theorem dX8_addNumberFrom_13 : decode cX8_addNumberFrom 13 = .ok (.if_icmp .ge 44, 3) := by decide +kernel
theorem dX8_addNumberFrom_16 : decode cX8_addNumberFrom 16 = .ok (.aload_n 0, 1) := by decide +kernel
theorem dX8_addNumberFrom_17 : decode cX8_addNumberFrom 17 = .ok (.getfield 9, 3) := by decide +kernel
theorem dX8_addNumberFrom_20 : decode cX8_addNumberFrom 20 = .ok (.iload_n 3, 1) := by decide +kernel
theorem dX8_addNumberFrom_21 : decode cX8_addNumberFrom 21 = .ok (.invokevirtual 48, 3) := by decide +kernel
theorem dX8_addNumberFrom_24 : decode cX8_addNumberFrom 24 = .ok (.invokestatic 59, 3) := by decide +kernel
theorem dX8_addNumberFrom_27 : decode cX8_addNumberFrom 27 = .ok (.ifCond .eq 30, 3) := by decide +kernel
theorem dX8_addNumberFrom_30 : decode cX8_addNumberFrom 30 = .ok (.lload 4, 2) := by decide +kernel
theorem dX8_addNumberFrom_32 : decode cX8_addNumberFrom 32 = .ok (.ldc2_w 77, 3) := by decide +kernel
theorem dX8_addNumberFrom_35 : decode cX8_addNumberFrom 35 = .ok (.lmul, 1) := by decide +kernel
theorem dX8_addNumberFrom_36 : decode cX8_addNumberFrom 36 = .ok (.aload_n 0, 1) := by decide +kernel
theorem dX8_addNumberFrom_37 : decode cX8_addNumberFrom 37 = .ok (.getfield 9, 3) := by decide +kernel
theorem dX8_addNumberFrom_40 : decode cX8_addNumberFrom 40 = .ok (.iload_n 3, 1) := by decide +kernel
theorem dX8_addNumberFrom_41 : decode cX8_addNumberFrom 41 = .ok (.invokevirtual 48, 3) := by decide +kernel
theorem dX8_addNumberFrom_44 : decode cX8_addNumberFrom 44 = .ok (.bipush 48, 2) := by decide +kernel
theorem dX8_addNumberFrom_46 : decode cX8_addNumberFrom 46 = .ok (.isub, 1) := by decide +kernel
theorem dX8_addNumberFrom_47 : decode cX8_addNumberFrom 47 = .ok (.i2l, 1) := by decide +kernel
theorem dX8_addNumberFrom_48 : decode cX8_addNumberFrom 48 = .ok (.ladd, 1) := by decide +kernel
theorem dX8_addNumberFrom_49 : decode cX8_addNumberFrom 49 = .ok (.lstore 4, 2) := by decide +kernel
theorem dX8_addNumberFrom_51 : decode cX8_addNumberFrom 51 = .ok (.iinc 3 1, 3) := by decide +kernel
theorem dX8_addNumberFrom_54 : decode cX8_addNumberFrom 54 = .ok (.goto (-49), 3) := by decide +kernel
theorem dX8_addNumberFrom_57 : decode cX8_addNumberFrom 57 = .ok (.iload_n 3, 1) := by decide +kernel
theorem dX8_addNumberFrom_58 : decode cX8_addNumberFrom 58 = .ok (.iload_n 1, 1) := by decide +kernel
theorem dX8_addNumberFrom_59 : decode cX8_addNumberFrom 59 = .ok (.isub, 1) := by decide +kernel
theorem dX8_addNumberFrom_60 : decode cX8_addNumberFrom 60 = .ok (.istore 6, 2) := by decide +kernel
theorem dX8_addNumberFrom_62 : decode cX8_addNumberFrom 62 = .ok (.aload_n 0, 1) := by decide +kernel
theorem dX8_addNumberFrom_63 : decode cX8_addNumberFrom 63 = .ok (.iload 6, 2) := by decide +kernel
theorem dX8_addNumberFrom_65 : decode cX8_addNumberFrom 65 = .ok (.iload_n 2, 1) := by decide +kernel
theorem dX8_addNumberFrom_66 : decode cX8_addNumberFrom 66 = .ok (.if_icmp .le 7, 3) := by decide +kernel
theorem dX8_addNumberFrom_69 : decode cX8_addNumberFrom 69 = .ok (.iconst 5, 1) := by decide +kernel
theorem dX8_addNumberFrom_70 : decode cX8_addNumberFrom 70 = .ok (.goto 4, 3) := by decide +kernel
theorem dX8_addNumberFrom_73 : decode cX8_addNumberFrom 73 = .ok (.iconst 3, 1) := by decide +kernel
theorem dX8_addNumberFrom_74 : decode cX8_addNumberFrom 74 = .ok (.iload_n 1, 1) := by decide +kernel
theorem dX8_addNumberFrom_75 : decode cX8_addNumberFrom 75 = .ok (.iload 6, 2) := by decide +kernel
theorem dX8_addNumberFrom_77 : decode cX8_addNumberFrom 77 = .ok (.lload 4, 2) := by decide +kernel
theorem dX8_addNumberFrom_79 : decode cX8_addNumberFrom 79 = .ok (.invokevirtual 66, 3) := by decide +kernel
theorem dX8_addNumberFrom_82 : decode cX8_addNumberFrom 82 = .ok (.iload_n 3, 1) := by decide +kernel
theorem dX8_addNumberFrom_83 : decode cX8_addNumberFrom 83 = .ok (.ireturn, 1) := by decide +kernel
def F_X8_addNumberFrom_74 (v1 : Int32) (v3 : Int32) (v4 : Int64) (v6 : Int32) (t0 : Int32) (s0 : ae_S) : Option (Int32 × ae_S) := ae_bd (F_X8_addToken t0 v1 v6 v4 s0) (fun (r1 : Unit) s2 => some (v3, s2))
set_option maxHeartbeats 4000000 in
set_option maxRecDepth 100000 in
theorem t_X8_addNumberFrom_74 {l : Launch} {G : ae_G} (d : Nat) {rr : Int32} {ss : ae_S} (v1 : Int32) (v3 : Int32) (v4 : Int64) (v6 : Int32) (t0 : Int32) (s0 : ae_S) (hF : F_X8_addNumberFrom_74 v1 v3 v4 v6 t0 s0 = some (rr, ss)) : ae_T l G (d + 1) mX8_addNumberFrom (ae_Po (some (ae_i rr)) ss) 74 [(1, ae_i v1), (3, ae_i v3), (4, ae_l v4), (6, ae_i v6)] [ae_i t0, ae_r (some (12, 0))] s0 := by
  unfold F_X8_addNumberFrom_74 at hF
  refine ae_iload_n 0 dX8_addNumberFrom_74 rfl ?_
  refine ae_iload 3 dX8_addNumberFrom_75 rfl ?_
  refine ae_lload 2 dX8_addNumberFrom_77 rfl ?_
  obtain ⟨r1, s2, hc3, hF4⟩ := ae_bdI hF
  refine ae_cV0 (q := (12, 0)) (As := [ae_i t0, ae_i v1, ae_i v6, ae_l v4]) dX8_addNumberFrom_79 ww_396 vy_X8_addToken rfl rfl rfl rfl rfl (Nat.le_of_ble_eq_true rfl) (c_X8_addToken d hc3) ?_
  refine ae_iload_n 1 dX8_addNumberFrom_82 rfl ?_
  obtain ⟨rfl, rfl⟩ := ae_retI hF4
  exact ae_iret dX8_addNumberFrom_83 rfl rfl ⟨rfl, rfl⟩
def F_X8_addNumberFrom_57 (v1 : Int32) (v2 : Int32) (v3 : Int32) (v4 : Int64) (s0 : ae_S) : Option (Int32 × ae_S) := ae_lt (v3 - v1) (fun x5 => if x5 ≤ v2 then (F_X8_addNumberFrom_74 v1 v3 v4 x5 (3 : Int32) s0) else (F_X8_addNumberFrom_74 v1 v3 v4 x5 (5 : Int32) s0))
set_option maxHeartbeats 4000000 in
set_option maxRecDepth 100000 in
theorem t_X8_addNumberFrom_57 {l : Launch} {G : ae_G} (d : Nat) {rr : Int32} {ss : ae_S} (v1 : Int32) (v2 : Int32) (v3 : Int32) (v4 : Int64) (s0 : ae_S) (hF : F_X8_addNumberFrom_57 v1 v2 v3 v4 s0 = some (rr, ss)) : ae_T l G (d + 1) mX8_addNumberFrom (ae_Po (some (ae_i rr)) ss) 57 [(0, ae_r (some (12, 0))), (1, ae_i v1), (2, ae_i v2), (3, ae_i v3), (4, ae_l v4)] [] s0 := by
  unfold F_X8_addNumberFrom_57 at hF
  refine ae_iload_n 3 dX8_addNumberFrom_57 rfl ?_
  refine ae_iload_n 1 dX8_addNumberFrom_58 rfl ?_
  refine ae_isub dX8_addNumberFrom_59 ?_
  obtain ⟨x5, hx5, hF6⟩ := ae_ltI hF
  refine ae_nmI hx5 ?_
  refine ae_istore (lv' := [(6, ae_i x5), (0, ae_r (some (12, 0))), (1, ae_i v1), (2, ae_i v2), (3, ae_i v3), (4, ae_l v4)]) dX8_addNumberFrom_60 (by decide) rfl ?_
  refine ae_aload_n 1 dX8_addNumberFrom_62 rfl ?_
  refine ae_iload 0 dX8_addNumberFrom_63 rfl ?_
  refine ae_iload_n 3 dX8_addNumberFrom_65 rfl ?_
  refine ae_icmp_le 73 dX8_addNumberFrom_66 rfl (fun hb7 => ?_) (fun hb7 => ?_)
  · have hF8 := ae_ifT hb7 hF6
    refine ae_iconst (3 : Int32) dX8_addNumberFrom_73 (by decide) ?_
    refine ae_pick (lv' := [(1, ae_i v1), (3, ae_i v3), (4, ae_l v4), (6, ae_i x5)]) [2, 4, 5, 0] rfl ?_
    exact t_X8_addNumberFrom_74 d v1 v3 v4 x5 (3 : Int32) s0 hF8
  · have hF8 := ae_ifF hb7 hF6
    refine ae_iconst (5 : Int32) dX8_addNumberFrom_69 (by decide) ?_
    refine ae_goto 74 dX8_addNumberFrom_70 rfl ?_
    refine ae_pick (lv' := [(1, ae_i v1), (3, ae_i v3), (4, ae_l v4), (6, ae_i x5)]) [2, 4, 5, 0] rfl ?_
    exact t_X8_addNumberFrom_74 d v1 v3 v4 x5 (5 : Int32) s0 hF8
def F_X8_addNumberFrom_5 : Nat → Int32 → Int32 → Int32 → Int64 → ae_S → Option (Int32 × ae_S)
  | 0, _, _, _, _, _ => none
  | n + 1, v1, v2, v3, v4, s0 => ae_bd (F_X7_length (0 : Fin 32) s0) (fun (r9 : Int32) s10 => if r9 ≤ v3 then (F_X8_addNumberFrom_57 v1 v2 v3 v4 s10) else (ae_bd (F_X7_get (0 : Fin 32) v3 s10) (fun (r15 : Int32) s16 => ae_bd (F_X8_isDigit r15 s16) (fun (r19 : Int32) s20 => if r19 = 0 then (F_X8_addNumberFrom_57 v1 v2 v3 v4 s20) else (ae_bd (F_X7_get (0 : Fin 32) v3 s20) (fun (r25 : Int32) s26 => ae_lt ((v4 * (10 : Int64)) + ((r25 - (48 : Int32)).toInt64)) (fun x29 => ae_lt (v3 + (1 : Int32)) (fun x31 => F_X8_addNumberFrom_5 n v1 v2 x31 x29 s26))))))))
set_option maxHeartbeats 4000000 in
set_option maxRecDepth 100000 in
theorem t_X8_addNumberFrom_5 {l : Launch} {G : ae_G} (d : Nat) {rr : Int32} {ss : ae_S} : ∀ (n : Nat) (v1 : Int32) (v2 : Int32) (v3 : Int32) (v4 : Int64) (s0 : ae_S), F_X8_addNumberFrom_5 n v1 v2 v3 v4 s0 = some (rr, ss) → ae_T l G (d + 1) mX8_addNumberFrom (ae_Po (some (ae_i rr)) ss) 5 [(0, ae_r (some (12, 0))), (1, ae_i v1), (2, ae_i v2), (3, ae_i v3), (4, ae_l v4)] [] s0 := by
  intro n
  induction n with
  | zero =>
    intro v1 v2 v3 v4 s0 hF
    exact absurd (show (none : Option (Int32 × ae_S)) = some (rr, ss) from hF) (by simp)
  | succ n ih =>
    intro v1 v2 v3 v4 s0 hF
    unfold F_X8_addNumberFrom_5 at hF
    refine ae_iload_n 3 dX8_addNumberFrom_5 rfl ?_
    refine ae_aload_n 0 dX8_addNumberFrom_6 rfl ?_
    refine ae_getO (q := (12, 0)) (some (1, 0)) dX8_addNumberFrom_7 fl_RX8_9 rfl rfl rfl ?_
    obtain ⟨r9, s10, hc11, hF12⟩ := ae_bdI hF
    refine ae_cV1 (q := (1, 0)) (As := []) dX8_addNumberFrom_10 ww_378 vy_X7_length rfl rfl rfl rfl rfl (Nat.le_of_ble_eq_true rfl) (c_X7_length d hc11) ?_
    refine ae_icmp_ge 57 dX8_addNumberFrom_13 rfl (fun hb13 => ?_) (fun hb13 => ?_)
    · have hF14 := ae_ifT hb13 hF12
      refine ae_pick (lv' := [(0, ae_r (some (12, 0))), (1, ae_i v1), (2, ae_i v2), (3, ae_i v3), (4, ae_l v4)]) [0, 1, 2, 3, 4] rfl ?_
      exact t_X8_addNumberFrom_57 d v1 v2 v3 v4 s10 hF14
    · have hF14 := ae_ifF hb13 hF12
      refine ae_aload_n 0 dX8_addNumberFrom_16 rfl ?_
      refine ae_getO (q := (12, 0)) (some (1, 0)) dX8_addNumberFrom_17 fl_RX8_9 rfl rfl rfl ?_
      refine ae_iload_n 3 dX8_addNumberFrom_20 rfl ?_
      obtain ⟨r15, s16, hc17, hF18⟩ := ae_bdI hF14
      refine ae_cV1 (q := (1, 0)) (As := [ae_i v3]) dX8_addNumberFrom_21 ww_379 vy_X7_get rfl rfl rfl rfl rfl (Nat.le_of_ble_eq_true rfl) (c_X7_get d hc17) ?_
      obtain ⟨r19, s20, hc21, hF22⟩ := ae_bdI hF18
      refine ae_cS1 (As := [ae_i r15]) dX8_addNumberFrom_24 ww_393 vy_X8_isDigit rfl rfl (Nat.le_of_ble_eq_true rfl) (c_X8_isDigit d hc21) ?_
      refine ae_if_eq 57 dX8_addNumberFrom_27 rfl (fun hb23 => ?_) (fun hb23 => ?_)
      · have hF24 := ae_ifT hb23 hF22
        refine ae_pick (lv' := [(0, ae_r (some (12, 0))), (1, ae_i v1), (2, ae_i v2), (3, ae_i v3), (4, ae_l v4)]) [0, 1, 2, 3, 4] rfl ?_
        exact t_X8_addNumberFrom_57 d v1 v2 v3 v4 s20 hF24
      · have hF24 := ae_ifF hb23 hF22
        refine ae_lload 4 dX8_addNumberFrom_30 rfl ?_
        refine ae_ldc2 dX8_addNumberFrom_32 ww_472 ?_
        refine ae_lmul dX8_addNumberFrom_35 ?_
        refine ae_aload_n 0 dX8_addNumberFrom_36 rfl ?_
        refine ae_getO (q := (12, 0)) (some (1, 0)) dX8_addNumberFrom_37 fl_RX8_9 rfl rfl rfl ?_
        refine ae_iload_n 3 dX8_addNumberFrom_40 rfl ?_
        obtain ⟨r25, s26, hc27, hF28⟩ := ae_bdI hF24
        refine ae_cV1 (q := (1, 0)) (As := [ae_i v3]) dX8_addNumberFrom_41 ww_379 vy_X7_get rfl rfl rfl rfl rfl (Nat.le_of_ble_eq_true rfl) (c_X7_get d hc27) ?_
        refine ae_bipush (48 : Int32) dX8_addNumberFrom_44 (by decide) ?_
        refine ae_isub dX8_addNumberFrom_46 ?_
        refine ae_i2l dX8_addNumberFrom_47 ?_
        refine ae_ladd dX8_addNumberFrom_48 ?_
        obtain ⟨x29, hx29, hF30⟩ := ae_ltI hF28
        refine ae_nmL hx29 ?_
        refine ae_lstore (lv' := [(4, ae_l x29), (0, ae_r (some (12, 0))), (1, ae_i v1), (2, ae_i v2), (3, ae_i v3)]) dX8_addNumberFrom_49 (by decide) rfl ?_
        obtain ⟨x31, hx31, hF32⟩ := ae_ltI hF30
        refine ae_iinc (lv' := [(3, ae_i x31), (4, ae_l x29), (0, ae_r (some (12, 0))), (1, ae_i v1), (2, ae_i v2)]) 4 (1 : Int32) dX8_addNumberFrom_51 rfl (by decide) (by decide) (by rw [hx31]; rfl) ?_
        refine ae_goto 5 dX8_addNumberFrom_54 rfl ?_
        refine ae_pick (lv' := [(0, ae_r (some (12, 0))), (1, ae_i v1), (2, ae_i v2), (3, ae_i x31), (4, ae_l x29)]) [2, 3, 4, 0, 1] rfl ?_
        exact ih v1 v2 x31 x29 s26 hF32
def F_X8_addNumberFrom (v1 : Int32) (v2 : Int32) (s0 : ae_S) : Option (Int32 × ae_S) := F_X8_addNumberFrom_5 ae_fu v1 v2 v1 (0 : Int64) s0
set_option maxHeartbeats 4000000 in
set_option maxRecDepth 100000 in
theorem c_X8_addNumberFrom {l : Launch} {G : ae_G} (d : Nat) {v1 : Int32} {v2 : Int32} {s0 ss : ae_S} {rr : Int32} (hF : F_X8_addNumberFrom v1 v2 s0 = some (rr, ss)) : ae_Met l G (d + 1) yX8_addNumberFrom mX8_addNumberFrom [ae_r (some (12, 0)), ae_i v1, ae_i v2] s0 (ae_Po (some (ae_i rr)) ss) := by
  refine ae_enter (by decide) rfl (Nat.le_of_ble_eq_true rfl) ?_
  show ae_T l G (d + 1) mX8_addNumberFrom (ae_Po (some (ae_i rr)) ss) 0 [(0, ae_r (some (12, 0))), (1, ae_i v1), (2, ae_i v2)] [] s0
  unfold F_X8_addNumberFrom at hF
  refine ae_iload_n 1 dX8_addNumberFrom_0 rfl ?_
  refine ae_istore_n (lv' := [(3, ae_i v1), (0, ae_r (some (12, 0))), (1, ae_i v1), (2, ae_i v2)]) dX8_addNumberFrom_1 (by decide) rfl ?_
  refine ae_lconst (0 : Int64) dX8_addNumberFrom_2 (by decide) ?_
  refine ae_lstore (lv' := [(4, ae_l (0 : Int64)), (3, ae_i v1), (0, ae_r (some (12, 0))), (1, ae_i v1), (2, ae_i v2)]) dX8_addNumberFrom_3 (by decide) rfl ?_
  refine ae_pick (lv' := [(0, ae_r (some (12, 0))), (1, ae_i v1), (2, ae_i v2), (3, ae_i v1), (4, ae_l (0 : Int64))]) [2, 3, 4, 1, 0] rfl ?_
  exact t_X8_addNumberFrom_5 d ae_fu v1 v2 v1 (0 : Int64) s0 hF
abbrev mX8_isLetter : ae_M := (RX8, cX8_isLetter, 1, some .boolean)
theorem vy_X8_isLetter : ae_SY yX8_isLetter mX8_isLetter 1 := ⟨ww_384, ww_8, ww_385, ⟨by decide, by decide, by decide +kernel⟩, by decide⟩
theorem dX8_isLetter_0 : decode cX8_isLetter 0 = .ok (.iload_n 0, 1) := by decide +kernel
theorem dX8_isLetter_1 : decode cX8_isLetter 1 = .ok (.bipush 97, 2) := by decide +kernel
theorem dX8_isLetter_3 : decode cX8_isLetter 3 = .ok (.if_icmp .lt 13, 3) := by decide +kernel
theorem dX8_isLetter_6 : decode cX8_isLetter 6 = .ok (.iload_n 0, 1) := by decide +kernel
theorem dX8_isLetter_7 : decode cX8_isLetter 7 = .ok (.bipush 122, 2) := by decide +kernel
theorem dX8_isLetter_9 : decode cX8_isLetter 9 = .ok (.if_icmp .gt 7, 3) := by decide +kernel
theorem dX8_isLetter_12 : decode cX8_isLetter 12 = .ok (.iconst 1, 1) := by decide +kernel
theorem dX8_isLetter_13 : decode cX8_isLetter 13 = .ok (.goto 4, 3) := by decide +kernel
theorem dX8_isLetter_16 : decode cX8_isLetter 16 = .ok (.iconst 0, 1) := by decide +kernel
theorem dX8_isLetter_17 : decode cX8_isLetter 17 = .ok (.ireturn, 1) := by decide +kernel
def F_X8_isLetter_17 (t0 : Int32) (s0 : ae_S) : Option (Int32 × ae_S) := ae_gd (ae_zz t0) (some (t0, s0))
set_option maxHeartbeats 4000000 in
set_option maxRecDepth 100000 in
theorem t_X8_isLetter_17 {l : Launch} {G : ae_G} (d : Nat) {rr : Int32} {ss : ae_S} (t0 : Int32) (s0 : ae_S) (hF : F_X8_isLetter_17 t0 s0 = some (rr, ss)) : ae_T l G d mX8_isLetter (ae_Po (some (ae_i rr)) ss) 17 [] [ae_i t0] s0 := by
  unfold F_X8_isLetter_17 at hF
  obtain ⟨hg1, hF2⟩ := ae_gdI hF
  obtain ⟨rfl, rfl⟩ := ae_retI hF2
  exact ae_iret dX8_isLetter_17 rfl (ae_zzN (ae_zzI hg1)) ⟨rfl, rfl⟩
def F_X8_isLetter_16 (s0 : ae_S) : Option (Int32 × ae_S) := F_X8_isLetter_17 (0 : Int32) s0
set_option maxHeartbeats 4000000 in
set_option maxRecDepth 100000 in
theorem t_X8_isLetter_16 {l : Launch} {G : ae_G} (d : Nat) {rr : Int32} {ss : ae_S} (s0 : ae_S) (hF : F_X8_isLetter_16 s0 = some (rr, ss)) : ae_T l G d mX8_isLetter (ae_Po (some (ae_i rr)) ss) 16 [] [] s0 := by
  unfold F_X8_isLetter_16 at hF
  refine ae_iconst (0 : Int32) dX8_isLetter_16 (by decide) ?_
  refine ae_pick (lv' := []) [] rfl ?_
  exact t_X8_isLetter_17 d (0 : Int32) s0 hF
def F_X8_isLetter (v0 : Int32) (s0 : ae_S) : Option (Int32 × ae_S) := if v0 < (97 : Int32) then (F_X8_isLetter_16 s0) else (if (122 : Int32) < v0 then (F_X8_isLetter_16 s0) else (F_X8_isLetter_17 (1 : Int32) s0))
set_option maxHeartbeats 4000000 in
set_option maxRecDepth 100000 in
theorem c_X8_isLetter {l : Launch} {G : ae_G} (d : Nat) {v0 : Int32} {s0 ss : ae_S} {rr : Int32} (hF : F_X8_isLetter v0 s0 = some (rr, ss)) : ae_Met l G d yX8_isLetter mX8_isLetter [ae_i v0] s0 (ae_Po (some (ae_i rr)) ss) := by
  refine ae_enter (by decide) rfl (Nat.le_of_ble_eq_true rfl) ?_
  show ae_T l G d mX8_isLetter (ae_Po (some (ae_i rr)) ss) 0 [(0, ae_i v0)] [] s0
  unfold F_X8_isLetter at hF
  refine ae_iload_n 0 dX8_isLetter_0 rfl ?_
  refine ae_bipush (97 : Int32) dX8_isLetter_1 (by decide) ?_
  refine ae_icmp_lt 16 dX8_isLetter_3 rfl (fun hb3 => ?_) (fun hb3 => ?_)
  · have hF4 := ae_ifT hb3 hF
    refine ae_pick (lv' := []) [] rfl ?_
    exact t_X8_isLetter_16 d s0 hF4
  · have hF4 := ae_ifF hb3 hF
    refine ae_iload_n 0 dX8_isLetter_6 rfl ?_
    refine ae_bipush (122 : Int32) dX8_isLetter_7 (by decide) ?_
    refine ae_icmp_gt 16 dX8_isLetter_9 rfl (fun hb5 => ?_) (fun hb5 => ?_)
    · have hF6 := ae_ifT hb5 hF4
      refine ae_pick (lv' := []) [] rfl ?_
      exact t_X8_isLetter_16 d s0 hF6
    · have hF6 := ae_ifF hb5 hF4
      refine ae_iconst (1 : Int32) dX8_isLetter_12 (by decide) ?_
      refine ae_goto 17 dX8_isLetter_13 rfl ?_
      refine ae_pick (lv' := []) [] rfl ?_
      exact t_X8_isLetter_17 d (1 : Int32) s0 hF6
abbrev mX8_isLetterOrDigit : ae_M := (RX8, cX8_isLetterOrDigit, 1, some .boolean)
theorem vy_X8_isLetterOrDigit : ae_SY yX8_isLetterOrDigit mX8_isLetterOrDigit 1 := ⟨ww_391, ww_8, ww_392, ⟨by decide, by decide, by decide +kernel⟩, by decide⟩
theorem dX8_isLetterOrDigit_0 : decode cX8_isLetterOrDigit 0 = .ok (.iload_n 0, 1) := by decide +kernel
theorem dX8_isLetterOrDigit_1 : decode cX8_isLetterOrDigit 1 = .ok (.invokestatic 52, 3) := by decide +kernel
theorem dX8_isLetterOrDigit_4 : decode cX8_isLetterOrDigit 4 = .ok (.ifCond .ne 10, 3) := by decide +kernel
theorem dX8_isLetterOrDigit_7 : decode cX8_isLetterOrDigit 7 = .ok (.iload_n 0, 1) := by decide +kernel
theorem dX8_isLetterOrDigit_8 : decode cX8_isLetterOrDigit 8 = .ok (.invokestatic 59, 3) := by decide +kernel
theorem dX8_isLetterOrDigit_11 : decode cX8_isLetterOrDigit 11 = .ok (.ifCond .eq 7, 3) := by decide +kernel
theorem dX8_isLetterOrDigit_14 : decode cX8_isLetterOrDigit 14 = .ok (.iconst 1, 1) := by decide +kernel
theorem dX8_isLetterOrDigit_15 : decode cX8_isLetterOrDigit 15 = .ok (.goto 4, 3) := by decide +kernel
theorem dX8_isLetterOrDigit_18 : decode cX8_isLetterOrDigit 18 = .ok (.iconst 0, 1) := by decide +kernel
theorem dX8_isLetterOrDigit_19 : decode cX8_isLetterOrDigit 19 = .ok (.ireturn, 1) := by decide +kernel
def F_X8_isLetterOrDigit_19 (t0 : Int32) (s0 : ae_S) : Option (Int32 × ae_S) := ae_gd (ae_zz t0) (some (t0, s0))
set_option maxHeartbeats 4000000 in
set_option maxRecDepth 100000 in
theorem t_X8_isLetterOrDigit_19 {l : Launch} {G : ae_G} (d : Nat) {rr : Int32} {ss : ae_S} (t0 : Int32) (s0 : ae_S) (hF : F_X8_isLetterOrDigit_19 t0 s0 = some (rr, ss)) : ae_T l G (d + 1) mX8_isLetterOrDigit (ae_Po (some (ae_i rr)) ss) 19 [] [ae_i t0] s0 := by
  unfold F_X8_isLetterOrDigit_19 at hF
  obtain ⟨hg1, hF2⟩ := ae_gdI hF
  obtain ⟨rfl, rfl⟩ := ae_retI hF2
  exact ae_iret dX8_isLetterOrDigit_19 rfl (ae_zzN (ae_zzI hg1)) ⟨rfl, rfl⟩
def F_X8_isLetterOrDigit_14 (s0 : ae_S) : Option (Int32 × ae_S) := F_X8_isLetterOrDigit_19 (1 : Int32) s0
set_option maxHeartbeats 4000000 in
set_option maxRecDepth 100000 in
theorem t_X8_isLetterOrDigit_14 {l : Launch} {G : ae_G} (d : Nat) {rr : Int32} {ss : ae_S} (s0 : ae_S) (hF : F_X8_isLetterOrDigit_14 s0 = some (rr, ss)) : ae_T l G (d + 1) mX8_isLetterOrDigit (ae_Po (some (ae_i rr)) ss) 14 [] [] s0 := by
  unfold F_X8_isLetterOrDigit_14 at hF
  refine ae_iconst (1 : Int32) dX8_isLetterOrDigit_14 (by decide) ?_
  refine ae_goto 19 dX8_isLetterOrDigit_15 rfl ?_
  refine ae_pick (lv' := []) [] rfl ?_
  exact t_X8_isLetterOrDigit_19 d (1 : Int32) s0 hF
def F_X8_isLetterOrDigit (v0 : Int32) (s0 : ae_S) : Option (Int32 × ae_S) := ae_bd (F_X8_isLetter v0 s0) (fun (r3 : Int32) s4 => if r3 = 0 then (ae_bd (F_X8_isDigit v0 s4) (fun (r9 : Int32) s10 => if r9 = 0 then (F_X8_isLetterOrDigit_19 (0 : Int32) s10) else (F_X8_isLetterOrDigit_14 s10))) else (F_X8_isLetterOrDigit_14 s4))
set_option maxHeartbeats 4000000 in
set_option maxRecDepth 100000 in
theorem c_X8_isLetterOrDigit {l : Launch} {G : ae_G} (d : Nat) {v0 : Int32} {s0 ss : ae_S} {rr : Int32} (hF : F_X8_isLetterOrDigit v0 s0 = some (rr, ss)) : ae_Met l G (d + 1) yX8_isLetterOrDigit mX8_isLetterOrDigit [ae_i v0] s0 (ae_Po (some (ae_i rr)) ss) := by
  refine ae_enter (by decide) rfl (Nat.le_of_ble_eq_true rfl) ?_
  show ae_T l G (d + 1) mX8_isLetterOrDigit (ae_Po (some (ae_i rr)) ss) 0 [(0, ae_i v0)] [] s0
  unfold F_X8_isLetterOrDigit at hF
  refine ae_iload_n 0 dX8_isLetterOrDigit_0 rfl ?_
  obtain ⟨r3, s4, hc5, hF6⟩ := ae_bdI hF
  refine ae_cS1 (As := [ae_i v0]) dX8_isLetterOrDigit_1 ww_383 vy_X8_isLetter rfl rfl (Nat.le_of_ble_eq_true rfl) (c_X8_isLetter d hc5) ?_
  refine ae_if_ne 14 dX8_isLetterOrDigit_4 rfl (fun hb7 => ?_) (fun hb7 => ?_)
  · have hF8 := ae_ifF hb7 hF6
    refine ae_pick (lv' := []) [] rfl ?_
    exact t_X8_isLetterOrDigit_14 d s4 hF8
  · have hF8 := ae_ifT hb7 hF6
    refine ae_iload_n 0 dX8_isLetterOrDigit_7 rfl ?_
    obtain ⟨r9, s10, hc11, hF12⟩ := ae_bdI hF8
    refine ae_cS1 (As := [ae_i v0]) dX8_isLetterOrDigit_8 ww_393 vy_X8_isDigit rfl rfl (Nat.le_of_ble_eq_true rfl) (c_X8_isDigit d hc11) ?_
    refine ae_if_eq 18 dX8_isLetterOrDigit_11 rfl (fun hb13 => ?_) (fun hb13 => ?_)
    · have hF14 := ae_ifT hb13 hF12
      refine ae_iconst (0 : Int32) dX8_isLetterOrDigit_18 (by decide) ?_
      refine ae_pick (lv' := []) [] rfl ?_
      exact t_X8_isLetterOrDigit_19 d (0 : Int32) s10 hF14
    · have hF14 := ae_ifF hb13 hF12
      refine ae_pick (lv' := []) [] rfl ?_
      exact t_X8_isLetterOrDigit_14 d s10 hF14
abbrev mX8_packed : ae_M := (RX8, cX8_packed, 4, some .long)
theorem vy_X8_packed : ae_SY yX8_packed mX8_packed 1 := ⟨ww_405, ww_8, ww_406, ⟨by decide, by decide, by decide +kernel⟩, by decide⟩
theorem dX8_packed_0 : decode cX8_packed 0 = .ok (.lconst 0, 1) := by decide +kernel
theorem dX8_packed_1 : decode cX8_packed 1 = .ok (.lstore_n 1, 1) := by decide +kernel
theorem dX8_packed_2 : decode cX8_packed 2 = .ok (.iconst 0, 1) := by decide +kernel
theorem dX8_packed_3 : decode cX8_packed 3 = .ok (.istore_n 3, 1) := by decide +kernel
theorem dX8_packed_4 : decode cX8_packed 4 = .ok (.iload_n 3, 1) := by decide +kernel
theorem dX8_packed_5 : decode cX8_packed 5 = .ok (.aload_n 0, 1) := by decide +kernel
theorem dX8_packed_6 : decode cX8_packed 6 = .ok (.invokevirtual 105, 3) := by decide +kernel
theorem dX8_packed_9 : decode cX8_packed 9 = .ok (.if_icmp .ge 21, 3) := by decide +kernel
theorem dX8_packed_12 : decode cX8_packed 12 = .ok (.lload_n 1, 1) := by decide +kernel
theorem dX8_packed_13 : decode cX8_packed 13 = .ok (.bipush 8, 2) := by decide +kernel
theorem dX8_packed_15 : decode cX8_packed 15 = .ok (.lshl, 1) := by decide +kernel
theorem dX8_packed_16 : decode cX8_packed 16 = .ok (.aload_n 0, 1) := by decide +kernel
theorem dX8_packed_17 : decode cX8_packed 17 = .ok (.iload_n 3, 1) := by decide +kernel
theorem dX8_packed_18 : decode cX8_packed 18 = .ok (.invokevirtual 108, 3) := by decide +kernel
theorem dX8_packed_21 : decode cX8_packed 21 = .ok (.i2l, 1) := by decide +kernel
theorem dX8_packed_22 : decode cX8_packed 22 = .ok (.lor, 1) := by decide +kernel
theorem dX8_packed_23 : decode cX8_packed 23 = .ok (.lstore_n 1, 1) := by decide +kernel
theorem dX8_packed_24 : decode cX8_packed 24 = .ok (.iinc 3 1, 3) := by decide +kernel
theorem dX8_packed_27 : decode cX8_packed 27 = .ok (.goto (-23), 3) := by decide +kernel
theorem dX8_packed_30 : decode cX8_packed 30 = .ok (.lload_n 1, 1) := by decide +kernel
theorem dX8_packed_31 : decode cX8_packed 31 = .ok (.lreturn, 1) := by decide +kernel
def F_X8_packed_4 : Nat → Fin 32 → Int64 → Int32 → ae_S → Option (Int64 × ae_S)
  | 0, _, _, _, _ => none
  | n + 1, i0, v1, v3, s0 => ae_gd (decide ((i0 : Fin 32).val < 28)) (if (Int32.ofNat (ae_sln i0)) ≤ v3 then (some (v1, s0)) else (ae_gd (ae_ib v3 (ae_sln i0)) (ae_lt ((v1 <<< ((8 : Int32).toInt64 &&& 63)) ||| ((ae_sch i0 v3.toNatClampNeg).toInt64)) (fun x7 => ae_lt (v3 + (1 : Int32)) (fun x9 => F_X8_packed_4 n i0 x7 x9 s0)))))
set_option maxHeartbeats 4000000 in
set_option maxRecDepth 100000 in
theorem t_X8_packed_4 {l : Launch} {G : ae_G} (d : Nat) {rr : Int64} {ss : ae_S} : ∀ (n : Nat) (i0 : Fin 32) (v1 : Int64) (v3 : Int32) (s0 : ae_S), F_X8_packed_4 n i0 v1 v3 s0 = some (rr, ss) → ae_T l G (d + 4) mX8_packed (ae_Po (some (ae_l rr)) ss) 4 [(0, ae_r (some (62, i0))), (1, ae_l v1), (3, ae_i v3)] [] s0 := by
  intro n
  induction n with
  | zero =>
    intro i0 v1 v3 s0 hF
    exact absurd (show (none : Option (Int64 × ae_S)) = some (rr, ss) from hF) (by simp)
  | succ n ih =>
    intro i0 v1 v3 s0 hF
    unfold F_X8_packed_4 at hF
    refine ae_iload_n 2 dX8_packed_4 rfl ?_
    refine ae_aload_n 0 dX8_packed_5 rfl ?_
    obtain ⟨hg1, hF2⟩ := ae_gdI hF
    refine ae_strlen (i := i0) hg1 dX8_packed_6 ww_407 (Nat.le_of_ble_eq_true rfl) ?_
    refine ae_icmp_ge 30 dX8_packed_9 rfl (fun hb3 => ?_) (fun hb3 => ?_)
    · have hF4 := ae_ifT hb3 hF2
      refine ae_lload_n 1 dX8_packed_30 rfl ?_
      obtain ⟨rfl, rfl⟩ := ae_retI hF4
      exact ae_lret dX8_packed_31 rfl ⟨rfl, rfl⟩
    · have hF4 := ae_ifF hb3 hF2
      refine ae_lload_n 1 dX8_packed_12 rfl ?_
      refine ae_bipush (8 : Int32) dX8_packed_13 (by decide) ?_
      refine ae_lshl dX8_packed_15 ?_
      refine ae_aload_n 0 dX8_packed_16 rfl ?_
      refine ae_iload_n 2 dX8_packed_17 rfl ?_
      obtain ⟨hg5, hF6⟩ := ae_gdI hF4
      refine ae_strchar (i := i0) hg1 (ae_ibI hg5) dX8_packed_18 ww_417 (Nat.le_of_ble_eq_true rfl) ?_
      refine ae_i2l dX8_packed_21 ?_
      refine ae_lor dX8_packed_22 ?_
      obtain ⟨x7, hx7, hF8⟩ := ae_ltI hF6
      refine ae_nmL hx7 ?_
      refine ae_lstore_n (lv' := [(1, ae_l x7), (0, ae_r (some (62, i0))), (3, ae_i v3)]) dX8_packed_23 (by decide) rfl ?_
      obtain ⟨x9, hx9, hF10⟩ := ae_ltI hF8
      refine ae_iinc (lv' := [(3, ae_i x9), (1, ae_l x7), (0, ae_r (some (62, i0)))]) 2 (1 : Int32) dX8_packed_24 rfl (by decide) (by decide) (by rw [hx9]; rfl) ?_
      refine ae_goto 4 dX8_packed_27 rfl ?_
      refine ae_pick (lv' := [(0, ae_r (some (62, i0))), (1, ae_l x7), (3, ae_i x9)]) [2, 1, 0] rfl ?_
      exact ih i0 x7 x9 s0 hF10
def F_X8_packed (i0 : Fin 32) (s0 : ae_S) : Option (Int64 × ae_S) := F_X8_packed_4 ae_fu i0 (0 : Int64) (0 : Int32) s0
set_option maxHeartbeats 4000000 in
set_option maxRecDepth 100000 in
theorem c_X8_packed {l : Launch} {G : ae_G} (d : Nat) {i0 : Fin 32} {s0 ss : ae_S} {rr : Int64} (hF : F_X8_packed i0 s0 = some (rr, ss)) : ae_Met l G (d + 4) yX8_packed mX8_packed [ae_r (some (62, i0))] s0 (ae_Po (some (ae_l rr)) ss) := by
  refine ae_enter (by decide) rfl (Nat.le_of_ble_eq_true rfl) ?_
  show ae_T l G (d + 4) mX8_packed (ae_Po (some (ae_l rr)) ss) 0 [(0, ae_r (some (62, i0)))] [] s0
  unfold F_X8_packed at hF
  refine ae_lconst (0 : Int64) dX8_packed_0 (by decide) ?_
  refine ae_lstore_n (lv' := [(1, ae_l (0 : Int64)), (0, ae_r (some (62, i0)))]) dX8_packed_1 (by decide) rfl ?_
  refine ae_iconst (0 : Int32) dX8_packed_2 (by decide) ?_
  refine ae_istore_n (lv' := [(3, ae_i (0 : Int32)), (1, ae_l (0 : Int64)), (0, ae_r (some (62, i0)))]) dX8_packed_3 (by decide) rfl ?_
  refine ae_pick (lv' := [(0, ae_r (some (62, i0))), (1, ae_l (0 : Int64)), (3, ae_i (0 : Int32))]) [2, 1, 0] rfl ?_
  exact t_X8_packed_4 d ae_fu i0 (0 : Int64) (0 : Int32) s0 hF
abbrev mX8_kindOf : ae_M := (RX8, cX8_kindOf, 3, some (.object "ByteViews$Kind"))
theorem vy_X8_kindOf : ae_SY yX8_kindOf mX8_kindOf 1 := ⟨ww_464, ww_8, ww_465, ⟨by decide, by decide, by decide +kernel⟩, by decide⟩
theorem dX8_kindOf_0 : decode cX8_kindOf 0 = .ok (.iconst 0, 1) := by decide +kernel
theorem dX8_kindOf_1 : decode cX8_kindOf 1 = .ok (.istore_n 2, 1) := by decide +kernel
theorem dX8_kindOf_2 : decode cX8_kindOf 2 = .ok (.iload_n 2, 1) := by decide +kernel
theorem dX8_kindOf_3 : decode cX8_kindOf 3 = .ok (.getstatic 112, 3) := by decide +kernel
theorem dX8_kindOf_6 : decode cX8_kindOf 6 = .ok (.arraylength, 1) := by decide +kernel
theorem dX8_kindOf_7 : decode cX8_kindOf 7 = .ok (.if_icmp .ge 31, 3) := by decide +kernel
theorem dX8_kindOf_10 : decode cX8_kindOf 10 = .ok (.getstatic 112, 3) := by decide +kernel
theorem dX8_kindOf_13 : decode cX8_kindOf 13 = .ok (.iload_n 2, 1) := by decide +kernel
theorem dX8_kindOf_14 : decode cX8_kindOf 14 = .ok (.aaload, 1) := by decide +kernel
theorem dX8_kindOf_15 : decode cX8_kindOf 15 = .ok (.getfield 116, 3) := by decide +kernel
theorem dX8_kindOf_18 : decode cX8_kindOf 18 = .ok (.invokestatic 81, 3) := by decide +kernel
theorem dX8_kindOf_21 : decode cX8_kindOf 21 = .ok (.lload_n 0, 1) := by decide +kernel
theorem dX8_kindOf_22 : decode cX8_kindOf 22 = .ok (.lcmp, 1) := by decide +kernel
theorem dX8_kindOf_23 : decode cX8_kindOf 23 = .ok (.ifCond .ne 9, 3) := by decide +kernel
theorem dX8_kindOf_26 : decode cX8_kindOf 26 = .ok (.getstatic 112, 3) := by decide +kernel
theorem dX8_kindOf_29 : decode cX8_kindOf 29 = .ok (.iload_n 2, 1) := by decide +kernel
theorem dX8_kindOf_30 : decode cX8_kindOf 30 = .ok (.aaload, 1) := by decide +kernel
theorem dX8_kindOf_31 : decode cX8_kindOf 31 = .ok (.areturn, 1) := by decide +kernel
theorem dX8_kindOf_32 : decode cX8_kindOf 32 = .ok (.iinc 2 1, 3) := by decide +kernel
theorem dX8_kindOf_35 : decode cX8_kindOf 35 = .ok (.goto (-33), 3) := by decide +kernel
theorem dX8_kindOf_38 : decode cX8_kindOf 38 = .ok (.aconst_null, 1) := by decide +kernel
theorem dX8_kindOf_39 : decode cX8_kindOf 39 = .ok (.areturn, 1) := by decide +kernel
def F_X8_kindOf_2 : Nat → Int64 → Int32 → ae_S → Option (Option (Fin 32) × ae_S)
  | 0, _, _, _ => none
  | n + 1, v0, v2, s0 => if (9 : Int32) ≤ v2 then (some (none, s0)) else (ae_gd (ae_ib v2 9) (ae_gd (decide (((Fin.ofNat 32 v2.toNatClampNeg) : Fin 32).val < 9)) (ae_bd (F_X8_packed (ae_kw ((Fin.ofNat 32 v2.toNatClampNeg) : Fin 32).val) s0) (fun (r7 : Int64) s8 => if (lg_cmp r7 v0) = 0 then (ae_gd (ae_ib v2 9) (some (some (Fin.ofNat 32 v2.toNatClampNeg), s8))) else (ae_lt (v2 + (1 : Int32)) (fun x13 => F_X8_kindOf_2 n v0 x13 s8))))))
set_option maxHeartbeats 4000000 in
set_option maxRecDepth 100000 in
theorem t_X8_kindOf_2 {l : Launch} {G : ae_G} (d : Nat) {rr : Option (Fin 32)} {ss : ae_S} : ∀ (n : Nat) (v0 : Int64) (v2 : Int32) (s0 : ae_S), F_X8_kindOf_2 n v0 v2 s0 = some (rr, ss) → ae_T l G (d + 5) mX8_kindOf (ae_Po (some (ae_r (ae_ro 60 rr))) ss) 2 [(0, ae_l v0), (2, ae_i v2)] [] s0 := by
  intro n
  induction n with
  | zero =>
    intro v0 v2 s0 hF
    exact absurd (show (none : Option (Option (Fin 32) × ae_S)) = some (rr, ss) from hF) (by simp)
  | succ n ih =>
    intro v0 v2 s0 hF
    unfold F_X8_kindOf_2 at hF
    refine ae_iload_n 1 dX8_kindOf_2 rfl ?_
    refine ae_getKS rfl dX8_kindOf_3 ?_
    refine ae_kslen dX8_kindOf_6 ?_
    refine ae_icmp_ge 38 dX8_kindOf_7 rfl (fun hb1 => ?_) (fun hb1 => ?_)
    · have hF2 := ae_ifT hb1 hF
      refine ae_null dX8_kindOf_38 ?_
      obtain ⟨rfl, rfl⟩ := ae_retI hF2
      exact ae_aret dX8_kindOf_39 rfl (Or.inl ⟨_, rfl⟩) ⟨rfl, rfl⟩
    · have hF2 := ae_ifF hb1 hF
      refine ae_getKS rfl dX8_kindOf_10 ?_
      refine ae_iload_n 1 dX8_kindOf_13 rfl ?_
      obtain ⟨hg3, hF4⟩ := ae_gdI hF2
      refine ae_ksald dX8_kindOf_14 (ae_ibI hg3) ?_
      obtain ⟨hg5, hF6⟩ := ae_gdI hF4
      refine ae_getKw (i := (Fin.ofNat 32 v2.toNatClampNeg)) dX8_kindOf_15 ww_1942 hg5 ?_
      obtain ⟨r7, s8, hc9, hF10⟩ := ae_bdI hF6
      refine ae_cS1 (As := [ae_r (some (62, (ae_kw ((Fin.ofNat 32 v2.toNatClampNeg) : Fin 32).val)))]) dX8_kindOf_18 ww_404 vy_X8_packed rfl rfl (Nat.le_of_ble_eq_true rfl) (c_X8_packed d hc9) ?_
      refine ae_lload_n 0 dX8_kindOf_21 rfl ?_
      refine ae_lcmp dX8_kindOf_22 ?_
      refine ae_if_ne 32 dX8_kindOf_23 rfl (fun hb11 => ?_) (fun hb11 => ?_)
      · have hF12 := ae_ifF hb11 hF10
        obtain ⟨x13, hx13, hF14⟩ := ae_ltI hF12
        refine ae_iinc (lv' := [(2, ae_i x13), (0, ae_l v0)]) 1 (1 : Int32) dX8_kindOf_32 rfl (by decide) (by decide) (by rw [hx13]; rfl) ?_
        refine ae_goto 2 dX8_kindOf_35 rfl ?_
        refine ae_pick (lv' := [(0, ae_l v0), (2, ae_i x13)]) [1, 0] rfl ?_
        exact ih v0 x13 s8 hF14
      · have hF12 := ae_ifT hb11 hF10
        refine ae_getKS rfl dX8_kindOf_26 ?_
        refine ae_iload_n 1 dX8_kindOf_29 rfl ?_
        obtain ⟨hg15, hF16⟩ := ae_gdI hF12
        refine ae_ksald dX8_kindOf_30 (ae_ibI hg15) ?_
        obtain ⟨rfl, rfl⟩ := ae_retI hF16
        exact ae_aret dX8_kindOf_31 rfl (Or.inl ⟨_, rfl⟩) ⟨rfl, rfl⟩
def F_X8_kindOf (v0 : Int64) (s0 : ae_S) : Option (Option (Fin 32) × ae_S) := F_X8_kindOf_2 ae_fu v0 (0 : Int32) s0
set_option maxHeartbeats 4000000 in
set_option maxRecDepth 100000 in
theorem c_X8_kindOf {l : Launch} {G : ae_G} (d : Nat) {v0 : Int64} {s0 ss : ae_S} {rr : Option (Fin 32)} (hF : F_X8_kindOf v0 s0 = some (rr, ss)) : ae_Met l G (d + 5) yX8_kindOf mX8_kindOf [ae_l v0] s0 (ae_Po (some (ae_r (ae_ro 60 rr))) ss) := by
  refine ae_enter (by decide) rfl (Nat.le_of_ble_eq_true rfl) ?_
  show ae_T l G (d + 5) mX8_kindOf (ae_Po (some (ae_r (ae_ro 60 rr))) ss) 0 [(0, ae_l v0)] [] s0
  unfold F_X8_kindOf at hF
  refine ae_iconst (0 : Int32) dX8_kindOf_0 (by decide) ?_
  refine ae_istore_n (lv' := [(2, ae_i (0 : Int32)), (0, ae_l v0)]) dX8_kindOf_1 (by decide) rfl ?_
  refine ae_pick (lv' := [(0, ae_l v0), (2, ae_i (0 : Int32))]) [1, 0] rfl ?_
  exact t_X8_kindOf_2 d ae_fu v0 (0 : Int32) s0 hF
abbrev mX8_isReserved : ae_M := (RX8, cX8_isReserved, 2, some .boolean)
theorem vy_X8_isReserved : ae_SY yX8_isReserved mX8_isReserved 1 := ⟨ww_401, ww_8, ww_402, ⟨by decide, by decide, by decide +kernel⟩, by decide⟩
theorem dX8_isReserved_0 : decode cX8_isReserved 0 = .ok (.lload_n 0, 1) := by decide +kernel
theorem dX8_isReserved_1 : decode cX8_isReserved 1 = .ok (.ldc 79, 2) := by decide +kernel
theorem dX8_isReserved_3 : decode cX8_isReserved 3 = .ok (.invokestatic 81, 3) := by decide +kernel
theorem dX8_isReserved_6 : decode cX8_isReserved 6 = .ok (.lcmp, 1) := by decide +kernel
theorem dX8_isReserved_7 : decode cX8_isReserved 7 = .ok (.ifCond .eq 90, 3) := by decide +kernel
theorem dX8_isReserved_10 : decode cX8_isReserved 10 = .ok (.lload_n 0, 1) := by decide +kernel
theorem dX8_isReserved_11 : decode cX8_isReserved 11 = .ok (.ldc 85, 2) := by decide +kernel
theorem dX8_isReserved_13 : decode cX8_isReserved 13 = .ok (.invokestatic 81, 3) := by decide +kernel
theorem dX8_isReserved_16 : decode cX8_isReserved 16 = .ok (.lcmp, 1) := by decide +kernel
theorem dX8_isReserved_17 : decode cX8_isReserved 17 = .ok (.ifCond .eq 80, 3) := by decide +kernel
theorem dX8_isReserved_20 : decode cX8_isReserved 20 = .ok (.lload_n 0, 1) := by decide +kernel
theorem dX8_isReserved_21 : decode cX8_isReserved 21 = .ok (.ldc 87, 2) := by decide +kernel
theorem dX8_isReserved_23 : decode cX8_isReserved 23 = .ok (.invokestatic 81, 3) := by decide +kernel
theorem dX8_isReserved_26 : decode cX8_isReserved 26 = .ok (.lcmp, 1) := by decide +kernel
theorem dX8_isReserved_27 : decode cX8_isReserved 27 = .ok (.ifCond .eq 70, 3) := by decide +kernel
theorem dX8_isReserved_30 : decode cX8_isReserved 30 = .ok (.lload_n 0, 1) := by decide +kernel
theorem dX8_isReserved_31 : decode cX8_isReserved 31 = .ok (.ldc 89, 2) := by decide +kernel
theorem dX8_isReserved_33 : decode cX8_isReserved 33 = .ok (.invokestatic 81, 3) := by decide +kernel
theorem dX8_isReserved_36 : decode cX8_isReserved 36 = .ok (.lcmp, 1) := by decide +kernel
theorem dX8_isReserved_37 : decode cX8_isReserved 37 = .ok (.ifCond .eq 60, 3) := by decide +kernel
theorem dX8_isReserved_40 : decode cX8_isReserved 40 = .ok (.lload_n 0, 1) := by decide +kernel
theorem dX8_isReserved_41 : decode cX8_isReserved 41 = .ok (.ldc 91, 2) := by decide +kernel
theorem dX8_isReserved_43 : decode cX8_isReserved 43 = .ok (.invokestatic 81, 3) := by decide +kernel
theorem dX8_isReserved_46 : decode cX8_isReserved 46 = .ok (.lcmp, 1) := by decide +kernel
theorem dX8_isReserved_47 : decode cX8_isReserved 47 = .ok (.ifCond .eq 50, 3) := by decide +kernel
theorem dX8_isReserved_50 : decode cX8_isReserved 50 = .ok (.lload_n 0, 1) := by decide +kernel
theorem dX8_isReserved_51 : decode cX8_isReserved 51 = .ok (.ldc 93, 2) := by decide +kernel
theorem dX8_isReserved_53 : decode cX8_isReserved 53 = .ok (.invokestatic 81, 3) := by decide +kernel
theorem dX8_isReserved_56 : decode cX8_isReserved 56 = .ok (.lcmp, 1) := by decide +kernel
theorem dX8_isReserved_57 : decode cX8_isReserved 57 = .ok (.ifCond .eq 40, 3) := by decide +kernel
theorem dX8_isReserved_60 : decode cX8_isReserved 60 = .ok (.lload_n 0, 1) := by decide +kernel
theorem dX8_isReserved_61 : decode cX8_isReserved 61 = .ok (.ldc 95, 2) := by decide +kernel
theorem dX8_isReserved_63 : decode cX8_isReserved 63 = .ok (.invokestatic 81, 3) := by decide +kernel
theorem dX8_isReserved_66 : decode cX8_isReserved 66 = .ok (.lcmp, 1) := by decide +kernel
theorem dX8_isReserved_67 : decode cX8_isReserved 67 = .ok (.ifCond .eq 30, 3) := by decide +kernel
theorem dX8_isReserved_70 : decode cX8_isReserved 70 = .ok (.lload_n 0, 1) := by decide +kernel
theorem dX8_isReserved_71 : decode cX8_isReserved 71 = .ok (.ldc 97, 2) := by decide +kernel
theorem dX8_isReserved_73 : decode cX8_isReserved 73 = .ok (.invokestatic 81, 3) := by decide +kernel
theorem dX8_isReserved_76 : decode cX8_isReserved 76 = .ok (.lcmp, 1) := by decide +kernel
theorem dX8_isReserved_77 : decode cX8_isReserved 77 = .ok (.ifCond .eq 20, 3) := by decide +kernel
theorem dX8_isReserved_80 : decode cX8_isReserved 80 = .ok (.lload_n 0, 1) := by decide +kernel
theorem dX8_isReserved_81 : decode cX8_isReserved 81 = .ok (.ldc 99, 2) := by decide +kernel
theorem dX8_isReserved_83 : decode cX8_isReserved 83 = .ok (.invokestatic 81, 3) := by decide +kernel
theorem dX8_isReserved_86 : decode cX8_isReserved 86 = .ok (.lcmp, 1) := by decide +kernel
theorem dX8_isReserved_87 : decode cX8_isReserved 87 = .ok (.ifCond .eq 10, 3) := by decide +kernel
theorem dX8_isReserved_90 : decode cX8_isReserved 90 = .ok (.lload_n 0, 1) := by decide +kernel
theorem dX8_isReserved_91 : decode cX8_isReserved 91 = .ok (.invokestatic 101, 3) := by decide +kernel
theorem dX8_isReserved_94 : decode cX8_isReserved 94 = .ok (.ifnull 7, 3) := by decide +kernel
theorem dX8_isReserved_97 : decode cX8_isReserved 97 = .ok (.iconst 1, 1) := by decide +kernel
theorem dX8_isReserved_98 : decode cX8_isReserved 98 = .ok (.goto 4, 3) := by decide +kernel
theorem dX8_isReserved_101 : decode cX8_isReserved 101 = .ok (.iconst 0, 1) := by decide +kernel
theorem dX8_isReserved_102 : decode cX8_isReserved 102 = .ok (.ireturn, 1) := by decide +kernel
def F_X8_isReserved_102 (t0 : Int32) (s0 : ae_S) : Option (Int32 × ae_S) := ae_gd (ae_zz t0) (some (t0, s0))
set_option maxHeartbeats 4000000 in
set_option maxRecDepth 100000 in
theorem t_X8_isReserved_102 {l : Launch} {G : ae_G} (d : Nat) {rr : Int32} {ss : ae_S} (t0 : Int32) (s0 : ae_S) (hF : F_X8_isReserved_102 t0 s0 = some (rr, ss)) : ae_T l G (d + 6) mX8_isReserved (ae_Po (some (ae_i rr)) ss) 102 [] [ae_i t0] s0 := by
  unfold F_X8_isReserved_102 at hF
  obtain ⟨hg1, hF2⟩ := ae_gdI hF
  obtain ⟨rfl, rfl⟩ := ae_retI hF2
  exact ae_iret dX8_isReserved_102 rfl (ae_zzN (ae_zzI hg1)) ⟨rfl, rfl⟩
def F_X8_isReserved_97 (s0 : ae_S) : Option (Int32 × ae_S) := F_X8_isReserved_102 (1 : Int32) s0
set_option maxHeartbeats 4000000 in
set_option maxRecDepth 100000 in
theorem t_X8_isReserved_97 {l : Launch} {G : ae_G} (d : Nat) {rr : Int32} {ss : ae_S} (s0 : ae_S) (hF : F_X8_isReserved_97 s0 = some (rr, ss)) : ae_T l G (d + 6) mX8_isReserved (ae_Po (some (ae_i rr)) ss) 97 [] [] s0 := by
  unfold F_X8_isReserved_97 at hF
  refine ae_iconst (1 : Int32) dX8_isReserved_97 (by decide) ?_
  refine ae_goto 102 dX8_isReserved_98 rfl ?_
  refine ae_pick (lv' := []) [] rfl ?_
  exact t_X8_isReserved_102 d (1 : Int32) s0 hF
def F_X8_isReserved (v0 : Int64) (s0 : ae_S) : Option (Int32 × ae_S) := ae_bd (F_X8_packed (0 : Fin 32) s0) (fun (r3 : Int64) s4 => if (lg_cmp v0 r3) = 0 then (F_X8_isReserved_97 s4) else (ae_bd (F_X8_packed (1 : Fin 32) s4) (fun (r9 : Int64) s10 => if (lg_cmp v0 r9) = 0 then (F_X8_isReserved_97 s10) else (ae_bd (F_X8_packed (2 : Fin 32) s10) (fun (r15 : Int64) s16 => if (lg_cmp v0 r15) = 0 then (F_X8_isReserved_97 s16) else (ae_bd (F_X8_packed (3 : Fin 32) s16) (fun (r21 : Int64) s22 => if (lg_cmp v0 r21) = 0 then (F_X8_isReserved_97 s22) else (ae_bd (F_X8_packed (4 : Fin 32) s22) (fun (r27 : Int64) s28 => if (lg_cmp v0 r27) = 0 then (F_X8_isReserved_97 s28) else (ae_bd (F_X8_packed (5 : Fin 32) s28) (fun (r33 : Int64) s34 => if (lg_cmp v0 r33) = 0 then (F_X8_isReserved_97 s34) else (ae_bd (F_X8_packed (6 : Fin 32) s34) (fun (r39 : Int64) s40 => if (lg_cmp v0 r39) = 0 then (F_X8_isReserved_97 s40) else (ae_bd (F_X8_packed (7 : Fin 32) s40) (fun (r45 : Int64) s46 => if (lg_cmp v0 r45) = 0 then (F_X8_isReserved_97 s46) else (ae_bd (F_X8_packed (8 : Fin 32) s46) (fun (r51 : Int64) s52 => if (lg_cmp v0 r51) = 0 then (F_X8_isReserved_97 s52) else (ae_bd (F_X8_kindOf v0 s52) (fun (r57 : Option (Fin 32)) s58 => ae_mo r57 (F_X8_isReserved_102 (0 : Int32) s58) (fun i61 => F_X8_isReserved_97 s58))))))))))))))))))))
set_option maxHeartbeats 4000000 in
set_option maxRecDepth 100000 in
theorem c_X8_isReserved {l : Launch} {G : ae_G} (d : Nat) {v0 : Int64} {s0 ss : ae_S} {rr : Int32} (hF : F_X8_isReserved v0 s0 = some (rr, ss)) : ae_Met l G (d + 6) yX8_isReserved mX8_isReserved [ae_l v0] s0 (ae_Po (some (ae_i rr)) ss) := by
  refine ae_enter (by decide) rfl (Nat.le_of_ble_eq_true rfl) ?_
  show ae_T l G (d + 6) mX8_isReserved (ae_Po (some (ae_i rr)) ss) 0 [(0, ae_l v0)] [] s0
  unfold F_X8_isReserved at hF
  refine ae_lload_n 0 dX8_isReserved_0 rfl ?_
  refine ae_ldcS (i := 0) (tx := "big") 0 dX8_isReserved_1 rfl ?_
  obtain ⟨r3, s4, hc5, hF6⟩ := ae_bdI hF
  refine ae_cS1 (As := [ae_r (some (62, 0))]) dX8_isReserved_3 ww_404 vy_X8_packed rfl rfl (Nat.le_of_ble_eq_true rfl) (c_X8_packed (d + 1) hc5) ?_
  refine ae_lcmp dX8_isReserved_6 ?_
  refine ae_if_eq 97 dX8_isReserved_7 rfl (fun hb7 => ?_) (fun hb7 => ?_)
  · have hF8 := ae_ifT hb7 hF6
    refine ae_pick (lv' := []) [] rfl ?_
    exact t_X8_isReserved_97 d s4 hF8
  · have hF8 := ae_ifF hb7 hF6
    refine ae_lload_n 0 dX8_isReserved_10 rfl ?_
    refine ae_ldcS (i := 1) (tx := "at") 1 dX8_isReserved_11 rfl ?_
    obtain ⟨r9, s10, hc11, hF12⟩ := ae_bdI hF8
    refine ae_cS1 (As := [ae_r (some (62, 1))]) dX8_isReserved_13 ww_404 vy_X8_packed rfl rfl (Nat.le_of_ble_eq_true rfl) (c_X8_packed (d + 1) hc11) ?_
    refine ae_lcmp dX8_isReserved_16 ?_
    refine ae_if_eq 97 dX8_isReserved_17 rfl (fun hb13 => ?_) (fun hb13 => ?_)
    · have hF14 := ae_ifT hb13 hF12
      refine ae_pick (lv' := []) [] rfl ?_
      exact t_X8_isReserved_97 d s10 hF14
    · have hF14 := ae_ifF hb13 hF12
      refine ae_lload_n 0 dX8_isReserved_20 rfl ?_
      refine ae_ldcS (i := 2) (tx := "x") 2 dX8_isReserved_21 rfl ?_
      obtain ⟨r15, s16, hc17, hF18⟩ := ae_bdI hF14
      refine ae_cS1 (As := [ae_r (some (62, 2))]) dX8_isReserved_23 ww_404 vy_X8_packed rfl rfl (Nat.le_of_ble_eq_true rfl) (c_X8_packed (d + 1) hc17) ?_
      refine ae_lcmp dX8_isReserved_26 ?_
      refine ae_if_eq 97 dX8_isReserved_27 rfl (fun hb19 => ?_) (fun hb19 => ?_)
      · have hF20 := ae_ifT hb19 hF18
        refine ae_pick (lv' := []) [] rfl ?_
        exact t_X8_isReserved_97 d s16 hF20
      · have hF20 := ae_ifF hb19 hF18
        refine ae_lload_n 0 dX8_isReserved_30 rfl ?_
        refine ae_ldcS (i := 3) (tx := "by") 3 dX8_isReserved_31 rfl ?_
        obtain ⟨r21, s22, hc23, hF24⟩ := ae_bdI hF20
        refine ae_cS1 (As := [ae_r (some (62, 3))]) dX8_isReserved_33 ww_404 vy_X8_packed rfl rfl (Nat.le_of_ble_eq_true rfl) (c_X8_packed (d + 1) hc23) ?_
        refine ae_lcmp dX8_isReserved_36 ?_
        refine ae_if_eq 97 dX8_isReserved_37 rfl (fun hb25 => ?_) (fun hb25 => ?_)
        · have hF26 := ae_ifT hb25 hF24
          refine ae_pick (lv' := []) [] rfl ?_
          exact t_X8_isReserved_97 d s22 hF26
        · have hF26 := ae_ifF hb25 hF24
          refine ae_lload_n 0 dX8_isReserved_40 rfl ?_
          refine ae_ldcS (i := 4) (tx := "ro") 4 dX8_isReserved_41 rfl ?_
          obtain ⟨r27, s28, hc29, hF30⟩ := ae_bdI hF26
          refine ae_cS1 (As := [ae_r (some (62, 4))]) dX8_isReserved_43 ww_404 vy_X8_packed rfl rfl (Nat.le_of_ble_eq_true rfl) (c_X8_packed (d + 1) hc29) ?_
          refine ae_lcmp dX8_isReserved_46 ?_
          refine ae_if_eq 97 dX8_isReserved_47 rfl (fun hb31 => ?_) (fun hb31 => ?_)
          · have hF32 := ae_ifT hb31 hF30
            refine ae_pick (lv' := []) [] rfl ?_
            exact t_X8_isReserved_97 d s28 hF32
          · have hF32 := ae_ifF hb31 hF30
            refine ae_lload_n 0 dX8_isReserved_50 rfl ?_
            refine ae_ldcS (i := 5) (tx := "ones") 5 dX8_isReserved_51 rfl ?_
            obtain ⟨r33, s34, hc35, hF36⟩ := ae_bdI hF32
            refine ae_cS1 (As := [ae_r (some (62, 5))]) dX8_isReserved_53 ww_404 vy_X8_packed rfl rfl (Nat.le_of_ble_eq_true rfl) (c_X8_packed (d + 1) hc35) ?_
            refine ae_lcmp dX8_isReserved_56 ?_
            refine ae_if_eq 97 dX8_isReserved_57 rfl (fun hb37 => ?_) (fun hb37 => ?_)
            · have hF38 := ae_ifT hb37 hF36
              refine ae_pick (lv' := []) [] rfl ?_
              exact t_X8_isReserved_97 d s34 hF38
            · have hF38 := ae_ifF hb37 hF36
              refine ae_lload_n 0 dX8_isReserved_60 rfl ?_
              refine ae_ldcS (i := 6) (tx := "reads") 6 dX8_isReserved_61 rfl ?_
              obtain ⟨r39, s40, hc41, hF42⟩ := ae_bdI hF38
              refine ae_cS1 (As := [ae_r (some (62, 6))]) dX8_isReserved_63 ww_404 vy_X8_packed rfl rfl (Nat.le_of_ble_eq_true rfl) (c_X8_packed (d + 1) hc41) ?_
              refine ae_lcmp dX8_isReserved_66 ?_
              refine ae_if_eq 97 dX8_isReserved_67 rfl (fun hb43 => ?_) (fun hb43 => ?_)
              · have hF44 := ae_ifT hb43 hF42
                refine ae_pick (lv' := []) [] rfl ?_
                exact t_X8_isReserved_97 d s40 hF44
              · have hF44 := ae_ifF hb43 hF42
                refine ae_lload_n 0 dX8_isReserved_70 rfl ?_
                refine ae_ldcS (i := 7) (tx := "if") 7 dX8_isReserved_71 rfl ?_
                obtain ⟨r45, s46, hc47, hF48⟩ := ae_bdI hF44
                refine ae_cS1 (As := [ae_r (some (62, 7))]) dX8_isReserved_73 ww_404 vy_X8_packed rfl rfl (Nat.le_of_ble_eq_true rfl) (c_X8_packed (d + 1) hc47) ?_
                refine ae_lcmp dX8_isReserved_76 ?_
                refine ae_if_eq 97 dX8_isReserved_77 rfl (fun hb49 => ?_) (fun hb49 => ?_)
                · have hF50 := ae_ifT hb49 hF48
                  refine ae_pick (lv' := []) [] rfl ?_
                  exact t_X8_isReserved_97 d s46 hF50
                · have hF50 := ae_ifF hb49 hF48
                  refine ae_lload_n 0 dX8_isReserved_80 rfl ?_
                  refine ae_ldcS (i := 8) (tx := "fail") 8 dX8_isReserved_81 rfl ?_
                  obtain ⟨r51, s52, hc53, hF54⟩ := ae_bdI hF50
                  refine ae_cS1 (As := [ae_r (some (62, 8))]) dX8_isReserved_83 ww_404 vy_X8_packed rfl rfl (Nat.le_of_ble_eq_true rfl) (c_X8_packed (d + 1) hc53) ?_
                  refine ae_lcmp dX8_isReserved_86 ?_
                  refine ae_if_eq 97 dX8_isReserved_87 rfl (fun hb55 => ?_) (fun hb55 => ?_)
                  · have hF56 := ae_ifT hb55 hF54
                    refine ae_pick (lv' := []) [] rfl ?_
                    exact t_X8_isReserved_97 d s52 hF56
                  · have hF56 := ae_ifF hb55 hF54
                    refine ae_lload_n 0 dX8_isReserved_90 rfl ?_
                    obtain ⟨r57, s58, hc59, hF60⟩ := ae_bdI hF56
                    refine ae_cS1 (As := [ae_l v0]) dX8_isReserved_91 ww_463 vy_X8_kindOf rfl rfl (Nat.le_of_ble_eq_true rfl) (c_X8_kindOf d hc59) ?_
                    cases r57 with
                    | none =>
                      have hF62 := ae_moN hF60
                      refine ae_ifnull 101 dX8_isReserved_94 rfl (fun _ => ?_) (fun h => absurd rfl h)
                      refine ae_iconst (0 : Int32) dX8_isReserved_101 (by decide) ?_
                      refine ae_pick (lv' := []) [] rfl ?_
                      exact t_X8_isReserved_102 d (0 : Int32) s58 hF62
                    | some i61 =>
                      have hF62 := ae_moS hF60
                      refine ae_ifnull 101 dX8_isReserved_94 rfl (fun h => absurd h (by simp [ae_ro])) (fun _ => ?_)
                      refine ae_pick (lv' := []) [] rfl ?_
                      exact t_X8_isReserved_97 d s58 hF62
abbrev mX8_addWordFrom : ae_M := (RX8, cX8_addWordFrom, 5, some .int)
theorem vy_X8_addWordFrom : ae_VY yX8_addWordFrom mX8_addWordFrom 1 := ⟨ww_388, wq_0, ww_8, ww_389, ⟨by decide, by decide, by decide +kernel⟩, by decide⟩
theorem dX8_addWordFrom_0 : decode cX8_addWordFrom 0 = .ok (.iload_n 1, 1) := by decide +kernel
theorem dX8_addWordFrom_1 : decode cX8_addWordFrom 1 = .ok (.istore_n 2, 1) := by decide +kernel
theorem dX8_addWordFrom_2 : decode cX8_addWordFrom 2 = .ok (.lconst 0, 1) := by decide +kernel
theorem dX8_addWordFrom_3 : decode cX8_addWordFrom 3 = .ok (.lstore_n 3, 1) := by decide +kernel
theorem dX8_addWordFrom_4 : decode cX8_addWordFrom 4 = .ok (.iload_n 2, 1) := by decide +kernel
theorem dX8_addWordFrom_5 : decode cX8_addWordFrom 5 = .ok (.aload_n 0, 1) := by decide +kernel
theorem dX8_addWordFrom_6 : decode cX8_addWordFrom 6 = .ok (.getfield 9, 3) := by decide +kernel
theorem dX8_addWordFrom_9 : decode cX8_addWordFrom 9 = .ok (.invokevirtual 42, 3) := by decide +kernel
theorem dX8_addWordFrom_12 : decode cX8_addWordFrom 12 = .ok (.if_icmp .ge 38, 3) := by decide +kernel
theorem dX8_addWordFrom_15 : decode cX8_addWordFrom 15 = .ok (.aload_n 0, 1) := by decide +kernel
theorem dX8_addWordFrom_16 : decode cX8_addWordFrom 16 = .ok (.getfield 9, 3) := by decide +kernel
theorem dX8_addWordFrom_19 : decode cX8_addWordFrom 19 = .ok (.iload_n 2, 1) := by decide +kernel
theorem dX8_addWordFrom_20 : decode cX8_addWordFrom 20 = .ok (.invokevirtual 48, 3) := by decide +kernel
theorem dX8_addWordFrom_23 : decode cX8_addWordFrom 23 = .ok (.invokestatic 70, 3) := by decide +kernel
theorem dX8_addWordFrom_26 : decode cX8_addWordFrom 26 = .ok (.ifCond .eq 24, 3) := by decide +kernel
theorem dX8_addWordFrom_29 : decode cX8_addWordFrom 29 = .ok (.lload_n 3, 1) := by decide +kernel
theorem dX8_addWordFrom_30 : decode cX8_addWordFrom 30 = .ok (.bipush 8, 2) := by decide +kernel
theorem dX8_addWordFrom_32 : decode cX8_addWordFrom 32 = .ok (.lshl, 1) := by decide +kernel
theorem dX8_addWordFrom_33 : decode cX8_addWordFrom 33 = .ok (.aload_n 0, 1) := by decide +kernel
theorem dX8_addWordFrom_34 : decode cX8_addWordFrom 34 = .ok (.getfield 9, 3) := by decide +kernel
theorem dX8_addWordFrom_37 : decode cX8_addWordFrom 37 = .ok (.iload_n 2, 1) := by decide +kernel
theorem dX8_addWordFrom_38 : decode cX8_addWordFrom 38 = .ok (.invokevirtual 48, 3) := by decide +kernel
theorem dX8_addWordFrom_41 : decode cX8_addWordFrom 41 = .ok (.i2l, 1) := by decide +kernel
theorem dX8_addWordFrom_42 : decode cX8_addWordFrom 42 = .ok (.lor, 1) := by decide +kernel
theorem dX8_addWordFrom_43 : decode cX8_addWordFrom 43 = .ok (.lstore_n 3, 1) := by decide +kernel
theorem dX8_addWordFrom_44 : decode cX8_addWordFrom 44 = .ok (.iinc 2 1, 3) := by decide +kernel
theorem dX8_addWordFrom_47 : decode cX8_addWordFrom 47 = .ok (.goto (-43), 3) := by decide +kernel
theorem dX8_addWordFrom_50 : decode cX8_addWordFrom 50 = .ok (.iload_n 2, 1) := by decide +kernel
theorem dX8_addWordFrom_51 : decode cX8_addWordFrom 51 = .ok (.iload_n 1, 1) := by decide +kernel
theorem dX8_addWordFrom_52 : decode cX8_addWordFrom 52 = .ok (.isub, 1) := by decide +kernel
theorem dX8_addWordFrom_53 : decode cX8_addWordFrom 53 = .ok (.bipush 6, 2) := by decide +kernel
theorem dX8_addWordFrom_55 : decode cX8_addWordFrom 55 = .ok (.if_icmp .le 16, 3) := by decide +kernel
theorem dX8_addWordFrom_58 : decode cX8_addWordFrom 58 = .ok (.aload_n 0, 1) := by decide +kernel
theorem dX8_addWordFrom_59 : decode cX8_addWordFrom 59 = .ok (.iconst 5, 1) := by decide +kernel
theorem dX8_addWordFrom_60 : decode cX8_addWordFrom 60 = .ok (.iload_n 1, 1) := by decide +kernel
theorem dX8_addWordFrom_61 : decode cX8_addWordFrom 61 = .ok (.iload_n 2, 1) := by decide +kernel
theorem dX8_addWordFrom_62 : decode cX8_addWordFrom 62 = .ok (.iload_n 1, 1) := by decide +kernel
theorem dX8_addWordFrom_63 : decode cX8_addWordFrom 63 = .ok (.isub, 1) := by decide +kernel
theorem dX8_addWordFrom_64 : decode cX8_addWordFrom 64 = .ok (.lconst 0, 1) := by decide +kernel
theorem dX8_addWordFrom_65 : decode cX8_addWordFrom 65 = .ok (.invokevirtual 66, 3) := by decide +kernel
theorem dX8_addWordFrom_68 : decode cX8_addWordFrom 68 = .ok (.goto 24, 3) := by decide +kernel
theorem dX8_addWordFrom_71 : decode cX8_addWordFrom 71 = .ok (.aload_n 0, 1) := by decide +kernel
theorem dX8_addWordFrom_72 : decode cX8_addWordFrom 72 = .ok (.lload_n 3, 1) := by decide +kernel
theorem dX8_addWordFrom_73 : decode cX8_addWordFrom 73 = .ok (.invokestatic 73, 3) := by decide +kernel
theorem dX8_addWordFrom_76 : decode cX8_addWordFrom 76 = .ok (.ifCond .eq 7, 3) := by decide +kernel
theorem dX8_addWordFrom_79 : decode cX8_addWordFrom 79 = .ok (.iconst 2, 1) := by decide +kernel
theorem dX8_addWordFrom_80 : decode cX8_addWordFrom 80 = .ok (.goto 4, 3) := by decide +kernel
theorem dX8_addWordFrom_83 : decode cX8_addWordFrom 83 = .ok (.iconst 1, 1) := by decide +kernel
theorem dX8_addWordFrom_84 : decode cX8_addWordFrom 84 = .ok (.iload_n 1, 1) := by decide +kernel
theorem dX8_addWordFrom_85 : decode cX8_addWordFrom 85 = .ok (.iload_n 2, 1) := by decide +kernel
theorem dX8_addWordFrom_86 : decode cX8_addWordFrom 86 = .ok (.iload_n 1, 1) := by decide +kernel
theorem dX8_addWordFrom_87 : decode cX8_addWordFrom 87 = .ok (.isub, 1) := by decide +kernel
theorem dX8_addWordFrom_88 : decode cX8_addWordFrom 88 = .ok (.lload_n 3, 1) := by decide +kernel
theorem dX8_addWordFrom_89 : decode cX8_addWordFrom 89 = .ok (.invokevirtual 66, 3) := by decide +kernel
theorem dX8_addWordFrom_92 : decode cX8_addWordFrom 92 = .ok (.iload_n 2, 1) := by decide +kernel
theorem dX8_addWordFrom_93 : decode cX8_addWordFrom 93 = .ok (.ireturn, 1) := by decide +kernel
def F_X8_addWordFrom_92 (v2 : Int32) (s0 : ae_S) : Option (Int32 × ae_S) := some (v2, s0)
set_option maxHeartbeats 4000000 in
set_option maxRecDepth 100000 in
theorem t_X8_addWordFrom_92 {l : Launch} {G : ae_G} (d : Nat) {rr : Int32} {ss : ae_S} (v2 : Int32) (s0 : ae_S) (hF : F_X8_addWordFrom_92 v2 s0 = some (rr, ss)) : ae_T l G (d + 7) mX8_addWordFrom (ae_Po (some (ae_i rr)) ss) 92 [(2, ae_i v2)] [] s0 := by
  unfold F_X8_addWordFrom_92 at hF
  refine ae_iload_n 0 dX8_addWordFrom_92 rfl ?_
  obtain ⟨rfl, rfl⟩ := ae_retI hF
  exact ae_iret dX8_addWordFrom_93 rfl rfl ⟨rfl, rfl⟩
def F_X8_addWordFrom_84 (v1 : Int32) (v2 : Int32) (v3 : Int64) (t0 : Int32) (s0 : ae_S) : Option (Int32 × ae_S) := ae_bd (F_X8_addToken t0 v1 (v2 - v1) v3 s0) (fun (r1 : Unit) s2 => F_X8_addWordFrom_92 v2 s2)
set_option maxHeartbeats 4000000 in
set_option maxRecDepth 100000 in
theorem t_X8_addWordFrom_84 {l : Launch} {G : ae_G} (d : Nat) {rr : Int32} {ss : ae_S} (v1 : Int32) (v2 : Int32) (v3 : Int64) (t0 : Int32) (s0 : ae_S) (hF : F_X8_addWordFrom_84 v1 v2 v3 t0 s0 = some (rr, ss)) : ae_T l G (d + 7) mX8_addWordFrom (ae_Po (some (ae_i rr)) ss) 84 [(1, ae_i v1), (2, ae_i v2), (3, ae_l v3)] [ae_i t0, ae_r (some (12, 0))] s0 := by
  unfold F_X8_addWordFrom_84 at hF
  refine ae_iload_n 0 dX8_addWordFrom_84 rfl ?_
  refine ae_iload_n 1 dX8_addWordFrom_85 rfl ?_
  refine ae_iload_n 0 dX8_addWordFrom_86 rfl ?_
  refine ae_isub dX8_addWordFrom_87 ?_
  refine ae_lload_n 2 dX8_addWordFrom_88 rfl ?_
  obtain ⟨r1, s2, hc3, hF4⟩ := ae_bdI hF
  refine ae_cV0 (q := (12, 0)) (As := [ae_i t0, ae_i v1, ae_i (v2 - v1), ae_l v3]) dX8_addWordFrom_89 ww_396 vy_X8_addToken rfl rfl rfl rfl rfl (Nat.le_of_ble_eq_true rfl) (c_X8_addToken (d + 6) hc3) ?_
  refine ae_pick (lv' := [(2, ae_i v2)]) [1] rfl ?_
  exact t_X8_addWordFrom_92 d v2 s2 hF4
def F_X8_addWordFrom_50 (v1 : Int32) (v2 : Int32) (v3 : Int64) (s0 : ae_S) : Option (Int32 × ae_S) := if (v2 - v1) ≤ (6 : Int32) then (ae_bd (F_X8_isReserved v3 s0) (fun (r7 : Int32) s8 => if r7 = 0 then (F_X8_addWordFrom_84 v1 v2 v3 (1 : Int32) s8) else (F_X8_addWordFrom_84 v1 v2 v3 (2 : Int32) s8))) else (ae_bd (F_X8_addToken (5 : Int32) v1 (v2 - v1) (0 : Int64) s0) (fun (r13 : Unit) s14 => F_X8_addWordFrom_92 v2 s14))
set_option maxHeartbeats 4000000 in
set_option maxRecDepth 100000 in
theorem t_X8_addWordFrom_50 {l : Launch} {G : ae_G} (d : Nat) {rr : Int32} {ss : ae_S} (v1 : Int32) (v2 : Int32) (v3 : Int64) (s0 : ae_S) (hF : F_X8_addWordFrom_50 v1 v2 v3 s0 = some (rr, ss)) : ae_T l G (d + 7) mX8_addWordFrom (ae_Po (some (ae_i rr)) ss) 50 [(0, ae_r (some (12, 0))), (1, ae_i v1), (2, ae_i v2), (3, ae_l v3)] [] s0 := by
  unfold F_X8_addWordFrom_50 at hF
  refine ae_iload_n 2 dX8_addWordFrom_50 rfl ?_
  refine ae_iload_n 1 dX8_addWordFrom_51 rfl ?_
  refine ae_isub dX8_addWordFrom_52 ?_
  refine ae_bipush (6 : Int32) dX8_addWordFrom_53 (by decide) ?_
  refine ae_icmp_le 71 dX8_addWordFrom_55 rfl (fun hb5 => ?_) (fun hb5 => ?_)
  · have hF6 := ae_ifT hb5 hF
    refine ae_aload_n 0 dX8_addWordFrom_71 rfl ?_
    refine ae_lload_n 3 dX8_addWordFrom_72 rfl ?_
    obtain ⟨r7, s8, hc9, hF10⟩ := ae_bdI hF6
    refine ae_cS1 (As := [ae_l v3]) dX8_addWordFrom_73 ww_400 vy_X8_isReserved rfl rfl (Nat.le_of_ble_eq_true rfl) (c_X8_isReserved d hc9) ?_
    refine ae_if_eq 83 dX8_addWordFrom_76 rfl (fun hb11 => ?_) (fun hb11 => ?_)
    · have hF12 := ae_ifT hb11 hF10
      refine ae_iconst (1 : Int32) dX8_addWordFrom_83 (by decide) ?_
      refine ae_pick (lv' := [(1, ae_i v1), (2, ae_i v2), (3, ae_l v3)]) [1, 2, 3] rfl ?_
      exact t_X8_addWordFrom_84 d v1 v2 v3 (1 : Int32) s8 hF12
    · have hF12 := ae_ifF hb11 hF10
      refine ae_iconst (2 : Int32) dX8_addWordFrom_79 (by decide) ?_
      refine ae_goto 84 dX8_addWordFrom_80 rfl ?_
      refine ae_pick (lv' := [(1, ae_i v1), (2, ae_i v2), (3, ae_l v3)]) [1, 2, 3] rfl ?_
      exact t_X8_addWordFrom_84 d v1 v2 v3 (2 : Int32) s8 hF12
  · have hF6 := ae_ifF hb5 hF
    refine ae_aload_n 0 dX8_addWordFrom_58 rfl ?_
    refine ae_iconst (5 : Int32) dX8_addWordFrom_59 (by decide) ?_
    refine ae_iload_n 1 dX8_addWordFrom_60 rfl ?_
    refine ae_iload_n 2 dX8_addWordFrom_61 rfl ?_
    refine ae_iload_n 1 dX8_addWordFrom_62 rfl ?_
    refine ae_isub dX8_addWordFrom_63 ?_
    refine ae_lconst (0 : Int64) dX8_addWordFrom_64 (by decide) ?_
    obtain ⟨r13, s14, hc15, hF16⟩ := ae_bdI hF6
    refine ae_cV0 (q := (12, 0)) (As := [ae_i (5 : Int32), ae_i v1, ae_i (v2 - v1), ae_l (0 : Int64)]) dX8_addWordFrom_65 ww_396 vy_X8_addToken rfl rfl rfl rfl rfl (Nat.le_of_ble_eq_true rfl) (c_X8_addToken (d + 6) hc15) ?_
    refine ae_goto 92 dX8_addWordFrom_68 rfl ?_
    refine ae_pick (lv' := [(2, ae_i v2)]) [2] rfl ?_
    exact t_X8_addWordFrom_92 d v2 s14 hF16
def F_X8_addWordFrom_4 : Nat → Int32 → Int32 → Int64 → ae_S → Option (Int32 × ae_S)
  | 0, _, _, _, _ => none
  | n + 1, v1, v2, v3, s0 => ae_bd (F_X7_length (0 : Fin 32) s0) (fun (r17 : Int32) s18 => if r17 ≤ v2 then (F_X8_addWordFrom_50 v1 v2 v3 s18) else (ae_bd (F_X7_get (0 : Fin 32) v2 s18) (fun (r23 : Int32) s24 => ae_bd (F_X8_isLetterOrDigit r23 s24) (fun (r27 : Int32) s28 => if r27 = 0 then (F_X8_addWordFrom_50 v1 v2 v3 s28) else (ae_bd (F_X7_get (0 : Fin 32) v2 s28) (fun (r33 : Int32) s34 => ae_lt ((v3 <<< ((8 : Int32).toInt64 &&& 63)) ||| r33.toInt64) (fun x37 => ae_lt (v2 + (1 : Int32)) (fun x39 => F_X8_addWordFrom_4 n v1 x39 x37 s34))))))))
set_option maxHeartbeats 4000000 in
set_option maxRecDepth 100000 in
theorem t_X8_addWordFrom_4 {l : Launch} {G : ae_G} (d : Nat) {rr : Int32} {ss : ae_S} : ∀ (n : Nat) (v1 : Int32) (v2 : Int32) (v3 : Int64) (s0 : ae_S), F_X8_addWordFrom_4 n v1 v2 v3 s0 = some (rr, ss) → ae_T l G (d + 7) mX8_addWordFrom (ae_Po (some (ae_i rr)) ss) 4 [(0, ae_r (some (12, 0))), (1, ae_i v1), (2, ae_i v2), (3, ae_l v3)] [] s0 := by
  intro n
  induction n with
  | zero =>
    intro v1 v2 v3 s0 hF
    exact absurd (show (none : Option (Int32 × ae_S)) = some (rr, ss) from hF) (by simp)
  | succ n ih =>
    intro v1 v2 v3 s0 hF
    unfold F_X8_addWordFrom_4 at hF
    refine ae_iload_n 2 dX8_addWordFrom_4 rfl ?_
    refine ae_aload_n 0 dX8_addWordFrom_5 rfl ?_
    refine ae_getO (q := (12, 0)) (some (1, 0)) dX8_addWordFrom_6 fl_RX8_9 rfl rfl rfl ?_
    obtain ⟨r17, s18, hc19, hF20⟩ := ae_bdI hF
    refine ae_cV1 (q := (1, 0)) (As := []) dX8_addWordFrom_9 ww_378 vy_X7_length rfl rfl rfl rfl rfl (Nat.le_of_ble_eq_true rfl) (c_X7_length (d + 6) hc19) ?_
    refine ae_icmp_ge 50 dX8_addWordFrom_12 rfl (fun hb21 => ?_) (fun hb21 => ?_)
    · have hF22 := ae_ifT hb21 hF20
      refine ae_pick (lv' := [(0, ae_r (some (12, 0))), (1, ae_i v1), (2, ae_i v2), (3, ae_l v3)]) [0, 1, 2, 3] rfl ?_
      exact t_X8_addWordFrom_50 d v1 v2 v3 s18 hF22
    · have hF22 := ae_ifF hb21 hF20
      refine ae_aload_n 0 dX8_addWordFrom_15 rfl ?_
      refine ae_getO (q := (12, 0)) (some (1, 0)) dX8_addWordFrom_16 fl_RX8_9 rfl rfl rfl ?_
      refine ae_iload_n 2 dX8_addWordFrom_19 rfl ?_
      obtain ⟨r23, s24, hc25, hF26⟩ := ae_bdI hF22
      refine ae_cV1 (q := (1, 0)) (As := [ae_i v2]) dX8_addWordFrom_20 ww_379 vy_X7_get rfl rfl rfl rfl rfl (Nat.le_of_ble_eq_true rfl) (c_X7_get (d + 6) hc25) ?_
      obtain ⟨r27, s28, hc29, hF30⟩ := ae_bdI hF26
      refine ae_cS1 (As := [ae_i r23]) dX8_addWordFrom_23 ww_390 vy_X8_isLetterOrDigit rfl rfl (Nat.le_of_ble_eq_true rfl) (c_X8_isLetterOrDigit (d + 5) hc29) ?_
      refine ae_if_eq 50 dX8_addWordFrom_26 rfl (fun hb31 => ?_) (fun hb31 => ?_)
      · have hF32 := ae_ifT hb31 hF30
        refine ae_pick (lv' := [(0, ae_r (some (12, 0))), (1, ae_i v1), (2, ae_i v2), (3, ae_l v3)]) [0, 1, 2, 3] rfl ?_
        exact t_X8_addWordFrom_50 d v1 v2 v3 s28 hF32
      · have hF32 := ae_ifF hb31 hF30
        refine ae_lload_n 3 dX8_addWordFrom_29 rfl ?_
        refine ae_bipush (8 : Int32) dX8_addWordFrom_30 (by decide) ?_
        refine ae_lshl dX8_addWordFrom_32 ?_
        refine ae_aload_n 0 dX8_addWordFrom_33 rfl ?_
        refine ae_getO (q := (12, 0)) (some (1, 0)) dX8_addWordFrom_34 fl_RX8_9 rfl rfl rfl ?_
        refine ae_iload_n 2 dX8_addWordFrom_37 rfl ?_
        obtain ⟨r33, s34, hc35, hF36⟩ := ae_bdI hF32
        refine ae_cV1 (q := (1, 0)) (As := [ae_i v2]) dX8_addWordFrom_38 ww_379 vy_X7_get rfl rfl rfl rfl rfl (Nat.le_of_ble_eq_true rfl) (c_X7_get (d + 6) hc35) ?_
        refine ae_i2l dX8_addWordFrom_41 ?_
        refine ae_lor dX8_addWordFrom_42 ?_
        obtain ⟨x37, hx37, hF38⟩ := ae_ltI hF36
        refine ae_nmL hx37 ?_
        refine ae_lstore_n (lv' := [(3, ae_l x37), (0, ae_r (some (12, 0))), (1, ae_i v1), (2, ae_i v2)]) dX8_addWordFrom_43 (by decide) rfl ?_
        obtain ⟨x39, hx39, hF40⟩ := ae_ltI hF38
        refine ae_iinc (lv' := [(2, ae_i x39), (3, ae_l x37), (0, ae_r (some (12, 0))), (1, ae_i v1)]) 3 (1 : Int32) dX8_addWordFrom_44 rfl (by decide) (by decide) (by rw [hx39]; rfl) ?_
        refine ae_goto 4 dX8_addWordFrom_47 rfl ?_
        refine ae_pick (lv' := [(0, ae_r (some (12, 0))), (1, ae_i v1), (2, ae_i x39), (3, ae_l x37)]) [2, 3, 0, 1] rfl ?_
        exact ih v1 x39 x37 s34 hF40
def F_X8_addWordFrom (v1 : Int32) (s0 : ae_S) : Option (Int32 × ae_S) := F_X8_addWordFrom_4 ae_fu v1 v1 (0 : Int64) s0
set_option maxHeartbeats 4000000 in
set_option maxRecDepth 100000 in
theorem c_X8_addWordFrom {l : Launch} {G : ae_G} (d : Nat) {v1 : Int32} {s0 ss : ae_S} {rr : Int32} (hF : F_X8_addWordFrom v1 s0 = some (rr, ss)) : ae_Met l G (d + 7) yX8_addWordFrom mX8_addWordFrom [ae_r (some (12, 0)), ae_i v1] s0 (ae_Po (some (ae_i rr)) ss) := by
  refine ae_enter (by decide) rfl (Nat.le_of_ble_eq_true rfl) ?_
  show ae_T l G (d + 7) mX8_addWordFrom (ae_Po (some (ae_i rr)) ss) 0 [(0, ae_r (some (12, 0))), (1, ae_i v1)] [] s0
  unfold F_X8_addWordFrom at hF
  refine ae_iload_n 1 dX8_addWordFrom_0 rfl ?_
  refine ae_istore_n (lv' := [(2, ae_i v1), (0, ae_r (some (12, 0))), (1, ae_i v1)]) dX8_addWordFrom_1 (by decide) rfl ?_
  refine ae_lconst (0 : Int64) dX8_addWordFrom_2 (by decide) ?_
  refine ae_lstore_n (lv' := [(3, ae_l (0 : Int64)), (2, ae_i v1), (0, ae_r (some (12, 0))), (1, ae_i v1)]) dX8_addWordFrom_3 (by decide) rfl ?_
  refine ae_pick (lv' := [(0, ae_r (some (12, 0))), (1, ae_i v1), (2, ae_i v1), (3, ae_l (0 : Int64))]) [2, 3, 1, 0] rfl ?_
  exact t_X8_addWordFrom_4 d ae_fu v1 v1 (0 : Int64) s0 hF
abbrev mX8_scan : ae_M := (RX8, cX8_scan, 6, none)
theorem vy_X8_scan : ae_VY yX8_scan mX8_scan 1 := ⟨ww_375, ww_376, ww_8, ww_377, ⟨by decide, by decide, by decide +kernel⟩, by decide⟩
theorem dX8_scan_0 : decode cX8_scan 0 = .ok (.aload_n 0, 1) := by decide +kernel
theorem dX8_scan_1 : decode cX8_scan 1 = .ok (.iconst 0, 1) := by decide +kernel
theorem dX8_scan_2 : decode cX8_scan 2 = .ok (.putfield 36, 3) := by decide +kernel
theorem dX8_scan_5 : decode cX8_scan 5 = .ok (.aload_n 0, 1) := by decide +kernel
theorem dX8_scan_6 : decode cX8_scan 6 = .ok (.iconst 0, 1) := by decide +kernel
theorem dX8_scan_7 : decode cX8_scan 7 = .ok (.putfield 39, 3) := by decide +kernel
theorem dX8_scan_10 : decode cX8_scan 10 = .ok (.iconst 0, 1) := by decide +kernel
theorem dX8_scan_11 : decode cX8_scan 11 = .ok (.istore_n 2, 1) := by decide +kernel
theorem dX8_scan_12 : decode cX8_scan 12 = .ok (.aload_n 0, 1) := by decide +kernel
theorem dX8_scan_13 : decode cX8_scan 13 = .ok (.getfield 9, 3) := by decide +kernel
theorem dX8_scan_16 : decode cX8_scan 16 = .ok (.invokevirtual 42, 3) := by decide +kernel
theorem dX8_scan_19 : decode cX8_scan 19 = .ok (.istore_n 3, 1) := by decide +kernel
theorem dX8_scan_20 : decode cX8_scan 20 = .ok (.iconst 0, 1) := by decide +kernel
theorem dX8_scan_21 : decode cX8_scan 21 = .ok (.istore 4, 2) := by decide +kernel
theorem dX8_scan_23 : decode cX8_scan 23 = .ok (.iload 4, 2) := by decide +kernel
theorem dX8_scan_25 : decode cX8_scan 25 = .ok (.sipush 500, 3) := by decide +kernel
theorem dX8_scan_28 : decode cX8_scan 28 = .ok (.if_icmp .ge 86, 3) := by decide +kernel
theorem dX8_scan_31 : decode cX8_scan 31 = .ok (.iload_n 2, 1) := by decide +kernel
theorem dX8_scan_32 : decode cX8_scan 32 = .ok (.iload_n 3, 1) := by decide +kernel
theorem dX8_scan_33 : decode cX8_scan 33 = .ok (.if_icmp .ge 81, 3) := by decide +kernel
theorem dX8_scan_36 : decode cX8_scan 36 = .ok (.aload_n 0, 1) := by decide +kernel
theorem dX8_scan_37 : decode cX8_scan 37 = .ok (.getfield 9, 3) := by decide +kernel
theorem dX8_scan_40 : decode cX8_scan 40 = .ok (.iload_n 2, 1) := by decide +kernel
theorem dX8_scan_41 : decode cX8_scan 41 = .ok (.invokevirtual 48, 3) := by decide +kernel
theorem dX8_scan_44 : decode cX8_scan 44 = .ok (.istore 5, 2) := by decide +kernel
theorem dX8_scan_46 : decode cX8_scan 46 = .ok (.iload 5, 2) := by decide +kernel
theorem dX8_scan_48 : decode cX8_scan 48 = .ok (.invokestatic 52, 3) := by decide +kernel
theorem dX8_scan_51 : decode cX8_scan 51 = .ok (.ifCond .eq 12, 3) := by decide +kernel
theorem dX8_scan_54 : decode cX8_scan 54 = .ok (.aload_n 0, 1) := by decide +kernel
theorem dX8_scan_55 : decode cX8_scan 55 = .ok (.iload_n 2, 1) := by decide +kernel
theorem dX8_scan_56 : decode cX8_scan 56 = .ok (.invokevirtual 56, 3) := by decide +kernel
theorem dX8_scan_59 : decode cX8_scan 59 = .ok (.istore_n 2, 1) := by decide +kernel
theorem dX8_scan_60 : decode cX8_scan 60 = .ok (.goto 48, 3) := by decide +kernel
theorem dX8_scan_63 : decode cX8_scan 63 = .ok (.iload 5, 2) := by decide +kernel
theorem dX8_scan_65 : decode cX8_scan 65 = .ok (.invokestatic 59, 3) := by decide +kernel
theorem dX8_scan_68 : decode cX8_scan 68 = .ok (.ifCond .eq 13, 3) := by decide +kernel
theorem dX8_scan_71 : decode cX8_scan 71 = .ok (.aload_n 0, 1) := by decide +kernel
theorem dX8_scan_72 : decode cX8_scan 72 = .ok (.iload_n 2, 1) := by decide +kernel
theorem dX8_scan_73 : decode cX8_scan 73 = .ok (.iload_n 1, 1) := by decide +kernel
theorem dX8_scan_74 : decode cX8_scan 74 = .ok (.invokevirtual 62, 3) := by decide +kernel
theorem dX8_scan_77 : decode cX8_scan 77 = .ok (.istore_n 2, 1) := by decide +kernel
theorem dX8_scan_78 : decode cX8_scan 78 = .ok (.goto 30, 3) := by decide +kernel
theorem dX8_scan_81 : decode cX8_scan 81 = .ok (.iload 5, 2) := by decide +kernel
theorem dX8_scan_83 : decode cX8_scan 83 = .ok (.bipush 32, 2) := by decide +kernel
theorem dX8_scan_85 : decode cX8_scan 85 = .ok (.if_icmp .eq 20, 3) := by decide +kernel
theorem dX8_scan_88 : decode cX8_scan 88 = .ok (.iload 5, 2) := by decide +kernel
theorem dX8_scan_90 : decode cX8_scan 90 = .ok (.bipush 10, 2) := by decide +kernel
theorem dX8_scan_92 : decode cX8_scan 92 = .ok (.if_icmp .eq 13, 3) := by decide +kernel
theorem dX8_scan_95 : decode cX8_scan 95 = .ok (.aload_n 0, 1) := by decide +kernel
theorem dX8_scan_96 : decode cX8_scan 96 = .ok (.iconst 4, 1) := by decide +kernel
theorem dX8_scan_97 : decode cX8_scan 97 = .ok (.iload_n 2, 1) := by decide +kernel
theorem dX8_scan_98 : decode cX8_scan 98 = .ok (.iconst 1, 1) := by decide +kernel
theorem dX8_scan_99 : decode cX8_scan 99 = .ok (.iload 5, 2) := by decide +kernel
theorem dX8_scan_101 : decode cX8_scan 101 = .ok (.i2l, 1) := by decide +kernel
theorem dX8_scan_102 : decode cX8_scan 102 = .ok (.invokevirtual 66, 3) := by decide +kernel
theorem dX8_scan_105 : decode cX8_scan 105 = .ok (.iinc 2 1, 3) := by decide +kernel
theorem dX8_scan_108 : decode cX8_scan 108 = .ok (.iinc 4 1, 3) := by decide +kernel
theorem dX8_scan_111 : decode cX8_scan 111 = .ok (.goto (-88), 3) := by decide +kernel
theorem dX8_scan_114 : decode cX8_scan 114 = .ok (.aload_n 0, 1) := by decide +kernel
theorem dX8_scan_115 : decode cX8_scan 115 = .ok (.iconst 0, 1) := by decide +kernel
theorem dX8_scan_116 : decode cX8_scan 116 = .ok (.iload_n 3, 1) := by decide +kernel
theorem dX8_scan_117 : decode cX8_scan 117 = .ok (.iconst 0, 1) := by decide +kernel
theorem dX8_scan_118 : decode cX8_scan 118 = .ok (.lconst 0, 1) := by decide +kernel
theorem dX8_scan_119 : decode cX8_scan 119 = .ok (.invokevirtual 66, 3) := by decide +kernel
theorem dX8_scan_122 : decode cX8_scan 122 = .ok (.return_, 1) := by decide +kernel
def F_X8_scan_114 (v3 : Int32) (s0 : ae_S) : Option (Unit × ae_S) := ae_bd (F_X8_addToken (0 : Int32) v3 (0 : Int32) (0 : Int64) s0) (fun (r1 : Unit) s2 => some ((), s2))
set_option maxHeartbeats 4000000 in
set_option maxRecDepth 100000 in
theorem t_X8_scan_114 {l : Launch} {G : ae_G} (d : Nat) {rr : Unit} {ss : ae_S} (v3 : Int32) (s0 : ae_S) (hF : F_X8_scan_114 v3 s0 = some (rr, ss)) : ae_T l G (d + 8) mX8_scan (ae_Po none ss) 114 [(0, ae_r (some (12, 0))), (3, ae_i v3)] [] s0 := by
  unfold F_X8_scan_114 at hF
  refine ae_aload_n 0 dX8_scan_114 rfl ?_
  refine ae_iconst (0 : Int32) dX8_scan_115 (by decide) ?_
  refine ae_iload_n 1 dX8_scan_116 rfl ?_
  refine ae_iconst (0 : Int32) dX8_scan_117 (by decide) ?_
  refine ae_lconst (0 : Int64) dX8_scan_118 (by decide) ?_
  obtain ⟨r1, s2, hc3, hF4⟩ := ae_bdI hF
  refine ae_cV0 (q := (12, 0)) (As := [ae_i (0 : Int32), ae_i v3, ae_i (0 : Int32), ae_l (0 : Int64)]) dX8_scan_119 ww_396 vy_X8_addToken rfl rfl rfl rfl rfl (Nat.le_of_ble_eq_true rfl) (c_X8_addToken (d + 7) hc3) ?_
  obtain ⟨rfl, rfl⟩ := ae_retI hF4
  exact ae_vret dX8_scan_122 rfl ⟨rfl, rfl⟩
def F_X8_scan_108 (k23 : Int32 → Int32 → Int32 → Int32 → ae_S → Option (Unit × ae_S)) (v1 : Int32) (v2 : Int32) (v3 : Int32) (v4 : Int32) (s0 : ae_S) : Option (Unit × ae_S) := ae_lt (v4 + (1 : Int32)) (fun x5 => k23 v1 v2 v3 x5 s0)
set_option maxHeartbeats 4000000 in
set_option maxRecDepth 100000 in
theorem t_X8_scan_108 {l : Launch} {G : ae_G} (d : Nat) (k23 : Int32 → Int32 → Int32 → Int32 → ae_S → Option (Unit × ae_S)) {rr : Unit} {ss : ae_S} (hk23 : ∀ (v1 : Int32) (v2 : Int32) (v3 : Int32) (v4 : Int32) (s0 : ae_S), k23 v1 v2 v3 v4 s0 = some (rr, ss) → ae_T l G (d + 8) mX8_scan (ae_Po none ss) 23 [(0, ae_r (some (12, 0))), (1, ae_i v1), (2, ae_i v2), (3, ae_i v3), (4, ae_i v4)] [] s0) (v1 : Int32) (v2 : Int32) (v3 : Int32) (v4 : Int32) (s0 : ae_S) (hF : F_X8_scan_108 k23 v1 v2 v3 v4 s0 = some (rr, ss)) : ae_T l G (d + 8) mX8_scan (ae_Po none ss) 108 [(0, ae_r (some (12, 0))), (1, ae_i v1), (2, ae_i v2), (3, ae_i v3), (4, ae_i v4)] [] s0 := by
  unfold F_X8_scan_108 at hF
  obtain ⟨x5, hx5, hF6⟩ := ae_ltI hF
  refine ae_iinc (lv' := [(4, ae_i x5), (0, ae_r (some (12, 0))), (1, ae_i v1), (2, ae_i v2), (3, ae_i v3)]) 4 (1 : Int32) dX8_scan_108 rfl (by decide) (by decide) (by rw [hx5]; rfl) ?_
  refine ae_goto 23 dX8_scan_111 rfl ?_
  refine ae_pick (lv' := [(0, ae_r (some (12, 0))), (1, ae_i v1), (2, ae_i v2), (3, ae_i v3), (4, ae_i x5)]) [1, 2, 3, 4, 0] rfl ?_
  exact hk23 v1 v2 v3 x5 s0 hF6
def F_X8_scan_105 (k23 : Int32 → Int32 → Int32 → Int32 → ae_S → Option (Unit × ae_S)) (v1 : Int32) (v2 : Int32) (v3 : Int32) (v4 : Int32) (s0 : ae_S) : Option (Unit × ae_S) := ae_lt (v2 + (1 : Int32)) (fun x7 => F_X8_scan_108 k23 v1 x7 v3 v4 s0)
set_option maxHeartbeats 4000000 in
set_option maxRecDepth 100000 in
theorem t_X8_scan_105 {l : Launch} {G : ae_G} (d : Nat) (k23 : Int32 → Int32 → Int32 → Int32 → ae_S → Option (Unit × ae_S)) {rr : Unit} {ss : ae_S} (hk23 : ∀ (v1 : Int32) (v2 : Int32) (v3 : Int32) (v4 : Int32) (s0 : ae_S), k23 v1 v2 v3 v4 s0 = some (rr, ss) → ae_T l G (d + 8) mX8_scan (ae_Po none ss) 23 [(0, ae_r (some (12, 0))), (1, ae_i v1), (2, ae_i v2), (3, ae_i v3), (4, ae_i v4)] [] s0) (v1 : Int32) (v2 : Int32) (v3 : Int32) (v4 : Int32) (s0 : ae_S) (hF : F_X8_scan_105 k23 v1 v2 v3 v4 s0 = some (rr, ss)) : ae_T l G (d + 8) mX8_scan (ae_Po none ss) 105 [(0, ae_r (some (12, 0))), (1, ae_i v1), (2, ae_i v2), (3, ae_i v3), (4, ae_i v4)] [] s0 := by
  unfold F_X8_scan_105 at hF
  obtain ⟨x7, hx7, hF8⟩ := ae_ltI hF
  refine ae_iinc (lv' := [(2, ae_i x7), (0, ae_r (some (12, 0))), (1, ae_i v1), (3, ae_i v3), (4, ae_i v4)]) 2 (1 : Int32) dX8_scan_105 rfl (by decide) (by decide) (by rw [hx7]; rfl) ?_
  refine ae_pick (lv' := [(0, ae_r (some (12, 0))), (1, ae_i v1), (2, ae_i x7), (3, ae_i v3), (4, ae_i v4)]) [1, 2, 0, 3, 4] rfl ?_
  exact t_X8_scan_108 d k23 hk23 v1 x7 v3 v4 s0 hF8
def F_X8_scan_23 : Nat → Int32 → Int32 → Int32 → Int32 → ae_S → Option (Unit × ae_S)
  | 0, _, _, _, _, _ => none
  | n + 1, v1, v2, v3, v4, s0 => if (500 : Int32) ≤ v4 then (F_X8_scan_114 v3 s0) else (if v3 ≤ v2 then (F_X8_scan_114 v3 s0) else (ae_bd (F_X7_get (0 : Fin 32) v2 s0) (fun (r13 : Int32) s14 => ae_bd (F_X8_isLetter r13 s14) (fun (r17 : Int32) s18 => if r17 = 0 then (ae_bd (F_X8_isDigit r13 s18) (fun (r23 : Int32) s24 => if r23 = 0 then (if r13 = (32 : Int32) then (F_X8_scan_105 (F_X8_scan_23 n) v1 v2 v3 v4 s24) else (if r13 = (10 : Int32) then (F_X8_scan_105 (F_X8_scan_23 n) v1 v2 v3 v4 s24) else (ae_bd (F_X8_addToken (4 : Int32) v2 (1 : Int32) r13.toInt64 s24) (fun (r33 : Unit) s34 => F_X8_scan_105 (F_X8_scan_23 n) v1 v2 v3 v4 s34)))) else (ae_bd (F_X8_addNumberFrom v2 v1 s24) (fun (r37 : Int32) s38 => F_X8_scan_108 (F_X8_scan_23 n) v1 r37 v3 v4 s38)))) else (ae_bd (F_X8_addWordFrom v2 s18) (fun (r41 : Int32) s42 => F_X8_scan_108 (F_X8_scan_23 n) v1 r41 v3 v4 s42))))))
set_option maxHeartbeats 4000000 in
set_option maxRecDepth 100000 in
theorem t_X8_scan_23 {l : Launch} {G : ae_G} (d : Nat) {rr : Unit} {ss : ae_S} : ∀ (n : Nat) (v1 : Int32) (v2 : Int32) (v3 : Int32) (v4 : Int32) (s0 : ae_S), F_X8_scan_23 n v1 v2 v3 v4 s0 = some (rr, ss) → ae_T l G (d + 8) mX8_scan (ae_Po none ss) 23 [(0, ae_r (some (12, 0))), (1, ae_i v1), (2, ae_i v2), (3, ae_i v3), (4, ae_i v4)] [] s0 := by
  intro n
  induction n with
  | zero =>
    intro v1 v2 v3 v4 s0 hF
    exact absurd (show (none : Option (Unit × ae_S)) = some (rr, ss) from hF) (by simp)
  | succ n ih =>
    intro v1 v2 v3 v4 s0 hF
    unfold F_X8_scan_23 at hF
    refine ae_iload 4 dX8_scan_23 rfl ?_
    refine ae_sipush (500 : Int32) dX8_scan_25 (by decide) ?_
    refine ae_icmp_ge 114 dX8_scan_28 rfl (fun hb9 => ?_) (fun hb9 => ?_)
    · have hF10 := ae_ifT hb9 hF
      refine ae_pick (lv' := [(0, ae_r (some (12, 0))), (3, ae_i v3)]) [0, 3] rfl ?_
      exact t_X8_scan_114 d v3 s0 hF10
    · have hF10 := ae_ifF hb9 hF
      refine ae_iload_n 2 dX8_scan_31 rfl ?_
      refine ae_iload_n 3 dX8_scan_32 rfl ?_
      refine ae_icmp_ge 114 dX8_scan_33 rfl (fun hb11 => ?_) (fun hb11 => ?_)
      · have hF12 := ae_ifT hb11 hF10
        refine ae_pick (lv' := [(0, ae_r (some (12, 0))), (3, ae_i v3)]) [0, 3] rfl ?_
        exact t_X8_scan_114 d v3 s0 hF12
      · have hF12 := ae_ifF hb11 hF10
        refine ae_aload_n 0 dX8_scan_36 rfl ?_
        refine ae_getO (q := (12, 0)) (some (1, 0)) dX8_scan_37 fl_RX8_9 rfl rfl rfl ?_
        refine ae_iload_n 2 dX8_scan_40 rfl ?_
        obtain ⟨r13, s14, hc15, hF16⟩ := ae_bdI hF12
        refine ae_cV1 (q := (1, 0)) (As := [ae_i v2]) dX8_scan_41 ww_379 vy_X7_get rfl rfl rfl rfl rfl (Nat.le_of_ble_eq_true rfl) (c_X7_get (d + 7) hc15) ?_
        refine ae_istore (lv' := [(5, ae_i r13), (0, ae_r (some (12, 0))), (1, ae_i v1), (2, ae_i v2), (3, ae_i v3), (4, ae_i v4)]) dX8_scan_44 (by decide) rfl ?_
        refine ae_iload 0 dX8_scan_46 rfl ?_
        obtain ⟨r17, s18, hc19, hF20⟩ := ae_bdI hF16
        refine ae_cS1 (As := [ae_i r13]) dX8_scan_48 ww_383 vy_X8_isLetter rfl rfl (Nat.le_of_ble_eq_true rfl) (c_X8_isLetter (d + 7) hc19) ?_
        refine ae_if_eq 63 dX8_scan_51 rfl (fun hb21 => ?_) (fun hb21 => ?_)
        · have hF22 := ae_ifT hb21 hF20
          refine ae_iload 0 dX8_scan_63 rfl ?_
          obtain ⟨r23, s24, hc25, hF26⟩ := ae_bdI hF22
          refine ae_cS1 (As := [ae_i r13]) dX8_scan_65 ww_393 vy_X8_isDigit rfl rfl (Nat.le_of_ble_eq_true rfl) (c_X8_isDigit (d + 7) hc25) ?_
          refine ae_if_eq 81 dX8_scan_68 rfl (fun hb27 => ?_) (fun hb27 => ?_)
          · have hF28 := ae_ifT hb27 hF26
            refine ae_iload 0 dX8_scan_81 rfl ?_
            refine ae_bipush (32 : Int32) dX8_scan_83 (by decide) ?_
            refine ae_icmp_eq 105 dX8_scan_85 rfl (fun hb29 => ?_) (fun hb29 => ?_)
            · have hF30 := ae_ifT hb29 hF28
              refine ae_pick (lv' := [(0, ae_r (some (12, 0))), (1, ae_i v1), (2, ae_i v2), (3, ae_i v3), (4, ae_i v4)]) [1, 2, 3, 4, 5] rfl ?_
              exact t_X8_scan_105 d (F_X8_scan_23 n) ih v1 v2 v3 v4 s24 hF30
            · have hF30 := ae_ifF hb29 hF28
              refine ae_iload 0 dX8_scan_88 rfl ?_
              refine ae_bipush (10 : Int32) dX8_scan_90 (by decide) ?_
              refine ae_icmp_eq 105 dX8_scan_92 rfl (fun hb31 => ?_) (fun hb31 => ?_)
              · have hF32 := ae_ifT hb31 hF30
                refine ae_pick (lv' := [(0, ae_r (some (12, 0))), (1, ae_i v1), (2, ae_i v2), (3, ae_i v3), (4, ae_i v4)]) [1, 2, 3, 4, 5] rfl ?_
                exact t_X8_scan_105 d (F_X8_scan_23 n) ih v1 v2 v3 v4 s24 hF32
              · have hF32 := ae_ifF hb31 hF30
                refine ae_aload_n 1 dX8_scan_95 rfl ?_
                refine ae_iconst (4 : Int32) dX8_scan_96 (by decide) ?_
                refine ae_iload_n 3 dX8_scan_97 rfl ?_
                refine ae_iconst (1 : Int32) dX8_scan_98 (by decide) ?_
                refine ae_iload 0 dX8_scan_99 rfl ?_
                refine ae_i2l dX8_scan_101 ?_
                obtain ⟨r33, s34, hc35, hF36⟩ := ae_bdI hF32
                refine ae_cV0 (q := (12, 0)) (As := [ae_i (4 : Int32), ae_i v2, ae_i (1 : Int32), ae_l r13.toInt64]) dX8_scan_102 ww_396 vy_X8_addToken rfl rfl rfl rfl rfl (Nat.le_of_ble_eq_true rfl) (c_X8_addToken (d + 7) hc35) ?_
                refine ae_pick (lv' := [(0, ae_r (some (12, 0))), (1, ae_i v1), (2, ae_i v2), (3, ae_i v3), (4, ae_i v4)]) [1, 2, 3, 4, 5] rfl ?_
                exact t_X8_scan_105 d (F_X8_scan_23 n) ih v1 v2 v3 v4 s34 hF36
          · have hF28 := ae_ifF hb27 hF26
            refine ae_aload_n 1 dX8_scan_71 rfl ?_
            refine ae_iload_n 3 dX8_scan_72 rfl ?_
            refine ae_iload_n 2 dX8_scan_73 rfl ?_
            obtain ⟨r37, s38, hc39, hF40⟩ := ae_bdI hF28
            refine ae_cV1 (q := (12, 0)) (As := [ae_i v2, ae_i v1]) dX8_scan_74 ww_468 vy_X8_addNumberFrom rfl rfl rfl rfl rfl (Nat.le_of_ble_eq_true rfl) (c_X8_addNumberFrom (d + 6) hc39) ?_
            refine ae_istore_n (lv' := [(2, ae_i r37), (5, ae_i r13), (0, ae_r (some (12, 0))), (1, ae_i v1), (3, ae_i v3), (4, ae_i v4)]) dX8_scan_77 (by decide) rfl ?_
            refine ae_goto 108 dX8_scan_78 rfl ?_
            refine ae_pick (lv' := [(0, ae_r (some (12, 0))), (1, ae_i v1), (2, ae_i r37), (3, ae_i v3), (4, ae_i v4)]) [2, 3, 0, 4, 5] rfl ?_
            exact t_X8_scan_108 d (F_X8_scan_23 n) ih v1 r37 v3 v4 s38 hF40
        · have hF22 := ae_ifF hb21 hF20
          refine ae_aload_n 1 dX8_scan_54 rfl ?_
          refine ae_iload_n 3 dX8_scan_55 rfl ?_
          obtain ⟨r41, s42, hc43, hF44⟩ := ae_bdI hF22
          refine ae_cV1 (q := (12, 0)) (As := [ae_i v2]) dX8_scan_56 ww_386 vy_X8_addWordFrom rfl rfl rfl rfl rfl (Nat.le_of_ble_eq_true rfl) (c_X8_addWordFrom d hc43) ?_
          refine ae_istore_n (lv' := [(2, ae_i r41), (5, ae_i r13), (0, ae_r (some (12, 0))), (1, ae_i v1), (3, ae_i v3), (4, ae_i v4)]) dX8_scan_59 (by decide) rfl ?_
          refine ae_goto 108 dX8_scan_60 rfl ?_
          refine ae_pick (lv' := [(0, ae_r (some (12, 0))), (1, ae_i v1), (2, ae_i r41), (3, ae_i v3), (4, ae_i v4)]) [2, 3, 0, 4, 5] rfl ?_
          exact t_X8_scan_108 d (F_X8_scan_23 n) ih v1 r41 v3 v4 s42 hF44
def F_X8_scan (v1 : Int32) (s0 : ae_S) : Option (Unit × ae_S) := ae_lt (ae_wI s0 12 0 5 (0 : Int32)) (fun s45 => ae_lt (ae_wI s45 12 0 6 (0 : Int32)) (fun s47 => ae_bd (F_X7_length (0 : Fin 32) s47) (fun (r49 : Int32) s50 => F_X8_scan_23 ae_fu v1 (0 : Int32) r49 (0 : Int32) s50)))
set_option maxHeartbeats 4000000 in
set_option maxRecDepth 100000 in
theorem c_X8_scan {l : Launch} {G : ae_G} (d : Nat) {v1 : Int32} {s0 ss : ae_S} {rr : Unit} (hF : F_X8_scan v1 s0 = some (rr, ss)) : ae_Met l G (d + 8) yX8_scan mX8_scan [ae_r (some (12, 0)), ae_i v1] s0 (ae_Po none ss) := by
  refine ae_enter (by decide) rfl (Nat.le_of_ble_eq_true rfl) ?_
  show ae_T l G (d + 8) mX8_scan (ae_Po none ss) 0 [(0, ae_r (some (12, 0))), (1, ae_i v1)] [] s0
  unfold F_X8_scan at hF
  refine ae_aload_n 0 dX8_scan_0 rfl ?_
  refine ae_iconst (0 : Int32) dX8_scan_1 (by decide) ?_
  obtain ⟨s45, hs45, hF46⟩ := ae_ltI hF
  refine ae_putI (q := (12, 0)) dX8_scan_2 fl_RX8_36 rfl rfl (ae_nmS hs45 ?_)
  refine ae_aload_n 0 dX8_scan_5 rfl ?_
  refine ae_iconst (0 : Int32) dX8_scan_6 (by decide) ?_
  obtain ⟨s47, hs47, hF48⟩ := ae_ltI hF46
  refine ae_putI (q := (12, 0)) dX8_scan_7 fl_RX8_39 rfl rfl (ae_nmS hs47 ?_)
  refine ae_iconst (0 : Int32) dX8_scan_10 (by decide) ?_
  refine ae_istore_n (lv' := [(2, ae_i (0 : Int32)), (0, ae_r (some (12, 0))), (1, ae_i v1)]) dX8_scan_11 (by decide) rfl ?_
  refine ae_aload_n 1 dX8_scan_12 rfl ?_
  refine ae_getO (q := (12, 0)) (some (1, 0)) dX8_scan_13 fl_RX8_9 rfl rfl rfl ?_
  obtain ⟨r49, s50, hc51, hF52⟩ := ae_bdI hF48
  refine ae_cV1 (q := (1, 0)) (As := []) dX8_scan_16 ww_378 vy_X7_length rfl rfl rfl rfl rfl (Nat.le_of_ble_eq_true rfl) (c_X7_length (d + 7) hc51) ?_
  refine ae_istore_n (lv' := [(3, ae_i r49), (2, ae_i (0 : Int32)), (0, ae_r (some (12, 0))), (1, ae_i v1)]) dX8_scan_19 (by decide) rfl ?_
  refine ae_iconst (0 : Int32) dX8_scan_20 (by decide) ?_
  refine ae_istore (lv' := [(4, ae_i (0 : Int32)), (3, ae_i r49), (2, ae_i (0 : Int32)), (0, ae_r (some (12, 0))), (1, ae_i v1)]) dX8_scan_21 (by decide) rfl ?_
  refine ae_pick (lv' := [(0, ae_r (some (12, 0))), (1, ae_i v1), (2, ae_i (0 : Int32)), (3, ae_i r49), (4, ae_i (0 : Int32))]) [3, 4, 2, 1, 0] rfl ?_
  exact t_X8_scan_23 d ae_fu v1 (0 : Int32) r49 (0 : Int32) s50 hF52
abbrev mX8_isType : ae_M := (RX8, cX8_isType, 2, some .boolean)
theorem vy_X8_isType : ae_VY yX8_isType mX8_isType 1 := ⟨ww_491, wq_3, ww_8, ww_492, ⟨by decide, by decide, by decide +kernel⟩, by decide⟩
theorem dX8_isType_0 : decode cX8_isType 0 = .ok (.aload_n 0, 1) := by decide +kernel
theorem dX8_isType_1 : decode cX8_isType 1 = .ok (.getfield 39, 3) := by decide +kernel
theorem dX8_isType_4 : decode cX8_isType 4 = .ok (.aload_n 0, 1) := by decide +kernel
theorem dX8_isType_5 : decode cX8_isType 5 = .ok (.getfield 15, 3) := by decide +kernel
theorem dX8_isType_8 : decode cX8_isType 8 = .ok (.arraylength, 1) := by decide +kernel
theorem dX8_isType_9 : decode cX8_isType 9 = .ok (.if_icmp .ge 20, 3) := by decide +kernel
theorem dX8_isType_12 : decode cX8_isType 12 = .ok (.aload_n 0, 1) := by decide +kernel
theorem dX8_isType_13 : decode cX8_isType 13 = .ok (.getfield 15, 3) := by decide +kernel
theorem dX8_isType_16 : decode cX8_isType 16 = .ok (.aload_n 0, 1) := by decide +kernel
theorem dX8_isType_17 : decode cX8_isType 17 = .ok (.getfield 39, 3) := by decide +kernel
theorem dX8_isType_20 : decode cX8_isType 20 = .ok (.iaload, 1) := by decide +kernel
theorem dX8_isType_21 : decode cX8_isType 21 = .ok (.iload_n 1, 1) := by decide +kernel
theorem dX8_isType_22 : decode cX8_isType 22 = .ok (.if_icmp .ne 7, 3) := by decide +kernel
theorem dX8_isType_25 : decode cX8_isType 25 = .ok (.iconst 1, 1) := by decide +kernel
theorem dX8_isType_26 : decode cX8_isType 26 = .ok (.goto 4, 3) := by decide +kernel
theorem dX8_isType_29 : decode cX8_isType 29 = .ok (.iconst 0, 1) := by decide +kernel
theorem dX8_isType_30 : decode cX8_isType 30 = .ok (.ireturn, 1) := by decide +kernel
def F_X8_isType_30 (t0 : Int32) (s0 : ae_S) : Option (Int32 × ae_S) := ae_gd (ae_zz t0) (some (t0, s0))
set_option maxHeartbeats 4000000 in
set_option maxRecDepth 100000 in
theorem t_X8_isType_30 {l : Launch} {G : ae_G} (d : Nat) {rr : Int32} {ss : ae_S} (t0 : Int32) (s0 : ae_S) (hF : F_X8_isType_30 t0 s0 = some (rr, ss)) : ae_T l G d mX8_isType (ae_Po (some (ae_i rr)) ss) 30 [] [ae_i t0] s0 := by
  unfold F_X8_isType_30 at hF
  obtain ⟨hg1, hF2⟩ := ae_gdI hF
  obtain ⟨rfl, rfl⟩ := ae_retI hF2
  exact ae_iret dX8_isType_30 rfl (ae_zzN (ae_zzI hg1)) ⟨rfl, rfl⟩
def F_X8_isType_29 (s0 : ae_S) : Option (Int32 × ae_S) := F_X8_isType_30 (0 : Int32) s0
set_option maxHeartbeats 4000000 in
set_option maxRecDepth 100000 in
theorem t_X8_isType_29 {l : Launch} {G : ae_G} (d : Nat) {rr : Int32} {ss : ae_S} (s0 : ae_S) (hF : F_X8_isType_29 s0 = some (rr, ss)) : ae_T l G d mX8_isType (ae_Po (some (ae_i rr)) ss) 29 [] [] s0 := by
  unfold F_X8_isType_29 at hF
  refine ae_iconst (0 : Int32) dX8_isType_29 (by decide) ?_
  refine ae_pick (lv' := []) [] rfl ?_
  exact t_X8_isType_30 d (0 : Int32) s0 hF
def F_X8_isType (v1 : Int32) (s0 : ae_S) : Option (Int32 × ae_S) := if (501 : Int32) ≤ (s0.1 12 0 6) then (F_X8_isType_29 s0) else (ae_gd (ae_ib (s0.1 12 0 6) 501) (if (s0.1 13 0 (s0.1 12 0 6).toNatClampNeg) = v1 then (F_X8_isType_30 (1 : Int32) s0) else (F_X8_isType_29 s0)))
set_option maxHeartbeats 4000000 in
set_option maxRecDepth 100000 in
theorem c_X8_isType {l : Launch} {G : ae_G} (d : Nat) {v1 : Int32} {s0 ss : ae_S} {rr : Int32} (hF : F_X8_isType v1 s0 = some (rr, ss)) : ae_Met l G d yX8_isType mX8_isType [ae_r (some (12, 0)), ae_i v1] s0 (ae_Po (some (ae_i rr)) ss) := by
  refine ae_enter (by decide) rfl (Nat.le_of_ble_eq_true rfl) ?_
  show ae_T l G d mX8_isType (ae_Po (some (ae_i rr)) ss) 0 [(0, ae_r (some (12, 0))), (1, ae_i v1)] [] s0
  unfold F_X8_isType at hF
  refine ae_aload_n 0 dX8_isType_0 rfl ?_
  refine ae_getI (q := (12, 0)) dX8_isType_1 fl_RX8_39 rfl rfl ?_
  refine ae_aload_n 0 dX8_isType_4 rfl ?_
  refine ae_getA (q := (12, 0)) (some (13, 0)) dX8_isType_5 fl_RX8_15 rfl rfl rfl ?_
  refine ae_alen (q := (13, 0)) (501 : Int32) dX8_isType_8 rfl rfl (by simp [ae_at]) (by decide) ?_
  refine ae_icmp_ge 29 dX8_isType_9 rfl (fun hb3 => ?_) (fun hb3 => ?_)
  · have hF4 := ae_ifT hb3 hF
    refine ae_pick (lv' := []) [] rfl ?_
    exact t_X8_isType_29 d s0 hF4
  · have hF4 := ae_ifF hb3 hF
    refine ae_aload_n 0 dX8_isType_12 rfl ?_
    refine ae_getA (q := (12, 0)) (some (13, 0)) dX8_isType_13 fl_RX8_15 rfl rfl rfl ?_
    refine ae_aload_n 0 dX8_isType_16 rfl ?_
    refine ae_getI (q := (12, 0)) dX8_isType_17 fl_RX8_39 rfl rfl ?_
    obtain ⟨hg5, hF6⟩ := ae_gdI hF4
    refine ae_iald (q := (13, 0)) dX8_isType_20 rfl rfl (ae_ibI hg5) ?_
    refine ae_iload_n 1 dX8_isType_21 rfl ?_
    refine ae_icmp_ne 29 dX8_isType_22 rfl (fun hb7 => ?_) (fun hb7 => ?_)
    · have hF8 := ae_ifF hb7 hF6
      refine ae_pick (lv' := []) [] rfl ?_
      exact t_X8_isType_29 d s0 hF8
    · have hF8 := ae_ifT hb7 hF6
      refine ae_iconst (1 : Int32) dX8_isType_25 (by decide) ?_
      refine ae_goto 30 dX8_isType_26 rfl ?_
      refine ae_pick (lv' := []) [] rfl ?_
      exact t_X8_isType_30 d (1 : Int32) s0 hF8
abbrev mX8_isEnd : ae_M := (RX8, cX8_isEnd, 1, some .boolean)
theorem vy_X8_isEnd : ae_VY yX8_isEnd mX8_isEnd 0 := ⟨ww_486, ww_487, ww_8, ww_488, ⟨by decide, by decide, by decide +kernel⟩, by decide⟩
theorem dX8_isEnd_0 : decode cX8_isEnd 0 = .ok (.aload_n 0, 1) := by decide +kernel
theorem dX8_isEnd_1 : decode cX8_isEnd 1 = .ok (.iconst 0, 1) := by decide +kernel
theorem dX8_isEnd_2 : decode cX8_isEnd 2 = .ok (.invokevirtual 122, 3) := by decide +kernel
theorem dX8_isEnd_5 : decode cX8_isEnd 5 = .ok (.ireturn, 1) := by decide +kernel
def F_X8_isEnd (s0 : ae_S) : Option (Int32 × ae_S) := ae_bd (F_X8_isType (0 : Int32) s0) (fun (r1 : Int32) s2 => ae_gd (ae_zz r1) (some (r1, s2)))
set_option maxHeartbeats 4000000 in
set_option maxRecDepth 100000 in
theorem c_X8_isEnd {l : Launch} {G : ae_G} (d : Nat) {s0 ss : ae_S} {rr : Int32} (hF : F_X8_isEnd s0 = some (rr, ss)) : ae_Met l G (d + 1) yX8_isEnd mX8_isEnd [ae_r (some (12, 0))] s0 (ae_Po (some (ae_i rr)) ss) := by
  refine ae_enter (by decide) rfl (Nat.le_of_ble_eq_true rfl) ?_
  show ae_T l G (d + 1) mX8_isEnd (ae_Po (some (ae_i rr)) ss) 0 [(0, ae_r (some (12, 0)))] [] s0
  unfold F_X8_isEnd at hF
  refine ae_aload_n 0 dX8_isEnd_0 rfl ?_
  refine ae_iconst (0 : Int32) dX8_isEnd_1 (by decide) ?_
  obtain ⟨r1, s2, hc3, hF4⟩ := ae_bdI hF
  refine ae_cV1 (q := (12, 0)) (As := [ae_i (0 : Int32)]) dX8_isEnd_2 ww_489 vy_X8_isType rfl rfl rfl rfl rfl (Nat.le_of_ble_eq_true rfl) (c_X8_isType d hc3) ?_
  obtain ⟨hg5, hF6⟩ := ae_gdI hF4
  obtain ⟨rfl, rfl⟩ := ae_retI hF6
  exact ae_iret dX8_isEnd_5 rfl (ae_zzN (ae_zzI hg5)) ⟨rfl, rfl⟩
abbrev mX8_isName : ae_M := (RX8, cX8_isName, 1, some .boolean)
theorem vy_X8_isName : ae_VY yX8_isName mX8_isName 0 := ⟨ww_502, ww_503, ww_8, ww_504, ⟨by decide, by decide, by decide +kernel⟩, by decide⟩
theorem dX8_isName_0 : decode cX8_isName 0 = .ok (.aload_n 0, 1) := by decide +kernel
theorem dX8_isName_1 : decode cX8_isName 1 = .ok (.iconst 1, 1) := by decide +kernel
theorem dX8_isName_2 : decode cX8_isName 2 = .ok (.invokevirtual 122, 3) := by decide +kernel
theorem dX8_isName_5 : decode cX8_isName 5 = .ok (.ireturn, 1) := by decide +kernel
def F_X8_isName (s0 : ae_S) : Option (Int32 × ae_S) := ae_bd (F_X8_isType (1 : Int32) s0) (fun (r1 : Int32) s2 => ae_gd (ae_zz r1) (some (r1, s2)))
set_option maxHeartbeats 4000000 in
set_option maxRecDepth 100000 in
theorem c_X8_isName {l : Launch} {G : ae_G} (d : Nat) {s0 ss : ae_S} {rr : Int32} (hF : F_X8_isName s0 = some (rr, ss)) : ae_Met l G (d + 1) yX8_isName mX8_isName [ae_r (some (12, 0))] s0 (ae_Po (some (ae_i rr)) ss) := by
  refine ae_enter (by decide) rfl (Nat.le_of_ble_eq_true rfl) ?_
  show ae_T l G (d + 1) mX8_isName (ae_Po (some (ae_i rr)) ss) 0 [(0, ae_r (some (12, 0)))] [] s0
  unfold F_X8_isName at hF
  refine ae_aload_n 0 dX8_isName_0 rfl ?_
  refine ae_iconst (1 : Int32) dX8_isName_1 (by decide) ?_
  obtain ⟨r1, s2, hc3, hF4⟩ := ae_bdI hF
  refine ae_cV1 (q := (12, 0)) (As := [ae_i (1 : Int32)]) dX8_isName_2 ww_489 vy_X8_isType rfl rfl rfl rfl rfl (Nat.le_of_ble_eq_true rfl) (c_X8_isType d hc3) ?_
  obtain ⟨hg5, hF6⟩ := ae_gdI hF4
  obtain ⟨rfl, rfl⟩ := ae_retI hF6
  exact ae_iret dX8_isName_5 rfl (ae_zzN (ae_zzI hg5)) ⟨rfl, rfl⟩
abbrev mX8_refuse : ae_M := (RX8, cX8_refuse, 2, some .boolean)
theorem vy_X8_refuse : ae_VY yX8_refuse mX8_refuse 1 := ⟨ww_506, ww_507, ww_8, ww_508, ⟨by decide, by decide, by decide +kernel⟩, by decide⟩
theorem dX8_refuse_0 : decode cX8_refuse 0 = .ok (.aload_n 0, 1) := by decide +kernel
theorem dX8_refuse_1 : decode cX8_refuse 1 = .ok (.iload_n 1, 1) := by decide +kernel
theorem dX8_refuse_2 : decode cX8_refuse 2 = .ok (.putfield 33, 3) := by decide +kernel
theorem dX8_refuse_5 : decode cX8_refuse 5 = .ok (.aload_n 0, 1) := by decide +kernel
theorem dX8_refuse_6 : decode cX8_refuse 6 = .ok (.aload_n 0, 1) := by decide +kernel
theorem dX8_refuse_7 : decode cX8_refuse 7 = .ok (.getfield 39, 3) := by decide +kernel
theorem dX8_refuse_10 : decode cX8_refuse 10 = .ok (.aload_n 0, 1) := by decide +kernel
theorem dX8_refuse_11 : decode cX8_refuse 11 = .ok (.getfield 19, 3) := by decide +kernel
theorem dX8_refuse_14 : decode cX8_refuse 14 = .ok (.arraylength, 1) := by decide +kernel
theorem dX8_refuse_15 : decode cX8_refuse 15 = .ok (.if_icmp .ge 15, 3) := by decide +kernel
theorem dX8_refuse_18 : decode cX8_refuse 18 = .ok (.aload_n 0, 1) := by decide +kernel
theorem dX8_refuse_19 : decode cX8_refuse 19 = .ok (.getfield 19, 3) := by decide +kernel
theorem dX8_refuse_22 : decode cX8_refuse 22 = .ok (.aload_n 0, 1) := by decide +kernel
theorem dX8_refuse_23 : decode cX8_refuse 23 = .ok (.getfield 39, 3) := by decide +kernel
theorem dX8_refuse_26 : decode cX8_refuse 26 = .ok (.iaload, 1) := by decide +kernel
theorem dX8_refuse_27 : decode cX8_refuse 27 = .ok (.goto 4, 3) := by decide +kernel
theorem dX8_refuse_30 : decode cX8_refuse 30 = .ok (.iconst (-1), 1) := by decide +kernel
theorem dX8_refuse_31 : decode cX8_refuse 31 = .ok (.putfield 29, 3) := by decide +kernel
theorem dX8_refuse_34 : decode cX8_refuse 34 = .ok (.iconst 0, 1) := by decide +kernel
theorem dX8_refuse_35 : decode cX8_refuse 35 = .ok (.ireturn, 1) := by decide +kernel
def F_X8_refuse_31 (t0 : Int32) (s0 : ae_S) : Option (Int32 × ae_S) := ae_lt (ae_wI s0 12 0 8 t0) (fun s1 => some ((0 : Int32), s1))
set_option maxHeartbeats 4000000 in
set_option maxRecDepth 100000 in
theorem t_X8_refuse_31 {l : Launch} {G : ae_G} (d : Nat) {rr : Int32} {ss : ae_S} (t0 : Int32) (s0 : ae_S) (hF : F_X8_refuse_31 t0 s0 = some (rr, ss)) : ae_T l G d mX8_refuse (ae_Po (some (ae_i rr)) ss) 31 [] [ae_i t0, ae_r (some (12, 0))] s0 := by
  unfold F_X8_refuse_31 at hF
  obtain ⟨s1, hs1, hF2⟩ := ae_ltI hF
  refine ae_putI (q := (12, 0)) dX8_refuse_31 fl_RX8_29 rfl rfl (ae_nmS hs1 ?_)
  refine ae_iconst (0 : Int32) dX8_refuse_34 (by decide) ?_
  obtain ⟨rfl, rfl⟩ := ae_retI hF2
  exact ae_iret dX8_refuse_35 rfl (by decide) ⟨rfl, rfl⟩
def F_X8_refuse (v1 : Int32) (s0 : ae_S) : Option (Int32 × ae_S) := ae_lt (ae_wI s0 12 0 7 v1) (fun s3 => if (501 : Int32) ≤ (s3.1 12 0 6) then (F_X8_refuse_31 (-1 : Int32) s3) else (ae_gd (ae_ib (s3.1 12 0 6) 501) (F_X8_refuse_31 (s3.1 13 1 (s3.1 12 0 6).toNatClampNeg) s3)))
set_option maxHeartbeats 4000000 in
set_option maxRecDepth 100000 in
theorem c_X8_refuse {l : Launch} {G : ae_G} (d : Nat) {v1 : Int32} {s0 ss : ae_S} {rr : Int32} (hF : F_X8_refuse v1 s0 = some (rr, ss)) : ae_Met l G d yX8_refuse mX8_refuse [ae_r (some (12, 0)), ae_i v1] s0 (ae_Po (some (ae_i rr)) ss) := by
  refine ae_enter (by decide) rfl (Nat.le_of_ble_eq_true rfl) ?_
  show ae_T l G d mX8_refuse (ae_Po (some (ae_i rr)) ss) 0 [(0, ae_r (some (12, 0))), (1, ae_i v1)] [] s0
  unfold F_X8_refuse at hF
  refine ae_aload_n 0 dX8_refuse_0 rfl ?_
  refine ae_iload_n 1 dX8_refuse_1 rfl ?_
  obtain ⟨s3, hs3, hF4⟩ := ae_ltI hF
  refine ae_putI (q := (12, 0)) dX8_refuse_2 fl_RX8_33 rfl rfl (ae_nmS hs3 ?_)
  refine ae_aload_n 0 dX8_refuse_5 rfl ?_
  refine ae_aload_n 0 dX8_refuse_6 rfl ?_
  refine ae_getI (q := (12, 0)) dX8_refuse_7 fl_RX8_39 rfl rfl ?_
  refine ae_aload_n 0 dX8_refuse_10 rfl ?_
  refine ae_getA (q := (12, 0)) (some (13, 1)) dX8_refuse_11 fl_RX8_19 rfl rfl rfl ?_
  refine ae_alen (q := (13, 1)) (501 : Int32) dX8_refuse_14 rfl rfl (by simp [ae_at]) (by decide) ?_
  refine ae_icmp_ge 30 dX8_refuse_15 rfl (fun hb5 => ?_) (fun hb5 => ?_)
  · have hF6 := ae_ifT hb5 hF4
    refine ae_iconst (-1 : Int32) dX8_refuse_30 (by decide) ?_
    refine ae_pick (lv' := []) [] rfl ?_
    exact t_X8_refuse_31 d (-1 : Int32) s3 hF6
  · have hF6 := ae_ifF hb5 hF4
    refine ae_aload_n 0 dX8_refuse_18 rfl ?_
    refine ae_getA (q := (12, 0)) (some (13, 1)) dX8_refuse_19 fl_RX8_19 rfl rfl rfl ?_
    refine ae_aload_n 0 dX8_refuse_22 rfl ?_
    refine ae_getI (q := (12, 0)) dX8_refuse_23 fl_RX8_39 rfl rfl ?_
    obtain ⟨hg7, hF8⟩ := ae_gdI hF6
    refine ae_iald (q := (13, 1)) dX8_refuse_26 rfl rfl (ae_ibI hg7) ?_
    refine ae_goto 31 dX8_refuse_27 rfl ?_
    refine ae_pick (lv' := []) [] rfl ?_
    exact t_X8_refuse_31 d (s3.1 13 1 (s3.1 12 0 6).toNatClampNeg) s3 hF8
abbrev mX8_value : ae_M := (RX8, cX8_value, 1, some .long)
theorem vy_X8_value : ae_VY yX8_value mX8_value 0 := ⟨ww_510, ww_511, ww_8, ww_512, ⟨by decide, by decide, by decide +kernel⟩, by decide⟩
theorem dX8_value_0 : decode cX8_value 0 = .ok (.aload_n 0, 1) := by decide +kernel
theorem dX8_value_1 : decode cX8_value 1 = .ok (.getfield 39, 3) := by decide +kernel
theorem dX8_value_4 : decode cX8_value 4 = .ok (.aload_n 0, 1) := by decide +kernel
theorem dX8_value_5 : decode cX8_value 5 = .ok (.getfield 25, 3) := by decide +kernel
theorem dX8_value_8 : decode cX8_value 8 = .ok (.arraylength, 1) := by decide +kernel
theorem dX8_value_9 : decode cX8_value 9 = .ok (.if_icmp .ge 15, 3) := by decide +kernel
theorem dX8_value_12 : decode cX8_value 12 = .ok (.aload_n 0, 1) := by decide +kernel
theorem dX8_value_13 : decode cX8_value 13 = .ok (.getfield 25, 3) := by decide +kernel
theorem dX8_value_16 : decode cX8_value 16 = .ok (.aload_n 0, 1) := by decide +kernel
theorem dX8_value_17 : decode cX8_value 17 = .ok (.getfield 39, 3) := by decide +kernel
theorem dX8_value_20 : decode cX8_value 20 = .ok (.laload, 1) := by decide +kernel
theorem dX8_value_21 : decode cX8_value 21 = .ok (.goto 4, 3) := by decide +kernel
theorem dX8_value_24 : decode cX8_value 24 = .ok (.lconst 0, 1) := by decide +kernel
theorem dX8_value_25 : decode cX8_value 25 = .ok (.lreturn, 1) := by decide +kernel
def F_X8_value_25 (t0 : Int64) (s0 : ae_S) : Option (Int64 × ae_S) := some (t0, s0)
set_option maxHeartbeats 4000000 in
set_option maxRecDepth 100000 in
theorem t_X8_value_25 {l : Launch} {G : ae_G} (d : Nat) {rr : Int64} {ss : ae_S} (t0 : Int64) (s0 : ae_S) (hF : F_X8_value_25 t0 s0 = some (rr, ss)) : ae_T l G d mX8_value (ae_Po (some (ae_l rr)) ss) 25 [] [ae_l t0] s0 := by
  unfold F_X8_value_25 at hF
  obtain ⟨rfl, rfl⟩ := ae_retI hF
  exact ae_lret dX8_value_25 rfl ⟨rfl, rfl⟩
def F_X8_value (s0 : ae_S) : Option (Int64 × ae_S) := if (501 : Int32) ≤ (s0.1 12 0 6) then (F_X8_value_25 (0 : Int64) s0) else (ae_gd (ae_ib (s0.1 12 0 6) 501) (F_X8_value_25 (s0.2.1 14 0 (s0.1 12 0 6).toNatClampNeg) s0))
set_option maxHeartbeats 4000000 in
set_option maxRecDepth 100000 in
theorem c_X8_value {l : Launch} {G : ae_G} (d : Nat) {s0 ss : ae_S} {rr : Int64} (hF : F_X8_value s0 = some (rr, ss)) : ae_Met l G d yX8_value mX8_value [ae_r (some (12, 0))] s0 (ae_Po (some (ae_l rr)) ss) := by
  refine ae_enter (by decide) rfl (Nat.le_of_ble_eq_true rfl) ?_
  show ae_T l G d mX8_value (ae_Po (some (ae_l rr)) ss) 0 [(0, ae_r (some (12, 0)))] [] s0
  unfold F_X8_value at hF
  refine ae_aload_n 0 dX8_value_0 rfl ?_
  refine ae_getI (q := (12, 0)) dX8_value_1 fl_RX8_39 rfl rfl ?_
  refine ae_aload_n 0 dX8_value_4 rfl ?_
  refine ae_getA (q := (12, 0)) (some (14, 0)) dX8_value_5 fl_RX8_25 rfl rfl rfl ?_
  refine ae_alen (q := (14, 0)) (501 : Int32) dX8_value_8 rfl rfl (by simp [ae_at]) (by decide) ?_
  refine ae_icmp_ge 24 dX8_value_9 rfl (fun hb1 => ?_) (fun hb1 => ?_)
  · have hF2 := ae_ifT hb1 hF
    refine ae_lconst (0 : Int64) dX8_value_24 (by decide) ?_
    refine ae_pick (lv' := []) [] rfl ?_
    exact t_X8_value_25 d (0 : Int64) s0 hF2
  · have hF2 := ae_ifF hb1 hF
    refine ae_aload_n 0 dX8_value_12 rfl ?_
    refine ae_getA (q := (12, 0)) (some (14, 0)) dX8_value_13 fl_RX8_25 rfl rfl rfl ?_
    refine ae_aload_n 0 dX8_value_16 rfl ?_
    refine ae_getI (q := (12, 0)) dX8_value_17 fl_RX8_39 rfl rfl ?_
    obtain ⟨hg3, hF4⟩ := ae_gdI hF2
    refine ae_lald (q := (14, 0)) dX8_value_20 rfl rfl (ae_ibI hg3) ?_
    refine ae_goto 25 dX8_value_21 rfl ?_
    refine ae_pick (lv' := []) [] rfl ?_
    exact t_X8_value_25 d (s0.2.1 14 0 (s0.1 12 0 6).toNatClampNeg) s0 hF4
abbrev mX8_advance : ae_M := (RX8, cX8_advance, 1, none)
theorem vy_X8_advance : ae_VY yX8_advance mX8_advance 0 := ⟨ww_529, ww_530, ww_8, ww_531, ⟨by decide, by decide, by decide +kernel⟩, by decide⟩
theorem dX8_advance_0 : decode cX8_advance 0 = .ok (.aload_n 0, 1) := by decide +kernel
theorem dX8_advance_1 : decode cX8_advance 1 = .ok (.getfield 39, 3) := by decide +kernel
theorem dX8_advance_4 : decode cX8_advance 4 = .ok (.iconst 1, 1) := by decide +kernel
theorem dX8_advance_5 : decode cX8_advance 5 = .ok (.iadd, 1) := by decide +kernel
theorem dX8_advance_6 : decode cX8_advance 6 = .ok (.aload_n 0, 1) := by decide +kernel
theorem dX8_advance_7 : decode cX8_advance 7 = .ok (.getfield 36, 3) := by decide +kernel
theorem dX8_advance_10 : decode cX8_advance 10 = .ok (.if_icmp .ge 13, 3) := by decide +kernel
theorem dX8_advance_13 : decode cX8_advance 13 = .ok (.aload_n 0, 1) := by decide +kernel
theorem dX8_advance_14 : decode cX8_advance 14 = .ok (.dup, 1) := by decide +kernel
theorem dX8_advance_15 : decode cX8_advance 15 = .ok (.getfield 39, 3) := by decide +kernel
theorem dX8_advance_18 : decode cX8_advance 18 = .ok (.iconst 1, 1) := by decide +kernel
theorem dX8_advance_19 : decode cX8_advance 19 = .ok (.iadd, 1) := by decide +kernel
theorem dX8_advance_20 : decode cX8_advance 20 = .ok (.putfield 39, 3) := by decide +kernel
theorem dX8_advance_23 : decode cX8_advance 23 = .ok (.return_, 1) := by decide +kernel
def F_X8_advance_23 (s0 : ae_S) : Option (Unit × ae_S) := some ((), s0)
set_option maxHeartbeats 4000000 in
set_option maxRecDepth 100000 in
theorem t_X8_advance_23 {l : Launch} {G : ae_G} (d : Nat) {rr : Unit} {ss : ae_S} (s0 : ae_S) (hF : F_X8_advance_23 s0 = some (rr, ss)) : ae_T l G d mX8_advance (ae_Po none ss) 23 [] [] s0 := by
  unfold F_X8_advance_23 at hF
  obtain ⟨rfl, rfl⟩ := ae_retI hF
  exact ae_vret dX8_advance_23 rfl ⟨rfl, rfl⟩
def F_X8_advance (s0 : ae_S) : Option (Unit × ae_S) := if (s0.1 12 0 5) ≤ ((s0.1 12 0 6) + (1 : Int32)) then (F_X8_advance_23 s0) else (ae_lt (ae_wI s0 12 0 6 ((s0.1 12 0 6) + (1 : Int32))) (fun s3 => F_X8_advance_23 s3))
set_option maxHeartbeats 4000000 in
set_option maxRecDepth 100000 in
theorem c_X8_advance {l : Launch} {G : ae_G} (d : Nat) {s0 ss : ae_S} {rr : Unit} (hF : F_X8_advance s0 = some (rr, ss)) : ae_Met l G d yX8_advance mX8_advance [ae_r (some (12, 0))] s0 (ae_Po none ss) := by
  refine ae_enter (by decide) rfl (Nat.le_of_ble_eq_true rfl) ?_
  show ae_T l G d mX8_advance (ae_Po none ss) 0 [(0, ae_r (some (12, 0)))] [] s0
  unfold F_X8_advance at hF
  refine ae_aload_n 0 dX8_advance_0 rfl ?_
  refine ae_getI (q := (12, 0)) dX8_advance_1 fl_RX8_39 rfl rfl ?_
  refine ae_iconst (1 : Int32) dX8_advance_4 (by decide) ?_
  refine ae_iadd dX8_advance_5 ?_
  refine ae_aload_n 0 dX8_advance_6 rfl ?_
  refine ae_getI (q := (12, 0)) dX8_advance_7 fl_RX8_36 rfl rfl ?_
  refine ae_icmp_ge 23 dX8_advance_10 rfl (fun hb1 => ?_) (fun hb1 => ?_)
  · have hF2 := ae_ifT hb1 hF
    refine ae_pick (lv' := []) [] rfl ?_
    exact t_X8_advance_23 d s0 hF2
  · have hF2 := ae_ifF hb1 hF
    refine ae_aload_n 0 dX8_advance_13 rfl ?_
    refine ae_dup dX8_advance_14 rfl ?_
    refine ae_getI (q := (12, 0)) dX8_advance_15 fl_RX8_39 rfl rfl ?_
    refine ae_iconst (1 : Int32) dX8_advance_18 (by decide) ?_
    refine ae_iadd dX8_advance_19 ?_
    obtain ⟨s3, hs3, hF4⟩ := ae_ltI hF2
    refine ae_putI (q := (12, 0)) dX8_advance_20 fl_RX8_39 rfl rfl (ae_nmS hs3 ?_)
    refine ae_pick (lv' := []) [] rfl ?_
    exact t_X8_advance_23 d s3 hF4
abbrev mX8_kindHere : ae_M := (RX8, cX8_kindHere, 1, some (.object "ByteViews$Kind"))
theorem vy_X8_kindHere : ae_VY yX8_kindHere mX8_kindHere 0 := ⟨ww_537, ww_538, ww_8, ww_539, ⟨by decide, by decide, by decide +kernel⟩, by decide⟩
theorem dX8_kindHere_0 : decode cX8_kindHere 0 = .ok (.aload_n 0, 1) := by decide +kernel
theorem dX8_kindHere_1 : decode cX8_kindHere 1 = .ok (.iconst 2, 1) := by decide +kernel
theorem dX8_kindHere_2 : decode cX8_kindHere 2 = .ok (.invokevirtual 122, 3) := by decide +kernel
theorem dX8_kindHere_5 : decode cX8_kindHere 5 = .ok (.ifCond .eq 13, 3) := by decide +kernel
theorem dX8_kindHere_8 : decode cX8_kindHere 8 = .ok (.aload_n 0, 1) := by decide +kernel
theorem dX8_kindHere_9 : decode cX8_kindHere 9 = .ok (.invokevirtual 125, 3) := by decide +kernel
theorem dX8_kindHere_12 : decode cX8_kindHere 12 = .ok (.invokestatic 101, 3) := by decide +kernel
theorem dX8_kindHere_15 : decode cX8_kindHere 15 = .ok (.goto 4, 3) := by decide +kernel
theorem dX8_kindHere_18 : decode cX8_kindHere 18 = .ok (.aconst_null, 1) := by decide +kernel
theorem dX8_kindHere_19 : decode cX8_kindHere 19 = .ok (.areturn, 1) := by decide +kernel
def F_X8_kindHere_19 (to0 : Option (Fin 32)) (s0 : ae_S) : Option (Option (Fin 32) × ae_S) := some (to0, s0)
set_option maxHeartbeats 4000000 in
set_option maxRecDepth 100000 in
theorem t_X8_kindHere_19 {l : Launch} {G : ae_G} (d : Nat) {rr : Option (Fin 32)} {ss : ae_S} (to0 : Option (Fin 32)) (s0 : ae_S) (hF : F_X8_kindHere_19 to0 s0 = some (rr, ss)) : ae_T l G (d + 6) mX8_kindHere (ae_Po (some (ae_r (ae_ro 60 rr))) ss) 19 [] [ae_r (ae_ro 60 to0)] s0 := by
  unfold F_X8_kindHere_19 at hF
  obtain ⟨rfl, rfl⟩ := ae_retI hF
  exact ae_aret dX8_kindHere_19 rfl (Or.inl ⟨_, rfl⟩) ⟨rfl, rfl⟩
def F_X8_kindHere (s0 : ae_S) : Option (Option (Fin 32) × ae_S) := ae_bd (F_X8_isType (2 : Int32) s0) (fun (r1 : Int32) s2 => if r1 = 0 then (F_X8_kindHere_19 none s2) else (ae_bd (F_X8_value s2) (fun (r7 : Int64) s8 => ae_bd (F_X8_kindOf r7 s8) (fun (r11 : Option (Fin 32)) s12 => F_X8_kindHere_19 r11 s12))))
set_option maxHeartbeats 4000000 in
set_option maxRecDepth 100000 in
theorem c_X8_kindHere {l : Launch} {G : ae_G} (d : Nat) {s0 ss : ae_S} {rr : Option (Fin 32)} (hF : F_X8_kindHere s0 = some (rr, ss)) : ae_Met l G (d + 6) yX8_kindHere mX8_kindHere [ae_r (some (12, 0))] s0 (ae_Po (some (ae_r (ae_ro 60 rr))) ss) := by
  refine ae_enter (by decide) rfl (Nat.le_of_ble_eq_true rfl) ?_
  show ae_T l G (d + 6) mX8_kindHere (ae_Po (some (ae_r (ae_ro 60 rr))) ss) 0 [(0, ae_r (some (12, 0)))] [] s0
  unfold F_X8_kindHere at hF
  refine ae_aload_n 0 dX8_kindHere_0 rfl ?_
  refine ae_iconst (2 : Int32) dX8_kindHere_1 (by decide) ?_
  obtain ⟨r1, s2, hc3, hF4⟩ := ae_bdI hF
  refine ae_cV1 (q := (12, 0)) (As := [ae_i (2 : Int32)]) dX8_kindHere_2 ww_489 vy_X8_isType rfl rfl rfl rfl rfl (Nat.le_of_ble_eq_true rfl) (c_X8_isType (d + 5) hc3) ?_
  refine ae_if_eq 18 dX8_kindHere_5 rfl (fun hb5 => ?_) (fun hb5 => ?_)
  · have hF6 := ae_ifT hb5 hF4
    refine ae_null dX8_kindHere_18 ?_
    refine ae_pick (lv' := []) [] rfl ?_
    exact t_X8_kindHere_19 d none s2 hF6
  · have hF6 := ae_ifF hb5 hF4
    refine ae_aload_n 0 dX8_kindHere_8 rfl ?_
    obtain ⟨r7, s8, hc9, hF10⟩ := ae_bdI hF6
    refine ae_cV1 (q := (12, 0)) (As := []) dX8_kindHere_9 ww_540 vy_X8_value rfl rfl rfl rfl rfl (Nat.le_of_ble_eq_true rfl) (c_X8_value (d + 5) hc9) ?_
    obtain ⟨r11, s12, hc13, hF14⟩ := ae_bdI hF10
    refine ae_cS1 (As := [ae_l r7]) dX8_kindHere_12 ww_463 vy_X8_kindOf rfl rfl (Nat.le_of_ble_eq_true rfl) (c_X8_kindOf d hc13) ?_
    refine ae_goto 19 dX8_kindHere_15 rfl ?_
    refine ae_pick (lv' := []) [] rfl ?_
    exact t_X8_kindHere_19 d r11 s12 hF14
abbrev mX8_isWord : ae_M := (RX8, cX8_isWord, 2, some .boolean)
theorem vy_X8_isWord : ae_VY yX8_isWord mX8_isWord 1 := ⟨ww_543, ww_544, ww_8, ww_545, ⟨by decide, by decide, by decide +kernel⟩, by decide⟩
theorem dX8_isWord_0 : decode cX8_isWord 0 = .ok (.aload_n 0, 1) := by decide +kernel
theorem dX8_isWord_1 : decode cX8_isWord 1 = .ok (.iconst 2, 1) := by decide +kernel
theorem dX8_isWord_2 : decode cX8_isWord 2 = .ok (.invokevirtual 122, 3) := by decide +kernel
theorem dX8_isWord_5 : decode cX8_isWord 5 = .ok (.ifCond .eq 19, 3) := by decide +kernel
theorem dX8_isWord_8 : decode cX8_isWord 8 = .ok (.aload_n 0, 1) := by decide +kernel
theorem dX8_isWord_9 : decode cX8_isWord 9 = .ok (.invokevirtual 125, 3) := by decide +kernel
theorem dX8_isWord_12 : decode cX8_isWord 12 = .ok (.aload_n 1, 1) := by decide +kernel
theorem dX8_isWord_13 : decode cX8_isWord 13 = .ok (.invokestatic 81, 3) := by decide +kernel
theorem dX8_isWord_16 : decode cX8_isWord 16 = .ok (.lcmp, 1) := by decide +kernel
theorem dX8_isWord_17 : decode cX8_isWord 17 = .ok (.ifCond .ne 7, 3) := by decide +kernel
theorem dX8_isWord_20 : decode cX8_isWord 20 = .ok (.iconst 1, 1) := by decide +kernel
theorem dX8_isWord_21 : decode cX8_isWord 21 = .ok (.goto 4, 3) := by decide +kernel
theorem dX8_isWord_24 : decode cX8_isWord 24 = .ok (.iconst 0, 1) := by decide +kernel
theorem dX8_isWord_25 : decode cX8_isWord 25 = .ok (.ireturn, 1) := by decide +kernel
def F_X8_isWord_25 (t0 : Int32) (s0 : ae_S) : Option (Int32 × ae_S) := ae_gd (ae_zz t0) (some (t0, s0))
set_option maxHeartbeats 4000000 in
set_option maxRecDepth 100000 in
theorem t_X8_isWord_25 {l : Launch} {G : ae_G} (d : Nat) {rr : Int32} {ss : ae_S} (t0 : Int32) (s0 : ae_S) (hF : F_X8_isWord_25 t0 s0 = some (rr, ss)) : ae_T l G (d + 5) mX8_isWord (ae_Po (some (ae_i rr)) ss) 25 [] [ae_i t0] s0 := by
  unfold F_X8_isWord_25 at hF
  obtain ⟨hg1, hF2⟩ := ae_gdI hF
  obtain ⟨rfl, rfl⟩ := ae_retI hF2
  exact ae_iret dX8_isWord_25 rfl (ae_zzN (ae_zzI hg1)) ⟨rfl, rfl⟩
def F_X8_isWord_24 (s0 : ae_S) : Option (Int32 × ae_S) := F_X8_isWord_25 (0 : Int32) s0
set_option maxHeartbeats 4000000 in
set_option maxRecDepth 100000 in
theorem t_X8_isWord_24 {l : Launch} {G : ae_G} (d : Nat) {rr : Int32} {ss : ae_S} (s0 : ae_S) (hF : F_X8_isWord_24 s0 = some (rr, ss)) : ae_T l G (d + 5) mX8_isWord (ae_Po (some (ae_i rr)) ss) 24 [] [] s0 := by
  unfold F_X8_isWord_24 at hF
  refine ae_iconst (0 : Int32) dX8_isWord_24 (by decide) ?_
  refine ae_pick (lv' := []) [] rfl ?_
  exact t_X8_isWord_25 d (0 : Int32) s0 hF
def F_X8_isWord (i1 : Fin 32) (s0 : ae_S) : Option (Int32 × ae_S) := ae_bd (F_X8_isType (2 : Int32) s0) (fun (r3 : Int32) s4 => if r3 = 0 then (F_X8_isWord_24 s4) else (ae_bd (F_X8_value s4) (fun (r9 : Int64) s10 => ae_bd (F_X8_packed i1 s10) (fun (r13 : Int64) s14 => if (lg_cmp r9 r13) = 0 then (F_X8_isWord_25 (1 : Int32) s14) else (F_X8_isWord_24 s14)))))
set_option maxHeartbeats 4000000 in
set_option maxRecDepth 100000 in
theorem c_X8_isWord {l : Launch} {G : ae_G} (d : Nat) {i1 : Fin 32} {s0 ss : ae_S} {rr : Int32} (hF : F_X8_isWord i1 s0 = some (rr, ss)) : ae_Met l G (d + 5) yX8_isWord mX8_isWord [ae_r (some (12, 0)), ae_r (some (62, i1))] s0 (ae_Po (some (ae_i rr)) ss) := by
  refine ae_enter (by decide) rfl (Nat.le_of_ble_eq_true rfl) ?_
  show ae_T l G (d + 5) mX8_isWord (ae_Po (some (ae_i rr)) ss) 0 [(0, ae_r (some (12, 0))), (1, ae_r (some (62, i1)))] [] s0
  unfold F_X8_isWord at hF
  refine ae_aload_n 0 dX8_isWord_0 rfl ?_
  refine ae_iconst (2 : Int32) dX8_isWord_1 (by decide) ?_
  obtain ⟨r3, s4, hc5, hF6⟩ := ae_bdI hF
  refine ae_cV1 (q := (12, 0)) (As := [ae_i (2 : Int32)]) dX8_isWord_2 ww_489 vy_X8_isType rfl rfl rfl rfl rfl (Nat.le_of_ble_eq_true rfl) (c_X8_isType (d + 4) hc5) ?_
  refine ae_if_eq 24 dX8_isWord_5 rfl (fun hb7 => ?_) (fun hb7 => ?_)
  · have hF8 := ae_ifT hb7 hF6
    refine ae_pick (lv' := []) [] rfl ?_
    exact t_X8_isWord_24 d s4 hF8
  · have hF8 := ae_ifF hb7 hF6
    refine ae_aload_n 0 dX8_isWord_8 rfl ?_
    obtain ⟨r9, s10, hc11, hF12⟩ := ae_bdI hF8
    refine ae_cV1 (q := (12, 0)) (As := []) dX8_isWord_9 ww_540 vy_X8_value rfl rfl rfl rfl rfl (Nat.le_of_ble_eq_true rfl) (c_X8_value (d + 4) hc11) ?_
    refine ae_aload_n 1 dX8_isWord_12 rfl ?_
    obtain ⟨r13, s14, hc15, hF16⟩ := ae_bdI hF12
    refine ae_cS1 (As := [ae_r (some (62, i1))]) dX8_isWord_13 ww_404 vy_X8_packed rfl rfl (Nat.le_of_ble_eq_true rfl) (c_X8_packed d hc15) ?_
    refine ae_lcmp dX8_isWord_16 ?_
    refine ae_if_ne 24 dX8_isWord_17 rfl (fun hb17 => ?_) (fun hb17 => ?_)
    · have hF18 := ae_ifF hb17 hF16
      refine ae_pick (lv' := []) [] rfl ?_
      exact t_X8_isWord_24 d s14 hF18
    · have hF18 := ae_ifT hb17 hF16
      refine ae_iconst (1 : Int32) dX8_isWord_20 (by decide) ?_
      refine ae_goto 25 dX8_isWord_21 rfl ?_
      refine ae_pick (lv' := []) [] rfl ?_
      exact t_X8_isWord_25 d (1 : Int32) s14 hF18
abbrev mX8_isNumber : ae_M := (RX8, cX8_isNumber, 1, some .boolean)
theorem vy_X8_isNumber : ae_VY yX8_isNumber mX8_isNumber 0 := ⟨ww_552, ww_553, ww_8, ww_554, ⟨by decide, by decide, by decide +kernel⟩, by decide⟩
theorem dX8_isNumber_0 : decode cX8_isNumber 0 = .ok (.aload_n 0, 1) := by decide +kernel
theorem dX8_isNumber_1 : decode cX8_isNumber 1 = .ok (.iconst 3, 1) := by decide +kernel
theorem dX8_isNumber_2 : decode cX8_isNumber 2 = .ok (.invokevirtual 122, 3) := by decide +kernel
theorem dX8_isNumber_5 : decode cX8_isNumber 5 = .ok (.ireturn, 1) := by decide +kernel
def F_X8_isNumber (s0 : ae_S) : Option (Int32 × ae_S) := ae_bd (F_X8_isType (3 : Int32) s0) (fun (r1 : Int32) s2 => ae_gd (ae_zz r1) (some (r1, s2)))
set_option maxHeartbeats 4000000 in
set_option maxRecDepth 100000 in
theorem c_X8_isNumber {l : Launch} {G : ae_G} (d : Nat) {s0 ss : ae_S} {rr : Int32} (hF : F_X8_isNumber s0 = some (rr, ss)) : ae_Met l G (d + 1) yX8_isNumber mX8_isNumber [ae_r (some (12, 0))] s0 (ae_Po (some (ae_i rr)) ss) := by
  refine ae_enter (by decide) rfl (Nat.le_of_ble_eq_true rfl) ?_
  show ae_T l G (d + 1) mX8_isNumber (ae_Po (some (ae_i rr)) ss) 0 [(0, ae_r (some (12, 0)))] [] s0
  unfold F_X8_isNumber at hF
  refine ae_aload_n 0 dX8_isNumber_0 rfl ?_
  refine ae_iconst (3 : Int32) dX8_isNumber_1 (by decide) ?_
  obtain ⟨r1, s2, hc3, hF4⟩ := ae_bdI hF
  refine ae_cV1 (q := (12, 0)) (As := [ae_i (3 : Int32)]) dX8_isNumber_2 ww_489 vy_X8_isType rfl rfl rfl rfl rfl (Nat.le_of_ble_eq_true rfl) (c_X8_isType d hc3) ?_
  obtain ⟨hg5, hF6⟩ := ae_gdI hF4
  obtain ⟨rfl, rfl⟩ := ae_retI hF6
  exact ae_iret dX8_isNumber_5 rfl (ae_zzN (ae_zzI hg5)) ⟨rfl, rfl⟩
abbrev mX8_place : ae_M := (RX8, cX8_place, 1, some .int)
theorem vy_X8_place : ae_VY yX8_place mX8_place 0 := ⟨ww_570, ww_571, ww_8, ww_572, ⟨by decide, by decide, by decide +kernel⟩, by decide⟩
theorem dX8_place_0 : decode cX8_place 0 = .ok (.aload_n 0, 1) := by decide +kernel
theorem dX8_place_1 : decode cX8_place 1 = .ok (.getfield 39, 3) := by decide +kernel
theorem dX8_place_4 : decode cX8_place 4 = .ok (.aload_n 0, 1) := by decide +kernel
theorem dX8_place_5 : decode cX8_place 5 = .ok (.getfield 19, 3) := by decide +kernel
theorem dX8_place_8 : decode cX8_place 8 = .ok (.arraylength, 1) := by decide +kernel
theorem dX8_place_9 : decode cX8_place 9 = .ok (.if_icmp .ge 15, 3) := by decide +kernel
theorem dX8_place_12 : decode cX8_place 12 = .ok (.aload_n 0, 1) := by decide +kernel
theorem dX8_place_13 : decode cX8_place 13 = .ok (.getfield 19, 3) := by decide +kernel
theorem dX8_place_16 : decode cX8_place 16 = .ok (.aload_n 0, 1) := by decide +kernel
theorem dX8_place_17 : decode cX8_place 17 = .ok (.getfield 39, 3) := by decide +kernel
theorem dX8_place_20 : decode cX8_place 20 = .ok (.iaload, 1) := by decide +kernel
theorem dX8_place_21 : decode cX8_place 21 = .ok (.goto 4, 3) := by decide +kernel
theorem dX8_place_24 : decode cX8_place 24 = .ok (.iconst 0, 1) := by decide +kernel
theorem dX8_place_25 : decode cX8_place 25 = .ok (.ireturn, 1) := by decide +kernel
def F_X8_place_25 (t0 : Int32) (s0 : ae_S) : Option (Int32 × ae_S) := some (t0, s0)
set_option maxHeartbeats 4000000 in
set_option maxRecDepth 100000 in
theorem t_X8_place_25 {l : Launch} {G : ae_G} (d : Nat) {rr : Int32} {ss : ae_S} (t0 : Int32) (s0 : ae_S) (hF : F_X8_place_25 t0 s0 = some (rr, ss)) : ae_T l G d mX8_place (ae_Po (some (ae_i rr)) ss) 25 [] [ae_i t0] s0 := by
  unfold F_X8_place_25 at hF
  obtain ⟨rfl, rfl⟩ := ae_retI hF
  exact ae_iret dX8_place_25 rfl rfl ⟨rfl, rfl⟩
def F_X8_place (s0 : ae_S) : Option (Int32 × ae_S) := if (501 : Int32) ≤ (s0.1 12 0 6) then (F_X8_place_25 (0 : Int32) s0) else (ae_gd (ae_ib (s0.1 12 0 6) 501) (F_X8_place_25 (s0.1 13 1 (s0.1 12 0 6).toNatClampNeg) s0))
set_option maxHeartbeats 4000000 in
set_option maxRecDepth 100000 in
theorem c_X8_place {l : Launch} {G : ae_G} (d : Nat) {s0 ss : ae_S} {rr : Int32} (hF : F_X8_place s0 = some (rr, ss)) : ae_Met l G d yX8_place mX8_place [ae_r (some (12, 0))] s0 (ae_Po (some (ae_i rr)) ss) := by
  refine ae_enter (by decide) rfl (Nat.le_of_ble_eq_true rfl) ?_
  show ae_T l G d mX8_place (ae_Po (some (ae_i rr)) ss) 0 [(0, ae_r (some (12, 0)))] [] s0
  unfold F_X8_place at hF
  refine ae_aload_n 0 dX8_place_0 rfl ?_
  refine ae_getI (q := (12, 0)) dX8_place_1 fl_RX8_39 rfl rfl ?_
  refine ae_aload_n 0 dX8_place_4 rfl ?_
  refine ae_getA (q := (12, 0)) (some (13, 1)) dX8_place_5 fl_RX8_19 rfl rfl rfl ?_
  refine ae_alen (q := (13, 1)) (501 : Int32) dX8_place_8 rfl rfl (by simp [ae_at]) (by decide) ?_
  refine ae_icmp_ge 24 dX8_place_9 rfl (fun hb1 => ?_) (fun hb1 => ?_)
  · have hF2 := ae_ifT hb1 hF
    refine ae_iconst (0 : Int32) dX8_place_24 (by decide) ?_
    refine ae_pick (lv' := []) [] rfl ?_
    exact t_X8_place_25 d (0 : Int32) s0 hF2
  · have hF2 := ae_ifF hb1 hF
    refine ae_aload_n 0 dX8_place_12 rfl ?_
    refine ae_getA (q := (12, 0)) (some (13, 1)) dX8_place_13 fl_RX8_19 rfl rfl rfl ?_
    refine ae_aload_n 0 dX8_place_16 rfl ?_
    refine ae_getI (q := (12, 0)) dX8_place_17 fl_RX8_39 rfl rfl ?_
    obtain ⟨hg3, hF4⟩ := ae_gdI hF2
    refine ae_iald (q := (13, 1)) dX8_place_20 rfl rfl (ae_ibI hg3) ?_
    refine ae_goto 25 dX8_place_21 rfl ?_
    refine ae_pick (lv' := []) [] rfl ?_
    exact t_X8_place_25 d (s0.1 13 1 (s0.1 12 0 6).toNatClampNeg) s0 hF4
abbrev mX8_refuseAt : ae_M := (RX8, cX8_refuseAt, 3, some .boolean)
theorem vy_X8_refuseAt : ae_VY yX8_refuseAt mX8_refuseAt 2 := ⟨ww_575, ww_576, ww_8, ww_577, ⟨by decide, by decide, by decide +kernel⟩, by decide⟩
theorem dX8_refuseAt_0 : decode cX8_refuseAt 0 = .ok (.aload_n 0, 1) := by decide +kernel
theorem dX8_refuseAt_1 : decode cX8_refuseAt 1 = .ok (.iload_n 1, 1) := by decide +kernel
theorem dX8_refuseAt_2 : decode cX8_refuseAt 2 = .ok (.putfield 33, 3) := by decide +kernel
theorem dX8_refuseAt_5 : decode cX8_refuseAt 5 = .ok (.aload_n 0, 1) := by decide +kernel
theorem dX8_refuseAt_6 : decode cX8_refuseAt 6 = .ok (.iload_n 2, 1) := by decide +kernel
theorem dX8_refuseAt_7 : decode cX8_refuseAt 7 = .ok (.putfield 29, 3) := by decide +kernel
theorem dX8_refuseAt_10 : decode cX8_refuseAt 10 = .ok (.iconst 0, 1) := by decide +kernel
theorem dX8_refuseAt_11 : decode cX8_refuseAt 11 = .ok (.ireturn, 1) := by decide +kernel
def F_X8_refuseAt (v1 : Int32) (v2 : Int32) (s0 : ae_S) : Option (Int32 × ae_S) := ae_lt (ae_wI s0 12 0 7 v1) (fun s1 => ae_lt (ae_wI s1 12 0 8 v2) (fun s3 => some ((0 : Int32), s3)))
set_option maxHeartbeats 4000000 in
set_option maxRecDepth 100000 in
theorem c_X8_refuseAt {l : Launch} {G : ae_G} (d : Nat) {v1 : Int32} {v2 : Int32} {s0 ss : ae_S} {rr : Int32} (hF : F_X8_refuseAt v1 v2 s0 = some (rr, ss)) : ae_Met l G d yX8_refuseAt mX8_refuseAt [ae_r (some (12, 0)), ae_i v1, ae_i v2] s0 (ae_Po (some (ae_i rr)) ss) := by
  refine ae_enter (by decide) rfl (Nat.le_of_ble_eq_true rfl) ?_
  show ae_T l G d mX8_refuseAt (ae_Po (some (ae_i rr)) ss) 0 [(0, ae_r (some (12, 0))), (1, ae_i v1), (2, ae_i v2)] [] s0
  unfold F_X8_refuseAt at hF
  refine ae_aload_n 0 dX8_refuseAt_0 rfl ?_
  refine ae_iload_n 1 dX8_refuseAt_1 rfl ?_
  obtain ⟨s1, hs1, hF2⟩ := ae_ltI hF
  refine ae_putI (q := (12, 0)) dX8_refuseAt_2 fl_RX8_33 rfl rfl (ae_nmS hs1 ?_)
  refine ae_aload_n 0 dX8_refuseAt_5 rfl ?_
  refine ae_iload_n 2 dX8_refuseAt_6 rfl ?_
  obtain ⟨s3, hs3, hF4⟩ := ae_ltI hF2
  refine ae_putI (q := (12, 0)) dX8_refuseAt_7 fl_RX8_29 rfl rfl (ae_nmS hs3 ?_)
  refine ae_iconst (0 : Int32) dX8_refuseAt_10 (by decide) ?_
  obtain ⟨rfl, rfl⟩ := ae_retI hF4
  exact ae_iret dX8_refuseAt_11 rfl (by decide) ⟨rfl, rfl⟩
abbrev mX8_isSign : ae_M := (RX8, cX8_isSign, 2, some .boolean)
theorem vy_X8_isSign : ae_VY yX8_isSign mX8_isSign 1 := ⟨ww_590, ww_591, ww_8, ww_592, ⟨by decide, by decide, by decide +kernel⟩, by decide⟩
theorem dX8_isSign_0 : decode cX8_isSign 0 = .ok (.aload_n 0, 1) := by decide +kernel
theorem dX8_isSign_1 : decode cX8_isSign 1 = .ok (.getfield 39, 3) := by decide +kernel
theorem dX8_isSign_4 : decode cX8_isSign 4 = .ok (.aload_n 0, 1) := by decide +kernel
theorem dX8_isSign_5 : decode cX8_isSign 5 = .ok (.getfield 25, 3) := by decide +kernel
theorem dX8_isSign_8 : decode cX8_isSign 8 = .ok (.arraylength, 1) := by decide +kernel
theorem dX8_isSign_9 : decode cX8_isSign 9 = .ok (.if_icmp .ge 35, 3) := by decide +kernel
theorem dX8_isSign_12 : decode cX8_isSign 12 = .ok (.aload_n 0, 1) := by decide +kernel
theorem dX8_isSign_13 : decode cX8_isSign 13 = .ok (.getfield 15, 3) := by decide +kernel
theorem dX8_isSign_16 : decode cX8_isSign 16 = .ok (.aload_n 0, 1) := by decide +kernel
theorem dX8_isSign_17 : decode cX8_isSign 17 = .ok (.getfield 39, 3) := by decide +kernel
theorem dX8_isSign_20 : decode cX8_isSign 20 = .ok (.iaload, 1) := by decide +kernel
theorem dX8_isSign_21 : decode cX8_isSign 21 = .ok (.iconst 4, 1) := by decide +kernel
theorem dX8_isSign_22 : decode cX8_isSign 22 = .ok (.if_icmp .ne 22, 3) := by decide +kernel
theorem dX8_isSign_25 : decode cX8_isSign 25 = .ok (.aload_n 0, 1) := by decide +kernel
theorem dX8_isSign_26 : decode cX8_isSign 26 = .ok (.getfield 25, 3) := by decide +kernel
theorem dX8_isSign_29 : decode cX8_isSign 29 = .ok (.aload_n 0, 1) := by decide +kernel
theorem dX8_isSign_30 : decode cX8_isSign 30 = .ok (.getfield 39, 3) := by decide +kernel
theorem dX8_isSign_33 : decode cX8_isSign 33 = .ok (.laload, 1) := by decide +kernel
theorem dX8_isSign_34 : decode cX8_isSign 34 = .ok (.iload_n 1, 1) := by decide +kernel
theorem dX8_isSign_35 : decode cX8_isSign 35 = .ok (.i2l, 1) := by decide +kernel
theorem dX8_isSign_36 : decode cX8_isSign 36 = .ok (.lcmp, 1) := by decide +kernel
theorem dX8_isSign_37 : decode cX8_isSign 37 = .ok (.ifCond .ne 7, 3) := by decide +kernel
theorem dX8_isSign_40 : decode cX8_isSign 40 = .ok (.iconst 1, 1) := by decide +kernel
theorem dX8_isSign_41 : decode cX8_isSign 41 = .ok (.goto 4, 3) := by decide +kernel
theorem dX8_isSign_44 : decode cX8_isSign 44 = .ok (.iconst 0, 1) := by decide +kernel
theorem dX8_isSign_45 : decode cX8_isSign 45 = .ok (.ireturn, 1) := by decide +kernel
def F_X8_isSign_45 (t0 : Int32) (s0 : ae_S) : Option (Int32 × ae_S) := ae_gd (ae_zz t0) (some (t0, s0))
set_option maxHeartbeats 4000000 in
set_option maxRecDepth 100000 in
theorem t_X8_isSign_45 {l : Launch} {G : ae_G} (d : Nat) {rr : Int32} {ss : ae_S} (t0 : Int32) (s0 : ae_S) (hF : F_X8_isSign_45 t0 s0 = some (rr, ss)) : ae_T l G d mX8_isSign (ae_Po (some (ae_i rr)) ss) 45 [] [ae_i t0] s0 := by
  unfold F_X8_isSign_45 at hF
  obtain ⟨hg1, hF2⟩ := ae_gdI hF
  obtain ⟨rfl, rfl⟩ := ae_retI hF2
  exact ae_iret dX8_isSign_45 rfl (ae_zzN (ae_zzI hg1)) ⟨rfl, rfl⟩
def F_X8_isSign_44 (s0 : ae_S) : Option (Int32 × ae_S) := F_X8_isSign_45 (0 : Int32) s0
set_option maxHeartbeats 4000000 in
set_option maxRecDepth 100000 in
theorem t_X8_isSign_44 {l : Launch} {G : ae_G} (d : Nat) {rr : Int32} {ss : ae_S} (s0 : ae_S) (hF : F_X8_isSign_44 s0 = some (rr, ss)) : ae_T l G d mX8_isSign (ae_Po (some (ae_i rr)) ss) 44 [] [] s0 := by
  unfold F_X8_isSign_44 at hF
  refine ae_iconst (0 : Int32) dX8_isSign_44 (by decide) ?_
  refine ae_pick (lv' := []) [] rfl ?_
  exact t_X8_isSign_45 d (0 : Int32) s0 hF
def F_X8_isSign (v1 : Int32) (s0 : ae_S) : Option (Int32 × ae_S) := if (501 : Int32) ≤ (s0.1 12 0 6) then (F_X8_isSign_44 s0) else (ae_gd (ae_ib (s0.1 12 0 6) 501) (if (s0.1 13 0 (s0.1 12 0 6).toNatClampNeg) = (4 : Int32) then (ae_gd (ae_ib (s0.1 12 0 6) 501) (if (lg_cmp (s0.2.1 14 0 (s0.1 12 0 6).toNatClampNeg) v1.toInt64) = 0 then (F_X8_isSign_45 (1 : Int32) s0) else (F_X8_isSign_44 s0))) else (F_X8_isSign_44 s0)))
set_option maxHeartbeats 4000000 in
set_option maxRecDepth 100000 in
theorem c_X8_isSign {l : Launch} {G : ae_G} (d : Nat) {v1 : Int32} {s0 ss : ae_S} {rr : Int32} (hF : F_X8_isSign v1 s0 = some (rr, ss)) : ae_Met l G d yX8_isSign mX8_isSign [ae_r (some (12, 0)), ae_i v1] s0 (ae_Po (some (ae_i rr)) ss) := by
  refine ae_enter (by decide) rfl (Nat.le_of_ble_eq_true rfl) ?_
  show ae_T l G d mX8_isSign (ae_Po (some (ae_i rr)) ss) 0 [(0, ae_r (some (12, 0))), (1, ae_i v1)] [] s0
  unfold F_X8_isSign at hF
  refine ae_aload_n 0 dX8_isSign_0 rfl ?_
  refine ae_getI (q := (12, 0)) dX8_isSign_1 fl_RX8_39 rfl rfl ?_
  refine ae_aload_n 0 dX8_isSign_4 rfl ?_
  refine ae_getA (q := (12, 0)) (some (14, 0)) dX8_isSign_5 fl_RX8_25 rfl rfl rfl ?_
  refine ae_alen (q := (14, 0)) (501 : Int32) dX8_isSign_8 rfl rfl (by simp [ae_at]) (by decide) ?_
  refine ae_icmp_ge 44 dX8_isSign_9 rfl (fun hb3 => ?_) (fun hb3 => ?_)
  · have hF4 := ae_ifT hb3 hF
    refine ae_pick (lv' := []) [] rfl ?_
    exact t_X8_isSign_44 d s0 hF4
  · have hF4 := ae_ifF hb3 hF
    refine ae_aload_n 0 dX8_isSign_12 rfl ?_
    refine ae_getA (q := (12, 0)) (some (13, 0)) dX8_isSign_13 fl_RX8_15 rfl rfl rfl ?_
    refine ae_aload_n 0 dX8_isSign_16 rfl ?_
    refine ae_getI (q := (12, 0)) dX8_isSign_17 fl_RX8_39 rfl rfl ?_
    obtain ⟨hg5, hF6⟩ := ae_gdI hF4
    refine ae_iald (q := (13, 0)) dX8_isSign_20 rfl rfl (ae_ibI hg5) ?_
    refine ae_iconst (4 : Int32) dX8_isSign_21 (by decide) ?_
    refine ae_icmp_ne 44 dX8_isSign_22 rfl (fun hb7 => ?_) (fun hb7 => ?_)
    · have hF8 := ae_ifF hb7 hF6
      refine ae_pick (lv' := []) [] rfl ?_
      exact t_X8_isSign_44 d s0 hF8
    · have hF8 := ae_ifT hb7 hF6
      refine ae_aload_n 0 dX8_isSign_25 rfl ?_
      refine ae_getA (q := (12, 0)) (some (14, 0)) dX8_isSign_26 fl_RX8_25 rfl rfl rfl ?_
      refine ae_aload_n 0 dX8_isSign_29 rfl ?_
      refine ae_getI (q := (12, 0)) dX8_isSign_30 fl_RX8_39 rfl rfl ?_
      obtain ⟨hg9, hF10⟩ := ae_gdI hF8
      refine ae_lald (q := (14, 0)) dX8_isSign_33 rfl rfl (ae_ibI hg9) ?_
      refine ae_iload_n 1 dX8_isSign_34 rfl ?_
      refine ae_i2l dX8_isSign_35 ?_
      refine ae_lcmp dX8_isSign_36 ?_
      refine ae_if_ne 44 dX8_isSign_37 rfl (fun hb11 => ?_) (fun hb11 => ?_)
      · have hF12 := ae_ifF hb11 hF10
        refine ae_pick (lv' := []) [] rfl ?_
        exact t_X8_isSign_44 d s0 hF12
      · have hF12 := ae_ifT hb11 hF10
        refine ae_iconst (1 : Int32) dX8_isSign_40 (by decide) ?_
        refine ae_goto 45 dX8_isSign_41 rfl ?_
        refine ae_pick (lv' := []) [] rfl ?_
        exact t_X8_isSign_45 d (1 : Int32) s0 hF12
abbrev mX8_takeSign : ae_M := (RX8, cX8_takeSign, 2, some .boolean)
theorem vy_X8_takeSign : ae_VY yX8_takeSign mX8_takeSign 1 := ⟨ww_602, ww_603, ww_8, ww_604, ⟨by decide, by decide, by decide +kernel⟩, by decide⟩
theorem dX8_takeSign_0 : decode cX8_takeSign 0 = .ok (.aload_n 0, 1) := by decide +kernel
theorem dX8_takeSign_1 : decode cX8_takeSign 1 = .ok (.iload_n 1, 1) := by decide +kernel
theorem dX8_takeSign_2 : decode cX8_takeSign 2 = .ok (.invokevirtual 129, 3) := by decide +kernel
theorem dX8_takeSign_5 : decode cX8_takeSign 5 = .ok (.ifCond .ne 9, 3) := by decide +kernel
theorem dX8_takeSign_8 : decode cX8_takeSign 8 = .ok (.aload_n 0, 1) := by decide +kernel
theorem dX8_takeSign_9 : decode cX8_takeSign 9 = .ok (.iconst 1, 1) := by decide +kernel
theorem dX8_takeSign_10 : decode cX8_takeSign 10 = .ok (.invokevirtual 133, 3) := by decide +kernel
theorem dX8_takeSign_13 : decode cX8_takeSign 13 = .ok (.ireturn, 1) := by decide +kernel
theorem dX8_takeSign_14 : decode cX8_takeSign 14 = .ok (.aload_n 0, 1) := by decide +kernel
theorem dX8_takeSign_15 : decode cX8_takeSign 15 = .ok (.invokevirtual 136, 3) := by decide +kernel
theorem dX8_takeSign_18 : decode cX8_takeSign 18 = .ok (.iconst 1, 1) := by decide +kernel
theorem dX8_takeSign_19 : decode cX8_takeSign 19 = .ok (.ireturn, 1) := by decide +kernel
def F_X8_takeSign (v1 : Int32) (s0 : ae_S) : Option (Int32 × ae_S) := ae_bd (F_X8_isSign v1 s0) (fun (r1 : Int32) s2 => if r1 = 0 then (ae_bd (F_X8_refuse (1 : Int32) s2) (fun (r11 : Int32) s12 => ae_gd (ae_zz r11) (some (r11, s12)))) else (ae_bd (F_X8_advance s2) (fun (r7 : Unit) s8 => some ((1 : Int32), s8))))
set_option maxHeartbeats 4000000 in
set_option maxRecDepth 100000 in
theorem c_X8_takeSign {l : Launch} {G : ae_G} (d : Nat) {v1 : Int32} {s0 ss : ae_S} {rr : Int32} (hF : F_X8_takeSign v1 s0 = some (rr, ss)) : ae_Met l G (d + 1) yX8_takeSign mX8_takeSign [ae_r (some (12, 0)), ae_i v1] s0 (ae_Po (some (ae_i rr)) ss) := by
  refine ae_enter (by decide) rfl (Nat.le_of_ble_eq_true rfl) ?_
  show ae_T l G (d + 1) mX8_takeSign (ae_Po (some (ae_i rr)) ss) 0 [(0, ae_r (some (12, 0))), (1, ae_i v1)] [] s0
  unfold F_X8_takeSign at hF
  refine ae_aload_n 0 dX8_takeSign_0 rfl ?_
  refine ae_iload_n 1 dX8_takeSign_1 rfl ?_
  obtain ⟨r1, s2, hc3, hF4⟩ := ae_bdI hF
  refine ae_cV1 (q := (12, 0)) (As := [ae_i v1]) dX8_takeSign_2 ww_605 vy_X8_isSign rfl rfl rfl rfl rfl (Nat.le_of_ble_eq_true rfl) (c_X8_isSign d hc3) ?_
  refine ae_if_ne 14 dX8_takeSign_5 rfl (fun hb5 => ?_) (fun hb5 => ?_)
  · have hF6 := ae_ifF hb5 hF4
    refine ae_aload_n 0 dX8_takeSign_14 rfl ?_
    obtain ⟨r7, s8, hc9, hF10⟩ := ae_bdI hF6
    refine ae_cV0 (q := (12, 0)) (As := []) dX8_takeSign_15 ww_607 vy_X8_advance rfl rfl rfl rfl rfl (Nat.le_of_ble_eq_true rfl) (c_X8_advance d hc9) ?_
    refine ae_iconst (1 : Int32) dX8_takeSign_18 (by decide) ?_
    obtain ⟨rfl, rfl⟩ := ae_retI hF10
    exact ae_iret dX8_takeSign_19 rfl (by decide) ⟨rfl, rfl⟩
  · have hF6 := ae_ifT hb5 hF4
    refine ae_aload_n 0 dX8_takeSign_8 rfl ?_
    refine ae_iconst (1 : Int32) dX8_takeSign_9 (by decide) ?_
    obtain ⟨r11, s12, hc13, hF14⟩ := ae_bdI hF6
    refine ae_cV1 (q := (12, 0)) (As := [ae_i (1 : Int32)]) dX8_takeSign_10 ww_606 vy_X8_refuse rfl rfl rfl rfl rfl (Nat.le_of_ble_eq_true rfl) (c_X8_refuse d hc13) ?_
    obtain ⟨hg15, hF16⟩ := ae_gdI hF14
    obtain ⟨rfl, rfl⟩ := ae_retI hF16
    exact ae_iret dX8_takeSign_13 rfl (ae_zzN (ae_zzI hg15)) ⟨rfl, rfl⟩
abbrev mX8_length : ae_M := (RX8, cX8_length, 1, some .int)
theorem vy_X8_length : ae_VY yX8_length mX8_length 0 := ⟨ww_722, ww_723, ww_8, ww_724, ⟨by decide, by decide, by decide +kernel⟩, by decide⟩
theorem dX8_length_0 : decode cX8_length 0 = .ok (.aload_n 0, 1) := by decide +kernel
theorem dX8_length_1 : decode cX8_length 1 = .ok (.getfield 39, 3) := by decide +kernel
theorem dX8_length_4 : decode cX8_length 4 = .ok (.aload_n 0, 1) := by decide +kernel
theorem dX8_length_5 : decode cX8_length 5 = .ok (.getfield 22, 3) := by decide +kernel
theorem dX8_length_8 : decode cX8_length 8 = .ok (.arraylength, 1) := by decide +kernel
theorem dX8_length_9 : decode cX8_length 9 = .ok (.if_icmp .ge 15, 3) := by decide +kernel
theorem dX8_length_12 : decode cX8_length 12 = .ok (.aload_n 0, 1) := by decide +kernel
theorem dX8_length_13 : decode cX8_length 13 = .ok (.getfield 22, 3) := by decide +kernel
theorem dX8_length_16 : decode cX8_length 16 = .ok (.aload_n 0, 1) := by decide +kernel
theorem dX8_length_17 : decode cX8_length 17 = .ok (.getfield 39, 3) := by decide +kernel
theorem dX8_length_20 : decode cX8_length 20 = .ok (.iaload, 1) := by decide +kernel
theorem dX8_length_21 : decode cX8_length 21 = .ok (.goto 4, 3) := by decide +kernel
theorem dX8_length_24 : decode cX8_length 24 = .ok (.iconst 0, 1) := by decide +kernel
theorem dX8_length_25 : decode cX8_length 25 = .ok (.ireturn, 1) := by decide +kernel
def F_X8_length_25 (t0 : Int32) (s0 : ae_S) : Option (Int32 × ae_S) := some (t0, s0)
set_option maxHeartbeats 4000000 in
set_option maxRecDepth 100000 in
theorem t_X8_length_25 {l : Launch} {G : ae_G} (d : Nat) {rr : Int32} {ss : ae_S} (t0 : Int32) (s0 : ae_S) (hF : F_X8_length_25 t0 s0 = some (rr, ss)) : ae_T l G d mX8_length (ae_Po (some (ae_i rr)) ss) 25 [] [ae_i t0] s0 := by
  unfold F_X8_length_25 at hF
  obtain ⟨rfl, rfl⟩ := ae_retI hF
  exact ae_iret dX8_length_25 rfl rfl ⟨rfl, rfl⟩
def F_X8_length (s0 : ae_S) : Option (Int32 × ae_S) := if (501 : Int32) ≤ (s0.1 12 0 6) then (F_X8_length_25 (0 : Int32) s0) else (ae_gd (ae_ib (s0.1 12 0 6) 501) (F_X8_length_25 (s0.1 13 2 (s0.1 12 0 6).toNatClampNeg) s0))
set_option maxHeartbeats 4000000 in
set_option maxRecDepth 100000 in
theorem c_X8_length {l : Launch} {G : ae_G} (d : Nat) {s0 ss : ae_S} {rr : Int32} (hF : F_X8_length s0 = some (rr, ss)) : ae_Met l G d yX8_length mX8_length [ae_r (some (12, 0))] s0 (ae_Po (some (ae_i rr)) ss) := by
  refine ae_enter (by decide) rfl (Nat.le_of_ble_eq_true rfl) ?_
  show ae_T l G d mX8_length (ae_Po (some (ae_i rr)) ss) 0 [(0, ae_r (some (12, 0)))] [] s0
  unfold F_X8_length at hF
  refine ae_aload_n 0 dX8_length_0 rfl ?_
  refine ae_getI (q := (12, 0)) dX8_length_1 fl_RX8_39 rfl rfl ?_
  refine ae_aload_n 0 dX8_length_4 rfl ?_
  refine ae_getA (q := (12, 0)) (some (13, 2)) dX8_length_5 fl_RX8_22 rfl rfl rfl ?_
  refine ae_alen (q := (13, 2)) (501 : Int32) dX8_length_8 rfl rfl (by simp [ae_at]) (by decide) ?_
  refine ae_icmp_ge 24 dX8_length_9 rfl (fun hb1 => ?_) (fun hb1 => ?_)
  · have hF2 := ae_ifT hb1 hF
    refine ae_iconst (0 : Int32) dX8_length_24 (by decide) ?_
    refine ae_pick (lv' := []) [] rfl ?_
    exact t_X8_length_25 d (0 : Int32) s0 hF2
  · have hF2 := ae_ifF hb1 hF
    refine ae_aload_n 0 dX8_length_12 rfl ?_
    refine ae_getA (q := (12, 0)) (some (13, 2)) dX8_length_13 fl_RX8_22 rfl rfl rfl ?_
    refine ae_aload_n 0 dX8_length_16 rfl ?_
    refine ae_getI (q := (12, 0)) dX8_length_17 fl_RX8_39 rfl rfl ?_
    obtain ⟨hg3, hF4⟩ := ae_gdI hF2
    refine ae_iald (q := (13, 2)) dX8_length_20 rfl rfl (ae_ibI hg3) ?_
    refine ae_goto 25 dX8_length_21 rfl ?_
    refine ae_pick (lv' := []) [] rfl ?_
    exact t_X8_length_25 d (s0.1 13 2 (s0.1 12 0 6).toNatClampNeg) s0 hF4
abbrev mX8_faultNumber : ae_M := (RX8, cX8_faultNumber, 1, some .int)
theorem vy_X8_faultNumber : ae_VY yX8_faultNumber mX8_faultNumber 0 := ⟨ww_1034, ww_1035, ww_8, ww_1036, ⟨by decide, by decide, by decide +kernel⟩, by decide⟩
theorem dX8_faultNumber_0 : decode cX8_faultNumber 0 = .ok (.aload_n 0, 1) := by decide +kernel
theorem dX8_faultNumber_1 : decode cX8_faultNumber 1 = .ok (.getfield 33, 3) := by decide +kernel
theorem dX8_faultNumber_4 : decode cX8_faultNumber 4 = .ok (.ireturn, 1) := by decide +kernel
def F_X8_faultNumber (s0 : ae_S) : Option (Int32 × ae_S) := some (s0.1 12 0 7, s0)
set_option maxHeartbeats 4000000 in
set_option maxRecDepth 100000 in
theorem c_X8_faultNumber {l : Launch} {G : ae_G} (d : Nat) {s0 ss : ae_S} {rr : Int32} (hF : F_X8_faultNumber s0 = some (rr, ss)) : ae_Met l G d yX8_faultNumber mX8_faultNumber [ae_r (some (12, 0))] s0 (ae_Po (some (ae_i rr)) ss) := by
  refine ae_enter (by decide) rfl (Nat.le_of_ble_eq_true rfl) ?_
  show ae_T l G d mX8_faultNumber (ae_Po (some (ae_i rr)) ss) 0 [(0, ae_r (some (12, 0)))] [] s0
  unfold F_X8_faultNumber at hF
  refine ae_aload_n 0 dX8_faultNumber_0 rfl ?_
  refine ae_getI (q := (12, 0)) dX8_faultNumber_1 fl_RX8_33 rfl rfl ?_
  obtain ⟨rfl, rfl⟩ := ae_retI hF
  exact ae_iret dX8_faultNumber_4 rfl rfl ⟨rfl, rfl⟩
abbrev mX8_faultPlace : ae_M := (RX8, cX8_faultPlace, 1, some .int)
theorem vy_X8_faultPlace : ae_VY yX8_faultPlace mX8_faultPlace 0 := ⟨ww_1038, ww_1039, ww_8, ww_1040, ⟨by decide, by decide, by decide +kernel⟩, by decide⟩
theorem dX8_faultPlace_0 : decode cX8_faultPlace 0 = .ok (.aload_n 0, 1) := by decide +kernel
theorem dX8_faultPlace_1 : decode cX8_faultPlace 1 = .ok (.getfield 29, 3) := by decide +kernel
theorem dX8_faultPlace_4 : decode cX8_faultPlace 4 = .ok (.ireturn, 1) := by decide +kernel
def F_X8_faultPlace (s0 : ae_S) : Option (Int32 × ae_S) := some (s0.1 12 0 8, s0)
set_option maxHeartbeats 4000000 in
set_option maxRecDepth 100000 in
theorem c_X8_faultPlace {l : Launch} {G : ae_G} (d : Nat) {s0 ss : ae_S} {rr : Int32} (hF : F_X8_faultPlace s0 = some (rr, ss)) : ae_Met l G d yX8_faultPlace mX8_faultPlace [ae_r (some (12, 0))] s0 (ae_Po (some (ae_i rr)) ss) := by
  refine ae_enter (by decide) rfl (Nat.le_of_ble_eq_true rfl) ?_
  show ae_T l G d mX8_faultPlace (ae_Po (some (ae_i rr)) ss) 0 [(0, ae_r (some (12, 0)))] [] s0
  unfold F_X8_faultPlace at hF
  refine ae_aload_n 0 dX8_faultPlace_0 rfl ?_
  refine ae_getI (q := (12, 0)) dX8_faultPlace_1 fl_RX8_29 rfl rfl ?_
  obtain ⟨rfl, rfl⟩ := ae_retI hF
  exact ae_iret dX8_faultPlace_4 rfl rfl ⟨rfl, rfl⟩
