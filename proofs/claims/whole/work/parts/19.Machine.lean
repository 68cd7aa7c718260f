/-! methods as functions: X4_meet X4_pop X4_push X4_topIsFloat X4_checkIndex X4_pushTruth X4_combineFloats X4_divideWholes X4_combineWholes X4_combine X4_leapUnless X4_load X4_negate X4_openLevel X4_store X4_run X4_troubleCount X4_troubleAt -/
theorem fl_RX4_19 : ae_FL RX4 19 2 2 (.object "ByteViews$Bytes") true := ⟨_, _, _, rfl, by decide, ww_260, rfl, rfl, rfl⟩
theorem fl_RX4_33 : ae_FL RX4 33 2 5 (.array (.array .int)) true := ⟨_, _, _, rfl, by decide, ww_263, rfl, rfl, rfl⟩
theorem fl_RX4_36 : ae_FL RX4 36 2 6 (.array .int) true := ⟨_, _, _, rfl, by decide, ww_264, rfl, rfl, rfl⟩
theorem fl_RX4_40 : ae_FL RX4 40 2 7 (.array .int) true := ⟨_, _, _, rfl, by decide, ww_265, rfl, rfl, rfl⟩
theorem fl_RX4_43 : ae_FL RX4 43 2 8 (.array .int) true := ⟨_, _, _, rfl, by decide, ww_266, rfl, rfl, rfl⟩
theorem fl_RX4_46 : ae_FL RX4 46 2 13 (.int) false := ⟨_, _, _, rfl, by decide, ww_271, rfl, rfl, rfl⟩
theorem fl_RX4_50 : ae_FL RX4 50 2 9 (.int) false := ⟨_, _, _, rfl, by decide, ww_267, rfl, rfl, rfl⟩
theorem fl_RX4_53 : ae_FL RX4 53 2 10 (.int) false := ⟨_, _, _, rfl, by decide, ww_268, rfl, rfl, rfl⟩
theorem fl_RX4_56 : ae_FL RX4 56 2 11 (.int) false := ⟨_, _, _, rfl, by decide, ww_269, rfl, rfl, rfl⟩
theorem fl_RX4_59 : ae_FL RX4 59 2 12 (.int) false := ⟨_, _, _, rfl, by decide, ww_270, rfl, rfl, rfl⟩
theorem fl_RX4_23 : ae_FL RX4 23 2 3 (.array .long) true := ⟨_, _, _, rfl, by decide, ww_261, rfl, rfl, rfl⟩
theorem fl_RX4_27 : ae_FL RX4 27 2 4 (.array .boolean) true := ⟨_, _, _, rfl, by decide, ww_262, rfl, rfl, rfl⟩
theorem fl_RX4_159 : ae_FL RX4 159 7 4 (.object "ByteViews$Kind") false := ⟨_, _, _, rfl, by decide, ww_96, rfl, rfl, rfl⟩
theorem fl_RX4_9 : ae_FL RX4 9 2 0 (.object "ByteViews$Code") true := ⟨_, _, _, rfl, by decide, ww_258, rfl, rfl, rfl⟩
theorem fl_RX4_15 : ae_FL RX4 15 2 1 (.object "ByteViews$Shelf") true := ⟨_, _, _, rfl, by decide, ww_259, rfl, rfl, rfl⟩
abbrev mX4_meet : ae_M := (RX4, cX4_meet, 2, none)
theorem vy_X4_meet : ae_VY yX4_meet mX4_meet 1 := ⟨ww_858, wq_37, ww_12, ww_859, ⟨by decide, by decide, by decide +kernel⟩, by decide⟩
theorem dX4_meet_0 : decode cX4_meet 0 = .ok (.aload_n 0, 1) := by decide +kernel
theorem dX4_meet_1 : decode cX4_meet 1 = .ok (.getfield 46, 3) := by decide +kernel
theorem dX4_meet_4 : decode cX4_meet 4 = .ok (.bipush 20, 2) := by decide +kernel
theorem dX4_meet_6 : decode cX4_meet 6 = .ok (.if_icmp .ge 13, 3) := by decide +kernel
theorem dX4_meet_9 : decode cX4_meet 9 = .ok (.aload_n 0, 1) := by decide +kernel
theorem dX4_meet_10 : decode cX4_meet 10 = .ok (.getfield 43, 3) := by decide +kernel
theorem dX4_meet_13 : decode cX4_meet 13 = .ok (.aload_n 0, 1) := by decide +kernel
theorem dX4_meet_14 : decode cX4_meet 14 = .ok (.getfield 46, 3) := by decide +kernel
theorem dX4_meet_17 : decode cX4_meet 17 = .ok (.iload_n 1, 1) := by decide +kernel
theorem dX4_meet_18 : decode cX4_meet 18 = .ok (.iastore, 1) := by decide +kernel
theorem dX4_meet_19 : decode cX4_meet 19 = .ok (.aload_n 0, 1) := by decide +kernel
theorem dX4_meet_20 : decode cX4_meet 20 = .ok (.dup, 1) := by decide +kernel
theorem dX4_meet_21 : decode cX4_meet 21 = .ok (.getfield 46, 3) := by decide +kernel
theorem dX4_meet_24 : decode cX4_meet 24 = .ok (.iconst 1, 1) := by decide +kernel
theorem dX4_meet_25 : decode cX4_meet 25 = .ok (.iadd, 1) := by decide +kernel
theorem dX4_meet_26 : decode cX4_meet 26 = .ok (.putfield 46, 3) := by decide +kernel
theorem dX4_meet_29 : decode cX4_meet 29 = .ok (.aload_n 0, 1) := by decide +kernel
theorem dX4_meet_30 : decode cX4_meet 30 = .ok (.getfield 53, 3) := by decide +kernel
theorem dX4_meet_33 : decode cX4_meet 33 = .ok (.ifCond .lt 57, 3) := by decide +kernel
theorem dX4_meet_36 : decode cX4_meet 36 = .ok (.aload_n 0, 1) := by decide +kernel
theorem dX4_meet_37 : decode cX4_meet 37 = .ok (.getfield 53, 3) := by decide +kernel
theorem dX4_meet_40 : decode cX4_meet 40 = .ok (.aload_n 0, 1) := by decide +kernel
theorem dX4_meet_41 : decode cX4_meet 41 = .ok (.getfield 33, 3) := by decide +kernel
theorem dX4_meet_44 : decode cX4_meet 44 = .ok (.arraylength, 1) := by decide +kernel
theorem dX4_meet_45 : decode cX4_meet 45 = .ok (.if_icmp .ge 45, 3) := by decide +kernel
theorem dX4_meet_48 : decode cX4_meet 48 = .ok (.aload_n 0, 1) := by decide +kernel
theorem dX4_meet_49 : decode cX4_meet 49 = .ok (.getfield 19, 3) := by decide +kernel
theorem dX4_meet_52 : decode cX4_meet 52 = .ok (.aload_n 0, 1) := by decide +kernel
theorem dX4_meet_53 : decode cX4_meet 53 = .ok (.getfield 33, 3) := by decide +kernel
theorem dX4_meet_56 : decode cX4_meet 56 = .ok (.aload_n 0, 1) := by decide +kernel
theorem dX4_meet_57 : decode cX4_meet 57 = .ok (.getfield 53, 3) := by decide +kernel
theorem dX4_meet_60 : decode cX4_meet 60 = .ok (.aaload, 1) := by decide +kernel
theorem dX4_meet_61 : decode cX4_meet 61 = .ok (.invokevirtual 129, 3) := by decide +kernel
theorem dX4_meet_64 : decode cX4_meet 64 = .ok (.aload_n 0, 1) := by decide +kernel
theorem dX4_meet_65 : decode cX4_meet 65 = .ok (.aload_n 0, 1) := by decide +kernel
theorem dX4_meet_66 : decode cX4_meet 66 = .ok (.getfield 36, 3) := by decide +kernel
theorem dX4_meet_69 : decode cX4_meet 69 = .ok (.aload_n 0, 1) := by decide +kernel
theorem dX4_meet_70 : decode cX4_meet 70 = .ok (.getfield 53, 3) := by decide +kernel
theorem dX4_meet_73 : decode cX4_meet 73 = .ok (.iaload, 1) := by decide +kernel
theorem dX4_meet_74 : decode cX4_meet 74 = .ok (.putfield 56, 3) := by decide +kernel
theorem dX4_meet_77 : decode cX4_meet 77 = .ok (.aload_n 0, 1) := by decide +kernel
theorem dX4_meet_78 : decode cX4_meet 78 = .ok (.aload_n 0, 1) := by decide +kernel
theorem dX4_meet_79 : decode cX4_meet 79 = .ok (.getfield 40, 3) := by decide +kernel
theorem dX4_meet_82 : decode cX4_meet 82 = .ok (.aload_n 0, 1) := by decide +kernel
theorem dX4_meet_83 : decode cX4_meet 83 = .ok (.getfield 53, 3) := by decide +kernel
theorem dX4_meet_86 : decode cX4_meet 86 = .ok (.iaload, 1) := by decide +kernel
theorem dX4_meet_87 : decode cX4_meet 87 = .ok (.putfield 59, 3) := by decide +kernel
theorem dX4_meet_90 : decode cX4_meet 90 = .ok (.aload_n 0, 1) := by decide +kernel
theorem dX4_meet_91 : decode cX4_meet 91 = .ok (.aload_n 0, 1) := by decide +kernel
theorem dX4_meet_92 : decode cX4_meet 92 = .ok (.getfield 53, 3) := by decide +kernel
theorem dX4_meet_95 : decode cX4_meet 95 = .ok (.iconst 1, 1) := by decide +kernel
theorem dX4_meet_96 : decode cX4_meet 96 = .ok (.isub, 1) := by decide +kernel
theorem dX4_meet_97 : decode cX4_meet 97 = .ok (.iconst 0, 1) := by decide +kernel
theorem dX4_meet_98 : decode cX4_meet 98 = .ok (.invokestatic 114, 3) := by decide +kernel
theorem dX4_meet_101 : decode cX4_meet 101 = .ok (.putfield 53, 3) := by decide +kernel
theorem dX4_meet_104 : decode cX4_meet 104 = .ok (.aload_n 0, 1) := by decide +kernel
theorem dX4_meet_105 : decode cX4_meet 105 = .ok (.iconst 0, 1) := by decide +kernel
theorem dX4_meet_106 : decode cX4_meet 106 = .ok (.putfield 50, 3) := by decide +kernel
theorem dX4_meet_109 : decode cX4_meet 109 = .ok (.return_, 1) := by decide +kernel
def F_X4_meet_90 (s0 : ae_S) : Option (Unit × ae_S) := ae_lt (ae_wI s0 21 0 10 (if ((s0.1 21 0 10) - (1 : Int32)) < (0 : Int32) then (0 : Int32) else ((s0.1 21 0 10) - (1 : Int32)))) (fun s1 => ae_lt (ae_wI s1 21 0 9 (0 : Int32)) (fun s3 => some ((), s3)))
set_option maxHeartbeats 4000000 in
set_option maxRecDepth 100000 in
theorem t_X4_meet_90 {l : Launch} {G : ae_G} (d : Nat) {rr : Unit} {ss : ae_S} (s0 : ae_S) (hF : F_X4_meet_90 s0 = some (rr, ss)) : ae_T l G (d + 2) mX4_meet (ae_Po none ss) 90 [(0, ae_r (some (21, 0)))] [] s0 := by
  unfold F_X4_meet_90 at hF
  refine ae_aload_n 0 dX4_meet_90 rfl ?_
  refine ae_aload_n 0 dX4_meet_91 rfl ?_
  refine ae_getI (q := (21, 0)) dX4_meet_92 fl_RX4_53 rfl rfl ?_
  refine ae_iconst (1 : Int32) dX4_meet_95 (by decide) ?_
  refine ae_isub dX4_meet_96 ?_
  refine ae_iconst (0 : Int32) dX4_meet_97 (by decide) ?_
  refine ae_mmax dX4_meet_98 ww_864 ww_741 ww_21 ww_742 (Nat.le_of_ble_eq_true rfl) ?_
  obtain ⟨s1, hs1, hF2⟩ := ae_ltI hF
  refine ae_putI (q := (21, 0)) dX4_meet_101 fl_RX4_53 rfl rfl (ae_nmS hs1 ?_)
  refine ae_aload_n 0 dX4_meet_104 rfl ?_
  refine ae_iconst (0 : Int32) dX4_meet_105 (by decide) ?_
  obtain ⟨s3, hs3, hF4⟩ := ae_ltI hF2
  refine ae_putI (q := (21, 0)) dX4_meet_106 fl_RX4_50 rfl rfl (ae_nmS hs3 ?_)
  obtain ⟨rfl, rfl⟩ := ae_retI hF4
  exact ae_vret dX4_meet_109 rfl ⟨rfl, rfl⟩
def F_X4_meet_19 (s0 : ae_S) : Option (Unit × ae_S) := ae_lt (ae_wI s0 21 0 13 ((s0.1 21 0 13) + (1 : Int32))) (fun s5 => if (s5.1 21 0 10) < 0 then (F_X4_meet_90 s5) else (if (6 : Int32) ≤ (s5.1 21 0 10) then (F_X4_meet_90 s5) else (ae_gd (ae_ib (s5.1 21 0 10) 6) (ae_bd (F_X0_loadFrom (Fin.ofNat 32 ((s5.1 21 0 10).toNatClampNeg + 10)) s5) (fun (r13 : Unit) s14 => ae_gd (ae_ib (s14.1 21 0 10) 6) (ae_lt (ae_wI s14 21 0 11 (s14.1 25 0 (s14.1 21 0 10).toNatClampNeg)) (fun s19 => ae_gd (ae_ib (s19.1 21 0 10) 6) (ae_lt (ae_wI s19 21 0 12 (s19.1 25 1 (s19.1 21 0 10).toNatClampNeg)) (fun s23 => F_X4_meet_90 s23)))))))))
set_option maxHeartbeats 4000000 in
set_option maxRecDepth 100000 in
theorem t_X4_meet_19 {l : Launch} {G : ae_G} (d : Nat) {rr : Unit} {ss : ae_S} (s0 : ae_S) (hF : F_X4_meet_19 s0 = some (rr, ss)) : ae_T l G (d + 2) mX4_meet (ae_Po none ss) 19 [(0, ae_r (some (21, 0)))] [] s0 := by
  unfold F_X4_meet_19 at hF
  refine ae_aload_n 0 dX4_meet_19 rfl ?_
  refine ae_dup dX4_meet_20 rfl ?_
  refine ae_getI (q := (21, 0)) dX4_meet_21 fl_RX4_46 rfl rfl ?_
  refine ae_iconst (1 : Int32) dX4_meet_24 (by decide) ?_
  refine ae_iadd dX4_meet_25 ?_
  obtain ⟨s5, hs5, hF6⟩ := ae_ltI hF
  refine ae_putI (q := (21, 0)) dX4_meet_26 fl_RX4_46 rfl rfl (ae_nmS hs5 ?_)
  refine ae_aload_n 0 dX4_meet_29 rfl ?_
  refine ae_getI (q := (21, 0)) dX4_meet_30 fl_RX4_53 rfl rfl ?_
  refine ae_if_lt 90 dX4_meet_33 rfl (fun hb7 => ?_) (fun hb7 => ?_)
  · have hF8 := ae_ifT hb7 hF6
    refine ae_pick (lv' := [(0, ae_r (some (21, 0)))]) [0] rfl ?_
    exact t_X4_meet_90 d s5 hF8
  · have hF8 := ae_ifF hb7 hF6
    refine ae_aload_n 0 dX4_meet_36 rfl ?_
    refine ae_getI (q := (21, 0)) dX4_meet_37 fl_RX4_53 rfl rfl ?_
    refine ae_aload_n 0 dX4_meet_40 rfl ?_
    refine ae_getA (q := (21, 0)) (some (24, 0)) dX4_meet_41 fl_RX4_33 rfl rfl rfl ?_
    refine ae_alen (q := (24, 0)) (6 : Int32) dX4_meet_44 rfl rfl (by simp [ae_at]) (by decide) ?_
    refine ae_icmp_ge 90 dX4_meet_45 rfl (fun hb9 => ?_) (fun hb9 => ?_)
    · have hF10 := ae_ifT hb9 hF8
      refine ae_pick (lv' := [(0, ae_r (some (21, 0)))]) [0] rfl ?_
      exact t_X4_meet_90 d s5 hF10
    · have hF10 := ae_ifF hb9 hF8
      refine ae_aload_n 0 dX4_meet_48 rfl ?_
      refine ae_getO (q := (21, 0)) (some (3, 0)) dX4_meet_49 fl_RX4_19 rfl rfl rfl ?_
      refine ae_aload_n 0 dX4_meet_52 rfl ?_
      refine ae_getA (q := (21, 0)) (some (24, 0)) dX4_meet_53 fl_RX4_33 rfl rfl rfl ?_
      refine ae_aload_n 0 dX4_meet_56 rfl ?_
      refine ae_getI (q := (21, 0)) dX4_meet_57 fl_RX4_53 rfl rfl ?_
      obtain ⟨hg11, hF12⟩ := ae_gdI hF10
      refine ae_aald (q := (24, 0)) (some (4, (Fin.ofNat 32 ((s5.1 21 0 10).toNatClampNeg + 10)))) dX4_meet_60 rfl rfl (Or.inl rfl) (ae_ibI hg11) rfl ?_
      obtain ⟨r13, s14, hc15, hF16⟩ := ae_bdI hF12
      refine ae_cV0 (q := (3, 0)) (As := [ae_r (some (4, (Fin.ofNat 32 ((s5.1 21 0 10).toNatClampNeg + 10))))]) dX4_meet_61 ww_860 vy_X0_loadFrom rfl rfl rfl rfl rfl (Nat.le_of_ble_eq_true rfl) (c_X0_loadFrom d hc15) ?_
      refine ae_aload_n 0 dX4_meet_64 rfl ?_
      refine ae_aload_n 0 dX4_meet_65 rfl ?_
      refine ae_getA (q := (21, 0)) (some (25, 0)) dX4_meet_66 fl_RX4_36 rfl rfl rfl ?_
      refine ae_aload_n 0 dX4_meet_69 rfl ?_
      refine ae_getI (q := (21, 0)) dX4_meet_70 fl_RX4_53 rfl rfl ?_
      obtain ⟨hg17, hF18⟩ := ae_gdI hF16
      refine ae_iald (q := (25, 0)) dX4_meet_73 rfl rfl (ae_ibI hg17) ?_
      obtain ⟨s19, hs19, hF20⟩ := ae_ltI hF18
      refine ae_putI (q := (21, 0)) dX4_meet_74 fl_RX4_56 rfl rfl (ae_nmS hs19 ?_)
      refine ae_aload_n 0 dX4_meet_77 rfl ?_
      refine ae_aload_n 0 dX4_meet_78 rfl ?_
      refine ae_getA (q := (21, 0)) (some (25, 1)) dX4_meet_79 fl_RX4_40 rfl rfl rfl ?_
      refine ae_aload_n 0 dX4_meet_82 rfl ?_
      refine ae_getI (q := (21, 0)) dX4_meet_83 fl_RX4_53 rfl rfl ?_
      obtain ⟨hg21, hF22⟩ := ae_gdI hF20
      refine ae_iald (q := (25, 1)) dX4_meet_86 rfl rfl (ae_ibI hg21) ?_
      obtain ⟨s23, hs23, hF24⟩ := ae_ltI hF22
      refine ae_putI (q := (21, 0)) dX4_meet_87 fl_RX4_59 rfl rfl (ae_nmS hs23 ?_)
      refine ae_pick (lv' := [(0, ae_r (some (21, 0)))]) [0] rfl ?_
      exact t_X4_meet_90 d s23 hF24
def F_X4_meet (v1 : Int32) (s0 : ae_S) : Option (Unit × ae_S) := if (20 : Int32) ≤ (s0.1 21 0 13) then (F_X4_meet_19 s0) else (ae_gd (ae_ib (s0.1 21 0 13) 20) (ae_lt (ae_wI s0 26 0 (s0.1 21 0 13).toNatClampNeg v1) (fun s29 => F_X4_meet_19 s29)))
set_option maxHeartbeats 4000000 in
set_option maxRecDepth 100000 in
theorem c_X4_meet {l : Launch} {G : ae_G} (d : Nat) {v1 : Int32} {s0 ss : ae_S} {rr : Unit} (hF : F_X4_meet v1 s0 = some (rr, ss)) : ae_Met l G (d + 2) yX4_meet mX4_meet [ae_r (some (21, 0)), ae_i v1] s0 (ae_Po none ss) := by
  refine ae_enter (by decide) rfl (Nat.le_of_ble_eq_true rfl) ?_
  show ae_T l G (d + 2) mX4_meet (ae_Po none ss) 0 [(0, ae_r (some (21, 0))), (1, ae_i v1)] [] s0
  unfold F_X4_meet at hF
  refine ae_aload_n 0 dX4_meet_0 rfl ?_
  refine ae_getI (q := (21, 0)) dX4_meet_1 fl_RX4_46 rfl rfl ?_
  refine ae_bipush (20 : Int32) dX4_meet_4 (by decide) ?_
  refine ae_icmp_ge 19 dX4_meet_6 rfl (fun hb25 => ?_) (fun hb25 => ?_)
  · have hF26 := ae_ifT hb25 hF
    refine ae_pick (lv' := [(0, ae_r (some (21, 0)))]) [0] rfl ?_
    exact t_X4_meet_19 d s0 hF26
  · have hF26 := ae_ifF hb25 hF
    refine ae_aload_n 0 dX4_meet_9 rfl ?_
    refine ae_getA (q := (21, 0)) (some (26, 0)) dX4_meet_10 fl_RX4_43 rfl rfl rfl ?_
    refine ae_aload_n 0 dX4_meet_13 rfl ?_
    refine ae_getI (q := (21, 0)) dX4_meet_14 fl_RX4_46 rfl rfl ?_
    refine ae_iload_n 1 dX4_meet_17 rfl ?_
    obtain ⟨hg27, hF28⟩ := ae_gdI hF26
    obtain ⟨s29, hs29, hF30⟩ := ae_ltI hF28
    refine ae_iast (q := (26, 0)) dX4_meet_18 rfl rfl (ae_ibI hg27) (ae_nmS hs29 ?_)
    refine ae_pick (lv' := [(0, ae_r (some (21, 0)))]) [0] rfl ?_
    exact t_X4_meet_19 d s29 hF30
abbrev mX4_pop : ae_M := (RX4, cX4_pop, 1, some .long)
theorem vy_X4_pop : ae_VY yX4_pop mX4_pop 0 := ⟨ww_847, wq_36, ww_12, ww_848, ⟨by decide, by decide, by decide +kernel⟩, by decide⟩
theorem dX4_pop_0 : decode cX4_pop 0 = .ok (.aload_n 0, 1) := by decide +kernel
theorem dX4_pop_1 : decode cX4_pop 1 = .ok (.getfield 50, 3) := by decide +kernel
theorem dX4_pop_4 : decode cX4_pop 4 = .ok (.ifCond .gt 5, 3) := by decide +kernel
theorem dX4_pop_7 : decode cX4_pop 7 = .ok (.lconst 0, 1) := by decide +kernel
theorem dX4_pop_8 : decode cX4_pop 8 = .ok (.lreturn, 1) := by decide +kernel
theorem dX4_pop_9 : decode cX4_pop 9 = .ok (.aload_n 0, 1) := by decide +kernel
theorem dX4_pop_10 : decode cX4_pop 10 = .ok (.dup, 1) := by decide +kernel
theorem dX4_pop_11 : decode cX4_pop 11 = .ok (.getfield 50, 3) := by decide +kernel
theorem dX4_pop_14 : decode cX4_pop 14 = .ok (.iconst 1, 1) := by decide +kernel
theorem dX4_pop_15 : decode cX4_pop 15 = .ok (.isub, 1) := by decide +kernel
theorem dX4_pop_16 : decode cX4_pop 16 = .ok (.putfield 50, 3) := by decide +kernel
theorem dX4_pop_19 : decode cX4_pop 19 = .ok (.aload_n 0, 1) := by decide +kernel
theorem dX4_pop_20 : decode cX4_pop 20 = .ok (.getfield 23, 3) := by decide +kernel
theorem dX4_pop_23 : decode cX4_pop 23 = .ok (.aload_n 0, 1) := by decide +kernel
theorem dX4_pop_24 : decode cX4_pop 24 = .ok (.getfield 50, 3) := by decide +kernel
theorem dX4_pop_27 : decode cX4_pop 27 = .ok (.laload, 1) := by decide +kernel
theorem dX4_pop_28 : decode cX4_pop 28 = .ok (.lreturn, 1) := by decide +kernel
def F_X4_pop (s0 : ae_S) : Option (Int64 × ae_S) := if 0 < (s0.1 21 0 9) then (ae_lt (ae_wI s0 21 0 9 ((s0.1 21 0 9) - (1 : Int32))) (fun s3 => ae_gd (ae_ib (s3.1 21 0 9) 252) (some (s3.2.1 22 0 (s3.1 21 0 9).toNatClampNeg, s3)))) else (some ((0 : Int64), s0))
set_option maxHeartbeats 4000000 in
set_option maxRecDepth 100000 in
theorem c_X4_pop {l : Launch} {G : ae_G} (d : Nat) {s0 ss : ae_S} {rr : Int64} (hF : F_X4_pop s0 = some (rr, ss)) : ae_Met l G d yX4_pop mX4_pop [ae_r (some (21, 0))] s0 (ae_Po (some (ae_l rr)) ss) := by
  refine ae_enter (by decide) rfl (Nat.le_of_ble_eq_true rfl) ?_
  show ae_T l G d mX4_pop (ae_Po (some (ae_l rr)) ss) 0 [(0, ae_r (some (21, 0)))] [] s0
  unfold F_X4_pop at hF
  refine ae_aload_n 0 dX4_pop_0 rfl ?_
  refine ae_getI (q := (21, 0)) dX4_pop_1 fl_RX4_50 rfl rfl ?_
  refine ae_if_gt 9 dX4_pop_4 rfl (fun hb1 => ?_) (fun hb1 => ?_)
  · have hF2 := ae_ifT hb1 hF
    refine ae_aload_n 0 dX4_pop_9 rfl ?_
    refine ae_dup dX4_pop_10 rfl ?_
    refine ae_getI (q := (21, 0)) dX4_pop_11 fl_RX4_50 rfl rfl ?_
    refine ae_iconst (1 : Int32) dX4_pop_14 (by decide) ?_
    refine ae_isub dX4_pop_15 ?_
    obtain ⟨s3, hs3, hF4⟩ := ae_ltI hF2
    refine ae_putI (q := (21, 0)) dX4_pop_16 fl_RX4_50 rfl rfl (ae_nmS hs3 ?_)
    refine ae_aload_n 0 dX4_pop_19 rfl ?_
    refine ae_getA (q := (21, 0)) (some (22, 0)) dX4_pop_20 fl_RX4_23 rfl rfl rfl ?_
    refine ae_aload_n 0 dX4_pop_23 rfl ?_
    refine ae_getI (q := (21, 0)) dX4_pop_24 fl_RX4_50 rfl rfl ?_
    obtain ⟨hg5, hF6⟩ := ae_gdI hF4
    refine ae_lald (q := (22, 0)) dX4_pop_27 rfl rfl (ae_ibI hg5) ?_
    obtain ⟨rfl, rfl⟩ := ae_retI hF6
    exact ae_lret dX4_pop_28 rfl ⟨rfl, rfl⟩
  · have hF2 := ae_ifF hb1 hF
    refine ae_lconst (0 : Int64) dX4_pop_7 (by decide) ?_
    obtain ⟨rfl, rfl⟩ := ae_retI hF2
    exact ae_lret dX4_pop_8 rfl ⟨rfl, rfl⟩
abbrev mX4_push : ae_M := (RX4, cX4_push, 4, none)
theorem vy_X4_push : ae_VY yX4_push mX4_push 2 := ⟨ww_834, wq_33, ww_12, ww_835, ⟨by decide, by decide, by decide +kernel⟩, by decide⟩
theorem dX4_push_0 : decode cX4_push 0 = .ok (.aload_n 0, 1) := by decide +kernel
theorem dX4_push_1 : decode cX4_push 1 = .ok (.getfield 50, 3) := by decide +kernel
theorem dX4_push_4 : decode cX4_push 4 = .ok (.ifCond .lt 45, 3) := by decide +kernel
theorem dX4_push_7 : decode cX4_push 7 = .ok (.aload_n 0, 1) := by decide +kernel
theorem dX4_push_8 : decode cX4_push 8 = .ok (.getfield 50, 3) := by decide +kernel
theorem dX4_push_11 : decode cX4_push 11 = .ok (.aload_n 0, 1) := by decide +kernel
theorem dX4_push_12 : decode cX4_push 12 = .ok (.getfield 23, 3) := by decide +kernel
theorem dX4_push_15 : decode cX4_push 15 = .ok (.arraylength, 1) := by decide +kernel
theorem dX4_push_16 : decode cX4_push 16 = .ok (.if_icmp .ge 33, 3) := by decide +kernel
theorem dX4_push_19 : decode cX4_push 19 = .ok (.aload_n 0, 1) := by decide +kernel
theorem dX4_push_20 : decode cX4_push 20 = .ok (.getfield 23, 3) := by decide +kernel
theorem dX4_push_23 : decode cX4_push 23 = .ok (.aload_n 0, 1) := by decide +kernel
theorem dX4_push_24 : decode cX4_push 24 = .ok (.getfield 50, 3) := by decide +kernel
theorem dX4_push_27 : decode cX4_push 27 = .ok (.lload_n 1, 1) := by decide +kernel
theorem dX4_push_28 : decode cX4_push 28 = .ok (.lastore, 1) := by decide +kernel
theorem dX4_push_29 : decode cX4_push 29 = .ok (.aload_n 0, 1) := by decide +kernel
theorem dX4_push_30 : decode cX4_push 30 = .ok (.getfield 27, 3) := by decide +kernel
theorem dX4_push_33 : decode cX4_push 33 = .ok (.aload_n 0, 1) := by decide +kernel
theorem dX4_push_34 : decode cX4_push 34 = .ok (.getfield 50, 3) := by decide +kernel
theorem dX4_push_37 : decode cX4_push 37 = .ok (.iload_n 3, 1) := by decide +kernel
theorem dX4_push_38 : decode cX4_push 38 = .ok (.bastore, 1) := by decide +kernel
theorem dX4_push_39 : decode cX4_push 39 = .ok (.aload_n 0, 1) := by decide +kernel
theorem dX4_push_40 : decode cX4_push 40 = .ok (.dup, 1) := by decide +kernel
theorem dX4_push_41 : decode cX4_push 41 = .ok (.getfield 50, 3) := by decide +kernel
theorem dX4_push_44 : decode cX4_push 44 = .ok (.iconst 1, 1) := by decide +kernel
theorem dX4_push_45 : decode cX4_push 45 = .ok (.iadd, 1) := by decide +kernel
theorem dX4_push_46 : decode cX4_push 46 = .ok (.putfield 50, 3) := by decide +kernel
theorem dX4_push_49 : decode cX4_push 49 = .ok (.return_, 1) := by decide +kernel
def F_X4_push_49 (s0 : ae_S) : Option (Unit × ae_S) := some ((), s0)
set_option maxHeartbeats 4000000 in
set_option maxRecDepth 100000 in
theorem t_X4_push_49 {l : Launch} {G : ae_G} (d : Nat) {rr : Unit} {ss : ae_S} (s0 : ae_S) (hF : F_X4_push_49 s0 = some (rr, ss)) : ae_T l G d mX4_push (ae_Po none ss) 49 [] [] s0 := by
  unfold F_X4_push_49 at hF
  obtain ⟨rfl, rfl⟩ := ae_retI hF
  exact ae_vret dX4_push_49 rfl ⟨rfl, rfl⟩
def F_X4_push (v1 : Int64) (v3 : Int32) (s0 : ae_S) : Option (Unit × ae_S) := if (s0.1 21 0 9) < 0 then (F_X4_push_49 s0) else (if (252 : Int32) ≤ (s0.1 21 0 9) then (F_X4_push_49 s0) else (ae_gd (ae_ib (s0.1 21 0 9) 252) (ae_lt (ae_wL s0 22 0 (s0.1 21 0 9).toNatClampNeg v1) (fun s7 => ae_gd (ae_ib (s7.1 21 0 9) 252) (ae_gd (ae_zz v3) (ae_lt (ae_wI s7 23 0 (s7.1 21 0 9).toNatClampNeg v3) (fun s13 => ae_lt (ae_wI s13 21 0 9 ((s13.1 21 0 9) + (1 : Int32))) (fun s15 => F_X4_push_49 s15))))))))
set_option maxHeartbeats 4000000 in
set_option maxRecDepth 100000 in
theorem c_X4_push {l : Launch} {G : ae_G} (d : Nat) {v1 : Int64} {v3 : Int32} {s0 ss : ae_S} {rr : Unit} (hF : F_X4_push v1 v3 s0 = some (rr, ss)) : ae_Met l G d yX4_push mX4_push [ae_r (some (21, 0)), ae_l v1, ae_i v3] s0 (ae_Po none ss) := by
  refine ae_enter (by decide) rfl (Nat.le_of_ble_eq_true rfl) ?_
  show ae_T l G d mX4_push (ae_Po none ss) 0 [(0, ae_r (some (21, 0))), (1, ae_l v1), (3, ae_i v3)] [] s0
  unfold F_X4_push at hF
  refine ae_aload_n 0 dX4_push_0 rfl ?_
  refine ae_getI (q := (21, 0)) dX4_push_1 fl_RX4_50 rfl rfl ?_
  refine ae_if_lt 49 dX4_push_4 rfl (fun hb1 => ?_) (fun hb1 => ?_)
  · have hF2 := ae_ifT hb1 hF
    refine ae_pick (lv' := []) [] rfl ?_
    exact t_X4_push_49 d s0 hF2
  · have hF2 := ae_ifF hb1 hF
    refine ae_aload_n 0 dX4_push_7 rfl ?_
    refine ae_getI (q := (21, 0)) dX4_push_8 fl_RX4_50 rfl rfl ?_
    refine ae_aload_n 0 dX4_push_11 rfl ?_
    refine ae_getA (q := (21, 0)) (some (22, 0)) dX4_push_12 fl_RX4_23 rfl rfl rfl ?_
    refine ae_alen (q := (22, 0)) (252 : Int32) dX4_push_15 rfl rfl (by simp [ae_at]) (by decide) ?_
    refine ae_icmp_ge 49 dX4_push_16 rfl (fun hb3 => ?_) (fun hb3 => ?_)
    · have hF4 := ae_ifT hb3 hF2
      refine ae_pick (lv' := []) [] rfl ?_
      exact t_X4_push_49 d s0 hF4
    · have hF4 := ae_ifF hb3 hF2
      refine ae_aload_n 0 dX4_push_19 rfl ?_
      refine ae_getA (q := (21, 0)) (some (22, 0)) dX4_push_20 fl_RX4_23 rfl rfl rfl ?_
      refine ae_aload_n 0 dX4_push_23 rfl ?_
      refine ae_getI (q := (21, 0)) dX4_push_24 fl_RX4_50 rfl rfl ?_
      refine ae_lload_n 1 dX4_push_27 rfl ?_
      obtain ⟨hg5, hF6⟩ := ae_gdI hF4
      obtain ⟨s7, hs7, hF8⟩ := ae_ltI hF6
      refine ae_last (q := (22, 0)) dX4_push_28 rfl rfl (ae_ibI hg5) (ae_nmS hs7 ?_)
      refine ae_aload_n 0 dX4_push_29 rfl ?_
      refine ae_getA (q := (21, 0)) (some (23, 0)) dX4_push_30 fl_RX4_27 rfl rfl rfl ?_
      refine ae_aload_n 0 dX4_push_33 rfl ?_
      refine ae_getI (q := (21, 0)) dX4_push_34 fl_RX4_50 rfl rfl ?_
      refine ae_iload_n 2 dX4_push_37 rfl ?_
      obtain ⟨hg9, hF10⟩ := ae_gdI hF8
      obtain ⟨hg11, hF12⟩ := ae_gdI hF10
      obtain ⟨s13, hs13, hF14⟩ := ae_ltI hF12
      refine ae_zast (q := (23, 0)) dX4_push_38 rfl rfl (ae_ibI hg9) (ae_zzI hg11) (ae_nmS hs13 ?_)
      refine ae_aload_n 0 dX4_push_39 rfl ?_
      refine ae_dup dX4_push_40 rfl ?_
      refine ae_getI (q := (21, 0)) dX4_push_41 fl_RX4_50 rfl rfl ?_
      refine ae_iconst (1 : Int32) dX4_push_44 (by decide) ?_
      refine ae_iadd dX4_push_45 ?_
      obtain ⟨s15, hs15, hF16⟩ := ae_ltI hF14
      refine ae_putI (q := (21, 0)) dX4_push_46 fl_RX4_50 rfl rfl (ae_nmS hs15 ?_)
      refine ae_pick (lv' := []) [] rfl ?_
      exact t_X4_push_49 d s15 hF16
abbrev mX4_topIsFloat : ae_M := (RX4, cX4_topIsFloat, 1, some .boolean)
theorem vy_X4_topIsFloat : ae_VY yX4_topIsFloat mX4_topIsFloat 0 := ⟨ww_843, wq_35, ww_12, ww_844, ⟨by decide, by decide, by decide +kernel⟩, by decide⟩
theorem dX4_topIsFloat_0 : decode cX4_topIsFloat 0 = .ok (.aload_n 0, 1) := by decide +kernel
theorem dX4_topIsFloat_1 : decode cX4_topIsFloat 1 = .ok (.getfield 50, 3) := by decide +kernel
theorem dX4_topIsFloat_4 : decode cX4_topIsFloat 4 = .ok (.ifCond .le 21, 3) := by decide +kernel
theorem dX4_topIsFloat_7 : decode cX4_topIsFloat 7 = .ok (.aload_n 0, 1) := by decide +kernel
theorem dX4_topIsFloat_8 : decode cX4_topIsFloat 8 = .ok (.getfield 27, 3) := by decide +kernel
theorem dX4_topIsFloat_11 : decode cX4_topIsFloat 11 = .ok (.aload_n 0, 1) := by decide +kernel
theorem dX4_topIsFloat_12 : decode cX4_topIsFloat 12 = .ok (.getfield 50, 3) := by decide +kernel
theorem dX4_topIsFloat_15 : decode cX4_topIsFloat 15 = .ok (.iconst 1, 1) := by decide +kernel
theorem dX4_topIsFloat_16 : decode cX4_topIsFloat 16 = .ok (.isub, 1) := by decide +kernel
theorem dX4_topIsFloat_17 : decode cX4_topIsFloat 17 = .ok (.baload, 1) := by decide +kernel
theorem dX4_topIsFloat_18 : decode cX4_topIsFloat 18 = .ok (.ifCond .eq 7, 3) := by decide +kernel
theorem dX4_topIsFloat_21 : decode cX4_topIsFloat 21 = .ok (.iconst 1, 1) := by decide +kernel
theorem dX4_topIsFloat_22 : decode cX4_topIsFloat 22 = .ok (.goto 4, 3) := by decide +kernel
theorem dX4_topIsFloat_25 : decode cX4_topIsFloat 25 = .ok (.iconst 0, 1) := by decide +kernel
theorem dX4_topIsFloat_26 : decode cX4_topIsFloat 26 = .ok (.ireturn, 1) := by decide +kernel
def F_X4_topIsFloat_26 (t0 : Int32) (s0 : ae_S) : Option (Int32 × ae_S) := ae_gd (ae_zz t0) (some (t0, s0))
set_option maxHeartbeats 4000000 in
set_option maxRecDepth 100000 in
theorem t_X4_topIsFloat_26 {l : Launch} {G : ae_G} (d : Nat) {rr : Int32} {ss : ae_S} (t0 : Int32) (s0 : ae_S) (hF : F_X4_topIsFloat_26 t0 s0 = some (rr, ss)) : ae_T l G d mX4_topIsFloat (ae_Po (some (ae_i rr)) ss) 26 [] [ae_i t0] s0 := by
  unfold F_X4_topIsFloat_26 at hF
  obtain ⟨hg1, hF2⟩ := ae_gdI hF
  obtain ⟨rfl, rfl⟩ := ae_retI hF2
  exact ae_iret dX4_topIsFloat_26 rfl (ae_zzN (ae_zzI hg1)) ⟨rfl, rfl⟩
def F_X4_topIsFloat_25 (s0 : ae_S) : Option (Int32 × ae_S) := F_X4_topIsFloat_26 (0 : Int32) s0
set_option maxHeartbeats 4000000 in
set_option maxRecDepth 100000 in
theorem t_X4_topIsFloat_25 {l : Launch} {G : ae_G} (d : Nat) {rr : Int32} {ss : ae_S} (s0 : ae_S) (hF : F_X4_topIsFloat_25 s0 = some (rr, ss)) : ae_T l G d mX4_topIsFloat (ae_Po (some (ae_i rr)) ss) 25 [] [] s0 := by
  unfold F_X4_topIsFloat_25 at hF
  refine ae_iconst (0 : Int32) dX4_topIsFloat_25 (by decide) ?_
  refine ae_pick (lv' := []) [] rfl ?_
  exact t_X4_topIsFloat_26 d (0 : Int32) s0 hF
def F_X4_topIsFloat (s0 : ae_S) : Option (Int32 × ae_S) := if (s0.1 21 0 9) ≤ 0 then (F_X4_topIsFloat_25 s0) else (ae_gd (ae_ib ((s0.1 21 0 9) - (1 : Int32)) 252) (if (s0.1 23 0 ((s0.1 21 0 9) - (1 : Int32)).toNatClampNeg) = 0 then (F_X4_topIsFloat_25 s0) else (F_X4_topIsFloat_26 (1 : Int32) s0)))
set_option maxHeartbeats 4000000 in
set_option maxRecDepth 100000 in
theorem c_X4_topIsFloat {l : Launch} {G : ae_G} (d : Nat) {s0 ss : ae_S} {rr : Int32} (hF : F_X4_topIsFloat s0 = some (rr, ss)) : ae_Met l G d yX4_topIsFloat mX4_topIsFloat [ae_r (some (21, 0))] s0 (ae_Po (some (ae_i rr)) ss) := by
  refine ae_enter (by decide) rfl (Nat.le_of_ble_eq_true rfl) ?_
  show ae_T l G d mX4_topIsFloat (ae_Po (some (ae_i rr)) ss) 0 [(0, ae_r (some (21, 0)))] [] s0
  unfold F_X4_topIsFloat at hF
  refine ae_aload_n 0 dX4_topIsFloat_0 rfl ?_
  refine ae_getI (q := (21, 0)) dX4_topIsFloat_1 fl_RX4_50 rfl rfl ?_
  refine ae_if_le 25 dX4_topIsFloat_4 rfl (fun hb3 => ?_) (fun hb3 => ?_)
  · have hF4 := ae_ifT hb3 hF
    refine ae_pick (lv' := []) [] rfl ?_
    exact t_X4_topIsFloat_25 d s0 hF4
  · have hF4 := ae_ifF hb3 hF
    refine ae_aload_n 0 dX4_topIsFloat_7 rfl ?_
    refine ae_getA (q := (21, 0)) (some (23, 0)) dX4_topIsFloat_8 fl_RX4_27 rfl rfl rfl ?_
    refine ae_aload_n 0 dX4_topIsFloat_11 rfl ?_
    refine ae_getI (q := (21, 0)) dX4_topIsFloat_12 fl_RX4_50 rfl rfl ?_
    refine ae_iconst (1 : Int32) dX4_topIsFloat_15 (by decide) ?_
    refine ae_isub dX4_topIsFloat_16 ?_
    obtain ⟨hg5, hF6⟩ := ae_gdI hF4
    refine ae_zald (q := (23, 0)) dX4_topIsFloat_17 rfl rfl (ae_ibI hg5) ?_
    refine ae_if_eq 25 dX4_topIsFloat_18 rfl (fun hb7 => ?_) (fun hb7 => ?_)
    · have hF8 := ae_ifT hb7 hF6
      refine ae_pick (lv' := []) [] rfl ?_
      exact t_X4_topIsFloat_25 d s0 hF8
    · have hF8 := ae_ifF hb7 hF6
      refine ae_iconst (1 : Int32) dX4_topIsFloat_21 (by decide) ?_
      refine ae_goto 26 dX4_topIsFloat_22 rfl ?_
      refine ae_pick (lv' := []) [] rfl ?_
      exact t_X4_topIsFloat_26 d (1 : Int32) s0 hF8
abbrev mX4_checkIndex : ae_M := (RX4, cX4_checkIndex, 5, none)
theorem vy_X4_checkIndex : ae_VY yX4_checkIndex mX4_checkIndex 1 := ⟨ww_839, wq_34, ww_12, ww_840, ⟨by decide, by decide, by decide +kernel⟩, by decide⟩
theorem dX4_checkIndex_0 : decode cX4_checkIndex 0 = .ok (.aload_n 0, 1) := by decide +kernel
theorem dX4_checkIndex_1 : decode cX4_checkIndex 1 = .ok (.invokevirtual 132, 3) := by decide +kernel
theorem dX4_checkIndex_4 : decode cX4_checkIndex 4 = .ok (.istore_n 2, 1) := by decide +kernel
theorem dX4_checkIndex_5 : decode cX4_checkIndex 5 = .ok (.aload_n 0, 1) := by decide +kernel
theorem dX4_checkIndex_6 : decode cX4_checkIndex 6 = .ok (.invokevirtual 136, 3) := by decide +kernel
theorem dX4_checkIndex_9 : decode cX4_checkIndex 9 = .ok (.lstore_n 3, 1) := by decide +kernel
theorem dX4_checkIndex_10 : decode cX4_checkIndex 10 = .ok (.iload_n 2, 1) := by decide +kernel
theorem dX4_checkIndex_11 : decode cX4_checkIndex 11 = .ok (.ifCond .eq 8, 3) := by decide +kernel
theorem dX4_checkIndex_14 : decode cX4_checkIndex 14 = .ok (.lload_n 3, 1) := by decide +kernel
theorem dX4_checkIndex_15 : decode cX4_checkIndex 15 = .ok (.invokestatic 140, 3) := by decide +kernel
theorem dX4_checkIndex_18 : decode cX4_checkIndex 18 = .ok (.lstore_n 3, 1) := by decide +kernel
theorem dX4_checkIndex_19 : decode cX4_checkIndex 19 = .ok (.aload_n 1, 1) := by decide +kernel
theorem dX4_checkIndex_20 : decode cX4_checkIndex 20 = .ok (.ifnull 20, 3) := by decide +kernel
theorem dX4_checkIndex_23 : decode cX4_checkIndex 23 = .ok (.aload_n 1, 1) := by decide +kernel
theorem dX4_checkIndex_24 : decode cX4_checkIndex 24 = .ok (.lload_n 3, 1) := by decide +kernel
theorem dX4_checkIndex_25 : decode cX4_checkIndex 25 = .ok (.invokevirtual 146, 3) := by decide +kernel
theorem dX4_checkIndex_28 : decode cX4_checkIndex 28 = .ok (.ifCond .eq 12, 3) := by decide +kernel
theorem dX4_checkIndex_31 : decode cX4_checkIndex 31 = .ok (.aload_n 0, 1) := by decide +kernel
theorem dX4_checkIndex_32 : decode cX4_checkIndex 32 = .ok (.lload_n 3, 1) := by decide +kernel
theorem dX4_checkIndex_33 : decode cX4_checkIndex 33 = .ok (.iconst 0, 1) := by decide +kernel
theorem dX4_checkIndex_34 : decode cX4_checkIndex 34 = .ok (.invokevirtual 76, 3) := by decide +kernel
theorem dX4_checkIndex_37 : decode cX4_checkIndex 37 = .ok (.goto 8, 3) := by decide +kernel
theorem dX4_checkIndex_40 : decode cX4_checkIndex 40 = .ok (.aload_n 0, 1) := by decide +kernel
theorem dX4_checkIndex_41 : decode cX4_checkIndex 41 = .ok (.iconst 1, 1) := by decide +kernel
theorem dX4_checkIndex_42 : decode cX4_checkIndex 42 = .ok (.invokevirtual 107, 3) := by decide +kernel
theorem dX4_checkIndex_45 : decode cX4_checkIndex 45 = .ok (.return_, 1) := by decide +kernel
def F_X4_checkIndex_45 (s0 : ae_S) : Option (Unit × ae_S) := some ((), s0)
set_option maxHeartbeats 4000000 in
set_option maxRecDepth 100000 in
theorem t_X4_checkIndex_45 {l : Launch} {G : ae_G} (d : Nat) {rr : Unit} {ss : ae_S} (s0 : ae_S) (hF : F_X4_checkIndex_45 s0 = some (rr, ss)) : ae_T l G (d + 3) mX4_checkIndex (ae_Po none ss) 45 [] [] s0 := by
  unfold F_X4_checkIndex_45 at hF
  obtain ⟨rfl, rfl⟩ := ae_retI hF
  exact ae_vret dX4_checkIndex_45 rfl ⟨rfl, rfl⟩
def F_X4_checkIndex_40 (s0 : ae_S) : Option (Unit × ae_S) := ae_bd (F_X4_meet (1 : Int32) s0) (fun (r1 : Unit) s2 => F_X4_checkIndex_45 s2)
set_option maxHeartbeats 4000000 in
set_option maxRecDepth 100000 in
theorem t_X4_checkIndex_40 {l : Launch} {G : ae_G} (d : Nat) {rr : Unit} {ss : ae_S} (s0 : ae_S) (hF : F_X4_checkIndex_40 s0 = some (rr, ss)) : ae_T l G (d + 3) mX4_checkIndex (ae_Po none ss) 40 [(0, ae_r (some (21, 0)))] [] s0 := by
  unfold F_X4_checkIndex_40 at hF
  refine ae_aload_n 0 dX4_checkIndex_40 rfl ?_
  refine ae_iconst (1 : Int32) dX4_checkIndex_41 (by decide) ?_
  obtain ⟨r1, s2, hc3, hF4⟩ := ae_bdI hF
  refine ae_cV0 (q := (21, 0)) (As := [ae_i (1 : Int32)]) dX4_checkIndex_42 ww_856 vy_X4_meet rfl rfl rfl rfl rfl (Nat.le_of_ble_eq_true rfl) (c_X4_meet d hc3) ?_
  refine ae_pick (lv' := []) [] rfl ?_
  exact t_X4_checkIndex_45 d s2 hF4
def F_X4_checkIndex_19 (i1 : Fin 32) (v3 : Int64) (s0 : ae_S) : Option (Unit × ae_S) := ae_bd (F_X9_hasElement i1 v3 s0) (fun (r5 : Int32) s6 => if r5 = 0 then (F_X4_checkIndex_40 s6) else (ae_bd (F_X4_push v3 (0 : Int32) s6) (fun (r11 : Unit) s12 => F_X4_checkIndex_45 s12)))
set_option maxHeartbeats 4000000 in
set_option maxRecDepth 100000 in
theorem t_X4_checkIndex_19 {l : Launch} {G : ae_G} (d : Nat) {rr : Unit} {ss : ae_S} (i1 : Fin 32) (v3 : Int64) (s0 : ae_S) (hF : F_X4_checkIndex_19 i1 v3 s0 = some (rr, ss)) : ae_T l G (d + 3) mX4_checkIndex (ae_Po none ss) 19 [(0, ae_r (some (21, 0))), (1, ae_r (some (8, i1))), (3, ae_l v3)] [] s0 := by
  unfold F_X4_checkIndex_19 at hF
  refine ae_aload_n 1 dX4_checkIndex_19 rfl ?_
  refine ae_ifnull 40 dX4_checkIndex_20 rfl (fun h => absurd h (by simp)) (fun _ => ?_)
  refine ae_aload_n 1 dX4_checkIndex_23 rfl ?_
  refine ae_lload_n 2 dX4_checkIndex_24 rfl ?_
  obtain ⟨r5, s6, hc7, hF8⟩ := ae_bdI hF
  refine ae_cV1 (q := (8, i1)) (As := [ae_l v3]) dX4_checkIndex_25 ww_852 vy_X9_hasElement rfl rfl rfl rfl rfl (Nat.le_of_ble_eq_true rfl) (c_X9_hasElement (d + 2) hc7) ?_
  refine ae_if_eq 40 dX4_checkIndex_28 rfl (fun hb9 => ?_) (fun hb9 => ?_)
  · have hF10 := ae_ifT hb9 hF8
    refine ae_pick (lv' := [(0, ae_r (some (21, 0)))]) [0] rfl ?_
    exact t_X4_checkIndex_40 d s6 hF10
  · have hF10 := ae_ifF hb9 hF8
    refine ae_aload_n 0 dX4_checkIndex_31 rfl ?_
    refine ae_lload_n 2 dX4_checkIndex_32 rfl ?_
    refine ae_iconst (0 : Int32) dX4_checkIndex_33 (by decide) ?_
    obtain ⟨r11, s12, hc13, hF14⟩ := ae_bdI hF10
    refine ae_cV0 (q := (21, 0)) (As := [ae_l v3, ae_i (0 : Int32)]) dX4_checkIndex_34 ww_832 vy_X4_push rfl rfl rfl rfl rfl (Nat.le_of_ble_eq_true rfl) (c_X4_push (d + 2) hc13) ?_
    refine ae_goto 45 dX4_checkIndex_37 rfl ?_
    refine ae_pick (lv' := []) [] rfl ?_
    exact t_X4_checkIndex_45 d s12 hF14
def F_X4_checkIndex (i1 : Fin 32) (s0 : ae_S) : Option (Unit × ae_S) := ae_bd (F_X4_topIsFloat s0) (fun (r15 : Int32) s16 => ae_bd (F_X4_pop s16) (fun (r19 : Int64) s20 => if r15 = 0 then (F_X4_checkIndex_19 i1 r19 s20) else (ae_bd (F_X2_toWhole r19 s20) (fun (r25 : Int64) s26 => F_X4_checkIndex_19 i1 r25 s26))))
set_option maxHeartbeats 4000000 in
set_option maxRecDepth 100000 in
theorem c_X4_checkIndex {l : Launch} {G : ae_G} (d : Nat) {i1 : Fin 32} {s0 ss : ae_S} {rr : Unit} (hF : F_X4_checkIndex i1 s0 = some (rr, ss)) : ae_Met l G (d + 3) yX4_checkIndex mX4_checkIndex [ae_r (some (21, 0)), ae_r (some (8, i1))] s0 (ae_Po none ss) := by
  refine ae_enter (by decide) rfl (Nat.le_of_ble_eq_true rfl) ?_
  show ae_T l G (d + 3) mX4_checkIndex (ae_Po none ss) 0 [(0, ae_r (some (21, 0))), (1, ae_r (some (8, i1)))] [] s0
  unfold F_X4_checkIndex at hF
  refine ae_aload_n 0 dX4_checkIndex_0 rfl ?_
  obtain ⟨r15, s16, hc17, hF18⟩ := ae_bdI hF
  refine ae_cV1 (q := (21, 0)) (As := []) dX4_checkIndex_1 ww_841 vy_X4_topIsFloat rfl rfl rfl rfl rfl (Nat.le_of_ble_eq_true rfl) (c_X4_topIsFloat (d + 2) hc17) ?_
  refine ae_istore_n (lv' := [(2, ae_i r15), (0, ae_r (some (21, 0))), (1, ae_r (some (8, i1)))]) dX4_checkIndex_4 (by decide) rfl ?_
  refine ae_aload_n 1 dX4_checkIndex_5 rfl ?_
  obtain ⟨r19, s20, hc21, hF22⟩ := ae_bdI hF18
  refine ae_cV1 (q := (21, 0)) (As := []) dX4_checkIndex_6 ww_845 vy_X4_pop rfl rfl rfl rfl rfl (Nat.le_of_ble_eq_true rfl) (c_X4_pop (d + 2) hc21) ?_
  refine ae_lstore_n (lv' := [(3, ae_l r19), (2, ae_i r15), (0, ae_r (some (21, 0))), (1, ae_r (some (8, i1)))]) dX4_checkIndex_9 (by decide) rfl ?_
  refine ae_iload_n 1 dX4_checkIndex_10 rfl ?_
  refine ae_if_eq 19 dX4_checkIndex_11 rfl (fun hb23 => ?_) (fun hb23 => ?_)
  · have hF24 := ae_ifT hb23 hF22
    refine ae_pick (lv' := [(0, ae_r (some (21, 0))), (1, ae_r (some (8, i1))), (3, ae_l r19)]) [2, 3, 0] rfl ?_
    exact t_X4_checkIndex_19 d i1 r19 s20 hF24
  · have hF24 := ae_ifF hb23 hF22
    refine ae_lload_n 0 dX4_checkIndex_14 rfl ?_
    obtain ⟨r25, s26, hc27, hF28⟩ := ae_bdI hF24
    refine ae_cS1 (As := [ae_l r19]) dX4_checkIndex_15 ww_849 vy_X2_toWhole rfl rfl (Nat.le_of_ble_eq_true rfl) (c_X2_toWhole d hc27) ?_
    refine ae_lstore_n (lv' := [(3, ae_l r25), (2, ae_i r15), (0, ae_r (some (21, 0))), (1, ae_r (some (8, i1)))]) dX4_checkIndex_18 (by decide) rfl ?_
    refine ae_pick (lv' := [(0, ae_r (some (21, 0))), (1, ae_r (some (8, i1))), (3, ae_l r25)]) [2, 3, 0] rfl ?_
    exact t_X4_checkIndex_19 d i1 r25 s26 hF28
abbrev mX4_pushTruth : ae_M := (RX4, cX4_pushTruth, 2, none)
theorem vy_X4_pushTruth : ae_VY yX4_pushTruth mX4_pushTruth 1 := ⟨ww_1008, wq_46, ww_12, ww_1009, ⟨by decide, by decide, by decide +kernel⟩, by decide⟩
theorem dX4_pushTruth_0 : decode cX4_pushTruth 0 = .ok (.aload_n 0, 1) := by decide +kernel
theorem dX4_pushTruth_1 : decode cX4_pushTruth 1 = .ok (.iload_n 1, 1) := by decide +kernel
theorem dX4_pushTruth_2 : decode cX4_pushTruth 2 = .ok (.ifCond .eq 7, 3) := by decide +kernel
theorem dX4_pushTruth_5 : decode cX4_pushTruth 5 = .ok (.lconst 1, 1) := by decide +kernel
theorem dX4_pushTruth_6 : decode cX4_pushTruth 6 = .ok (.goto 4, 3) := by decide +kernel
theorem dX4_pushTruth_9 : decode cX4_pushTruth 9 = .ok (.lconst 0, 1) := by decide +kernel
theorem dX4_pushTruth_10 : decode cX4_pushTruth 10 = .ok (.iconst 0, 1) := by decide +kernel
theorem dX4_pushTruth_11 : decode cX4_pushTruth 11 = .ok (.invokevirtual 76, 3) := by decide +kernel
theorem dX4_pushTruth_14 : decode cX4_pushTruth 14 = .ok (.return_, 1) := by decide +kernel
def F_X4_pushTruth_10 (t0 : Int64) (s0 : ae_S) : Option (Unit × ae_S) := ae_bd (F_X4_push t0 (0 : Int32) s0) (fun (r1 : Unit) s2 => some ((), s2))
set_option maxHeartbeats 4000000 in
set_option maxRecDepth 100000 in
theorem t_X4_pushTruth_10 {l : Launch} {G : ae_G} (d : Nat) {rr : Unit} {ss : ae_S} (t0 : Int64) (s0 : ae_S) (hF : F_X4_pushTruth_10 t0 s0 = some (rr, ss)) : ae_T l G (d + 1) mX4_pushTruth (ae_Po none ss) 10 [] [ae_l t0, ae_r (some (21, 0))] s0 := by
  unfold F_X4_pushTruth_10 at hF
  refine ae_iconst (0 : Int32) dX4_pushTruth_10 (by decide) ?_
  obtain ⟨r1, s2, hc3, hF4⟩ := ae_bdI hF
  refine ae_cV0 (q := (21, 0)) (As := [ae_l t0, ae_i (0 : Int32)]) dX4_pushTruth_11 ww_832 vy_X4_push rfl rfl rfl rfl rfl (Nat.le_of_ble_eq_true rfl) (c_X4_push d hc3) ?_
  obtain ⟨rfl, rfl⟩ := ae_retI hF4
  exact ae_vret dX4_pushTruth_14 rfl ⟨rfl, rfl⟩
def F_X4_pushTruth (v1 : Int32) (s0 : ae_S) : Option (Unit × ae_S) := if v1 = 0 then (F_X4_pushTruth_10 (0 : Int64) s0) else (F_X4_pushTruth_10 (1 : Int64) s0)
set_option maxHeartbeats 4000000 in
set_option maxRecDepth 100000 in
theorem c_X4_pushTruth {l : Launch} {G : ae_G} (d : Nat) {v1 : Int32} {s0 ss : ae_S} {rr : Unit} (hF : F_X4_pushTruth v1 s0 = some (rr, ss)) : ae_Met l G (d + 1) yX4_pushTruth mX4_pushTruth [ae_r (some (21, 0)), ae_i v1] s0 (ae_Po none ss) := by
  refine ae_enter (by decide) rfl (Nat.le_of_ble_eq_true rfl) ?_
  show ae_T l G (d + 1) mX4_pushTruth (ae_Po none ss) 0 [(0, ae_r (some (21, 0))), (1, ae_i v1)] [] s0
  unfold F_X4_pushTruth at hF
  refine ae_aload_n 0 dX4_pushTruth_0 rfl ?_
  refine ae_iload_n 1 dX4_pushTruth_1 rfl ?_
  refine ae_if_eq 9 dX4_pushTruth_2 rfl (fun hb5 => ?_) (fun hb5 => ?_)
  · have hF6 := ae_ifT hb5 hF
    refine ae_lconst (0 : Int64) dX4_pushTruth_9 (by decide) ?_
    refine ae_pick (lv' := []) [] rfl ?_
    exact t_X4_pushTruth_10 d (0 : Int64) s0 hF6
  · have hF6 := ae_ifF hb5 hF
    refine ae_lconst (1 : Int64) dX4_pushTruth_5 (by decide) ?_
    refine ae_goto 10 dX4_pushTruth_6 rfl ?_
    refine ae_pick (lv' := []) [] rfl ?_
    exact t_X4_pushTruth_10 d (1 : Int64) s0 hF6
abbrev mX4_combineFloats : ae_M := (RX4, cX4_combineFloats, 6, none)
theorem vy_X4_combineFloats : ae_VY yX4_combineFloats mX4_combineFloats 3 := ⟨ww_986, wq_45, ww_12, ww_987, ⟨by decide, by decide, by decide +kernel⟩, by decide⟩
theorem dX4_combineFloats_0 : decode cX4_combineFloats 0 = .ok (.iload_n 1, 1) := by decide +kernel
theorem dX4_combineFloats_1 : decode cX4_combineFloats 1 = .ok (.tableswitch 146 7 14 #[120, 133, 146, 47, 61, 78, 92, 106], 47) := by decide +kernel
theorem dX4_combineFloats_48 : decode cX4_combineFloats 48 = .ok (.aload_n 0, 1) := by decide +kernel
theorem dX4_combineFloats_49 : decode cX4_combineFloats 49 = .ok (.lload_n 2, 1) := by decide +kernel
theorem dX4_combineFloats_50 : decode cX4_combineFloats 50 = .ok (.lload 4, 2) := by decide +kernel
theorem dX4_combineFloats_52 : decode cX4_combineFloats 52 = .ok (.invokestatic 215, 3) := by decide +kernel
theorem dX4_combineFloats_55 : decode cX4_combineFloats 55 = .ok (.iconst 1, 1) := by decide +kernel
theorem dX4_combineFloats_56 : decode cX4_combineFloats 56 = .ok (.invokevirtual 76, 3) := by decide +kernel
theorem dX4_combineFloats_59 : decode cX4_combineFloats 59 = .ok (.goto 98, 3) := by decide +kernel
theorem dX4_combineFloats_62 : decode cX4_combineFloats 62 = .ok (.aload_n 0, 1) := by decide +kernel
theorem dX4_combineFloats_63 : decode cX4_combineFloats 63 = .ok (.lload_n 2, 1) := by decide +kernel
theorem dX4_combineFloats_64 : decode cX4_combineFloats 64 = .ok (.lload 4, 2) := by decide +kernel
theorem dX4_combineFloats_66 : decode cX4_combineFloats 66 = .ok (.invokestatic 191, 3) := by decide +kernel
theorem dX4_combineFloats_69 : decode cX4_combineFloats 69 = .ok (.invokestatic 215, 3) := by decide +kernel
theorem dX4_combineFloats_72 : decode cX4_combineFloats 72 = .ok (.iconst 1, 1) := by decide +kernel
theorem dX4_combineFloats_73 : decode cX4_combineFloats 73 = .ok (.invokevirtual 76, 3) := by decide +kernel
theorem dX4_combineFloats_76 : decode cX4_combineFloats 76 = .ok (.goto 81, 3) := by decide +kernel
theorem dX4_combineFloats_79 : decode cX4_combineFloats 79 = .ok (.aload_n 0, 1) := by decide +kernel
theorem dX4_combineFloats_80 : decode cX4_combineFloats 80 = .ok (.lload_n 2, 1) := by decide +kernel
theorem dX4_combineFloats_81 : decode cX4_combineFloats 81 = .ok (.lload 4, 2) := by decide +kernel
theorem dX4_combineFloats_83 : decode cX4_combineFloats 83 = .ok (.invokestatic 219, 3) := by decide +kernel
theorem dX4_combineFloats_86 : decode cX4_combineFloats 86 = .ok (.iconst 1, 1) := by decide +kernel
theorem dX4_combineFloats_87 : decode cX4_combineFloats 87 = .ok (.invokevirtual 76, 3) := by decide +kernel
theorem dX4_combineFloats_90 : decode cX4_combineFloats 90 = .ok (.goto 67, 3) := by decide +kernel
theorem dX4_combineFloats_93 : decode cX4_combineFloats 93 = .ok (.aload_n 0, 1) := by decide +kernel
theorem dX4_combineFloats_94 : decode cX4_combineFloats 94 = .ok (.lload_n 2, 1) := by decide +kernel
theorem dX4_combineFloats_95 : decode cX4_combineFloats 95 = .ok (.lload 4, 2) := by decide +kernel
theorem dX4_combineFloats_97 : decode cX4_combineFloats 97 = .ok (.invokestatic 222, 3) := by decide +kernel
theorem dX4_combineFloats_100 : decode cX4_combineFloats 100 = .ok (.iconst 1, 1) := by decide +kernel
theorem dX4_combineFloats_101 : decode cX4_combineFloats 101 = .ok (.invokevirtual 76, 3) := by decide +kernel
theorem dX4_combineFloats_104 : decode cX4_combineFloats 104 = .ok (.goto 53, 3) := by decide +kernel
theorem dX4_combineFloats_107 : decode cX4_combineFloats 107 = .ok (.aload_n 0, 1) := by decide +kernel
theorem dX4_combineFloats_108 : decode cX4_combineFloats 108 = .ok (.lload_n 2, 1) := by decide +kernel
theorem dX4_combineFloats_109 : decode cX4_combineFloats 109 = .ok (.lload 4, 2) := by decide +kernel
theorem dX4_combineFloats_111 : decode cX4_combineFloats 111 = .ok (.invokestatic 225, 3) := by decide +kernel
theorem dX4_combineFloats_114 : decode cX4_combineFloats 114 = .ok (.iconst 1, 1) := by decide +kernel
theorem dX4_combineFloats_115 : decode cX4_combineFloats 115 = .ok (.invokevirtual 76, 3) := by decide +kernel
theorem dX4_combineFloats_118 : decode cX4_combineFloats 118 = .ok (.goto 39, 3) := by decide +kernel
theorem dX4_combineFloats_121 : decode cX4_combineFloats 121 = .ok (.aload_n 0, 1) := by decide +kernel
theorem dX4_combineFloats_122 : decode cX4_combineFloats 122 = .ok (.lload_n 2, 1) := by decide +kernel
theorem dX4_combineFloats_123 : decode cX4_combineFloats 123 = .ok (.lload 4, 2) := by decide +kernel
theorem dX4_combineFloats_125 : decode cX4_combineFloats 125 = .ok (.invokestatic 228, 3) := by decide +kernel
theorem dX4_combineFloats_128 : decode cX4_combineFloats 128 = .ok (.invokevirtual 211, 3) := by decide +kernel
theorem dX4_combineFloats_131 : decode cX4_combineFloats 131 = .ok (.goto 26, 3) := by decide +kernel
theorem dX4_combineFloats_134 : decode cX4_combineFloats 134 = .ok (.aload_n 0, 1) := by decide +kernel
theorem dX4_combineFloats_135 : decode cX4_combineFloats 135 = .ok (.lload 4, 2) := by decide +kernel
theorem dX4_combineFloats_137 : decode cX4_combineFloats 137 = .ok (.lload_n 2, 1) := by decide +kernel
theorem dX4_combineFloats_138 : decode cX4_combineFloats 138 = .ok (.invokestatic 228, 3) := by decide +kernel
theorem dX4_combineFloats_141 : decode cX4_combineFloats 141 = .ok (.invokevirtual 211, 3) := by decide +kernel
theorem dX4_combineFloats_144 : decode cX4_combineFloats 144 = .ok (.goto 13, 3) := by decide +kernel
theorem dX4_combineFloats_147 : decode cX4_combineFloats 147 = .ok (.aload_n 0, 1) := by decide +kernel
theorem dX4_combineFloats_148 : decode cX4_combineFloats 148 = .ok (.lload_n 2, 1) := by decide +kernel
theorem dX4_combineFloats_149 : decode cX4_combineFloats 149 = .ok (.lload 4, 2) := by decide +kernel
theorem dX4_combineFloats_151 : decode cX4_combineFloats 151 = .ok (.invokestatic 232, 3) := by decide +kernel
theorem dX4_combineFloats_154 : decode cX4_combineFloats 154 = .ok (.invokevirtual 211, 3) := by decide +kernel
theorem dX4_combineFloats_157 : decode cX4_combineFloats 157 = .ok (.return_, 1) := by decide +kernel
def F_X4_combineFloats_157 (s0 : ae_S) : Option (Unit × ae_S) := some ((), s0)
set_option maxHeartbeats 4000000 in
set_option maxRecDepth 100000 in
theorem t_X4_combineFloats_157 {l : Launch} {G : ae_G} (d : Nat) {rr : Unit} {ss : ae_S} (s0 : ae_S) (hF : F_X4_combineFloats_157 s0 = some (rr, ss)) : ae_T l G (d + 5) mX4_combineFloats (ae_Po none ss) 157 [] [] s0 := by
  unfold F_X4_combineFloats_157 at hF
  obtain ⟨rfl, rfl⟩ := ae_retI hF
  exact ae_vret dX4_combineFloats_157 rfl ⟨rfl, rfl⟩
def F_X4_combineFloats (v1 : Int32) (v2 : Int64) (v4 : Int64) (s0 : ae_S) : Option (Unit × ae_S) := if v1 = (7 : Int32) then (ae_bd (F_X2_less v2 v4 s0) (fun (r3 : Int32) s4 => ae_bd (F_X4_pushTruth r3 s4) (fun (r7 : Unit) s8 => F_X4_combineFloats_157 s8))) else (if v1 = (8 : Int32) then (ae_bd (F_X2_less v4 v2 s0) (fun (r14 : Int32) s15 => ae_bd (F_X4_pushTruth r14 s15) (fun (r18 : Unit) s19 => F_X4_combineFloats_157 s19))) else (if v1 = (10 : Int32) then (ae_bd (F_X2_add v2 v4 s0) (fun (r25 : Int64) s26 => ae_bd (F_X4_push r25 (1 : Int32) s26) (fun (r29 : Unit) s30 => F_X4_combineFloats_157 s30))) else (if v1 = (11 : Int32) then (ae_bd (F_X2_negative v4 s0) (fun (r36 : Int64) s37 => ae_bd (F_X2_add v2 r36 s37) (fun (r40 : Int64) s41 => ae_bd (F_X4_push r40 (1 : Int32) s41) (fun (r44 : Unit) s45 => F_X4_combineFloats_157 s45)))) else (if v1 = (12 : Int32) then (ae_bd (F_X2_multiply v2 v4 s0) (fun (r51 : Int64) s52 => ae_bd (F_X4_push r51 (1 : Int32) s52) (fun (r55 : Unit) s56 => F_X4_combineFloats_157 s56))) else (if v1 = (13 : Int32) then (ae_bd (F_X2_divide v2 v4 s0) (fun (r62 : Int64) s63 => ae_bd (F_X4_push r62 (1 : Int32) s63) (fun (r66 : Unit) s67 => F_X4_combineFloats_157 s67))) else (if v1 = (14 : Int32) then (ae_bd (F_X2_remainder v2 v4 s0) (fun (r73 : Int64) s74 => ae_bd (F_X4_push r73 (1 : Int32) s74) (fun (r77 : Unit) s78 => F_X4_combineFloats_157 s78))) else (ae_bd (F_X2_alike v2 v4 s0) (fun (r82 : Int32) s83 => ae_bd (F_X4_pushTruth r82 s83) (fun (r86 : Unit) s87 => F_X4_combineFloats_157 s87)))))))))
set_option maxHeartbeats 4000000 in
set_option maxRecDepth 100000 in
theorem c_X4_combineFloats {l : Launch} {G : ae_G} (d : Nat) {v1 : Int32} {v2 : Int64} {v4 : Int64} {s0 ss : ae_S} {rr : Unit} (hF : F_X4_combineFloats v1 v2 v4 s0 = some (rr, ss)) : ae_Met l G (d + 5) yX4_combineFloats mX4_combineFloats [ae_r (some (21, 0)), ae_i v1, ae_l v2, ae_l v4] s0 (ae_Po none ss) := by
  refine ae_enter (by decide) rfl (Nat.le_of_ble_eq_true rfl) ?_
  show ae_T l G (d + 5) mX4_combineFloats (ae_Po none ss) 0 [(0, ae_r (some (21, 0))), (1, ae_i v1), (2, ae_l v2), (4, ae_l v4)] [] s0
  unfold F_X4_combineFloats at hF
  refine ae_iload_n 1 dX4_combineFloats_0 rfl ?_
  by_cases hb1 : v1 = (7 : Int32)
  · have hF2 := ae_ifT hb1 hF
    refine ae_tabIn 121 dX4_combineFloats_1 (by rw [hb1]; decide) (by rw [hb1]; decide) (by rw [hb1]; rfl) rfl ?_
    refine ae_aload_n 0 dX4_combineFloats_121 rfl ?_
    refine ae_lload_n 2 dX4_combineFloats_122 rfl ?_
    refine ae_lload 3 dX4_combineFloats_123 rfl ?_
    obtain ⟨r3, s4, hc5, hF6⟩ := ae_bdI hF2
    refine ae_cS1 (As := [ae_l v2, ae_l v4]) dX4_combineFloats_125 ww_1000 vy_X2_less rfl rfl (Nat.le_of_ble_eq_true rfl) (c_X2_less (d + 3) hc5) ?_
    obtain ⟨r7, s8, hc9, hF10⟩ := ae_bdI hF6
    refine ae_cV0 (q := (21, 0)) (As := [ae_i r3]) dX4_combineFloats_128 ww_1006 vy_X4_pushTruth rfl rfl rfl rfl rfl (Nat.le_of_ble_eq_true rfl) (c_X4_pushTruth (d + 3) hc9) ?_
    refine ae_goto 157 dX4_combineFloats_131 rfl ?_
    refine ae_pick (lv' := []) [] rfl ?_
    exact t_X4_combineFloats_157 d s8 hF10
  · have hF11 := ae_ifF hb1 hF
    by_cases hb12 : v1 = (8 : Int32)
    · have hF13 := ae_ifT hb12 hF11
      refine ae_tabIn 134 dX4_combineFloats_1 (by rw [hb12]; decide) (by rw [hb12]; decide) (by rw [hb12]; rfl) rfl ?_
      refine ae_aload_n 0 dX4_combineFloats_134 rfl ?_
      refine ae_lload 3 dX4_combineFloats_135 rfl ?_
      refine ae_lload_n 2 dX4_combineFloats_137 rfl ?_
      obtain ⟨r14, s15, hc16, hF17⟩ := ae_bdI hF13
      refine ae_cS1 (As := [ae_l v4, ae_l v2]) dX4_combineFloats_138 ww_1000 vy_X2_less rfl rfl (Nat.le_of_ble_eq_true rfl) (c_X2_less (d + 3) hc16) ?_
      obtain ⟨r18, s19, hc20, hF21⟩ := ae_bdI hF17
      refine ae_cV0 (q := (21, 0)) (As := [ae_i r14]) dX4_combineFloats_141 ww_1006 vy_X4_pushTruth rfl rfl rfl rfl rfl (Nat.le_of_ble_eq_true rfl) (c_X4_pushTruth (d + 3) hc20) ?_
      refine ae_goto 157 dX4_combineFloats_144 rfl ?_
      refine ae_pick (lv' := []) [] rfl ?_
      exact t_X4_combineFloats_157 d s19 hF21
    · have hF22 := ae_ifF hb12 hF11
      by_cases hb23 : v1 = (10 : Int32)
      · have hF24 := ae_ifT hb23 hF22
        refine ae_tabIn 48 dX4_combineFloats_1 (by rw [hb23]; decide) (by rw [hb23]; decide) (by rw [hb23]; rfl) rfl ?_
        refine ae_aload_n 0 dX4_combineFloats_48 rfl ?_
        refine ae_lload_n 2 dX4_combineFloats_49 rfl ?_
        refine ae_lload 3 dX4_combineFloats_50 rfl ?_
        obtain ⟨r25, s26, hc27, hF28⟩ := ae_bdI hF24
        refine ae_cS1 (As := [ae_l v2, ae_l v4]) dX4_combineFloats_52 ww_988 vy_X2_add rfl rfl (Nat.le_of_ble_eq_true rfl) (c_X2_add d hc27) ?_
        refine ae_iconst (1 : Int32) dX4_combineFloats_55 (by decide) ?_
        obtain ⟨r29, s30, hc31, hF32⟩ := ae_bdI hF28
        refine ae_cV0 (q := (21, 0)) (As := [ae_l r25, ae_i (1 : Int32)]) dX4_combineFloats_56 ww_832 vy_X4_push rfl rfl rfl rfl rfl (Nat.le_of_ble_eq_true rfl) (c_X4_push (d + 4) hc31) ?_
        refine ae_goto 157 dX4_combineFloats_59 rfl ?_
        refine ae_pick (lv' := []) [] rfl ?_
        exact t_X4_combineFloats_157 d s30 hF32
      · have hF33 := ae_ifF hb23 hF22
        by_cases hb34 : v1 = (11 : Int32)
        · have hF35 := ae_ifT hb34 hF33
          refine ae_tabIn 62 dX4_combineFloats_1 (by rw [hb34]; decide) (by rw [hb34]; decide) (by rw [hb34]; rfl) rfl ?_
          refine ae_aload_n 0 dX4_combineFloats_62 rfl ?_
          refine ae_lload_n 2 dX4_combineFloats_63 rfl ?_
          refine ae_lload 3 dX4_combineFloats_64 rfl ?_
          obtain ⟨r36, s37, hc38, hF39⟩ := ae_bdI hF35
          refine ae_cS1 (As := [ae_l v4]) dX4_combineFloats_66 ww_963 vy_X2_negative rfl rfl (Nat.le_of_ble_eq_true rfl) (c_X2_negative (d + 3) hc38) ?_
          obtain ⟨r40, s41, hc42, hF43⟩ := ae_bdI hF39
          refine ae_cS1 (As := [ae_l v2, ae_l r36]) dX4_combineFloats_69 ww_988 vy_X2_add rfl rfl (Nat.le_of_ble_eq_true rfl) (c_X2_add d hc42) ?_
          refine ae_iconst (1 : Int32) dX4_combineFloats_72 (by decide) ?_
          obtain ⟨r44, s45, hc46, hF47⟩ := ae_bdI hF43
          refine ae_cV0 (q := (21, 0)) (As := [ae_l r40, ae_i (1 : Int32)]) dX4_combineFloats_73 ww_832 vy_X4_push rfl rfl rfl rfl rfl (Nat.le_of_ble_eq_true rfl) (c_X4_push (d + 4) hc46) ?_
          refine ae_goto 157 dX4_combineFloats_76 rfl ?_
          refine ae_pick (lv' := []) [] rfl ?_
          exact t_X4_combineFloats_157 d s45 hF47
        · have hF48 := ae_ifF hb34 hF33
          by_cases hb49 : v1 = (12 : Int32)
          · have hF50 := ae_ifT hb49 hF48
            refine ae_tabIn 79 dX4_combineFloats_1 (by rw [hb49]; decide) (by rw [hb49]; decide) (by rw [hb49]; rfl) rfl ?_
            refine ae_aload_n 0 dX4_combineFloats_79 rfl ?_
            refine ae_lload_n 2 dX4_combineFloats_80 rfl ?_
            refine ae_lload 3 dX4_combineFloats_81 rfl ?_
            obtain ⟨r51, s52, hc53, hF54⟩ := ae_bdI hF50
            refine ae_cS1 (As := [ae_l v2, ae_l v4]) dX4_combineFloats_83 ww_989 vy_X2_multiply rfl rfl (Nat.le_of_ble_eq_true rfl) (c_X2_multiply d hc53) ?_
            refine ae_iconst (1 : Int32) dX4_combineFloats_86 (by decide) ?_
            obtain ⟨r55, s56, hc57, hF58⟩ := ae_bdI hF54
            refine ae_cV0 (q := (21, 0)) (As := [ae_l r51, ae_i (1 : Int32)]) dX4_combineFloats_87 ww_832 vy_X4_push rfl rfl rfl rfl rfl (Nat.le_of_ble_eq_true rfl) (c_X4_push (d + 4) hc57) ?_
            refine ae_goto 157 dX4_combineFloats_90 rfl ?_
            refine ae_pick (lv' := []) [] rfl ?_
            exact t_X4_combineFloats_157 d s56 hF58
          · have hF59 := ae_ifF hb49 hF48
            by_cases hb60 : v1 = (13 : Int32)
            · have hF61 := ae_ifT hb60 hF59
              refine ae_tabIn 93 dX4_combineFloats_1 (by rw [hb60]; decide) (by rw [hb60]; decide) (by rw [hb60]; rfl) rfl ?_
              refine ae_aload_n 0 dX4_combineFloats_93 rfl ?_
              refine ae_lload_n 2 dX4_combineFloats_94 rfl ?_
              refine ae_lload 3 dX4_combineFloats_95 rfl ?_
              obtain ⟨r62, s63, hc64, hF65⟩ := ae_bdI hF61
              refine ae_cS1 (As := [ae_l v2, ae_l v4]) dX4_combineFloats_97 ww_996 vy_X2_divide rfl rfl (Nat.le_of_ble_eq_true rfl) (c_X2_divide d hc64) ?_
              refine ae_iconst (1 : Int32) dX4_combineFloats_100 (by decide) ?_
              obtain ⟨r66, s67, hc68, hF69⟩ := ae_bdI hF65
              refine ae_cV0 (q := (21, 0)) (As := [ae_l r62, ae_i (1 : Int32)]) dX4_combineFloats_101 ww_832 vy_X4_push rfl rfl rfl rfl rfl (Nat.le_of_ble_eq_true rfl) (c_X4_push (d + 4) hc68) ?_
              refine ae_goto 157 dX4_combineFloats_104 rfl ?_
              refine ae_pick (lv' := []) [] rfl ?_
              exact t_X4_combineFloats_157 d s67 hF69
            · have hF70 := ae_ifF hb60 hF59
              by_cases hb71 : v1 = (14 : Int32)
              · have hF72 := ae_ifT hb71 hF70
                refine ae_tabIn 107 dX4_combineFloats_1 (by rw [hb71]; decide) (by rw [hb71]; decide) (by rw [hb71]; rfl) rfl ?_
                refine ae_aload_n 0 dX4_combineFloats_107 rfl ?_
                refine ae_lload_n 2 dX4_combineFloats_108 rfl ?_
                refine ae_lload 3 dX4_combineFloats_109 rfl ?_
                obtain ⟨r73, s74, hc75, hF76⟩ := ae_bdI hF72
                refine ae_cS1 (As := [ae_l v2, ae_l v4]) dX4_combineFloats_111 ww_997 vy_X2_remainder rfl rfl (Nat.le_of_ble_eq_true rfl) (c_X2_remainder (d + 1) hc75) ?_
                refine ae_iconst (1 : Int32) dX4_combineFloats_114 (by decide) ?_
                obtain ⟨r77, s78, hc79, hF80⟩ := ae_bdI hF76
                refine ae_cV0 (q := (21, 0)) (As := [ae_l r73, ae_i (1 : Int32)]) dX4_combineFloats_115 ww_832 vy_X4_push rfl rfl rfl rfl rfl (Nat.le_of_ble_eq_true rfl) (c_X4_push (d + 4) hc79) ?_
                refine ae_goto 157 dX4_combineFloats_118 rfl ?_
                refine ae_pick (lv' := []) [] rfl ?_
                exact t_X4_combineFloats_157 d s78 hF80
              · have hF81 := ae_ifF hb71 hF70
                have hn90 : ¬ (v1).toInt = 7 := lv_neT hb1 (by decide)
                have hn91 : ¬ (v1).toInt = 8 := lv_neT hb12 (by decide)
                have hn92 : ¬ (v1).toInt = 10 := lv_neT hb23 (by decide)
                have hn93 : ¬ (v1).toInt = 11 := lv_neT hb34 (by decide)
                have hn94 : ¬ (v1).toInt = 12 := lv_neT hb49 (by decide)
                have hn95 : ¬ (v1).toInt = 13 := lv_neT hb60 (by decide)
                have hn96 : ¬ (v1).toInt = 14 := lv_neT hb71 (by decide)
                by_cases hb97 : v1 = (9 : Int32)
                · refine ae_tabIn 147 dX4_combineFloats_1 (by rw [hb97]; decide) (by rw [hb97]; decide) (by rw [hb97]; rfl) rfl ?_
                  refine ae_aload_n 0 dX4_combineFloats_147 rfl ?_
                  refine ae_lload_n 2 dX4_combineFloats_148 rfl ?_
                  refine ae_lload 3 dX4_combineFloats_149 rfl ?_
                  obtain ⟨r82, s83, hc84, hF85⟩ := ae_bdI hF81
                  refine ae_cS1 (As := [ae_l v2, ae_l v4]) dX4_combineFloats_151 ww_1010 vy_X2_alike rfl rfl (Nat.le_of_ble_eq_true rfl) (c_X2_alike (d + 3) hc84) ?_
                  obtain ⟨r86, s87, hc88, hF89⟩ := ae_bdI hF85
                  refine ae_cV0 (q := (21, 0)) (As := [ae_i r82]) dX4_combineFloats_154 ww_1006 vy_X4_pushTruth rfl rfl rfl rfl rfl (Nat.le_of_ble_eq_true rfl) (c_X4_pushTruth (d + 3) hc88) ?_
                  refine ae_pick (lv' := []) [] rfl ?_
                  exact t_X4_combineFloats_157 d s87 hF89
                · have hn98 : ¬ (v1).toInt = 9 := lv_neT hb97 (by decide)
                  refine ae_tabOut 147 dX4_combineFloats_1 (by omega) rfl ?_
                  refine ae_aload_n 0 dX4_combineFloats_147 rfl ?_
                  refine ae_lload_n 2 dX4_combineFloats_148 rfl ?_
                  refine ae_lload 3 dX4_combineFloats_149 rfl ?_
                  obtain ⟨r82, s83, hc84, hF85⟩ := ae_bdI hF81
                  refine ae_cS1 (As := [ae_l v2, ae_l v4]) dX4_combineFloats_151 ww_1010 vy_X2_alike rfl rfl (Nat.le_of_ble_eq_true rfl) (c_X2_alike (d + 3) hc84) ?_
                  obtain ⟨r86, s87, hc88, hF89⟩ := ae_bdI hF85
                  refine ae_cV0 (q := (21, 0)) (As := [ae_i r82]) dX4_combineFloats_154 ww_1006 vy_X4_pushTruth rfl rfl rfl rfl rfl (Nat.le_of_ble_eq_true rfl) (c_X4_pushTruth (d + 3) hc88) ?_
                  refine ae_pick (lv' := []) [] rfl ?_
                  exact t_X4_combineFloats_157 d s87 hF89
abbrev mX4_divideWholes : ae_M := (RX4, cX4_divideWholes, 6, none)
theorem vy_X4_divideWholes : ae_VY yX4_divideWholes mX4_divideWholes 3 := ⟨ww_1019, wq_48, ww_12, ww_1020, ⟨by decide, by decide, by decide +kernel⟩, by decide⟩
theorem dX4_divideWholes_0 : decode cX4_divideWholes 0 = .ok (.lload 4, 2) := by decide +kernel
theorem dX4_divideWholes_2 : decode cX4_divideWholes 2 = .ok (.lconst 0, 1) := by decide +kernel
theorem dX4_divideWholes_3 : decode cX4_divideWholes 3 = .ok (.lcmp, 1) := by decide +kernel
theorem dX4_divideWholes_4 : decode cX4_divideWholes 4 = .ok (.ifCond .ne 11, 3) := by decide +kernel
theorem dX4_divideWholes_7 : decode cX4_divideWholes 7 = .ok (.aload_n 0, 1) := by decide +kernel
theorem dX4_divideWholes_8 : decode cX4_divideWholes 8 = .ok (.iconst 2, 1) := by decide +kernel
theorem dX4_divideWholes_9 : decode cX4_divideWholes 9 = .ok (.invokevirtual 107, 3) := by decide +kernel
theorem dX4_divideWholes_12 : decode cX4_divideWholes 12 = .ok (.goto 23, 3) := by decide +kernel
theorem dX4_divideWholes_15 : decode cX4_divideWholes 15 = .ok (.aload_n 0, 1) := by decide +kernel
theorem dX4_divideWholes_16 : decode cX4_divideWholes 16 = .ok (.iload_n 1, 1) := by decide +kernel
theorem dX4_divideWholes_17 : decode cX4_divideWholes 17 = .ok (.ifCond .eq 10, 3) := by decide +kernel
theorem dX4_divideWholes_20 : decode cX4_divideWholes 20 = .ok (.lload_n 2, 1) := by decide +kernel
theorem dX4_divideWholes_21 : decode cX4_divideWholes 21 = .ok (.lload 4, 2) := by decide +kernel
theorem dX4_divideWholes_23 : decode cX4_divideWholes 23 = .ok (.ldiv, 1) := by decide +kernel
theorem dX4_divideWholes_24 : decode cX4_divideWholes 24 = .ok (.goto 7, 3) := by decide +kernel
theorem dX4_divideWholes_27 : decode cX4_divideWholes 27 = .ok (.lload_n 2, 1) := by decide +kernel
theorem dX4_divideWholes_28 : decode cX4_divideWholes 28 = .ok (.lload 4, 2) := by decide +kernel
theorem dX4_divideWholes_30 : decode cX4_divideWholes 30 = .ok (.lrem, 1) := by decide +kernel
theorem dX4_divideWholes_31 : decode cX4_divideWholes 31 = .ok (.iconst 0, 1) := by decide +kernel
theorem dX4_divideWholes_32 : decode cX4_divideWholes 32 = .ok (.invokevirtual 76, 3) := by decide +kernel
theorem dX4_divideWholes_35 : decode cX4_divideWholes 35 = .ok (.return_, 1) := by decide +kernel
def F_X4_divideWholes_35 (s0 : ae_S) : Option (Unit × ae_S) := some ((), s0)
set_option maxHeartbeats 4000000 in
set_option maxRecDepth 100000 in
theorem t_X4_divideWholes_35 {l : Launch} {G : ae_G} (d : Nat) {rr : Unit} {ss : ae_S} (s0 : ae_S) (hF : F_X4_divideWholes_35 s0 = some (rr, ss)) : ae_T l G (d + 3) mX4_divideWholes (ae_Po none ss) 35 [] [] s0 := by
  unfold F_X4_divideWholes_35 at hF
  obtain ⟨rfl, rfl⟩ := ae_retI hF
  exact ae_vret dX4_divideWholes_35 rfl ⟨rfl, rfl⟩
def F_X4_divideWholes_31 (t0 : Int64) (s0 : ae_S) : Option (Unit × ae_S) := ae_bd (F_X4_push t0 (0 : Int32) s0) (fun (r1 : Unit) s2 => F_X4_divideWholes_35 s2)
set_option maxHeartbeats 4000000 in
set_option maxRecDepth 100000 in
theorem t_X4_divideWholes_31 {l : Launch} {G : ae_G} (d : Nat) {rr : Unit} {ss : ae_S} (t0 : Int64) (s0 : ae_S) (hF : F_X4_divideWholes_31 t0 s0 = some (rr, ss)) : ae_T l G (d + 3) mX4_divideWholes (ae_Po none ss) 31 [] [ae_l t0, ae_r (some (21, 0))] s0 := by
  unfold F_X4_divideWholes_31 at hF
  refine ae_iconst (0 : Int32) dX4_divideWholes_31 (by decide) ?_
  obtain ⟨r1, s2, hc3, hF4⟩ := ae_bdI hF
  refine ae_cV0 (q := (21, 0)) (As := [ae_l t0, ae_i (0 : Int32)]) dX4_divideWholes_32 ww_832 vy_X4_push rfl rfl rfl rfl rfl (Nat.le_of_ble_eq_true rfl) (c_X4_push (d + 2) hc3) ?_
  refine ae_pick (lv' := []) [] rfl ?_
  exact t_X4_divideWholes_35 d s2 hF4
def F_X4_divideWholes (v1 : Int32) (v2 : Int64) (v4 : Int64) (s0 : ae_S) : Option (Unit × ae_S) := if (lg_cmp v4 (0 : Int64)) = 0 then (ae_bd (F_X4_meet (2 : Int32) s0) (fun (r13 : Unit) s14 => F_X4_divideWholes_35 s14)) else (if v1 = 0 then (ae_gd (!(decide (v4 = 0))) (F_X4_divideWholes_31 (v2 - v2 / v4 * v4) s0)) else (ae_gd (!(decide (v4 = 0))) (F_X4_divideWholes_31 (v2 / v4) s0)))
set_option maxHeartbeats 4000000 in
set_option maxRecDepth 100000 in
theorem c_X4_divideWholes {l : Launch} {G : ae_G} (d : Nat) {v1 : Int32} {v2 : Int64} {v4 : Int64} {s0 ss : ae_S} {rr : Unit} (hF : F_X4_divideWholes v1 v2 v4 s0 = some (rr, ss)) : ae_Met l G (d + 3) yX4_divideWholes mX4_divideWholes [ae_r (some (21, 0)), ae_i v1, ae_l v2, ae_l v4] s0 (ae_Po none ss) := by
  refine ae_enter (by decide) rfl (Nat.le_of_ble_eq_true rfl) ?_
  show ae_T l G (d + 3) mX4_divideWholes (ae_Po none ss) 0 [(0, ae_r (some (21, 0))), (1, ae_i v1), (2, ae_l v2), (4, ae_l v4)] [] s0
  unfold F_X4_divideWholes at hF
  refine ae_lload 3 dX4_divideWholes_0 rfl ?_
  refine ae_lconst (0 : Int64) dX4_divideWholes_2 (by decide) ?_
  refine ae_lcmp dX4_divideWholes_3 ?_
  refine ae_if_ne 15 dX4_divideWholes_4 rfl (fun hb5 => ?_) (fun hb5 => ?_)
  · have hF6 := ae_ifF hb5 hF
    refine ae_aload_n 0 dX4_divideWholes_15 rfl ?_
    refine ae_iload_n 1 dX4_divideWholes_16 rfl ?_
    refine ae_if_eq 27 dX4_divideWholes_17 rfl (fun hb7 => ?_) (fun hb7 => ?_)
    · have hF8 := ae_ifT hb7 hF6
      refine ae_lload_n 2 dX4_divideWholes_27 rfl ?_
      refine ae_lload 3 dX4_divideWholes_28 rfl ?_
      obtain ⟨hg9, hF10⟩ := ae_gdI hF8
      refine ae_lrem dX4_divideWholes_30 (by simpa using hg9) ?_
      refine ae_pick (lv' := []) [] rfl ?_
      exact t_X4_divideWholes_31 d (v2 - v2 / v4 * v4) s0 hF10
    · have hF8 := ae_ifF hb7 hF6
      refine ae_lload_n 2 dX4_divideWholes_20 rfl ?_
      refine ae_lload 3 dX4_divideWholes_21 rfl ?_
      obtain ⟨hg11, hF12⟩ := ae_gdI hF8
      refine ae_ldiv dX4_divideWholes_23 (by simpa using hg11) ?_
      refine ae_goto 31 dX4_divideWholes_24 rfl ?_
      refine ae_pick (lv' := []) [] rfl ?_
      exact t_X4_divideWholes_31 d (v2 / v4) s0 hF12
  · have hF6 := ae_ifT hb5 hF
    refine ae_aload_n 0 dX4_divideWholes_7 rfl ?_
    refine ae_iconst (2 : Int32) dX4_divideWholes_8 (by decide) ?_
    obtain ⟨r13, s14, hc15, hF16⟩ := ae_bdI hF6
    refine ae_cV0 (q := (21, 0)) (As := [ae_i (2 : Int32)]) dX4_divideWholes_9 ww_856 vy_X4_meet rfl rfl rfl rfl rfl (Nat.le_of_ble_eq_true rfl) (c_X4_meet d hc15) ?_
    refine ae_goto 35 dX4_divideWholes_12 rfl ?_
    refine ae_pick (lv' := []) [] rfl ?_
    exact t_X4_divideWholes_35 d s14 hF16
abbrev mX4_combineWholes : ae_M := (RX4, cX4_combineWholes, 6, none)
theorem vy_X4_combineWholes : ae_VY yX4_combineWholes mX4_combineWholes 3 := ⟨ww_1015, wq_47, ww_12, ww_1016, ⟨by decide, by decide, by decide +kernel⟩, by decide⟩
theorem dX4_combineWholes_0 : decode cX4_combineWholes 0 = .ok (.iload_n 1, 1) := by decide +kernel
theorem dX4_combineWholes_1 : decode cX4_combineWholes 1 = .ok (.tableswitch 142 7 14 #[104, 123, 142, 47, 59, 71, 83, 83], 47) := by decide +kernel
theorem dX4_combineWholes_48 : decode cX4_combineWholes 48 = .ok (.aload_n 0, 1) := by decide +kernel
theorem dX4_combineWholes_49 : decode cX4_combineWholes 49 = .ok (.lload_n 2, 1) := by decide +kernel
theorem dX4_combineWholes_50 : decode cX4_combineWholes 50 = .ok (.lload 4, 2) := by decide +kernel
theorem dX4_combineWholes_52 : decode cX4_combineWholes 52 = .ok (.ladd, 1) := by decide +kernel
theorem dX4_combineWholes_53 : decode cX4_combineWholes 53 = .ok (.iconst 0, 1) := by decide +kernel
theorem dX4_combineWholes_54 : decode cX4_combineWholes 54 = .ok (.invokevirtual 76, 3) := by decide +kernel
theorem dX4_combineWholes_57 : decode cX4_combineWholes 57 = .ok (.goto 102, 3) := by decide +kernel
theorem dX4_combineWholes_60 : decode cX4_combineWholes 60 = .ok (.aload_n 0, 1) := by decide +kernel
theorem dX4_combineWholes_61 : decode cX4_combineWholes 61 = .ok (.lload_n 2, 1) := by decide +kernel
theorem dX4_combineWholes_62 : decode cX4_combineWholes 62 = .ok (.lload 4, 2) := by decide +kernel
theorem dX4_combineWholes_64 : decode cX4_combineWholes 64 = .ok (.lsub, 1) := by decide +kernel
theorem dX4_combineWholes_65 : decode cX4_combineWholes 65 = .ok (.iconst 0, 1) := by decide +kernel
theorem dX4_combineWholes_66 : decode cX4_combineWholes 66 = .ok (.invokevirtual 76, 3) := by decide +kernel
theorem dX4_combineWholes_69 : decode cX4_combineWholes 69 = .ok (.goto 90, 3) := by decide +kernel
theorem dX4_combineWholes_72 : decode cX4_combineWholes 72 = .ok (.aload_n 0, 1) := by decide +kernel
theorem dX4_combineWholes_73 : decode cX4_combineWholes 73 = .ok (.lload_n 2, 1) := by decide +kernel
theorem dX4_combineWholes_74 : decode cX4_combineWholes 74 = .ok (.lload 4, 2) := by decide +kernel
theorem dX4_combineWholes_76 : decode cX4_combineWholes 76 = .ok (.lmul, 1) := by decide +kernel
theorem dX4_combineWholes_77 : decode cX4_combineWholes 77 = .ok (.iconst 0, 1) := by decide +kernel
theorem dX4_combineWholes_78 : decode cX4_combineWholes 78 = .ok (.invokevirtual 76, 3) := by decide +kernel
theorem dX4_combineWholes_81 : decode cX4_combineWholes 81 = .ok (.goto 78, 3) := by decide +kernel
theorem dX4_combineWholes_84 : decode cX4_combineWholes 84 = .ok (.aload_n 0, 1) := by decide +kernel
theorem dX4_combineWholes_85 : decode cX4_combineWholes 85 = .ok (.iload_n 1, 1) := by decide +kernel
theorem dX4_combineWholes_86 : decode cX4_combineWholes 86 = .ok (.bipush 13, 2) := by decide +kernel
theorem dX4_combineWholes_88 : decode cX4_combineWholes 88 = .ok (.if_icmp .ne 7, 3) := by decide +kernel
theorem dX4_combineWholes_91 : decode cX4_combineWholes 91 = .ok (.iconst 1, 1) := by decide +kernel
theorem dX4_combineWholes_92 : decode cX4_combineWholes 92 = .ok (.goto 4, 3) := by decide +kernel
theorem dX4_combineWholes_95 : decode cX4_combineWholes 95 = .ok (.iconst 0, 1) := by decide +kernel
theorem dX4_combineWholes_96 : decode cX4_combineWholes 96 = .ok (.lload_n 2, 1) := by decide +kernel
theorem dX4_combineWholes_97 : decode cX4_combineWholes 97 = .ok (.lload 4, 2) := by decide +kernel
theorem dX4_combineWholes_99 : decode cX4_combineWholes 99 = .ok (.invokevirtual 207, 3) := by decide +kernel
theorem dX4_combineWholes_102 : decode cX4_combineWholes 102 = .ok (.goto 57, 3) := by decide +kernel
theorem dX4_combineWholes_105 : decode cX4_combineWholes 105 = .ok (.aload_n 0, 1) := by decide +kernel
theorem dX4_combineWholes_106 : decode cX4_combineWholes 106 = .ok (.lload_n 2, 1) := by decide +kernel
theorem dX4_combineWholes_107 : decode cX4_combineWholes 107 = .ok (.lload 4, 2) := by decide +kernel
theorem dX4_combineWholes_109 : decode cX4_combineWholes 109 = .ok (.lcmp, 1) := by decide +kernel
theorem dX4_combineWholes_110 : decode cX4_combineWholes 110 = .ok (.ifCond .ge 7, 3) := by decide +kernel
theorem dX4_combineWholes_113 : decode cX4_combineWholes 113 = .ok (.iconst 1, 1) := by decide +kernel
theorem dX4_combineWholes_114 : decode cX4_combineWholes 114 = .ok (.goto 4, 3) := by decide +kernel
theorem dX4_combineWholes_117 : decode cX4_combineWholes 117 = .ok (.iconst 0, 1) := by decide +kernel
theorem dX4_combineWholes_118 : decode cX4_combineWholes 118 = .ok (.invokevirtual 211, 3) := by decide +kernel
theorem dX4_combineWholes_121 : decode cX4_combineWholes 121 = .ok (.goto 38, 3) := by decide +kernel
theorem dX4_combineWholes_124 : decode cX4_combineWholes 124 = .ok (.aload_n 0, 1) := by decide +kernel
theorem dX4_combineWholes_125 : decode cX4_combineWholes 125 = .ok (.lload_n 2, 1) := by decide +kernel
theorem dX4_combineWholes_126 : decode cX4_combineWholes 126 = .ok (.lload 4, 2) := by decide +kernel
theorem dX4_combineWholes_128 : decode cX4_combineWholes 128 = .ok (.lcmp, 1) := by decide +kernel
theorem dX4_combineWholes_129 : decode cX4_combineWholes 129 = .ok (.ifCond .le 7, 3) := by decide +kernel
theorem dX4_combineWholes_132 : decode cX4_combineWholes 132 = .ok (.iconst 1, 1) := by decide +kernel
theorem dX4_combineWholes_133 : decode cX4_combineWholes 133 = .ok (.goto 4, 3) := by decide +kernel
theorem dX4_combineWholes_136 : decode cX4_combineWholes 136 = .ok (.iconst 0, 1) := by decide +kernel
theorem dX4_combineWholes_137 : decode cX4_combineWholes 137 = .ok (.invokevirtual 211, 3) := by decide +kernel
theorem dX4_combineWholes_140 : decode cX4_combineWholes 140 = .ok (.goto 19, 3) := by decide +kernel
theorem dX4_combineWholes_143 : decode cX4_combineWholes 143 = .ok (.aload_n 0, 1) := by decide +kernel
theorem dX4_combineWholes_144 : decode cX4_combineWholes 144 = .ok (.lload_n 2, 1) := by decide +kernel
theorem dX4_combineWholes_145 : decode cX4_combineWholes 145 = .ok (.lload 4, 2) := by decide +kernel
theorem dX4_combineWholes_147 : decode cX4_combineWholes 147 = .ok (.lcmp, 1) := by decide +kernel
theorem dX4_combineWholes_148 : decode cX4_combineWholes 148 = .ok (.ifCond .ne 7, 3) := by decide +kernel
theorem dX4_combineWholes_151 : decode cX4_combineWholes 151 = .ok (.iconst 1, 1) := by decide +kernel
theorem dX4_combineWholes_152 : decode cX4_combineWholes 152 = .ok (.goto 4, 3) := by decide +kernel
theorem dX4_combineWholes_155 : decode cX4_combineWholes 155 = .ok (.iconst 0, 1) := by decide +kernel
theorem dX4_combineWholes_156 : decode cX4_combineWholes 156 = .ok (.invokevirtual 211, 3) := by decide +kernel
theorem dX4_combineWholes_159 : decode cX4_combineWholes 159 = .ok (.return_, 1) := by decide +kernel
def F_X4_combineWholes_159 (s0 : ae_S) : Option (Unit × ae_S) := some ((), s0)
set_option maxHeartbeats 4000000 in
set_option maxRecDepth 100000 in
theorem t_X4_combineWholes_159 {l : Launch} {G : ae_G} (d : Nat) {rr : Unit} {ss : ae_S} (s0 : ae_S) (hF : F_X4_combineWholes_159 s0 = some (rr, ss)) : ae_T l G (d + 4) mX4_combineWholes (ae_Po none ss) 159 [] [] s0 := by
  unfold F_X4_combineWholes_159 at hF
  obtain ⟨rfl, rfl⟩ := ae_retI hF
  exact ae_vret dX4_combineWholes_159 rfl ⟨rfl, rfl⟩
def F_X4_combineWholes_96 (v2 : Int64) (v4 : Int64) (t0 : Int32) (s0 : ae_S) : Option (Unit × ae_S) := ae_bd (F_X4_divideWholes t0 v2 v4 s0) (fun (r1 : Unit) s2 => F_X4_combineWholes_159 s2)
set_option maxHeartbeats 4000000 in
set_option maxRecDepth 100000 in
theorem t_X4_combineWholes_96 {l : Launch} {G : ae_G} (d : Nat) {rr : Unit} {ss : ae_S} (v2 : Int64) (v4 : Int64) (t0 : Int32) (s0 : ae_S) (hF : F_X4_combineWholes_96 v2 v4 t0 s0 = some (rr, ss)) : ae_T l G (d + 4) mX4_combineWholes (ae_Po none ss) 96 [(2, ae_l v2), (4, ae_l v4)] [ae_i t0, ae_r (some (21, 0))] s0 := by
  unfold F_X4_combineWholes_96 at hF
  refine ae_lload_n 0 dX4_combineWholes_96 rfl ?_
  refine ae_lload 1 dX4_combineWholes_97 rfl ?_
  obtain ⟨r1, s2, hc3, hF4⟩ := ae_bdI hF
  refine ae_cV0 (q := (21, 0)) (As := [ae_i t0, ae_l v2, ae_l v4]) dX4_combineWholes_99 ww_1017 vy_X4_divideWholes rfl rfl rfl rfl rfl (Nat.le_of_ble_eq_true rfl) (c_X4_divideWholes d hc3) ?_
  refine ae_goto 159 dX4_combineWholes_102 rfl ?_
  refine ae_pick (lv' := []) [] rfl ?_
  exact t_X4_combineWholes_159 d s2 hF4
def F_X4_combineWholes_118 (t0 : Int32) (s0 : ae_S) : Option (Unit × ae_S) := ae_bd (F_X4_pushTruth t0 s0) (fun (r5 : Unit) s6 => F_X4_combineWholes_159 s6)
set_option maxHeartbeats 4000000 in
set_option maxRecDepth 100000 in
theorem t_X4_combineWholes_118 {l : Launch} {G : ae_G} (d : Nat) {rr : Unit} {ss : ae_S} (t0 : Int32) (s0 : ae_S) (hF : F_X4_combineWholes_118 t0 s0 = some (rr, ss)) : ae_T l G (d + 4) mX4_combineWholes (ae_Po none ss) 118 [] [ae_i t0, ae_r (some (21, 0))] s0 := by
  unfold F_X4_combineWholes_118 at hF
  obtain ⟨r5, s6, hc7, hF8⟩ := ae_bdI hF
  refine ae_cV0 (q := (21, 0)) (As := [ae_i t0]) dX4_combineWholes_118 ww_1006 vy_X4_pushTruth rfl rfl rfl rfl rfl (Nat.le_of_ble_eq_true rfl) (c_X4_pushTruth (d + 2) hc7) ?_
  refine ae_goto 159 dX4_combineWholes_121 rfl ?_
  refine ae_pick (lv' := []) [] rfl ?_
  exact t_X4_combineWholes_159 d s6 hF8
def F_X4_combineWholes_137 (t0 : Int32) (s0 : ae_S) : Option (Unit × ae_S) := ae_bd (F_X4_pushTruth t0 s0) (fun (r9 : Unit) s10 => F_X4_combineWholes_159 s10)
set_option maxHeartbeats 4000000 in
set_option maxRecDepth 100000 in
theorem t_X4_combineWholes_137 {l : Launch} {G : ae_G} (d : Nat) {rr : Unit} {ss : ae_S} (t0 : Int32) (s0 : ae_S) (hF : F_X4_combineWholes_137 t0 s0 = some (rr, ss)) : ae_T l G (d + 4) mX4_combineWholes (ae_Po none ss) 137 [] [ae_i t0, ae_r (some (21, 0))] s0 := by
  unfold F_X4_combineWholes_137 at hF
  obtain ⟨r9, s10, hc11, hF12⟩ := ae_bdI hF
  refine ae_cV0 (q := (21, 0)) (As := [ae_i t0]) dX4_combineWholes_137 ww_1006 vy_X4_pushTruth rfl rfl rfl rfl rfl (Nat.le_of_ble_eq_true rfl) (c_X4_pushTruth (d + 2) hc11) ?_
  refine ae_goto 159 dX4_combineWholes_140 rfl ?_
  refine ae_pick (lv' := []) [] rfl ?_
  exact t_X4_combineWholes_159 d s10 hF12
def F_X4_combineWholes_156 (t0 : Int32) (s0 : ae_S) : Option (Unit × ae_S) := ae_bd (F_X4_pushTruth t0 s0) (fun (r13 : Unit) s14 => F_X4_combineWholes_159 s14)
set_option maxHeartbeats 4000000 in
set_option maxRecDepth 100000 in
theorem t_X4_combineWholes_156 {l : Launch} {G : ae_G} (d : Nat) {rr : Unit} {ss : ae_S} (t0 : Int32) (s0 : ae_S) (hF : F_X4_combineWholes_156 t0 s0 = some (rr, ss)) : ae_T l G (d + 4) mX4_combineWholes (ae_Po none ss) 156 [] [ae_i t0, ae_r (some (21, 0))] s0 := by
  unfold F_X4_combineWholes_156 at hF
  obtain ⟨r13, s14, hc15, hF16⟩ := ae_bdI hF
  refine ae_cV0 (q := (21, 0)) (As := [ae_i t0]) dX4_combineWholes_156 ww_1006 vy_X4_pushTruth rfl rfl rfl rfl rfl (Nat.le_of_ble_eq_true rfl) (c_X4_pushTruth (d + 2) hc15) ?_
  refine ae_pick (lv' := []) [] rfl ?_
  exact t_X4_combineWholes_159 d s14 hF16
def F_X4_combineWholes (v1 : Int32) (v2 : Int64) (v4 : Int64) (s0 : ae_S) : Option (Unit × ae_S) := if v1 = (7 : Int32) then (if 0 ≤ (lg_cmp v2 v4) then (F_X4_combineWholes_118 (0 : Int32) s0) else (F_X4_combineWholes_118 (1 : Int32) s0)) else (if v1 = (8 : Int32) then (if (lg_cmp v2 v4) ≤ 0 then (F_X4_combineWholes_137 (0 : Int32) s0) else (F_X4_combineWholes_137 (1 : Int32) s0)) else (if v1 = (10 : Int32) then (ae_bd (F_X4_push (v2 + v4) (0 : Int32) s0) (fun (r29 : Unit) s30 => F_X4_combineWholes_159 s30)) else (if v1 = (11 : Int32) then (ae_bd (F_X4_push (v2 - v4) (0 : Int32) s0) (fun (r36 : Unit) s37 => F_X4_combineWholes_159 s37)) else (if v1 = (12 : Int32) then (ae_bd (F_X4_push (v2 * v4) (0 : Int32) s0) (fun (r43 : Unit) s44 => F_X4_combineWholes_159 s44)) else (if v1 = (13 : Int32) then (if v1 = (13 : Int32) then (F_X4_combineWholes_96 v2 v4 (1 : Int32) s0) else (F_X4_combineWholes_96 v2 v4 (0 : Int32) s0)) else (if v1 = (14 : Int32) then (if v1 = (13 : Int32) then (F_X4_combineWholes_96 v2 v4 (1 : Int32) s0) else (F_X4_combineWholes_96 v2 v4 (0 : Int32) s0)) else (if (lg_cmp v2 v4) = 0 then (F_X4_combineWholes_156 (1 : Int32) s0) else (F_X4_combineWholes_156 (0 : Int32) s0))))))))
set_option maxHeartbeats 4000000 in
set_option maxRecDepth 100000 in
theorem c_X4_combineWholes {l : Launch} {G : ae_G} (d : Nat) {v1 : Int32} {v2 : Int64} {v4 : Int64} {s0 ss : ae_S} {rr : Unit} (hF : F_X4_combineWholes v1 v2 v4 s0 = some (rr, ss)) : ae_Met l G (d + 4) yX4_combineWholes mX4_combineWholes [ae_r (some (21, 0)), ae_i v1, ae_l v2, ae_l v4] s0 (ae_Po none ss) := by
  refine ae_enter (by decide) rfl (Nat.le_of_ble_eq_true rfl) ?_
  show ae_T l G (d + 4) mX4_combineWholes (ae_Po none ss) 0 [(0, ae_r (some (21, 0))), (1, ae_i v1), (2, ae_l v2), (4, ae_l v4)] [] s0
  unfold F_X4_combineWholes at hF
  refine ae_iload_n 1 dX4_combineWholes_0 rfl ?_
  by_cases hb17 : v1 = (7 : Int32)
  · have hF18 := ae_ifT hb17 hF
    refine ae_tabIn 105 dX4_combineWholes_1 (by rw [hb17]; decide) (by rw [hb17]; decide) (by rw [hb17]; rfl) rfl ?_
    refine ae_aload_n 0 dX4_combineWholes_105 rfl ?_
    refine ae_lload_n 2 dX4_combineWholes_106 rfl ?_
    refine ae_lload 3 dX4_combineWholes_107 rfl ?_
    refine ae_lcmp dX4_combineWholes_109 ?_
    refine ae_if_ge 117 dX4_combineWholes_110 rfl (fun hb19 => ?_) (fun hb19 => ?_)
    · have hF20 := ae_ifT hb19 hF18
      refine ae_iconst (0 : Int32) dX4_combineWholes_117 (by decide) ?_
      refine ae_pick (lv' := []) [] rfl ?_
      exact t_X4_combineWholes_118 d (0 : Int32) s0 hF20
    · have hF20 := ae_ifF hb19 hF18
      refine ae_iconst (1 : Int32) dX4_combineWholes_113 (by decide) ?_
      refine ae_goto 118 dX4_combineWholes_114 rfl ?_
      refine ae_pick (lv' := []) [] rfl ?_
      exact t_X4_combineWholes_118 d (1 : Int32) s0 hF20
  · have hF21 := ae_ifF hb17 hF
    by_cases hb22 : v1 = (8 : Int32)
    · have hF23 := ae_ifT hb22 hF21
      refine ae_tabIn 124 dX4_combineWholes_1 (by rw [hb22]; decide) (by rw [hb22]; decide) (by rw [hb22]; rfl) rfl ?_
      refine ae_aload_n 0 dX4_combineWholes_124 rfl ?_
      refine ae_lload_n 2 dX4_combineWholes_125 rfl ?_
      refine ae_lload 3 dX4_combineWholes_126 rfl ?_
      refine ae_lcmp dX4_combineWholes_128 ?_
      refine ae_if_le 136 dX4_combineWholes_129 rfl (fun hb24 => ?_) (fun hb24 => ?_)
      · have hF25 := ae_ifT hb24 hF23
        refine ae_iconst (0 : Int32) dX4_combineWholes_136 (by decide) ?_
        refine ae_pick (lv' := []) [] rfl ?_
        exact t_X4_combineWholes_137 d (0 : Int32) s0 hF25
      · have hF25 := ae_ifF hb24 hF23
        refine ae_iconst (1 : Int32) dX4_combineWholes_132 (by decide) ?_
        refine ae_goto 137 dX4_combineWholes_133 rfl ?_
        refine ae_pick (lv' := []) [] rfl ?_
        exact t_X4_combineWholes_137 d (1 : Int32) s0 hF25
    · have hF26 := ae_ifF hb22 hF21
      by_cases hb27 : v1 = (10 : Int32)
      · have hF28 := ae_ifT hb27 hF26
        refine ae_tabIn 48 dX4_combineWholes_1 (by rw [hb27]; decide) (by rw [hb27]; decide) (by rw [hb27]; rfl) rfl ?_
        refine ae_aload_n 0 dX4_combineWholes_48 rfl ?_
        refine ae_lload_n 2 dX4_combineWholes_49 rfl ?_
        refine ae_lload 3 dX4_combineWholes_50 rfl ?_
        refine ae_ladd dX4_combineWholes_52 ?_
        refine ae_iconst (0 : Int32) dX4_combineWholes_53 (by decide) ?_
        obtain ⟨r29, s30, hc31, hF32⟩ := ae_bdI hF28
        refine ae_cV0 (q := (21, 0)) (As := [ae_l (v2 + v4), ae_i (0 : Int32)]) dX4_combineWholes_54 ww_832 vy_X4_push rfl rfl rfl rfl rfl (Nat.le_of_ble_eq_true rfl) (c_X4_push (d + 3) hc31) ?_
        refine ae_goto 159 dX4_combineWholes_57 rfl ?_
        refine ae_pick (lv' := []) [] rfl ?_
        exact t_X4_combineWholes_159 d s30 hF32
      · have hF33 := ae_ifF hb27 hF26
        by_cases hb34 : v1 = (11 : Int32)
        · have hF35 := ae_ifT hb34 hF33
          refine ae_tabIn 60 dX4_combineWholes_1 (by rw [hb34]; decide) (by rw [hb34]; decide) (by rw [hb34]; rfl) rfl ?_
          refine ae_aload_n 0 dX4_combineWholes_60 rfl ?_
          refine ae_lload_n 2 dX4_combineWholes_61 rfl ?_
          refine ae_lload 3 dX4_combineWholes_62 rfl ?_
          refine ae_lsub dX4_combineWholes_64 ?_
          refine ae_iconst (0 : Int32) dX4_combineWholes_65 (by decide) ?_
          obtain ⟨r36, s37, hc38, hF39⟩ := ae_bdI hF35
          refine ae_cV0 (q := (21, 0)) (As := [ae_l (v2 - v4), ae_i (0 : Int32)]) dX4_combineWholes_66 ww_832 vy_X4_push rfl rfl rfl rfl rfl (Nat.le_of_ble_eq_true rfl) (c_X4_push (d + 3) hc38) ?_
          refine ae_goto 159 dX4_combineWholes_69 rfl ?_
          refine ae_pick (lv' := []) [] rfl ?_
          exact t_X4_combineWholes_159 d s37 hF39
        · have hF40 := ae_ifF hb34 hF33
          by_cases hb41 : v1 = (12 : Int32)
          · have hF42 := ae_ifT hb41 hF40
            refine ae_tabIn 72 dX4_combineWholes_1 (by rw [hb41]; decide) (by rw [hb41]; decide) (by rw [hb41]; rfl) rfl ?_
            refine ae_aload_n 0 dX4_combineWholes_72 rfl ?_
            refine ae_lload_n 2 dX4_combineWholes_73 rfl ?_
            refine ae_lload 3 dX4_combineWholes_74 rfl ?_
            refine ae_lmul dX4_combineWholes_76 ?_
            refine ae_iconst (0 : Int32) dX4_combineWholes_77 (by decide) ?_
            obtain ⟨r43, s44, hc45, hF46⟩ := ae_bdI hF42
            refine ae_cV0 (q := (21, 0)) (As := [ae_l (v2 * v4), ae_i (0 : Int32)]) dX4_combineWholes_78 ww_832 vy_X4_push rfl rfl rfl rfl rfl (Nat.le_of_ble_eq_true rfl) (c_X4_push (d + 3) hc45) ?_
            refine ae_goto 159 dX4_combineWholes_81 rfl ?_
            refine ae_pick (lv' := []) [] rfl ?_
            exact t_X4_combineWholes_159 d s44 hF46
          · have hF47 := ae_ifF hb41 hF40
            by_cases hb48 : v1 = (13 : Int32)
            · have hF49 := ae_ifT hb48 hF47
              refine ae_tabIn 84 dX4_combineWholes_1 (by rw [hb48]; decide) (by rw [hb48]; decide) (by rw [hb48]; rfl) rfl ?_
              refine ae_aload_n 0 dX4_combineWholes_84 rfl ?_
              refine ae_iload_n 1 dX4_combineWholes_85 rfl ?_
              refine ae_bipush (13 : Int32) dX4_combineWholes_86 (by decide) ?_
              refine ae_icmp_ne 95 dX4_combineWholes_88 rfl (fun hb50 => ?_) (fun hb50 => ?_)
              · have hF51 := ae_ifF hb50 hF49
                refine ae_iconst (0 : Int32) dX4_combineWholes_95 (by decide) ?_
                refine ae_pick (lv' := [(2, ae_l v2), (4, ae_l v4)]) [2, 3] rfl ?_
                exact t_X4_combineWholes_96 d v2 v4 (0 : Int32) s0 hF51
              · have hF51 := ae_ifT hb50 hF49
                refine ae_iconst (1 : Int32) dX4_combineWholes_91 (by decide) ?_
                refine ae_goto 96 dX4_combineWholes_92 rfl ?_
                refine ae_pick (lv' := [(2, ae_l v2), (4, ae_l v4)]) [2, 3] rfl ?_
                exact t_X4_combineWholes_96 d v2 v4 (1 : Int32) s0 hF51
            · have hF52 := ae_ifF hb48 hF47
              by_cases hb53 : v1 = (14 : Int32)
              · have hF54 := ae_ifT hb53 hF52
                refine ae_tabIn 84 dX4_combineWholes_1 (by rw [hb53]; decide) (by rw [hb53]; decide) (by rw [hb53]; rfl) rfl ?_
                refine ae_aload_n 0 dX4_combineWholes_84 rfl ?_
                refine ae_iload_n 1 dX4_combineWholes_85 rfl ?_
                refine ae_bipush (13 : Int32) dX4_combineWholes_86 (by decide) ?_
                refine ae_icmp_ne 95 dX4_combineWholes_88 rfl (fun hb55 => ?_) (fun hb55 => ?_)
                · have hF56 := ae_ifF hb55 hF54
                  refine ae_iconst (0 : Int32) dX4_combineWholes_95 (by decide) ?_
                  refine ae_pick (lv' := [(2, ae_l v2), (4, ae_l v4)]) [2, 3] rfl ?_
                  exact t_X4_combineWholes_96 d v2 v4 (0 : Int32) s0 hF56
                · have hF56 := ae_ifT hb55 hF54
                  refine ae_iconst (1 : Int32) dX4_combineWholes_91 (by decide) ?_
                  refine ae_goto 96 dX4_combineWholes_92 rfl ?_
                  refine ae_pick (lv' := [(2, ae_l v2), (4, ae_l v4)]) [2, 3] rfl ?_
                  exact t_X4_combineWholes_96 d v2 v4 (1 : Int32) s0 hF56
              · have hF57 := ae_ifF hb53 hF52
                have hn60 : ¬ (v1).toInt = 7 := lv_neT hb17 (by decide)
                have hn61 : ¬ (v1).toInt = 8 := lv_neT hb22 (by decide)
                have hn62 : ¬ (v1).toInt = 10 := lv_neT hb27 (by decide)
                have hn63 : ¬ (v1).toInt = 11 := lv_neT hb34 (by decide)
                have hn64 : ¬ (v1).toInt = 12 := lv_neT hb41 (by decide)
                have hn65 : ¬ (v1).toInt = 13 := lv_neT hb48 (by decide)
                have hn66 : ¬ (v1).toInt = 14 := lv_neT hb53 (by decide)
                by_cases hb67 : v1 = (9 : Int32)
                · refine ae_tabIn 143 dX4_combineWholes_1 (by rw [hb67]; decide) (by rw [hb67]; decide) (by rw [hb67]; rfl) rfl ?_
                  refine ae_aload_n 0 dX4_combineWholes_143 rfl ?_
                  refine ae_lload_n 2 dX4_combineWholes_144 rfl ?_
                  refine ae_lload 3 dX4_combineWholes_145 rfl ?_
                  refine ae_lcmp dX4_combineWholes_147 ?_
                  refine ae_if_ne 155 dX4_combineWholes_148 rfl (fun hb58 => ?_) (fun hb58 => ?_)
                  · have hF59 := ae_ifF hb58 hF57
                    refine ae_iconst (0 : Int32) dX4_combineWholes_155 (by decide) ?_
                    refine ae_pick (lv' := []) [] rfl ?_
                    exact t_X4_combineWholes_156 d (0 : Int32) s0 hF59
                  · have hF59 := ae_ifT hb58 hF57
                    refine ae_iconst (1 : Int32) dX4_combineWholes_151 (by decide) ?_
                    refine ae_goto 156 dX4_combineWholes_152 rfl ?_
                    refine ae_pick (lv' := []) [] rfl ?_
                    exact t_X4_combineWholes_156 d (1 : Int32) s0 hF59
                · have hn68 : ¬ (v1).toInt = 9 := lv_neT hb67 (by decide)
                  refine ae_tabOut 143 dX4_combineWholes_1 (by omega) rfl ?_
                  refine ae_aload_n 0 dX4_combineWholes_143 rfl ?_
                  refine ae_lload_n 2 dX4_combineWholes_144 rfl ?_
                  refine ae_lload 3 dX4_combineWholes_145 rfl ?_
                  refine ae_lcmp dX4_combineWholes_147 ?_
                  refine ae_if_ne 155 dX4_combineWholes_148 rfl (fun hb58 => ?_) (fun hb58 => ?_)
                  · have hF59 := ae_ifF hb58 hF57
                    refine ae_iconst (0 : Int32) dX4_combineWholes_155 (by decide) ?_
                    refine ae_pick (lv' := []) [] rfl ?_
                    exact t_X4_combineWholes_156 d (0 : Int32) s0 hF59
                  · have hF59 := ae_ifT hb58 hF57
                    refine ae_iconst (1 : Int32) dX4_combineWholes_151 (by decide) ?_
                    refine ae_goto 156 dX4_combineWholes_152 rfl ?_
                    refine ae_pick (lv' := []) [] rfl ?_
                    exact t_X4_combineWholes_156 d (1 : Int32) s0 hF59
abbrev mX4_combine : ae_M := (RX4, cX4_combine, 12, none)
theorem vy_X4_combine : ae_VY yX4_combine mX4_combine 1 := ⟨ww_981, wq_44, ww_12, ww_982, ⟨by decide, by decide, by decide +kernel⟩, by decide⟩
theorem dX4_combine_0 : decode cX4_combine 0 = .ok (.aload_n 0, 1) := by decide +kernel
theorem dX4_combine_1 : decode cX4_combine 1 = .ok (.invokevirtual 132, 3) := by decide +kernel
theorem dX4_combine_4 : decode cX4_combine 4 = .ok (.istore_n 2, 1) := by decide +kernel
theorem dX4_combine_5 : decode cX4_combine 5 = .ok (.aload_n 0, 1) := by decide +kernel
theorem dX4_combine_6 : decode cX4_combine 6 = .ok (.invokevirtual 136, 3) := by decide +kernel
theorem dX4_combine_9 : decode cX4_combine 9 = .ok (.lstore_n 3, 1) := by decide +kernel
theorem dX4_combine_10 : decode cX4_combine 10 = .ok (.aload_n 0, 1) := by decide +kernel
theorem dX4_combine_11 : decode cX4_combine 11 = .ok (.invokevirtual 132, 3) := by decide +kernel
theorem dX4_combine_14 : decode cX4_combine 14 = .ok (.istore 5, 2) := by decide +kernel
theorem dX4_combine_16 : decode cX4_combine 16 = .ok (.aload_n 0, 1) := by decide +kernel
theorem dX4_combine_17 : decode cX4_combine 17 = .ok (.invokevirtual 136, 3) := by decide +kernel
theorem dX4_combine_20 : decode cX4_combine 20 = .ok (.lstore 6, 2) := by decide +kernel
theorem dX4_combine_22 : decode cX4_combine 22 = .ok (.iload 5, 2) := by decide +kernel
theorem dX4_combine_24 : decode cX4_combine 24 = .ok (.ifCond .ne 7, 3) := by decide +kernel
theorem dX4_combine_27 : decode cX4_combine 27 = .ok (.iload_n 2, 1) := by decide +kernel
theorem dX4_combine_28 : decode cX4_combine 28 = .ok (.ifCond .eq 46, 3) := by decide +kernel
theorem dX4_combine_31 : decode cX4_combine 31 = .ok (.iload 5, 2) := by decide +kernel
theorem dX4_combine_33 : decode cX4_combine 33 = .ok (.ifCond .eq 8, 3) := by decide +kernel
theorem dX4_combine_36 : decode cX4_combine 36 = .ok (.lload 6, 2) := by decide +kernel
theorem dX4_combine_38 : decode cX4_combine 38 = .ok (.goto 8, 3) := by decide +kernel
theorem dX4_combine_41 : decode cX4_combine 41 = .ok (.lload 6, 2) := by decide +kernel
theorem dX4_combine_43 : decode cX4_combine 43 = .ok (.invokestatic 197, 3) := by decide +kernel
theorem dX4_combine_46 : decode cX4_combine 46 = .ok (.lstore 8, 2) := by decide +kernel
theorem dX4_combine_48 : decode cX4_combine 48 = .ok (.iload_n 2, 1) := by decide +kernel
theorem dX4_combine_49 : decode cX4_combine 49 = .ok (.ifCond .eq 7, 3) := by decide +kernel
theorem dX4_combine_52 : decode cX4_combine 52 = .ok (.lload_n 3, 1) := by decide +kernel
theorem dX4_combine_53 : decode cX4_combine 53 = .ok (.goto 7, 3) := by decide +kernel
theorem dX4_combine_56 : decode cX4_combine 56 = .ok (.lload_n 3, 1) := by decide +kernel
theorem dX4_combine_57 : decode cX4_combine 57 = .ok (.invokestatic 197, 3) := by decide +kernel
theorem dX4_combine_60 : decode cX4_combine 60 = .ok (.lstore 10, 2) := by decide +kernel
theorem dX4_combine_62 : decode cX4_combine 62 = .ok (.aload_n 0, 1) := by decide +kernel
theorem dX4_combine_63 : decode cX4_combine 63 = .ok (.iload_n 1, 1) := by decide +kernel
theorem dX4_combine_64 : decode cX4_combine 64 = .ok (.lload 8, 2) := by decide +kernel
theorem dX4_combine_66 : decode cX4_combine 66 = .ok (.lload 10, 2) := by decide +kernel
theorem dX4_combine_68 : decode cX4_combine 68 = .ok (.invokevirtual 200, 3) := by decide +kernel
theorem dX4_combine_71 : decode cX4_combine 71 = .ok (.goto 11, 3) := by decide +kernel
theorem dX4_combine_74 : decode cX4_combine 74 = .ok (.aload_n 0, 1) := by decide +kernel
theorem dX4_combine_75 : decode cX4_combine 75 = .ok (.iload_n 1, 1) := by decide +kernel
theorem dX4_combine_76 : decode cX4_combine 76 = .ok (.lload 6, 2) := by decide +kernel
theorem dX4_combine_78 : decode cX4_combine 78 = .ok (.lload_n 3, 1) := by decide +kernel
theorem dX4_combine_79 : decode cX4_combine 79 = .ok (.invokevirtual 204, 3) := by decide +kernel
theorem dX4_combine_82 : decode cX4_combine 82 = .ok (.return_, 1) := by decide +kernel
def F_X4_combine_82 (s0 : ae_S) : Option (Unit × ae_S) := some ((), s0)
set_option maxHeartbeats 4000000 in
set_option maxRecDepth 100000 in
theorem t_X4_combine_82 {l : Launch} {G : ae_G} (d : Nat) {rr : Unit} {ss : ae_S} (s0 : ae_S) (hF : F_X4_combine_82 s0 = some (rr, ss)) : ae_T l G (d + 6) mX4_combine (ae_Po none ss) 82 [] [] s0 := by
  unfold F_X4_combine_82 at hF
  obtain ⟨rfl, rfl⟩ := ae_retI hF
  exact ae_vret dX4_combine_82 rfl ⟨rfl, rfl⟩
def F_X4_combine_60 (v1 : Int32) (v8 : Int64) (t0 : Int64) (s0 : ae_S) : Option (Unit × ae_S) := ae_bd (F_X4_combineFloats v1 v8 t0 s0) (fun (r1 : Unit) s2 => F_X4_combine_82 s2)
set_option maxHeartbeats 4000000 in
set_option maxRecDepth 100000 in
theorem t_X4_combine_60 {l : Launch} {G : ae_G} (d : Nat) {rr : Unit} {ss : ae_S} (v1 : Int32) (v8 : Int64) (t0 : Int64) (s0 : ae_S) (hF : F_X4_combine_60 v1 v8 t0 s0 = some (rr, ss)) : ae_T l G (d + 6) mX4_combine (ae_Po none ss) 60 [(0, ae_r (some (21, 0))), (1, ae_i v1), (8, ae_l v8)] [ae_l t0] s0 := by
  unfold F_X4_combine_60 at hF
  refine ae_lstore (lv' := [(10, ae_l t0), (0, ae_r (some (21, 0))), (1, ae_i v1), (8, ae_l v8)]) dX4_combine_60 (by decide) rfl ?_
  refine ae_aload_n 1 dX4_combine_62 rfl ?_
  refine ae_iload_n 2 dX4_combine_63 rfl ?_
  refine ae_lload 3 dX4_combine_64 rfl ?_
  refine ae_lload 0 dX4_combine_66 rfl ?_
  obtain ⟨r1, s2, hc3, hF4⟩ := ae_bdI hF
  refine ae_cV0 (q := (21, 0)) (As := [ae_i v1, ae_l v8, ae_l t0]) dX4_combine_68 ww_984 vy_X4_combineFloats rfl rfl rfl rfl rfl (Nat.le_of_ble_eq_true rfl) (c_X4_combineFloats d hc3) ?_
  refine ae_goto 82 dX4_combine_71 rfl ?_
  refine ae_pick (lv' := []) [] rfl ?_
  exact t_X4_combine_82 d s2 hF4
def F_X4_combine_46 (v1 : Int32) (v2 : Int32) (v3 : Int64) (t0 : Int64) (s0 : ae_S) : Option (Unit × ae_S) := if v2 = 0 then (ae_bd (F_X2_ofWhole v3 s0) (fun (r7 : Int64) s8 => F_X4_combine_60 v1 t0 r7 s8)) else (F_X4_combine_60 v1 t0 v3 s0)
set_option maxHeartbeats 4000000 in
set_option maxRecDepth 100000 in
theorem t_X4_combine_46 {l : Launch} {G : ae_G} (d : Nat) {rr : Unit} {ss : ae_S} (v1 : Int32) (v2 : Int32) (v3 : Int64) (t0 : Int64) (s0 : ae_S) (hF : F_X4_combine_46 v1 v2 v3 t0 s0 = some (rr, ss)) : ae_T l G (d + 6) mX4_combine (ae_Po none ss) 46 [(0, ae_r (some (21, 0))), (1, ae_i v1), (2, ae_i v2), (3, ae_l v3)] [ae_l t0] s0 := by
  unfold F_X4_combine_46 at hF
  refine ae_lstore (lv' := [(8, ae_l t0), (0, ae_r (some (21, 0))), (1, ae_i v1), (2, ae_i v2), (3, ae_l v3)]) dX4_combine_46 (by decide) rfl ?_
  refine ae_iload_n 3 dX4_combine_48 rfl ?_
  refine ae_if_eq 56 dX4_combine_49 rfl (fun hb5 => ?_) (fun hb5 => ?_)
  · have hF6 := ae_ifT hb5 hF
    refine ae_lload_n 4 dX4_combine_56 rfl ?_
    obtain ⟨r7, s8, hc9, hF10⟩ := ae_bdI hF6
    refine ae_cS1 (As := [ae_l v3]) dX4_combine_57 ww_983 vy_X2_ofWhole rfl rfl (Nat.le_of_ble_eq_true rfl) (c_X2_ofWhole (d + 2) hc9) ?_
    refine ae_pick (lv' := [(0, ae_r (some (21, 0))), (1, ae_i v1), (8, ae_l t0)]) [1, 2, 0] rfl ?_
    exact t_X4_combine_60 d v1 t0 r7 s8 hF10
  · have hF6 := ae_ifF hb5 hF
    refine ae_lload_n 4 dX4_combine_52 rfl ?_
    refine ae_goto 60 dX4_combine_53 rfl ?_
    refine ae_pick (lv' := [(0, ae_r (some (21, 0))), (1, ae_i v1), (8, ae_l t0)]) [1, 2, 0] rfl ?_
    exact t_X4_combine_60 d v1 t0 v3 s0 hF6
def F_X4_combine_31 (v1 : Int32) (v2 : Int32) (v3 : Int64) (v5 : Int32) (v6 : Int64) (s0 : ae_S) : Option (Unit × ae_S) := if v5 = 0 then (ae_bd (F_X2_ofWhole v6 s0) (fun (r13 : Int64) s14 => F_X4_combine_46 v1 v2 v3 r13 s14)) else (F_X4_combine_46 v1 v2 v3 v6 s0)
set_option maxHeartbeats 4000000 in
set_option maxRecDepth 100000 in
theorem t_X4_combine_31 {l : Launch} {G : ae_G} (d : Nat) {rr : Unit} {ss : ae_S} (v1 : Int32) (v2 : Int32) (v3 : Int64) (v5 : Int32) (v6 : Int64) (s0 : ae_S) (hF : F_X4_combine_31 v1 v2 v3 v5 v6 s0 = some (rr, ss)) : ae_T l G (d + 6) mX4_combine (ae_Po none ss) 31 [(0, ae_r (some (21, 0))), (1, ae_i v1), (2, ae_i v2), (3, ae_l v3), (5, ae_i v5), (6, ae_l v6)] [] s0 := by
  unfold F_X4_combine_31 at hF
  refine ae_iload 4 dX4_combine_31 rfl ?_
  refine ae_if_eq 41 dX4_combine_33 rfl (fun hb11 => ?_) (fun hb11 => ?_)
  · have hF12 := ae_ifT hb11 hF
    refine ae_lload 5 dX4_combine_41 rfl ?_
    obtain ⟨r13, s14, hc15, hF16⟩ := ae_bdI hF12
    refine ae_cS1 (As := [ae_l v6]) dX4_combine_43 ww_983 vy_X2_ofWhole rfl rfl (Nat.le_of_ble_eq_true rfl) (c_X2_ofWhole (d + 2) hc15) ?_
    refine ae_pick (lv' := [(0, ae_r (some (21, 0))), (1, ae_i v1), (2, ae_i v2), (3, ae_l v3)]) [0, 1, 2, 3] rfl ?_
    exact t_X4_combine_46 d v1 v2 v3 r13 s14 hF16
  · have hF12 := ae_ifF hb11 hF
    refine ae_lload 5 dX4_combine_36 rfl ?_
    refine ae_goto 46 dX4_combine_38 rfl ?_
    refine ae_pick (lv' := [(0, ae_r (some (21, 0))), (1, ae_i v1), (2, ae_i v2), (3, ae_l v3)]) [0, 1, 2, 3] rfl ?_
    exact t_X4_combine_46 d v1 v2 v3 v6 s0 hF12
def F_X4_combine (v1 : Int32) (s0 : ae_S) : Option (Unit × ae_S) := ae_bd (F_X4_topIsFloat s0) (fun (r17 : Int32) s18 => ae_bd (F_X4_pop s18) (fun (r21 : Int64) s22 => ae_bd (F_X4_topIsFloat s22) (fun (r25 : Int32) s26 => ae_bd (F_X4_pop s26) (fun (r29 : Int64) s30 => if r25 = 0 then (if r17 = 0 then (ae_bd (F_X4_combineWholes v1 r29 r21 s30) (fun (r37 : Unit) s38 => F_X4_combine_82 s38)) else (F_X4_combine_31 v1 r17 r21 r25 r29 s30)) else (F_X4_combine_31 v1 r17 r21 r25 r29 s30)))))
set_option maxHeartbeats 4000000 in
set_option maxRecDepth 100000 in
theorem c_X4_combine {l : Launch} {G : ae_G} (d : Nat) {v1 : Int32} {s0 ss : ae_S} {rr : Unit} (hF : F_X4_combine v1 s0 = some (rr, ss)) : ae_Met l G (d + 6) yX4_combine mX4_combine [ae_r (some (21, 0)), ae_i v1] s0 (ae_Po none ss) := by
  refine ae_enter (by decide) rfl (Nat.le_of_ble_eq_true rfl) ?_
  show ae_T l G (d + 6) mX4_combine (ae_Po none ss) 0 [(0, ae_r (some (21, 0))), (1, ae_i v1)] [] s0
  unfold F_X4_combine at hF
  refine ae_aload_n 0 dX4_combine_0 rfl ?_
  obtain ⟨r17, s18, hc19, hF20⟩ := ae_bdI hF
  refine ae_cV1 (q := (21, 0)) (As := []) dX4_combine_1 ww_841 vy_X4_topIsFloat rfl rfl rfl rfl rfl (Nat.le_of_ble_eq_true rfl) (c_X4_topIsFloat (d + 5) hc19) ?_
  refine ae_istore_n (lv' := [(2, ae_i r17), (0, ae_r (some (21, 0))), (1, ae_i v1)]) dX4_combine_4 (by decide) rfl ?_
  refine ae_aload_n 1 dX4_combine_5 rfl ?_
  obtain ⟨r21, s22, hc23, hF24⟩ := ae_bdI hF20
  refine ae_cV1 (q := (21, 0)) (As := []) dX4_combine_6 ww_845 vy_X4_pop rfl rfl rfl rfl rfl (Nat.le_of_ble_eq_true rfl) (c_X4_pop (d + 5) hc23) ?_
  refine ae_lstore_n (lv' := [(3, ae_l r21), (2, ae_i r17), (0, ae_r (some (21, 0))), (1, ae_i v1)]) dX4_combine_9 (by decide) rfl ?_
  refine ae_aload_n 2 dX4_combine_10 rfl ?_
  obtain ⟨r25, s26, hc27, hF28⟩ := ae_bdI hF24
  refine ae_cV1 (q := (21, 0)) (As := []) dX4_combine_11 ww_841 vy_X4_topIsFloat rfl rfl rfl rfl rfl (Nat.le_of_ble_eq_true rfl) (c_X4_topIsFloat (d + 5) hc27) ?_
  refine ae_istore (lv' := [(5, ae_i r25), (3, ae_l r21), (2, ae_i r17), (0, ae_r (some (21, 0))), (1, ae_i v1)]) dX4_combine_14 (by decide) rfl ?_
  refine ae_aload_n 3 dX4_combine_16 rfl ?_
  obtain ⟨r29, s30, hc31, hF32⟩ := ae_bdI hF28
  refine ae_cV1 (q := (21, 0)) (As := []) dX4_combine_17 ww_845 vy_X4_pop rfl rfl rfl rfl rfl (Nat.le_of_ble_eq_true rfl) (c_X4_pop (d + 5) hc31) ?_
  refine ae_lstore (lv' := [(6, ae_l r29), (5, ae_i r25), (3, ae_l r21), (2, ae_i r17), (0, ae_r (some (21, 0))), (1, ae_i v1)]) dX4_combine_20 (by decide) rfl ?_
  refine ae_iload 1 dX4_combine_22 rfl ?_
  refine ae_if_ne 31 dX4_combine_24 rfl (fun hb33 => ?_) (fun hb33 => ?_)
  · have hF34 := ae_ifF hb33 hF32
    refine ae_pick (lv' := [(0, ae_r (some (21, 0))), (1, ae_i v1), (2, ae_i r17), (3, ae_l r21), (5, ae_i r25), (6, ae_l r29)]) [4, 5, 3, 2, 1, 0] rfl ?_
    exact t_X4_combine_31 d v1 r17 r21 r25 r29 s30 hF34
  · have hF34 := ae_ifT hb33 hF32
    refine ae_iload_n 3 dX4_combine_27 rfl ?_
    refine ae_if_eq 74 dX4_combine_28 rfl (fun hb35 => ?_) (fun hb35 => ?_)
    · have hF36 := ae_ifT hb35 hF34
      refine ae_aload_n 4 dX4_combine_74 rfl ?_
      refine ae_iload_n 5 dX4_combine_75 rfl ?_
      refine ae_lload 0 dX4_combine_76 rfl ?_
      refine ae_lload_n 2 dX4_combine_78 rfl ?_
      obtain ⟨r37, s38, hc39, hF40⟩ := ae_bdI hF36
      refine ae_cV0 (q := (21, 0)) (As := [ae_i v1, ae_l r29, ae_l r21]) dX4_combine_79 ww_1013 vy_X4_combineWholes rfl rfl rfl rfl rfl (Nat.le_of_ble_eq_true rfl) (c_X4_combineWholes (d + 1) hc39) ?_
      refine ae_pick (lv' := []) [] rfl ?_
      exact t_X4_combine_82 d s38 hF40
    · have hF36 := ae_ifF hb35 hF34
      refine ae_pick (lv' := [(0, ae_r (some (21, 0))), (1, ae_i v1), (2, ae_i r17), (3, ae_l r21), (5, ae_i r25), (6, ae_l r29)]) [4, 5, 3, 2, 1, 0] rfl ?_
      exact t_X4_combine_31 d v1 r17 r21 r25 r29 s30 hF36
abbrev mX4_leapUnless : ae_M := (RX4, cX4_leapUnless, 5, none)
theorem vy_X4_leapUnless : ae_VY yX4_leapUnless mX4_leapUnless 1 := ⟨ww_968, wq_42, ww_12, ww_969, ⟨by decide, by decide, by decide +kernel⟩, by decide⟩
theorem dX4_leapUnless_0 : decode cX4_leapUnless 0 = .ok (.aload_n 0, 1) := by decide +kernel
theorem dX4_leapUnless_1 : decode cX4_leapUnless 1 = .ok (.invokevirtual 132, 3) := by decide +kernel
theorem dX4_leapUnless_4 : decode cX4_leapUnless 4 = .ok (.istore_n 2, 1) := by decide +kernel
theorem dX4_leapUnless_5 : decode cX4_leapUnless 5 = .ok (.aload_n 0, 1) := by decide +kernel
theorem dX4_leapUnless_6 : decode cX4_leapUnless 6 = .ok (.invokevirtual 136, 3) := by decide +kernel
theorem dX4_leapUnless_9 : decode cX4_leapUnless 9 = .ok (.lstore_n 3, 1) := by decide +kernel
theorem dX4_leapUnless_10 : decode cX4_leapUnless 10 = .ok (.iload_n 2, 1) := by decide +kernel
theorem dX4_leapUnless_11 : decode cX4_leapUnless 11 = .ok (.ifCond .eq 13, 3) := by decide +kernel
theorem dX4_leapUnless_14 : decode cX4_leapUnless 14 = .ok (.lload_n 3, 1) := by decide +kernel
theorem dX4_leapUnless_15 : decode cX4_leapUnless 15 = .ok (.invokestatic 194, 3) := by decide +kernel
theorem dX4_leapUnless_18 : decode cX4_leapUnless 18 = .ok (.ifCond .eq 17, 3) := by decide +kernel
theorem dX4_leapUnless_21 : decode cX4_leapUnless 21 = .ok (.goto 9, 3) := by decide +kernel
theorem dX4_leapUnless_24 : decode cX4_leapUnless 24 = .ok (.lload_n 3, 1) := by decide +kernel
theorem dX4_leapUnless_25 : decode cX4_leapUnless 25 = .ok (.lconst 0, 1) := by decide +kernel
theorem dX4_leapUnless_26 : decode cX4_leapUnless 26 = .ok (.lcmp, 1) := by decide +kernel
theorem dX4_leapUnless_27 : decode cX4_leapUnless 27 = .ok (.ifCond .ne 8, 3) := by decide +kernel
theorem dX4_leapUnless_30 : decode cX4_leapUnless 30 = .ok (.aload_n 0, 1) := by decide +kernel
theorem dX4_leapUnless_31 : decode cX4_leapUnless 31 = .ok (.iload_n 1, 1) := by decide +kernel
theorem dX4_leapUnless_32 : decode cX4_leapUnless 32 = .ok (.putfield 59, 3) := by decide +kernel
theorem dX4_leapUnless_35 : decode cX4_leapUnless 35 = .ok (.return_, 1) := by decide +kernel
def F_X4_leapUnless_35 (s0 : ae_S) : Option (Unit × ae_S) := some ((), s0)
set_option maxHeartbeats 4000000 in
set_option maxRecDepth 100000 in
theorem t_X4_leapUnless_35 {l : Launch} {G : ae_G} (d : Nat) {rr : Unit} {ss : ae_S} (s0 : ae_S) (hF : F_X4_leapUnless_35 s0 = some (rr, ss)) : ae_T l G (d + 1) mX4_leapUnless (ae_Po none ss) 35 [] [] s0 := by
  unfold F_X4_leapUnless_35 at hF
  obtain ⟨rfl, rfl⟩ := ae_retI hF
  exact ae_vret dX4_leapUnless_35 rfl ⟨rfl, rfl⟩
def F_X4_leapUnless_30 (v1 : Int32) (s0 : ae_S) : Option (Unit × ae_S) := ae_lt (ae_wI s0 21 0 12 v1) (fun s1 => F_X4_leapUnless_35 s1)
set_option maxHeartbeats 4000000 in
set_option maxRecDepth 100000 in
theorem t_X4_leapUnless_30 {l : Launch} {G : ae_G} (d : Nat) {rr : Unit} {ss : ae_S} (v1 : Int32) (s0 : ae_S) (hF : F_X4_leapUnless_30 v1 s0 = some (rr, ss)) : ae_T l G (d + 1) mX4_leapUnless (ae_Po none ss) 30 [(0, ae_r (some (21, 0))), (1, ae_i v1)] [] s0 := by
  unfold F_X4_leapUnless_30 at hF
  refine ae_aload_n 0 dX4_leapUnless_30 rfl ?_
  refine ae_iload_n 1 dX4_leapUnless_31 rfl ?_
  obtain ⟨s1, hs1, hF2⟩ := ae_ltI hF
  refine ae_putI (q := (21, 0)) dX4_leapUnless_32 fl_RX4_59 rfl rfl (ae_nmS hs1 ?_)
  refine ae_pick (lv' := []) [] rfl ?_
  exact t_X4_leapUnless_35 d s1 hF2
def F_X4_leapUnless (v1 : Int32) (s0 : ae_S) : Option (Unit × ae_S) := ae_bd (F_X4_topIsFloat s0) (fun (r3 : Int32) s4 => ae_bd (F_X4_pop s4) (fun (r7 : Int64) s8 => if r3 = 0 then (if (lg_cmp r7 (0 : Int64)) = 0 then (F_X4_leapUnless_30 v1 s8) else (F_X4_leapUnless_35 s8)) else (ae_bd (F_X2_isZero r7 s8) (fun (r15 : Int32) s16 => if r15 = 0 then (F_X4_leapUnless_35 s16) else (F_X4_leapUnless_30 v1 s16)))))
set_option maxHeartbeats 4000000 in
set_option maxRecDepth 100000 in
theorem c_X4_leapUnless {l : Launch} {G : ae_G} (d : Nat) {v1 : Int32} {s0 ss : ae_S} {rr : Unit} (hF : F_X4_leapUnless v1 s0 = some (rr, ss)) : ae_Met l G (d + 1) yX4_leapUnless mX4_leapUnless [ae_r (some (21, 0)), ae_i v1] s0 (ae_Po none ss) := by
  refine ae_enter (by decide) rfl (Nat.le_of_ble_eq_true rfl) ?_
  show ae_T l G (d + 1) mX4_leapUnless (ae_Po none ss) 0 [(0, ae_r (some (21, 0))), (1, ae_i v1)] [] s0
  unfold F_X4_leapUnless at hF
  refine ae_aload_n 0 dX4_leapUnless_0 rfl ?_
  obtain ⟨r3, s4, hc5, hF6⟩ := ae_bdI hF
  refine ae_cV1 (q := (21, 0)) (As := []) dX4_leapUnless_1 ww_841 vy_X4_topIsFloat rfl rfl rfl rfl rfl (Nat.le_of_ble_eq_true rfl) (c_X4_topIsFloat d hc5) ?_
  refine ae_istore_n (lv' := [(2, ae_i r3), (0, ae_r (some (21, 0))), (1, ae_i v1)]) dX4_leapUnless_4 (by decide) rfl ?_
  refine ae_aload_n 1 dX4_leapUnless_5 rfl ?_
  obtain ⟨r7, s8, hc9, hF10⟩ := ae_bdI hF6
  refine ae_cV1 (q := (21, 0)) (As := []) dX4_leapUnless_6 ww_845 vy_X4_pop rfl rfl rfl rfl rfl (Nat.le_of_ble_eq_true rfl) (c_X4_pop d hc9) ?_
  refine ae_lstore_n (lv' := [(3, ae_l r7), (2, ae_i r3), (0, ae_r (some (21, 0))), (1, ae_i v1)]) dX4_leapUnless_9 (by decide) rfl ?_
  refine ae_iload_n 1 dX4_leapUnless_10 rfl ?_
  refine ae_if_eq 24 dX4_leapUnless_11 rfl (fun hb11 => ?_) (fun hb11 => ?_)
  · have hF12 := ae_ifT hb11 hF10
    refine ae_lload_n 0 dX4_leapUnless_24 rfl ?_
    refine ae_lconst (0 : Int64) dX4_leapUnless_25 (by decide) ?_
    refine ae_lcmp dX4_leapUnless_26 ?_
    refine ae_if_ne 35 dX4_leapUnless_27 rfl (fun hb13 => ?_) (fun hb13 => ?_)
    · have hF14 := ae_ifF hb13 hF12
      refine ae_pick (lv' := []) [] rfl ?_
      exact t_X4_leapUnless_35 d s8 hF14
    · have hF14 := ae_ifT hb13 hF12
      refine ae_pick (lv' := [(0, ae_r (some (21, 0))), (1, ae_i v1)]) [2, 3] rfl ?_
      exact t_X4_leapUnless_30 d v1 s8 hF14
  · have hF12 := ae_ifF hb11 hF10
    refine ae_lload_n 0 dX4_leapUnless_14 rfl ?_
    obtain ⟨r15, s16, hc17, hF18⟩ := ae_bdI hF12
    refine ae_cS1 (As := [ae_l r7]) dX4_leapUnless_15 ww_970 vy_X2_isZero rfl rfl (Nat.le_of_ble_eq_true rfl) (c_X2_isZero d hc17) ?_
    refine ae_if_eq 35 dX4_leapUnless_18 rfl (fun hb19 => ?_) (fun hb19 => ?_)
    · have hF20 := ae_ifT hb19 hF18
      refine ae_pick (lv' := []) [] rfl ?_
      exact t_X4_leapUnless_35 d s16 hF20
    · have hF20 := ae_ifF hb19 hF18
      refine ae_goto 30 dX4_leapUnless_21 rfl ?_
      refine ae_pick (lv' := [(0, ae_r (some (21, 0))), (1, ae_i v1)]) [2, 3] rfl ?_
      exact t_X4_leapUnless_30 d v1 s16 hF20
abbrev mX4_load : ae_M := (RX4, cX4_load, 6, none)
theorem vy_X4_load : ae_VY yX4_load mX4_load 2 := ⟨ww_871, wq_38, ww_12, ww_872, ⟨by decide, by decide, by decide +kernel⟩, by decide⟩
theorem dX4_load_0 : decode cX4_load 0 = .ok (.aload_n 0, 1) := by decide +kernel
theorem dX4_load_1 : decode cX4_load 1 = .ok (.invokevirtual 136, 3) := by decide +kernel
theorem dX4_load_4 : decode cX4_load 4 = .ok (.l2i, 1) := by decide +kernel
theorem dX4_load_5 : decode cX4_load 5 = .ok (.istore_n 3, 1) := by decide +kernel
theorem dX4_load_6 : decode cX4_load 6 = .ok (.aload_n 1, 1) := by decide +kernel
theorem dX4_load_7 : decode cX4_load 7 = .ok (.ifnonnull 4, 3) := by decide +kernel
theorem dX4_load_10 : decode cX4_load 10 = .ok (.return_, 1) := by decide +kernel
theorem dX4_load_11 : decode cX4_load 11 = .ok (.aload_n 1, 1) := by decide +kernel
theorem dX4_load_12 : decode cX4_load 12 = .ok (.aload_n 0, 1) := by decide +kernel
theorem dX4_load_13 : decode cX4_load 13 = .ok (.getfield 19, 3) := by decide +kernel
theorem dX4_load_16 : decode cX4_load 16 = .ok (.iload_n 3, 1) := by decide +kernel
theorem dX4_load_17 : decode cX4_load 17 = .ok (.invokevirtual 152, 3) := by decide +kernel
theorem dX4_load_20 : decode cX4_load 20 = .ok (.lstore 4, 2) := by decide +kernel
theorem dX4_load_22 : decode cX4_load 22 = .ok (.iload_n 2, 1) := by decide +kernel
theorem dX4_load_23 : decode cX4_load 23 = .ok (.iconst (-1), 1) := by decide +kernel
theorem dX4_load_24 : decode cX4_load 24 = .ok (.if_icmp .ne 23, 3) := by decide +kernel
theorem dX4_load_27 : decode cX4_load 27 = .ok (.aload_n 0, 1) := by decide +kernel
theorem dX4_load_28 : decode cX4_load 28 = .ok (.aload_n 1, 1) := by decide +kernel
theorem dX4_load_29 : decode cX4_load 29 = .ok (.lload 4, 2) := by decide +kernel
theorem dX4_load_31 : decode cX4_load 31 = .ok (.invokevirtual 156, 3) := by decide +kernel
theorem dX4_load_34 : decode cX4_load 34 = .ok (.aload_n 1, 1) := by decide +kernel
theorem dX4_load_35 : decode cX4_load 35 = .ok (.getfield 159, 3) := by decide +kernel
theorem dX4_load_38 : decode cX4_load 38 = .ok (.getfield 163, 3) := by decide +kernel
theorem dX4_load_41 : decode cX4_load 41 = .ok (.invokevirtual 76, 3) := by decide +kernel
theorem dX4_load_44 : decode cX4_load 44 = .ok (.goto 15, 3) := by decide +kernel
theorem dX4_load_47 : decode cX4_load 47 = .ok (.aload_n 0, 1) := by decide +kernel
theorem dX4_load_48 : decode cX4_load 48 = .ok (.aload_n 1, 1) := by decide +kernel
theorem dX4_load_49 : decode cX4_load 49 = .ok (.iload_n 2, 1) := by decide +kernel
theorem dX4_load_50 : decode cX4_load 50 = .ok (.lload 4, 2) := by decide +kernel
theorem dX4_load_52 : decode cX4_load 52 = .ok (.invokevirtual 168, 3) := by decide +kernel
theorem dX4_load_55 : decode cX4_load 55 = .ok (.iconst 0, 1) := by decide +kernel
theorem dX4_load_56 : decode cX4_load 56 = .ok (.invokevirtual 76, 3) := by decide +kernel
theorem dX4_load_59 : decode cX4_load 59 = .ok (.aload_n 1, 1) := by decide +kernel
theorem dX4_load_60 : decode cX4_load 60 = .ok (.aload_n 0, 1) := by decide +kernel
theorem dX4_load_61 : decode cX4_load 61 = .ok (.getfield 19, 3) := by decide +kernel
theorem dX4_load_64 : decode cX4_load 64 = .ok (.iload_n 3, 1) := by decide +kernel
theorem dX4_load_65 : decode cX4_load 65 = .ok (.invokevirtual 172, 3) := by decide +kernel
theorem dX4_load_68 : decode cX4_load 68 = .ok (.return_, 1) := by decide +kernel
def F_X4_load_59 (i1 : Fin 32) (v3 : Int32) (s0 : ae_S) : Option (Unit × ae_S) := ae_bd (F_X9_clearIfRead i1 v3 s0) (fun (r1 : Unit) s2 => some ((), s2))
set_option maxHeartbeats 4000000 in
set_option maxRecDepth 100000 in
theorem t_X4_load_59 {l : Launch} {G : ae_G} (d : Nat) {rr : Unit} {ss : ae_S} (i1 : Fin 32) (v3 : Int32) (s0 : ae_S) (hF : F_X4_load_59 i1 v3 s0 = some (rr, ss)) : ae_T l G (d + 5) mX4_load (ae_Po none ss) 59 [(0, ae_r (some (21, 0))), (1, ae_r (some (8, i1))), (3, ae_i v3)] [] s0 := by
  unfold F_X4_load_59 at hF
  refine ae_aload_n 1 dX4_load_59 rfl ?_
  refine ae_aload_n 0 dX4_load_60 rfl ?_
  refine ae_getO (q := (21, 0)) (some (3, 0)) dX4_load_61 fl_RX4_19 rfl rfl rfl ?_
  refine ae_iload_n 2 dX4_load_64 rfl ?_
  obtain ⟨r1, s2, hc3, hF4⟩ := ae_bdI hF
  refine ae_cV0 (q := (8, i1)) (As := [ae_r (some (3, 0)), ae_i v3]) dX4_load_65 ww_908 vy_X9_clearIfRead rfl rfl rfl rfl rfl (Nat.le_of_ble_eq_true rfl) (c_X9_clearIfRead (d + 2) hc3) ?_
  obtain ⟨rfl, rfl⟩ := ae_retI hF4
  exact ae_vret dX4_load_68 rfl ⟨rfl, rfl⟩
def F_X4_load (i1 : Fin 32) (v2 : Int32) (s0 : ae_S) : Option (Unit × ae_S) := ae_bd (F_X4_pop s0) (fun (r5 : Int64) s6 => ae_bd (F_X9_bitsAt i1 r5.toInt32 s6) (fun (r9 : Int64) s10 => if v2 = (-1 : Int32) then (ae_bd (F_X9_valueOf i1 r9 s10) (fun (r23 : Int64) s24 => ae_mo (ae_gk (s24.2.2.2 8 i1 4) 60) none (fun j27 => ae_gd (decide ((j27 : Fin 32).val < 9)) (ae_bd (F_X4_push r23 (ae_kFlo j27) s24) (fun (r31 : Unit) s32 => F_X4_load_59 i1 r5.toInt32 s32))))) else (ae_bd (F_X9_fieldOf i1 v2 r9 s10) (fun (r15 : Int64) s16 => ae_bd (F_X4_push r15 (0 : Int32) s16) (fun (r19 : Unit) s20 => F_X4_load_59 i1 r5.toInt32 s20)))))
set_option maxHeartbeats 4000000 in
set_option maxRecDepth 100000 in
theorem c_X4_load {l : Launch} {G : ae_G} (d : Nat) {i1 : Fin 32} {v2 : Int32} {s0 ss : ae_S} {rr : Unit} (hF : F_X4_load i1 v2 s0 = some (rr, ss)) : ae_Met l G (d + 5) yX4_load mX4_load [ae_r (some (21, 0)), ae_r (some (8, i1)), ae_i v2] s0 (ae_Po none ss) := by
  refine ae_enter (by decide) rfl (Nat.le_of_ble_eq_true rfl) ?_
  show ae_T l G (d + 5) mX4_load (ae_Po none ss) 0 [(0, ae_r (some (21, 0))), (1, ae_r (some (8, i1))), (2, ae_i v2)] [] s0
  unfold F_X4_load at hF
  refine ae_aload_n 0 dX4_load_0 rfl ?_
  obtain ⟨r5, s6, hc7, hF8⟩ := ae_bdI hF
  refine ae_cV1 (q := (21, 0)) (As := []) dX4_load_1 ww_845 vy_X4_pop rfl rfl rfl rfl rfl (Nat.le_of_ble_eq_true rfl) (c_X4_pop (d + 4) hc7) ?_
  refine ae_l2i dX4_load_4 ?_
  refine ae_istore_n (lv' := [(3, ae_i r5.toInt32), (0, ae_r (some (21, 0))), (1, ae_r (some (8, i1))), (2, ae_i v2)]) dX4_load_5 (by decide) rfl ?_
  refine ae_aload_n 2 dX4_load_6 rfl ?_
  refine ae_ifnonnull 11 dX4_load_7 rfl (fun _ => ?_) (fun h => absurd h (by simp))
  refine ae_aload_n 2 dX4_load_11 rfl ?_
  refine ae_aload_n 1 dX4_load_12 rfl ?_
  refine ae_getO (q := (21, 0)) (some (3, 0)) dX4_load_13 fl_RX4_19 rfl rfl rfl ?_
  refine ae_iload_n 0 dX4_load_16 rfl ?_
  obtain ⟨r9, s10, hc11, hF12⟩ := ae_bdI hF8
  refine ae_cV1 (q := (8, i1)) (As := [ae_r (some (3, 0)), ae_i r5.toInt32]) dX4_load_17 ww_873 vy_X9_bitsAt rfl rfl rfl rfl rfl (Nat.le_of_ble_eq_true rfl) (c_X9_bitsAt (d + 3) hc11) ?_
  refine ae_lstore (lv' := [(4, ae_l r9), (3, ae_i r5.toInt32), (0, ae_r (some (21, 0))), (1, ae_r (some (8, i1))), (2, ae_i v2)]) dX4_load_20 (by decide) rfl ?_
  refine ae_iload_n 4 dX4_load_22 rfl ?_
  refine ae_iconst (-1 : Int32) dX4_load_23 (by decide) ?_
  refine ae_icmp_ne 47 dX4_load_24 rfl (fun hb13 => ?_) (fun hb13 => ?_)
  · have hF14 := ae_ifF hb13 hF12
    refine ae_aload_n 2 dX4_load_47 rfl ?_
    refine ae_aload_n 3 dX4_load_48 rfl ?_
    refine ae_iload_n 4 dX4_load_49 rfl ?_
    refine ae_lload 0 dX4_load_50 rfl ?_
    obtain ⟨r15, s16, hc17, hF18⟩ := ae_bdI hF14
    refine ae_cV1 (q := (8, i1)) (As := [ae_i v2, ae_l r9]) dX4_load_52 ww_896 vy_X9_fieldOf rfl rfl rfl rfl rfl (Nat.le_of_ble_eq_true rfl) (c_X9_fieldOf (d + 3) hc17) ?_
    refine ae_iconst (0 : Int32) dX4_load_55 (by decide) ?_
    obtain ⟨r19, s20, hc21, hF22⟩ := ae_bdI hF18
    refine ae_cV0 (q := (21, 0)) (As := [ae_l r15, ae_i (0 : Int32)]) dX4_load_56 ww_832 vy_X4_push rfl rfl rfl rfl rfl (Nat.le_of_ble_eq_true rfl) (c_X4_push (d + 4) hc21) ?_
    refine ae_pick (lv' := [(0, ae_r (some (21, 0))), (1, ae_r (some (8, i1))), (3, ae_i r5.toInt32)]) [2, 3, 1] rfl ?_
    exact t_X4_load_59 d i1 r5.toInt32 s20 hF22
  · have hF14 := ae_ifT hb13 hF12
    refine ae_aload_n 2 dX4_load_27 rfl ?_
    refine ae_aload_n 3 dX4_load_28 rfl ?_
    refine ae_lload 0 dX4_load_29 rfl ?_
    obtain ⟨r23, s24, hc25, hF26⟩ := ae_bdI hF14
    refine ae_cV1 (q := (8, i1)) (As := [ae_l r9]) dX4_load_31 ww_881 vy_X9_valueOf rfl rfl rfl rfl rfl (Nat.le_of_ble_eq_true rfl) (c_X9_valueOf d hc25) ?_
    refine ae_aload_n 3 dX4_load_34 rfl ?_
    obtain ⟨j27, hj27, hF28⟩ := ae_moK hF26
    refine ae_getO (q := (8, i1)) (some (60, j27)) dX4_load_35 fl_RX4_159 rfl rfl hj27 ?_
    obtain ⟨hg29, hF30⟩ := ae_gdI hF28
    refine ae_getK (i := j27) dX4_load_38 (List.mem_of_getElem? (i := 3) rfl) ww_1948 hg29 (ae_nmI (y := ae_kFlo j27) rfl ?_)
    obtain ⟨r31, s32, hc33, hF34⟩ := ae_bdI hF30
    refine ae_cV0 (q := (21, 0)) (As := [ae_l r23, ae_i (ae_kFlo j27)]) dX4_load_41 ww_832 vy_X4_push rfl rfl rfl rfl rfl (Nat.le_of_ble_eq_true rfl) (c_X4_push (d + 4) hc33) ?_
    refine ae_goto 59 dX4_load_44 rfl ?_
    refine ae_pick (lv' := [(0, ae_r (some (21, 0))), (1, ae_r (some (8, i1))), (3, ae_i r5.toInt32)]) [2, 3, 1] rfl ?_
    exact t_X4_load_59 d i1 r5.toInt32 s32 hF34
abbrev mX4_negate : ae_M := (RX4, cX4_negate, 4, none)
theorem vy_X4_negate : ae_VY yX4_negate mX4_negate 0 := ⟨ww_961, wq_41, ww_12, ww_962, ⟨by decide, by decide, by decide +kernel⟩, by decide⟩
theorem dX4_negate_0 : decode cX4_negate 0 = .ok (.aload_n 0, 1) := by decide +kernel
theorem dX4_negate_1 : decode cX4_negate 1 = .ok (.invokevirtual 132, 3) := by decide +kernel
theorem dX4_negate_4 : decode cX4_negate 4 = .ok (.istore_n 1, 1) := by decide +kernel
theorem dX4_negate_5 : decode cX4_negate 5 = .ok (.aload_n 0, 1) := by decide +kernel
theorem dX4_negate_6 : decode cX4_negate 6 = .ok (.invokevirtual 136, 3) := by decide +kernel
theorem dX4_negate_9 : decode cX4_negate 9 = .ok (.lstore_n 2, 1) := by decide +kernel
theorem dX4_negate_10 : decode cX4_negate 10 = .ok (.aload_n 0, 1) := by decide +kernel
theorem dX4_negate_11 : decode cX4_negate 11 = .ok (.iload_n 1, 1) := by decide +kernel
theorem dX4_negate_12 : decode cX4_negate 12 = .ok (.ifCond .eq 10, 3) := by decide +kernel
theorem dX4_negate_15 : decode cX4_negate 15 = .ok (.lload_n 2, 1) := by decide +kernel
theorem dX4_negate_16 : decode cX4_negate 16 = .ok (.invokestatic 191, 3) := by decide +kernel
theorem dX4_negate_19 : decode cX4_negate 19 = .ok (.goto 5, 3) := by decide +kernel
theorem dX4_negate_22 : decode cX4_negate 22 = .ok (.lload_n 2, 1) := by decide +kernel
theorem dX4_negate_23 : decode cX4_negate 23 = .ok (.lneg, 1) := by decide +kernel
theorem dX4_negate_24 : decode cX4_negate 24 = .ok (.iload_n 1, 1) := by decide +kernel
theorem dX4_negate_25 : decode cX4_negate 25 = .ok (.invokevirtual 76, 3) := by decide +kernel
theorem dX4_negate_28 : decode cX4_negate 28 = .ok (.return_, 1) := by decide +kernel
def F_X4_negate_24 (v1 : Int32) (t0 : Int64) (s0 : ae_S) : Option (Unit × ae_S) := ae_bd (F_X4_push t0 v1 s0) (fun (r1 : Unit) s2 => some ((), s2))
set_option maxHeartbeats 4000000 in
set_option maxRecDepth 100000 in
theorem t_X4_negate_24 {l : Launch} {G : ae_G} (d : Nat) {rr : Unit} {ss : ae_S} (v1 : Int32) (t0 : Int64) (s0 : ae_S) (hF : F_X4_negate_24 v1 t0 s0 = some (rr, ss)) : ae_T l G (d + 2) mX4_negate (ae_Po none ss) 24 [(1, ae_i v1)] [ae_l t0, ae_r (some (21, 0))] s0 := by
  unfold F_X4_negate_24 at hF
  refine ae_iload_n 0 dX4_negate_24 rfl ?_
  obtain ⟨r1, s2, hc3, hF4⟩ := ae_bdI hF
  refine ae_cV0 (q := (21, 0)) (As := [ae_l t0, ae_i v1]) dX4_negate_25 ww_832 vy_X4_push rfl rfl rfl rfl rfl (Nat.le_of_ble_eq_true rfl) (c_X4_push (d + 1) hc3) ?_
  obtain ⟨rfl, rfl⟩ := ae_retI hF4
  exact ae_vret dX4_negate_28 rfl ⟨rfl, rfl⟩
def F_X4_negate (s0 : ae_S) : Option (Unit × ae_S) := ae_bd (F_X4_topIsFloat s0) (fun (r5 : Int32) s6 => ae_bd (F_X4_pop s6) (fun (r9 : Int64) s10 => if r5 = 0 then (F_X4_negate_24 r5 (-r9) s10) else (ae_bd (F_X2_negative r9 s10) (fun (r15 : Int64) s16 => F_X4_negate_24 r5 r15 s16))))
set_option maxHeartbeats 4000000 in
set_option maxRecDepth 100000 in
theorem c_X4_negate {l : Launch} {G : ae_G} (d : Nat) {s0 ss : ae_S} {rr : Unit} (hF : F_X4_negate s0 = some (rr, ss)) : ae_Met l G (d + 2) yX4_negate mX4_negate [ae_r (some (21, 0))] s0 (ae_Po none ss) := by
  refine ae_enter (by decide) rfl (Nat.le_of_ble_eq_true rfl) ?_
  show ae_T l G (d + 2) mX4_negate (ae_Po none ss) 0 [(0, ae_r (some (21, 0)))] [] s0
  unfold F_X4_negate at hF
  refine ae_aload_n 0 dX4_negate_0 rfl ?_
  obtain ⟨r5, s6, hc7, hF8⟩ := ae_bdI hF
  refine ae_cV1 (q := (21, 0)) (As := []) dX4_negate_1 ww_841 vy_X4_topIsFloat rfl rfl rfl rfl rfl (Nat.le_of_ble_eq_true rfl) (c_X4_topIsFloat (d + 1) hc7) ?_
  refine ae_istore_n (lv' := [(1, ae_i r5), (0, ae_r (some (21, 0)))]) dX4_negate_4 (by decide) rfl ?_
  refine ae_aload_n 1 dX4_negate_5 rfl ?_
  obtain ⟨r9, s10, hc11, hF12⟩ := ae_bdI hF8
  refine ae_cV1 (q := (21, 0)) (As := []) dX4_negate_6 ww_845 vy_X4_pop rfl rfl rfl rfl rfl (Nat.le_of_ble_eq_true rfl) (c_X4_pop (d + 1) hc11) ?_
  refine ae_lstore_n (lv' := [(2, ae_l r9), (1, ae_i r5), (0, ae_r (some (21, 0)))]) dX4_negate_9 (by decide) rfl ?_
  refine ae_aload_n 2 dX4_negate_10 rfl ?_
  refine ae_iload_n 1 dX4_negate_11 rfl ?_
  refine ae_if_eq 22 dX4_negate_12 rfl (fun hb13 => ?_) (fun hb13 => ?_)
  · have hF14 := ae_ifT hb13 hF12
    refine ae_lload_n 0 dX4_negate_22 rfl ?_
    refine ae_lneg dX4_negate_23 ?_
    refine ae_pick (lv' := [(1, ae_i r5)]) [1] rfl ?_
    exact t_X4_negate_24 d r5 (-r9) s10 hF14
  · have hF14 := ae_ifF hb13 hF12
    refine ae_lload_n 0 dX4_negate_15 rfl ?_
    obtain ⟨r15, s16, hc17, hF18⟩ := ae_bdI hF14
    refine ae_cS1 (As := [ae_l r9]) dX4_negate_16 ww_963 vy_X2_negative rfl rfl (Nat.le_of_ble_eq_true rfl) (c_X2_negative d hc17) ?_
    refine ae_goto 24 dX4_negate_19 rfl ?_
    refine ae_pick (lv' := [(1, ae_i r5)]) [1] rfl ?_
    exact t_X4_negate_24 d r5 r15 s16 hF18
abbrev mX4_openLevel : ae_M := (RX4, cX4_openLevel, 3, none)
theorem vy_X4_openLevel : ae_VY yX4_openLevel mX4_openLevel 2 := ⟨ww_973, wq_43, ww_12, ww_974, ⟨by decide, by decide, by decide +kernel⟩, by decide⟩
theorem dX4_openLevel_0 : decode cX4_openLevel 0 = .ok (.iload_n 1, 1) := by decide +kernel
theorem dX4_openLevel_1 : decode cX4_openLevel 1 = .ok (.ifCond .lt 56, 3) := by decide +kernel
theorem dX4_openLevel_4 : decode cX4_openLevel 4 = .ok (.iload_n 1, 1) := by decide +kernel
theorem dX4_openLevel_5 : decode cX4_openLevel 5 = .ok (.aload_n 0, 1) := by decide +kernel
theorem dX4_openLevel_6 : decode cX4_openLevel 6 = .ok (.getfield 33, 3) := by decide +kernel
theorem dX4_openLevel_9 : decode cX4_openLevel 9 = .ok (.arraylength, 1) := by decide +kernel
theorem dX4_openLevel_10 : decode cX4_openLevel 10 = .ok (.if_icmp .ge 47, 3) := by decide +kernel
theorem dX4_openLevel_13 : decode cX4_openLevel 13 = .ok (.aload_n 0, 1) := by decide +kernel
theorem dX4_openLevel_14 : decode cX4_openLevel 14 = .ok (.iload_n 1, 1) := by decide +kernel
theorem dX4_openLevel_15 : decode cX4_openLevel 15 = .ok (.putfield 53, 3) := by decide +kernel
theorem dX4_openLevel_18 : decode cX4_openLevel 18 = .ok (.aload_n 0, 1) := by decide +kernel
theorem dX4_openLevel_19 : decode cX4_openLevel 19 = .ok (.getfield 19, 3) := by decide +kernel
theorem dX4_openLevel_22 : decode cX4_openLevel 22 = .ok (.aload_n 0, 1) := by decide +kernel
theorem dX4_openLevel_23 : decode cX4_openLevel 23 = .ok (.getfield 33, 3) := by decide +kernel
theorem dX4_openLevel_26 : decode cX4_openLevel 26 = .ok (.aload_n 0, 1) := by decide +kernel
theorem dX4_openLevel_27 : decode cX4_openLevel 27 = .ok (.getfield 53, 3) := by decide +kernel
theorem dX4_openLevel_30 : decode cX4_openLevel 30 = .ok (.aaload, 1) := by decide +kernel
theorem dX4_openLevel_31 : decode cX4_openLevel 31 = .ok (.invokevirtual 123, 3) := by decide +kernel
theorem dX4_openLevel_34 : decode cX4_openLevel 34 = .ok (.aload_n 0, 1) := by decide +kernel
theorem dX4_openLevel_35 : decode cX4_openLevel 35 = .ok (.getfield 36, 3) := by decide +kernel
theorem dX4_openLevel_38 : decode cX4_openLevel 38 = .ok (.aload_n 0, 1) := by decide +kernel
theorem dX4_openLevel_39 : decode cX4_openLevel 39 = .ok (.getfield 53, 3) := by decide +kernel
theorem dX4_openLevel_42 : decode cX4_openLevel 42 = .ok (.aload_n 0, 1) := by decide +kernel
theorem dX4_openLevel_43 : decode cX4_openLevel 43 = .ok (.getfield 56, 3) := by decide +kernel
theorem dX4_openLevel_46 : decode cX4_openLevel 46 = .ok (.iastore, 1) := by decide +kernel
theorem dX4_openLevel_47 : decode cX4_openLevel 47 = .ok (.aload_n 0, 1) := by decide +kernel
theorem dX4_openLevel_48 : decode cX4_openLevel 48 = .ok (.getfield 40, 3) := by decide +kernel
theorem dX4_openLevel_51 : decode cX4_openLevel 51 = .ok (.aload_n 0, 1) := by decide +kernel
theorem dX4_openLevel_52 : decode cX4_openLevel 52 = .ok (.getfield 53, 3) := by decide +kernel
theorem dX4_openLevel_55 : decode cX4_openLevel 55 = .ok (.iload_n 2, 1) := by decide +kernel
theorem dX4_openLevel_56 : decode cX4_openLevel 56 = .ok (.iastore, 1) := by decide +kernel
theorem dX4_openLevel_57 : decode cX4_openLevel 57 = .ok (.return_, 1) := by decide +kernel
def F_X4_openLevel_57 (s0 : ae_S) : Option (Unit × ae_S) := some ((), s0)
set_option maxHeartbeats 4000000 in
set_option maxRecDepth 100000 in
theorem t_X4_openLevel_57 {l : Launch} {G : ae_G} (d : Nat) {rr : Unit} {ss : ae_S} (s0 : ae_S) (hF : F_X4_openLevel_57 s0 = some (rr, ss)) : ae_T l G (d + 2) mX4_openLevel (ae_Po none ss) 57 [] [] s0 := by
  unfold F_X4_openLevel_57 at hF
  obtain ⟨rfl, rfl⟩ := ae_retI hF
  exact ae_vret dX4_openLevel_57 rfl ⟨rfl, rfl⟩
def F_X4_openLevel (v1 : Int32) (v2 : Int32) (s0 : ae_S) : Option (Unit × ae_S) := if v1 < 0 then (F_X4_openLevel_57 s0) else (if (6 : Int32) ≤ v1 then (F_X4_openLevel_57 s0) else (ae_lt (ae_wI s0 21 0 10 v1) (fun s5 => ae_gd (ae_ib (s5.1 21 0 10) 6) (ae_bd (F_X0_saveInto (Fin.ofNat 32 ((s5.1 21 0 10).toNatClampNeg + 10)) s5) (fun (r9 : Unit) s10 => ae_gd (ae_ib (s10.1 21 0 10) 6) (ae_lt (ae_wI s10 25 0 (s10.1 21 0 10).toNatClampNeg (s10.1 21 0 11)) (fun s15 => ae_gd (ae_ib (s15.1 21 0 10) 6) (ae_lt (ae_wI s15 25 1 (s15.1 21 0 10).toNatClampNeg v2) (fun s19 => F_X4_openLevel_57 s19)))))))))
set_option maxHeartbeats 4000000 in
set_option maxRecDepth 100000 in
theorem c_X4_openLevel {l : Launch} {G : ae_G} (d : Nat) {v1 : Int32} {v2 : Int32} {s0 ss : ae_S} {rr : Unit} (hF : F_X4_openLevel v1 v2 s0 = some (rr, ss)) : ae_Met l G (d + 2) yX4_openLevel mX4_openLevel [ae_r (some (21, 0)), ae_i v1, ae_i v2] s0 (ae_Po none ss) := by
  refine ae_enter (by decide) rfl (Nat.le_of_ble_eq_true rfl) ?_
  show ae_T l G (d + 2) mX4_openLevel (ae_Po none ss) 0 [(0, ae_r (some (21, 0))), (1, ae_i v1), (2, ae_i v2)] [] s0
  unfold F_X4_openLevel at hF
  refine ae_iload_n 1 dX4_openLevel_0 rfl ?_
  refine ae_if_lt 57 dX4_openLevel_1 rfl (fun hb1 => ?_) (fun hb1 => ?_)
  · have hF2 := ae_ifT hb1 hF
    refine ae_pick (lv' := []) [] rfl ?_
    exact t_X4_openLevel_57 d s0 hF2
  · have hF2 := ae_ifF hb1 hF
    refine ae_iload_n 1 dX4_openLevel_4 rfl ?_
    refine ae_aload_n 0 dX4_openLevel_5 rfl ?_
    refine ae_getA (q := (21, 0)) (some (24, 0)) dX4_openLevel_6 fl_RX4_33 rfl rfl rfl ?_
    refine ae_alen (q := (24, 0)) (6 : Int32) dX4_openLevel_9 rfl rfl (by simp [ae_at]) (by decide) ?_
    refine ae_icmp_ge 57 dX4_openLevel_10 rfl (fun hb3 => ?_) (fun hb3 => ?_)
    · have hF4 := ae_ifT hb3 hF2
      refine ae_pick (lv' := []) [] rfl ?_
      exact t_X4_openLevel_57 d s0 hF4
    · have hF4 := ae_ifF hb3 hF2
      refine ae_aload_n 0 dX4_openLevel_13 rfl ?_
      refine ae_iload_n 1 dX4_openLevel_14 rfl ?_
      obtain ⟨s5, hs5, hF6⟩ := ae_ltI hF4
      refine ae_putI (q := (21, 0)) dX4_openLevel_15 fl_RX4_53 rfl rfl (ae_nmS hs5 ?_)
      refine ae_aload_n 0 dX4_openLevel_18 rfl ?_
      refine ae_getO (q := (21, 0)) (some (3, 0)) dX4_openLevel_19 fl_RX4_19 rfl rfl rfl ?_
      refine ae_aload_n 0 dX4_openLevel_22 rfl ?_
      refine ae_getA (q := (21, 0)) (some (24, 0)) dX4_openLevel_23 fl_RX4_33 rfl rfl rfl ?_
      refine ae_aload_n 0 dX4_openLevel_26 rfl ?_
      refine ae_getI (q := (21, 0)) dX4_openLevel_27 fl_RX4_53 rfl rfl ?_
      obtain ⟨hg7, hF8⟩ := ae_gdI hF6
      refine ae_aald (q := (24, 0)) (some (4, (Fin.ofNat 32 ((s5.1 21 0 10).toNatClampNeg + 10)))) dX4_openLevel_30 rfl rfl (Or.inl rfl) (ae_ibI hg7) rfl ?_
      obtain ⟨r9, s10, hc11, hF12⟩ := ae_bdI hF8
      refine ae_cV0 (q := (3, 0)) (As := [ae_r (some (4, (Fin.ofNat 32 ((s5.1 21 0 10).toNatClampNeg + 10))))]) dX4_openLevel_31 ww_975 vy_X0_saveInto rfl rfl rfl rfl rfl (Nat.le_of_ble_eq_true rfl) (c_X0_saveInto d hc11) ?_
      refine ae_aload_n 0 dX4_openLevel_34 rfl ?_
      refine ae_getA (q := (21, 0)) (some (25, 0)) dX4_openLevel_35 fl_RX4_36 rfl rfl rfl ?_
      refine ae_aload_n 0 dX4_openLevel_38 rfl ?_
      refine ae_getI (q := (21, 0)) dX4_openLevel_39 fl_RX4_53 rfl rfl ?_
      refine ae_aload_n 0 dX4_openLevel_42 rfl ?_
      refine ae_getI (q := (21, 0)) dX4_openLevel_43 fl_RX4_56 rfl rfl ?_
      obtain ⟨hg13, hF14⟩ := ae_gdI hF12
      obtain ⟨s15, hs15, hF16⟩ := ae_ltI hF14
      refine ae_iast (q := (25, 0)) dX4_openLevel_46 rfl rfl (ae_ibI hg13) (ae_nmS hs15 ?_)
      refine ae_aload_n 0 dX4_openLevel_47 rfl ?_
      refine ae_getA (q := (21, 0)) (some (25, 1)) dX4_openLevel_48 fl_RX4_40 rfl rfl rfl ?_
      refine ae_aload_n 0 dX4_openLevel_51 rfl ?_
      refine ae_getI (q := (21, 0)) dX4_openLevel_52 fl_RX4_53 rfl rfl ?_
      refine ae_iload_n 2 dX4_openLevel_55 rfl ?_
      obtain ⟨hg17, hF18⟩ := ae_gdI hF16
      obtain ⟨s19, hs19, hF20⟩ := ae_ltI hF18
      refine ae_iast (q := (25, 1)) dX4_openLevel_56 rfl rfl (ae_ibI hg17) (ae_nmS hs19 ?_)
      refine ae_pick (lv' := []) [] rfl ?_
      exact t_X4_openLevel_57 d s19 hF20
abbrev mX4_store : ae_M := (RX4, cX4_store, 9, none)
theorem vy_X4_store : ae_VY yX4_store mX4_store 2 := ⟨ww_922, wq_40, ww_12, ww_923, ⟨by decide, by decide, by decide +kernel⟩, by decide⟩
theorem dX4_store_0 : decode cX4_store 0 = .ok (.aload_n 0, 1) := by decide +kernel
theorem dX4_store_1 : decode cX4_store 1 = .ok (.invokevirtual 132, 3) := by decide +kernel
theorem dX4_store_4 : decode cX4_store 4 = .ok (.istore_n 3, 1) := by decide +kernel
theorem dX4_store_5 : decode cX4_store 5 = .ok (.aload_n 0, 1) := by decide +kernel
theorem dX4_store_6 : decode cX4_store 6 = .ok (.invokevirtual 136, 3) := by decide +kernel
theorem dX4_store_9 : decode cX4_store 9 = .ok (.lstore 4, 2) := by decide +kernel
theorem dX4_store_11 : decode cX4_store 11 = .ok (.aload_n 0, 1) := by decide +kernel
theorem dX4_store_12 : decode cX4_store 12 = .ok (.invokevirtual 136, 3) := by decide +kernel
theorem dX4_store_15 : decode cX4_store 15 = .ok (.l2i, 1) := by decide +kernel
theorem dX4_store_16 : decode cX4_store 16 = .ok (.istore 6, 2) := by decide +kernel
theorem dX4_store_18 : decode cX4_store 18 = .ok (.aload_n 1, 1) := by decide +kernel
theorem dX4_store_19 : decode cX4_store 19 = .ok (.ifnonnull 4, 3) := by decide +kernel
theorem dX4_store_22 : decode cX4_store 22 = .ok (.return_, 1) := by decide +kernel
theorem dX4_store_23 : decode cX4_store 23 = .ok (.aload_n 1, 1) := by decide +kernel
theorem dX4_store_24 : decode cX4_store 24 = .ok (.invokevirtual 176, 3) := by decide +kernel
theorem dX4_store_27 : decode cX4_store 27 = .ok (.ifCond .eq 9, 3) := by decide +kernel
theorem dX4_store_30 : decode cX4_store 30 = .ok (.aload_n 0, 1) := by decide +kernel
theorem dX4_store_31 : decode cX4_store 31 = .ok (.iconst 3, 1) := by decide +kernel
theorem dX4_store_32 : decode cX4_store 32 = .ok (.invokevirtual 107, 3) := by decide +kernel
theorem dX4_store_35 : decode cX4_store 35 = .ok (.return_, 1) := by decide +kernel
theorem dX4_store_36 : decode cX4_store 36 = .ok (.iload_n 2, 1) := by decide +kernel
theorem dX4_store_37 : decode cX4_store 37 = .ok (.iconst (-1), 1) := by decide +kernel
theorem dX4_store_38 : decode cX4_store 38 = .ok (.if_icmp .ne 23, 3) := by decide +kernel
theorem dX4_store_41 : decode cX4_store 41 = .ok (.aload_n 1, 1) := by decide +kernel
theorem dX4_store_42 : decode cX4_store 42 = .ok (.aload_n 0, 1) := by decide +kernel
theorem dX4_store_43 : decode cX4_store 43 = .ok (.getfield 19, 3) := by decide +kernel
theorem dX4_store_46 : decode cX4_store 46 = .ok (.iload 6, 2) := by decide +kernel
theorem dX4_store_48 : decode cX4_store 48 = .ok (.aload_n 1, 1) := by decide +kernel
theorem dX4_store_49 : decode cX4_store 49 = .ok (.lload 4, 2) := by decide +kernel
theorem dX4_store_51 : decode cX4_store 51 = .ok (.iload_n 3, 1) := by decide +kernel
theorem dX4_store_52 : decode cX4_store 52 = .ok (.invokevirtual 179, 3) := by decide +kernel
theorem dX4_store_55 : decode cX4_store 55 = .ok (.invokevirtual 183, 3) := by decide +kernel
theorem dX4_store_58 : decode cX4_store 58 = .ok (.goto 46, 3) := by decide +kernel
theorem dX4_store_61 : decode cX4_store 61 = .ok (.iload_n 3, 1) := by decide +kernel
theorem dX4_store_62 : decode cX4_store 62 = .ok (.ifCond .eq 11, 3) := by decide +kernel
theorem dX4_store_65 : decode cX4_store 65 = .ok (.lload 4, 2) := by decide +kernel
theorem dX4_store_67 : decode cX4_store 67 = .ok (.invokestatic 140, 3) := by decide +kernel
theorem dX4_store_70 : decode cX4_store 70 = .ok (.goto 5, 3) := by decide +kernel
theorem dX4_store_73 : decode cX4_store 73 = .ok (.lload 4, 2) := by decide +kernel
theorem dX4_store_75 : decode cX4_store 75 = .ok (.lstore 7, 2) := by decide +kernel
theorem dX4_store_77 : decode cX4_store 77 = .ok (.aload_n 1, 1) := by decide +kernel
theorem dX4_store_78 : decode cX4_store 78 = .ok (.aload_n 0, 1) := by decide +kernel
theorem dX4_store_79 : decode cX4_store 79 = .ok (.getfield 19, 3) := by decide +kernel
theorem dX4_store_82 : decode cX4_store 82 = .ok (.iload 6, 2) := by decide +kernel
theorem dX4_store_84 : decode cX4_store 84 = .ok (.aload_n 1, 1) := by decide +kernel
theorem dX4_store_85 : decode cX4_store 85 = .ok (.iload_n 2, 1) := by decide +kernel
theorem dX4_store_86 : decode cX4_store 86 = .ok (.aload_n 1, 1) := by decide +kernel
theorem dX4_store_87 : decode cX4_store 87 = .ok (.aload_n 0, 1) := by decide +kernel
theorem dX4_store_88 : decode cX4_store 88 = .ok (.getfield 19, 3) := by decide +kernel
theorem dX4_store_91 : decode cX4_store 91 = .ok (.iload 6, 2) := by decide +kernel
theorem dX4_store_93 : decode cX4_store 93 = .ok (.invokevirtual 152, 3) := by decide +kernel
theorem dX4_store_96 : decode cX4_store 96 = .ok (.lload 7, 2) := by decide +kernel
theorem dX4_store_98 : decode cX4_store 98 = .ok (.invokevirtual 187, 3) := by decide +kernel
theorem dX4_store_101 : decode cX4_store 101 = .ok (.invokevirtual 183, 3) := by decide +kernel
theorem dX4_store_104 : decode cX4_store 104 = .ok (.aload_n 0, 1) := by decide +kernel
theorem dX4_store_105 : decode cX4_store 105 = .ok (.dup, 1) := by decide +kernel
theorem dX4_store_106 : decode cX4_store 106 = .ok (.getfield 56, 3) := by decide +kernel
theorem dX4_store_109 : decode cX4_store 109 = .ok (.iconst 1, 1) := by decide +kernel
theorem dX4_store_110 : decode cX4_store 110 = .ok (.iadd, 1) := by decide +kernel
theorem dX4_store_111 : decode cX4_store 111 = .ok (.putfield 56, 3) := by decide +kernel
theorem dX4_store_114 : decode cX4_store 114 = .ok (.return_, 1) := by decide +kernel
def F_X4_store_104 (s0 : ae_S) : Option (Unit × ae_S) := ae_lt (ae_wI s0 21 0 11 ((s0.1 21 0 11) + (1 : Int32))) (fun s1 => some ((), s1))
set_option maxHeartbeats 4000000 in
set_option maxRecDepth 100000 in
theorem t_X4_store_104 {l : Launch} {G : ae_G} (d : Nat) {rr : Unit} {ss : ae_S} (s0 : ae_S) (hF : F_X4_store_104 s0 = some (rr, ss)) : ae_T l G (d + 6) mX4_store (ae_Po none ss) 104 [(0, ae_r (some (21, 0)))] [] s0 := by
  unfold F_X4_store_104 at hF
  refine ae_aload_n 0 dX4_store_104 rfl ?_
  refine ae_dup dX4_store_105 rfl ?_
  refine ae_getI (q := (21, 0)) dX4_store_106 fl_RX4_56 rfl rfl ?_
  refine ae_iconst (1 : Int32) dX4_store_109 (by decide) ?_
  refine ae_iadd dX4_store_110 ?_
  obtain ⟨s1, hs1, hF2⟩ := ae_ltI hF
  refine ae_putI (q := (21, 0)) dX4_store_111 fl_RX4_56 rfl rfl (ae_nmS hs1 ?_)
  obtain ⟨rfl, rfl⟩ := ae_retI hF2
  exact ae_vret dX4_store_114 rfl ⟨rfl, rfl⟩
def F_X4_store_75 (i1 : Fin 32) (v2 : Int32) (v6 : Int32) (t0 : Int64) (s0 : ae_S) : Option (Unit × ae_S) := ae_bd (F_X9_bitsAt i1 v6 s0) (fun (r3 : Int64) s4 => ae_bd (F_X9_withField i1 v2 r3 t0 s4) (fun (r7 : Int64) s8 => ae_bd (F_X9_put i1 v6 r7 s8) (fun (r11 : Unit) s12 => F_X4_store_104 s12)))
set_option maxHeartbeats 4000000 in
set_option maxRecDepth 100000 in
theorem t_X4_store_75 {l : Launch} {G : ae_G} (d : Nat) {rr : Unit} {ss : ae_S} (i1 : Fin 32) (v2 : Int32) (v6 : Int32) (t0 : Int64) (s0 : ae_S) (hF : F_X4_store_75 i1 v2 v6 t0 s0 = some (rr, ss)) : ae_T l G (d + 6) mX4_store (ae_Po none ss) 75 [(0, ae_r (some (21, 0))), (1, ae_r (some (8, i1))), (2, ae_i v2), (6, ae_i v6)] [ae_l t0] s0 := by
  unfold F_X4_store_75 at hF
  refine ae_lstore (lv' := [(7, ae_l t0), (0, ae_r (some (21, 0))), (1, ae_r (some (8, i1))), (2, ae_i v2), (6, ae_i v6)]) dX4_store_75 (by decide) rfl ?_
  refine ae_aload_n 2 dX4_store_77 rfl ?_
  refine ae_aload_n 1 dX4_store_78 rfl ?_
  refine ae_getO (q := (21, 0)) (some (3, 0)) dX4_store_79 fl_RX4_19 rfl rfl rfl ?_
  refine ae_iload 4 dX4_store_82 rfl ?_
  refine ae_aload_n 2 dX4_store_84 rfl ?_
  refine ae_iload_n 3 dX4_store_85 rfl ?_
  refine ae_aload_n 2 dX4_store_86 rfl ?_
  refine ae_aload_n 1 dX4_store_87 rfl ?_
  refine ae_getO (q := (21, 0)) (some (3, 0)) dX4_store_88 fl_RX4_19 rfl rfl rfl ?_
  refine ae_iload 4 dX4_store_91 rfl ?_
  obtain ⟨r3, s4, hc5, hF6⟩ := ae_bdI hF
  refine ae_cV1 (q := (8, i1)) (As := [ae_r (some (3, 0)), ae_i v6]) dX4_store_93 ww_873 vy_X9_bitsAt rfl rfl rfl rfl rfl (Nat.le_of_ble_eq_true rfl) (c_X9_bitsAt (d + 4) hc5) ?_
  refine ae_lload 0 dX4_store_96 rfl ?_
  obtain ⟨r7, s8, hc9, hF10⟩ := ae_bdI hF6
  refine ae_cV1 (q := (8, i1)) (As := [ae_i v2, ae_l r3, ae_l t0]) dX4_store_98 ww_955 vy_X9_withField rfl rfl rfl rfl rfl (Nat.le_of_ble_eq_true rfl) (c_X9_withField (d + 4) hc9) ?_
  obtain ⟨r11, s12, hc13, hF14⟩ := ae_bdI hF10
  refine ae_cV0 (q := (8, i1)) (As := [ae_r (some (3, 0)), ae_i v6, ae_l r7]) dX4_store_101 ww_949 vy_X9_put rfl rfl rfl rfl rfl (Nat.le_of_ble_eq_true rfl) (c_X9_put (d + 3) hc13) ?_
  refine ae_pick (lv' := [(0, ae_r (some (21, 0)))]) [1] rfl ?_
  exact t_X4_store_104 d s12 hF14
def F_X4_store (i1 : Fin 32) (v2 : Int32) (s0 : ae_S) : Option (Unit × ae_S) := ae_bd (F_X4_topIsFloat s0) (fun (r15 : Int32) s16 => ae_bd (F_X4_pop s16) (fun (r19 : Int64) s20 => ae_bd (F_X4_pop s20) (fun (r23 : Int64) s24 => ae_bd (F_X9_isReadOnly i1 s24) (fun (r27 : Int32) s28 => if r27 = 0 then (if v2 = (-1 : Int32) then (ae_bd (F_X9_bitsOfValue i1 r19 r15 s28) (fun (r41 : Int64) s42 => ae_bd (F_X9_put i1 r23.toInt32 r41 s42) (fun (r45 : Unit) s46 => F_X4_store_104 s46))) else (if r15 = 0 then (F_X4_store_75 i1 v2 r23.toInt32 r19 s28) else (ae_bd (F_X2_toWhole r19 s28) (fun (r37 : Int64) s38 => F_X4_store_75 i1 v2 r23.toInt32 r37 s38)))) else (ae_bd (F_X4_meet (3 : Int32) s28) (fun (r49 : Unit) s50 => some ((), s50)))))))
set_option maxHeartbeats 4000000 in
set_option maxRecDepth 100000 in
theorem c_X4_store {l : Launch} {G : ae_G} (d : Nat) {i1 : Fin 32} {v2 : Int32} {s0 ss : ae_S} {rr : Unit} (hF : F_X4_store i1 v2 s0 = some (rr, ss)) : ae_Met l G (d + 6) yX4_store mX4_store [ae_r (some (21, 0)), ae_r (some (8, i1)), ae_i v2] s0 (ae_Po none ss) := by
  refine ae_enter (by decide) rfl (Nat.le_of_ble_eq_true rfl) ?_
  show ae_T l G (d + 6) mX4_store (ae_Po none ss) 0 [(0, ae_r (some (21, 0))), (1, ae_r (some (8, i1))), (2, ae_i v2)] [] s0
  unfold F_X4_store at hF
  refine ae_aload_n 0 dX4_store_0 rfl ?_
  obtain ⟨r15, s16, hc17, hF18⟩ := ae_bdI hF
  refine ae_cV1 (q := (21, 0)) (As := []) dX4_store_1 ww_841 vy_X4_topIsFloat rfl rfl rfl rfl rfl (Nat.le_of_ble_eq_true rfl) (c_X4_topIsFloat (d + 5) hc17) ?_
  refine ae_istore_n (lv' := [(3, ae_i r15), (0, ae_r (some (21, 0))), (1, ae_r (some (8, i1))), (2, ae_i v2)]) dX4_store_4 (by decide) rfl ?_
  refine ae_aload_n 1 dX4_store_5 rfl ?_
  obtain ⟨r19, s20, hc21, hF22⟩ := ae_bdI hF18
  refine ae_cV1 (q := (21, 0)) (As := []) dX4_store_6 ww_845 vy_X4_pop rfl rfl rfl rfl rfl (Nat.le_of_ble_eq_true rfl) (c_X4_pop (d + 5) hc21) ?_
  refine ae_lstore (lv' := [(4, ae_l r19), (3, ae_i r15), (0, ae_r (some (21, 0))), (1, ae_r (some (8, i1))), (2, ae_i v2)]) dX4_store_9 (by decide) rfl ?_
  refine ae_aload_n 2 dX4_store_11 rfl ?_
  obtain ⟨r23, s24, hc25, hF26⟩ := ae_bdI hF22
  refine ae_cV1 (q := (21, 0)) (As := []) dX4_store_12 ww_845 vy_X4_pop rfl rfl rfl rfl rfl (Nat.le_of_ble_eq_true rfl) (c_X4_pop (d + 5) hc25) ?_
  refine ae_l2i dX4_store_15 ?_
  refine ae_istore (lv' := [(6, ae_i r23.toInt32), (4, ae_l r19), (3, ae_i r15), (0, ae_r (some (21, 0))), (1, ae_r (some (8, i1))), (2, ae_i v2)]) dX4_store_16 (by decide) rfl ?_
  refine ae_aload_n 4 dX4_store_18 rfl ?_
  refine ae_ifnonnull 23 dX4_store_19 rfl (fun _ => ?_) (fun h => absurd h (by simp))
  refine ae_aload_n 4 dX4_store_23 rfl ?_
  obtain ⟨r27, s28, hc29, hF30⟩ := ae_bdI hF26
  refine ae_cV1 (q := (8, i1)) (As := []) dX4_store_24 ww_924 vy_X9_isReadOnly rfl rfl rfl rfl rfl (Nat.le_of_ble_eq_true rfl) (c_X9_isReadOnly (d + 5) hc29) ?_
  refine ae_if_eq 36 dX4_store_27 rfl (fun hb31 => ?_) (fun hb31 => ?_)
  · have hF32 := ae_ifT hb31 hF30
    refine ae_iload_n 5 dX4_store_36 rfl ?_
    refine ae_iconst (-1 : Int32) dX4_store_37 (by decide) ?_
    refine ae_icmp_ne 61 dX4_store_38 rfl (fun hb33 => ?_) (fun hb33 => ?_)
    · have hF34 := ae_ifF hb33 hF32
      refine ae_iload_n 2 dX4_store_61 rfl ?_
      refine ae_if_eq 73 dX4_store_62 rfl (fun hb35 => ?_) (fun hb35 => ?_)
      · have hF36 := ae_ifT hb35 hF34
        refine ae_lload 1 dX4_store_73 rfl ?_
        refine ae_pick (lv' := [(0, ae_r (some (21, 0))), (1, ae_r (some (8, i1))), (2, ae_i v2), (6, ae_i r23.toInt32)]) [3, 4, 5, 0] rfl ?_
        exact t_X4_store_75 d i1 v2 r23.toInt32 r19 s28 hF36
      · have hF36 := ae_ifF hb35 hF34
        refine ae_lload 1 dX4_store_65 rfl ?_
        obtain ⟨r37, s38, hc39, hF40⟩ := ae_bdI hF36
        refine ae_cS1 (As := [ae_l r19]) dX4_store_67 ww_849 vy_X2_toWhole rfl rfl (Nat.le_of_ble_eq_true rfl) (c_X2_toWhole (d + 3) hc39) ?_
        refine ae_goto 75 dX4_store_70 rfl ?_
        refine ae_pick (lv' := [(0, ae_r (some (21, 0))), (1, ae_r (some (8, i1))), (2, ae_i v2), (6, ae_i r23.toInt32)]) [3, 4, 5, 0] rfl ?_
        exact t_X4_store_75 d i1 v2 r23.toInt32 r37 s38 hF40
    · have hF34 := ae_ifT hb33 hF32
      refine ae_aload_n 4 dX4_store_41 rfl ?_
      refine ae_aload_n 3 dX4_store_42 rfl ?_
      refine ae_getO (q := (21, 0)) (some (3, 0)) dX4_store_43 fl_RX4_19 rfl rfl rfl ?_
      refine ae_iload 0 dX4_store_46 rfl ?_
      refine ae_aload_n 4 dX4_store_48 rfl ?_
      refine ae_lload 1 dX4_store_49 rfl ?_
      refine ae_iload_n 2 dX4_store_51 rfl ?_
      obtain ⟨r41, s42, hc43, hF44⟩ := ae_bdI hF34
      refine ae_cV1 (q := (8, i1)) (As := [ae_l r19, ae_i r15]) dX4_store_52 ww_928 vy_X9_bitsOfValue rfl rfl rfl rfl rfl (Nat.le_of_ble_eq_true rfl) (c_X9_bitsOfValue d hc43) ?_
      obtain ⟨r45, s46, hc47, hF48⟩ := ae_bdI hF44
      refine ae_cV0 (q := (8, i1)) (As := [ae_r (some (3, 0)), ae_i r23.toInt32, ae_l r41]) dX4_store_55 ww_949 vy_X9_put rfl rfl rfl rfl rfl (Nat.le_of_ble_eq_true rfl) (c_X9_put (d + 3) hc47) ?_
      refine ae_goto 104 dX4_store_58 rfl ?_
      refine ae_pick (lv' := [(0, ae_r (some (21, 0)))]) [3] rfl ?_
      exact t_X4_store_104 d s46 hF48
  · have hF32 := ae_ifF hb31 hF30
    refine ae_aload_n 3 dX4_store_30 rfl ?_
    refine ae_iconst (3 : Int32) dX4_store_31 (by decide) ?_
    obtain ⟨r49, s50, hc51, hF52⟩ := ae_bdI hF32
    refine ae_cV0 (q := (21, 0)) (As := [ae_i (3 : Int32)]) dX4_store_32 ww_856 vy_X4_meet rfl rfl rfl rfl rfl (Nat.le_of_ble_eq_true rfl) (c_X4_meet (d + 3) hc51) ?_
    obtain ⟨rfl, rfl⟩ := ae_retI hF52
    exact ae_vret dX4_store_35 rfl ⟨rfl, rfl⟩
abbrev mX4_run : ae_M := (RX4, cX4_run, 6, some .int)
theorem vy_X4_run : ae_VY yX4_run mX4_run 0 := ⟨ww_817, ww_818, ww_12, ww_819, ⟨by decide, by decide, by decide +kernel⟩, by decide⟩
theorem dX4_run_0 : decode cX4_run 0 = .ok (.aload_n 0, 1) := by decide +kernel
theorem dX4_run_1 : decode cX4_run 1 = .ok (.iconst 0, 1) := by decide +kernel
theorem dX4_run_2 : decode cX4_run 2 = .ok (.putfield 50, 3) := by decide +kernel
theorem dX4_run_5 : decode cX4_run 5 = .ok (.aload_n 0, 1) := by decide +kernel
theorem dX4_run_6 : decode cX4_run 6 = .ok (.iconst 0, 1) := by decide +kernel
theorem dX4_run_7 : decode cX4_run 7 = .ok (.putfield 53, 3) := by decide +kernel
theorem dX4_run_10 : decode cX4_run 10 = .ok (.aload_n 0, 1) := by decide +kernel
theorem dX4_run_11 : decode cX4_run 11 = .ok (.iconst 0, 1) := by decide +kernel
theorem dX4_run_12 : decode cX4_run 12 = .ok (.putfield 56, 3) := by decide +kernel
theorem dX4_run_15 : decode cX4_run 15 = .ok (.aload_n 0, 1) := by decide +kernel
theorem dX4_run_16 : decode cX4_run 16 = .ok (.iconst 0, 1) := by decide +kernel
theorem dX4_run_17 : decode cX4_run 17 = .ok (.putfield 59, 3) := by decide +kernel
theorem dX4_run_20 : decode cX4_run 20 = .ok (.aload_n 0, 1) := by decide +kernel
theorem dX4_run_21 : decode cX4_run 21 = .ok (.iconst 0, 1) := by decide +kernel
theorem dX4_run_22 : decode cX4_run 22 = .ok (.putfield 46, 3) := by decide +kernel
theorem dX4_run_25 : decode cX4_run 25 = .ok (.iconst 0, 1) := by decide +kernel
theorem dX4_run_26 : decode cX4_run 26 = .ok (.istore_n 1, 1) := by decide +kernel
theorem dX4_run_27 : decode cX4_run 27 = .ok (.iload_n 1, 1) := by decide +kernel
theorem dX4_run_28 : decode cX4_run 28 = .ok (.aload_n 0, 1) := by decide +kernel
theorem dX4_run_29 : decode cX4_run 29 = .ok (.getfield 9, 3) := by decide +kernel
theorem dX4_run_32 : decode cX4_run 32 = .ok (.invokevirtual 62, 3) := by decide +kernel
theorem dX4_run_35 : decode cX4_run 35 = .ok (.if_icmp .ge 312, 3) := by decide +kernel
theorem dX4_run_38 : decode cX4_run 38 = .ok (.aload_n 0, 1) := by decide +kernel
theorem dX4_run_39 : decode cX4_run 39 = .ok (.getfield 59, 3) := by decide +kernel
theorem dX4_run_42 : decode cX4_run 42 = .ok (.aload_n 0, 1) := by decide +kernel
theorem dX4_run_43 : decode cX4_run 43 = .ok (.getfield 9, 3) := by decide +kernel
theorem dX4_run_46 : decode cX4_run 46 = .ok (.invokevirtual 62, 3) := by decide +kernel
theorem dX4_run_49 : decode cX4_run 49 = .ok (.if_icmp .ge 298, 3) := by decide +kernel
theorem dX4_run_52 : decode cX4_run 52 = .ok (.aload_n 0, 1) := by decide +kernel
theorem dX4_run_53 : decode cX4_run 53 = .ok (.getfield 59, 3) := by decide +kernel
theorem dX4_run_56 : decode cX4_run 56 = .ok (.istore_n 2, 1) := by decide +kernel
theorem dX4_run_57 : decode cX4_run 57 = .ok (.aload_n 0, 1) := by decide +kernel
theorem dX4_run_58 : decode cX4_run 58 = .ok (.getfield 9, 3) := by decide +kernel
theorem dX4_run_61 : decode cX4_run 61 = .ok (.iload_n 2, 1) := by decide +kernel
theorem dX4_run_62 : decode cX4_run 62 = .ok (.invokevirtual 68, 3) := by decide +kernel
theorem dX4_run_65 : decode cX4_run 65 = .ok (.istore_n 3, 1) := by decide +kernel
theorem dX4_run_66 : decode cX4_run 66 = .ok (.aload_n 0, 1) := by decide +kernel
theorem dX4_run_67 : decode cX4_run 67 = .ok (.getfield 9, 3) := by decide +kernel
theorem dX4_run_70 : decode cX4_run 70 = .ok (.iload_n 2, 1) := by decide +kernel
theorem dX4_run_71 : decode cX4_run 71 = .ok (.invokevirtual 72, 3) := by decide +kernel
theorem dX4_run_74 : decode cX4_run 74 = .ok (.lstore 4, 2) := by decide +kernel
theorem dX4_run_76 : decode cX4_run 76 = .ok (.aload_n 0, 1) := by decide +kernel
theorem dX4_run_77 : decode cX4_run 77 = .ok (.dup, 1) := by decide +kernel
theorem dX4_run_78 : decode cX4_run 78 = .ok (.getfield 59, 3) := by decide +kernel
theorem dX4_run_81 : decode cX4_run 81 = .ok (.iconst 1, 1) := by decide +kernel
theorem dX4_run_82 : decode cX4_run 82 = .ok (.iadd, 1) := by decide +kernel
theorem dX4_run_83 : decode cX4_run 83 = .ok (.putfield 59, 3) := by decide +kernel
theorem dX4_run_86 : decode cX4_run 86 = .ok (.iload_n 3, 1) := by decide +kernel
theorem dX4_run_87 : decode cX4_run 87 = .ok (.tableswitch 249 1 19 #[89, 99, 109, 126, 151, 176, 249, 249, 249, 249, 249, 249, 249, 249, 183, 193, 201, 217, 234], 89) := by decide +kernel
theorem dX4_run_176 : decode cX4_run 176 = .ok (.aload_n 0, 1) := by decide +kernel
theorem dX4_run_177 : decode cX4_run 177 = .ok (.lload 4, 2) := by decide +kernel
theorem dX4_run_179 : decode cX4_run 179 = .ok (.iconst 0, 1) := by decide +kernel
theorem dX4_run_180 : decode cX4_run 180 = .ok (.invokevirtual 76, 3) := by decide +kernel
theorem dX4_run_183 : decode cX4_run 183 = .ok (.goto 158, 3) := by decide +kernel
theorem dX4_run_186 : decode cX4_run 186 = .ok (.aload_n 0, 1) := by decide +kernel
theorem dX4_run_187 : decode cX4_run 187 = .ok (.lload 4, 2) := by decide +kernel
theorem dX4_run_189 : decode cX4_run 189 = .ok (.iconst 1, 1) := by decide +kernel
theorem dX4_run_190 : decode cX4_run 190 = .ok (.invokevirtual 76, 3) := by decide +kernel
theorem dX4_run_193 : decode cX4_run 193 = .ok (.goto 148, 3) := by decide +kernel
theorem dX4_run_196 : decode cX4_run 196 = .ok (.aload_n 0, 1) := by decide +kernel
theorem dX4_run_197 : decode cX4_run 197 = .ok (.aload_n 0, 1) := by decide +kernel
theorem dX4_run_198 : decode cX4_run 198 = .ok (.getfield 15, 3) := by decide +kernel
theorem dX4_run_201 : decode cX4_run 201 = .ok (.lload 4, 2) := by decide +kernel
theorem dX4_run_203 : decode cX4_run 203 = .ok (.l2i, 1) := by decide +kernel
theorem dX4_run_204 : decode cX4_run 204 = .ok (.invokevirtual 80, 3) := by decide +kernel
theorem dX4_run_207 : decode cX4_run 207 = .ok (.invokevirtual 86, 3) := by decide +kernel
theorem dX4_run_210 : decode cX4_run 210 = .ok (.goto 131, 3) := by decide +kernel
theorem dX4_run_213 : decode cX4_run 213 = .ok (.aload_n 0, 1) := by decide +kernel
theorem dX4_run_214 : decode cX4_run 214 = .ok (.aload_n 0, 1) := by decide +kernel
theorem dX4_run_215 : decode cX4_run 215 = .ok (.getfield 15, 3) := by decide +kernel
theorem dX4_run_218 : decode cX4_run 218 = .ok (.lload 4, 2) := by decide +kernel
theorem dX4_run_220 : decode cX4_run 220 = .ok (.l2i, 1) := by decide +kernel
theorem dX4_run_221 : decode cX4_run 221 = .ok (.invokevirtual 80, 3) := by decide +kernel
theorem dX4_run_224 : decode cX4_run 224 = .ok (.aload_n 0, 1) := by decide +kernel
theorem dX4_run_225 : decode cX4_run 225 = .ok (.getfield 9, 3) := by decide +kernel
theorem dX4_run_228 : decode cX4_run 228 = .ok (.iload_n 2, 1) := by decide +kernel
theorem dX4_run_229 : decode cX4_run 229 = .ok (.invokevirtual 90, 3) := by decide +kernel
theorem dX4_run_232 : decode cX4_run 232 = .ok (.invokevirtual 93, 3) := by decide +kernel
theorem dX4_run_235 : decode cX4_run 235 = .ok (.goto 106, 3) := by decide +kernel
theorem dX4_run_238 : decode cX4_run 238 = .ok (.aload_n 0, 1) := by decide +kernel
theorem dX4_run_239 : decode cX4_run 239 = .ok (.aload_n 0, 1) := by decide +kernel
theorem dX4_run_240 : decode cX4_run 240 = .ok (.getfield 15, 3) := by decide +kernel
theorem dX4_run_243 : decode cX4_run 243 = .ok (.lload 4, 2) := by decide +kernel
theorem dX4_run_245 : decode cX4_run 245 = .ok (.l2i, 1) := by decide +kernel
theorem dX4_run_246 : decode cX4_run 246 = .ok (.invokevirtual 80, 3) := by decide +kernel
theorem dX4_run_249 : decode cX4_run 249 = .ok (.aload_n 0, 1) := by decide +kernel
theorem dX4_run_250 : decode cX4_run 250 = .ok (.getfield 9, 3) := by decide +kernel
theorem dX4_run_253 : decode cX4_run 253 = .ok (.iload_n 2, 1) := by decide +kernel
theorem dX4_run_254 : decode cX4_run 254 = .ok (.invokevirtual 90, 3) := by decide +kernel
theorem dX4_run_257 : decode cX4_run 257 = .ok (.invokevirtual 97, 3) := by decide +kernel
theorem dX4_run_260 : decode cX4_run 260 = .ok (.goto 81, 3) := by decide +kernel
theorem dX4_run_263 : decode cX4_run 263 = .ok (.aload_n 0, 1) := by decide +kernel
theorem dX4_run_264 : decode cX4_run 264 = .ok (.invokevirtual 100, 3) := by decide +kernel
theorem dX4_run_267 : decode cX4_run 267 = .ok (.goto 74, 3) := by decide +kernel
theorem dX4_run_270 : decode cX4_run 270 = .ok (.aload_n 0, 1) := by decide +kernel
theorem dX4_run_271 : decode cX4_run 271 = .ok (.lload 4, 2) := by decide +kernel
theorem dX4_run_273 : decode cX4_run 273 = .ok (.l2i, 1) := by decide +kernel
theorem dX4_run_274 : decode cX4_run 274 = .ok (.invokevirtual 103, 3) := by decide +kernel
theorem dX4_run_277 : decode cX4_run 277 = .ok (.goto 64, 3) := by decide +kernel
theorem dX4_run_280 : decode cX4_run 280 = .ok (.aload_n 0, 1) := by decide +kernel
theorem dX4_run_281 : decode cX4_run 281 = .ok (.iconst 4, 1) := by decide +kernel
theorem dX4_run_282 : decode cX4_run 282 = .ok (.invokevirtual 107, 3) := by decide +kernel
theorem dX4_run_285 : decode cX4_run 285 = .ok (.goto 56, 3) := by decide +kernel
theorem dX4_run_288 : decode cX4_run 288 = .ok (.aload_n 0, 1) := by decide +kernel
theorem dX4_run_289 : decode cX4_run 289 = .ok (.aload_n 0, 1) := by decide +kernel
theorem dX4_run_290 : decode cX4_run 290 = .ok (.getfield 53, 3) := by decide +kernel
theorem dX4_run_293 : decode cX4_run 293 = .ok (.iconst 1, 1) := by decide +kernel
theorem dX4_run_294 : decode cX4_run 294 = .ok (.iadd, 1) := by decide +kernel
theorem dX4_run_295 : decode cX4_run 295 = .ok (.lload 4, 2) := by decide +kernel
theorem dX4_run_297 : decode cX4_run 297 = .ok (.l2i, 1) := by decide +kernel
theorem dX4_run_298 : decode cX4_run 298 = .ok (.invokevirtual 110, 3) := by decide +kernel
theorem dX4_run_301 : decode cX4_run 301 = .ok (.goto 40, 3) := by decide +kernel
theorem dX4_run_304 : decode cX4_run 304 = .ok (.aload_n 0, 1) := by decide +kernel
theorem dX4_run_305 : decode cX4_run 305 = .ok (.aload_n 0, 1) := by decide +kernel
theorem dX4_run_306 : decode cX4_run 306 = .ok (.getfield 53, 3) := by decide +kernel
theorem dX4_run_309 : decode cX4_run 309 = .ok (.iconst 1, 1) := by decide +kernel
theorem dX4_run_310 : decode cX4_run 310 = .ok (.isub, 1) := by decide +kernel
theorem dX4_run_311 : decode cX4_run 311 = .ok (.iconst 0, 1) := by decide +kernel
theorem dX4_run_312 : decode cX4_run 312 = .ok (.invokestatic 114, 3) := by decide +kernel
theorem dX4_run_315 : decode cX4_run 315 = .ok (.putfield 53, 3) := by decide +kernel
theorem dX4_run_318 : decode cX4_run 318 = .ok (.goto 23, 3) := by decide +kernel
theorem dX4_run_321 : decode cX4_run 321 = .ok (.aload_n 0, 1) := by decide +kernel
theorem dX4_run_322 : decode cX4_run 322 = .ok (.iconst 0, 1) := by decide +kernel
theorem dX4_run_323 : decode cX4_run 323 = .ok (.aload_n 0, 1) := by decide +kernel
theorem dX4_run_324 : decode cX4_run 324 = .ok (.getfield 9, 3) := by decide +kernel
theorem dX4_run_327 : decode cX4_run 327 = .ok (.invokevirtual 62, 3) := by decide +kernel
theorem dX4_run_330 : decode cX4_run 330 = .ok (.invokevirtual 110, 3) := by decide +kernel
theorem dX4_run_333 : decode cX4_run 333 = .ok (.goto 8, 3) := by decide +kernel
theorem dX4_run_336 : decode cX4_run 336 = .ok (.aload_n 0, 1) := by decide +kernel
theorem dX4_run_337 : decode cX4_run 337 = .ok (.iload_n 3, 1) := by decide +kernel
theorem dX4_run_338 : decode cX4_run 338 = .ok (.invokevirtual 120, 3) := by decide +kernel
theorem dX4_run_341 : decode cX4_run 341 = .ok (.iinc 1 1, 3) := by decide +kernel
theorem dX4_run_344 : decode cX4_run 344 = .ok (.goto (-317), 3) := by decide +kernel
theorem dX4_run_347 : decode cX4_run 347 = .ok (.aload_n 0, 1) := by decide +kernel
theorem dX4_run_348 : decode cX4_run 348 = .ok (.getfield 56, 3) := by decide +kernel
theorem dX4_run_351 : decode cX4_run 351 = .ok (.ireturn, 1) := by decide +kernel
def F_X4_run_347 (s0 : ae_S) : Option (Int32 × ae_S) := some (s0.1 21 0 11, s0)
set_option maxHeartbeats 4000000 in
set_option maxRecDepth 100000 in
theorem t_X4_run_347 {l : Launch} {G : ae_G} (d : Nat) {rr : Int32} {ss : ae_S} (s0 : ae_S) (hF : F_X4_run_347 s0 = some (rr, ss)) : ae_T l G (d + 7) mX4_run (ae_Po (some (ae_i rr)) ss) 347 [(0, ae_r (some (21, 0)))] [] s0 := by
  unfold F_X4_run_347 at hF
  refine ae_aload_n 0 dX4_run_347 rfl ?_
  refine ae_getI (q := (21, 0)) dX4_run_348 fl_RX4_56 rfl rfl ?_
  obtain ⟨rfl, rfl⟩ := ae_retI hF
  exact ae_iret dX4_run_351 rfl rfl ⟨rfl, rfl⟩
def F_X4_run_341 (k27 : Int32 → ae_S → Option (Int32 × ae_S)) (v1 : Int32) (s0 : ae_S) : Option (Int32 × ae_S) := ae_lt (v1 + (1 : Int32)) (fun x1 => k27 x1 s0)
set_option maxHeartbeats 4000000 in
set_option maxRecDepth 100000 in
theorem t_X4_run_341 {l : Launch} {G : ae_G} (d : Nat) (k27 : Int32 → ae_S → Option (Int32 × ae_S)) {rr : Int32} {ss : ae_S} (hk27 : ∀ (v1 : Int32) (s0 : ae_S), k27 v1 s0 = some (rr, ss) → ae_T l G (d + 7) mX4_run (ae_Po (some (ae_i rr)) ss) 27 [(0, ae_r (some (21, 0))), (1, ae_i v1)] [] s0) (v1 : Int32) (s0 : ae_S) (hF : F_X4_run_341 k27 v1 s0 = some (rr, ss)) : ae_T l G (d + 7) mX4_run (ae_Po (some (ae_i rr)) ss) 341 [(0, ae_r (some (21, 0))), (1, ae_i v1)] [] s0 := by
  unfold F_X4_run_341 at hF
  obtain ⟨x1, hx1, hF2⟩ := ae_ltI hF
  refine ae_iinc (lv' := [(1, ae_i x1), (0, ae_r (some (21, 0)))]) 1 (1 : Int32) dX4_run_341 rfl (by decide) (by decide) (by rw [hx1]; rfl) ?_
  refine ae_goto 27 dX4_run_344 rfl ?_
  refine ae_pick (lv' := [(0, ae_r (some (21, 0))), (1, ae_i x1)]) [1, 0] rfl ?_
  exact hk27 x1 s0 hF2
def F_X4_run_27 : Nat → Int32 → ae_S → Option (Int32 × ae_S)
  | 0, _, _ => none
  | n + 1, v1, s0 => ae_bd (F_X1_length s0) (fun (r3 : Int32) s4 => if r3 ≤ v1 then (F_X4_run_347 s4) else (ae_bd (F_X1_length s4) (fun (r9 : Int32) s10 => if r9 ≤ (s4.1 21 0 12) then (F_X4_run_347 s10) else (ae_lt (s10.1 21 0 12) (fun x15 => ae_bd (F_X1_operation x15 s10) (fun (r17 : Int32) s18 => ae_bd (F_X1_first x15 s18) (fun (r21 : Int64) s22 => ae_lt (ae_wI s22 21 0 12 ((s22.1 21 0 12) + (1 : Int32))) (fun s25 => if r17 = (1 : Int32) then (ae_bd (F_X4_push r21 (0 : Int32) s25) (fun (r29 : Unit) s30 => F_X4_run_341 (F_X4_run_27 n) v1 s30)) else (if r17 = (2 : Int32) then (ae_bd (F_X4_push r21 (1 : Int32) s25) (fun (r36 : Unit) s37 => F_X4_run_341 (F_X4_run_27 n) v1 s37)) else (if r17 = (3 : Int32) then (ae_bd (F_X6_get r21.toInt32 s25) (fun (r43 : Option (Fin 32)) s44 => ae_mo r43 none (fun i47 => ae_bd (F_X4_checkIndex i47 s44) (fun (r50 : Unit) s51 => F_X4_run_341 (F_X4_run_27 n) v1 s51)))) else (if r17 = (4 : Int32) then (ae_bd (F_X6_get r21.toInt32 s25) (fun (r57 : Option (Fin 32)) s58 => ae_bd (F_X1_second x15 s58) (fun (r61 : Int32) s62 => ae_mo r57 none (fun i65 => ae_bd (F_X4_load i65 r61 s62) (fun (r68 : Unit) s69 => F_X4_run_341 (F_X4_run_27 n) v1 s69))))) else (if r17 = (5 : Int32) then (ae_bd (F_X6_get r21.toInt32 s25) (fun (r75 : Option (Fin 32)) s76 => ae_bd (F_X1_second x15 s76) (fun (r79 : Int32) s80 => ae_mo r75 none (fun i83 => ae_bd (F_X4_store i83 r79 s80) (fun (r86 : Unit) s87 => F_X4_run_341 (F_X4_run_27 n) v1 s87))))) else (if r17 = (6 : Int32) then (ae_bd (F_X4_negate s25) (fun (r93 : Unit) s94 => F_X4_run_341 (F_X4_run_27 n) v1 s94)) else (if r17 = (15 : Int32) then (ae_bd (F_X4_leapUnless r21.toInt32 s25) (fun (r100 : Unit) s101 => F_X4_run_341 (F_X4_run_27 n) v1 s101)) else (if r17 = (16 : Int32) then (ae_bd (F_X4_meet (4 : Int32) s25) (fun (r107 : Unit) s108 => F_X4_run_341 (F_X4_run_27 n) v1 s108)) else (if r17 = (17 : Int32) then (ae_bd (F_X4_openLevel ((s25.1 21 0 10) + (1 : Int32)) r21.toInt32 s25) (fun (r114 : Unit) s115 => F_X4_run_341 (F_X4_run_27 n) v1 s115)) else (if r17 = (18 : Int32) then (ae_lt (ae_wI s25 21 0 10 (if ((s25.1 21 0 10) - (1 : Int32)) < (0 : Int32) then (0 : Int32) else ((s25.1 21 0 10) - (1 : Int32)))) (fun s121 => F_X4_run_341 (F_X4_run_27 n) v1 s121)) else (if r17 = (19 : Int32) then (ae_bd (F_X1_length s25) (fun (r126 : Int32) s127 => ae_bd (F_X4_openLevel (0 : Int32) r126 s127) (fun (r130 : Unit) s131 => F_X4_run_341 (F_X4_run_27 n) v1 s131))) else (ae_bd (F_X4_combine r17 s25) (fun (r135 : Unit) s136 => F_X4_run_341 (F_X4_run_27 n) v1 s136))))))))))))))))))))
set_option maxHeartbeats 4000000 in
set_option maxRecDepth 100000 in
theorem t_X4_run_27 {l : Launch} {G : ae_G} (d : Nat) {rr : Int32} {ss : ae_S} : ∀ (n : Nat) (v1 : Int32) (s0 : ae_S), F_X4_run_27 n v1 s0 = some (rr, ss) → ae_T l G (d + 7) mX4_run (ae_Po (some (ae_i rr)) ss) 27 [(0, ae_r (some (21, 0))), (1, ae_i v1)] [] s0 := by
  intro n
  induction n with
  | zero =>
    intro v1 s0 hF
    exact absurd (show (none : Option (Int32 × ae_S)) = some (rr, ss) from hF) (by simp)
  | succ n ih =>
    intro v1 s0 hF
    unfold F_X4_run_27 at hF
    refine ae_iload_n 1 dX4_run_27 rfl ?_
    refine ae_aload_n 0 dX4_run_28 rfl ?_
    refine ae_getO (q := (21, 0)) (some (15, 0)) dX4_run_29 fl_RX4_9 rfl rfl rfl ?_
    obtain ⟨r3, s4, hc5, hF6⟩ := ae_bdI hF
    refine ae_cV1 (q := (15, 0)) (As := []) dX4_run_32 ww_820 vy_X1_length rfl rfl rfl rfl rfl (Nat.le_of_ble_eq_true rfl) (c_X1_length (d + 6) hc5) ?_
    refine ae_icmp_ge 347 dX4_run_35 rfl (fun hb7 => ?_) (fun hb7 => ?_)
    · have hF8 := ae_ifT hb7 hF6
      refine ae_pick (lv' := [(0, ae_r (some (21, 0)))]) [0] rfl ?_
      exact t_X4_run_347 d s4 hF8
    · have hF8 := ae_ifF hb7 hF6
      refine ae_aload_n 0 dX4_run_38 rfl ?_
      refine ae_getI (q := (21, 0)) dX4_run_39 fl_RX4_59 rfl rfl ?_
      refine ae_aload_n 0 dX4_run_42 rfl ?_
      refine ae_getO (q := (21, 0)) (some (15, 0)) dX4_run_43 fl_RX4_9 rfl rfl rfl ?_
      obtain ⟨r9, s10, hc11, hF12⟩ := ae_bdI hF8
      refine ae_cV1 (q := (15, 0)) (As := []) dX4_run_46 ww_820 vy_X1_length rfl rfl rfl rfl rfl (Nat.le_of_ble_eq_true rfl) (c_X1_length (d + 6) hc11) ?_
      refine ae_icmp_ge 347 dX4_run_49 rfl (fun hb13 => ?_) (fun hb13 => ?_)
      · have hF14 := ae_ifT hb13 hF12
        refine ae_pick (lv' := [(0, ae_r (some (21, 0)))]) [0] rfl ?_
        exact t_X4_run_347 d s10 hF14
      · have hF14 := ae_ifF hb13 hF12
        refine ae_aload_n 0 dX4_run_52 rfl ?_
        refine ae_getI (q := (21, 0)) dX4_run_53 fl_RX4_59 rfl rfl ?_
        obtain ⟨x15, hx15, hF16⟩ := ae_ltI hF14
        refine ae_nmI hx15 ?_
        refine ae_istore_n (lv' := [(2, ae_i x15), (0, ae_r (some (21, 0))), (1, ae_i v1)]) dX4_run_56 (by decide) rfl ?_
        refine ae_aload_n 1 dX4_run_57 rfl ?_
        refine ae_getO (q := (21, 0)) (some (15, 0)) dX4_run_58 fl_RX4_9 rfl rfl rfl ?_
        refine ae_iload_n 0 dX4_run_61 rfl ?_
        obtain ⟨r17, s18, hc19, hF20⟩ := ae_bdI hF16
        refine ae_cV1 (q := (15, 0)) (As := [ae_i x15]) dX4_run_62 ww_824 vy_X1_operation rfl rfl rfl rfl rfl (Nat.le_of_ble_eq_true rfl) (c_X1_operation (d + 6) hc19) ?_
        refine ae_istore_n (lv' := [(3, ae_i r17), (2, ae_i x15), (0, ae_r (some (21, 0))), (1, ae_i v1)]) dX4_run_65 (by decide) rfl ?_
        refine ae_aload_n 2 dX4_run_66 rfl ?_
        refine ae_getO (q := (21, 0)) (some (15, 0)) dX4_run_67 fl_RX4_9 rfl rfl rfl ?_
        refine ae_iload_n 1 dX4_run_70 rfl ?_
        obtain ⟨r21, s22, hc23, hF24⟩ := ae_bdI hF20
        refine ae_cV1 (q := (15, 0)) (As := [ae_i x15]) dX4_run_71 ww_828 vy_X1_first rfl rfl rfl rfl rfl (Nat.le_of_ble_eq_true rfl) (c_X1_first (d + 6) hc23) ?_
        refine ae_lstore (lv' := [(4, ae_l r21), (3, ae_i r17), (2, ae_i x15), (0, ae_r (some (21, 0))), (1, ae_i v1)]) dX4_run_74 (by decide) rfl ?_
        refine ae_aload_n 3 dX4_run_76 rfl ?_
        refine ae_dup dX4_run_77 rfl ?_
        refine ae_getI (q := (21, 0)) dX4_run_78 fl_RX4_59 rfl rfl ?_
        refine ae_iconst (1 : Int32) dX4_run_81 (by decide) ?_
        refine ae_iadd dX4_run_82 ?_
        obtain ⟨s25, hs25, hF26⟩ := ae_ltI hF24
        refine ae_putI (q := (21, 0)) dX4_run_83 fl_RX4_59 rfl rfl (ae_nmS hs25 ?_)
        refine ae_iload_n 1 dX4_run_86 rfl ?_
        by_cases hb27 : r17 = (1 : Int32)
        · have hF28 := ae_ifT hb27 hF26
          refine ae_tabIn 176 dX4_run_87 (by rw [hb27]; decide) (by rw [hb27]; decide) (by rw [hb27]; rfl) rfl ?_
          refine ae_aload_n 3 dX4_run_176 rfl ?_
          refine ae_lload 0 dX4_run_177 rfl ?_
          refine ae_iconst (0 : Int32) dX4_run_179 (by decide) ?_
          obtain ⟨r29, s30, hc31, hF32⟩ := ae_bdI hF28
          refine ae_cV0 (q := (21, 0)) (As := [ae_l r21, ae_i (0 : Int32)]) dX4_run_180 ww_832 vy_X4_push rfl rfl rfl rfl rfl (Nat.le_of_ble_eq_true rfl) (c_X4_push (d + 6) hc31) ?_
          refine ae_goto 341 dX4_run_183 rfl ?_
          refine ae_pick (lv' := [(0, ae_r (some (21, 0))), (1, ae_i v1)]) [3, 4] rfl ?_
          exact t_X4_run_341 d (F_X4_run_27 n) ih v1 s30 hF32
        · have hF33 := ae_ifF hb27 hF26
          by_cases hb34 : r17 = (2 : Int32)
          · have hF35 := ae_ifT hb34 hF33
            refine ae_tabIn 186 dX4_run_87 (by rw [hb34]; decide) (by rw [hb34]; decide) (by rw [hb34]; rfl) rfl ?_
            refine ae_aload_n 3 dX4_run_186 rfl ?_
            refine ae_lload 0 dX4_run_187 rfl ?_
            refine ae_iconst (1 : Int32) dX4_run_189 (by decide) ?_
            obtain ⟨r36, s37, hc38, hF39⟩ := ae_bdI hF35
            refine ae_cV0 (q := (21, 0)) (As := [ae_l r21, ae_i (1 : Int32)]) dX4_run_190 ww_832 vy_X4_push rfl rfl rfl rfl rfl (Nat.le_of_ble_eq_true rfl) (c_X4_push (d + 6) hc38) ?_
            refine ae_goto 341 dX4_run_193 rfl ?_
            refine ae_pick (lv' := [(0, ae_r (some (21, 0))), (1, ae_i v1)]) [3, 4] rfl ?_
            exact t_X4_run_341 d (F_X4_run_27 n) ih v1 s37 hF39
          · have hF40 := ae_ifF hb34 hF33
            by_cases hb41 : r17 = (3 : Int32)
            · have hF42 := ae_ifT hb41 hF40
              refine ae_tabIn 196 dX4_run_87 (by rw [hb41]; decide) (by rw [hb41]; decide) (by rw [hb41]; rfl) rfl ?_
              refine ae_aload_n 3 dX4_run_196 rfl ?_
              refine ae_aload_n 3 dX4_run_197 rfl ?_
              refine ae_getO (q := (21, 0)) (some (6, 0)) dX4_run_198 fl_RX4_15 rfl rfl rfl ?_
              refine ae_lload 0 dX4_run_201 rfl ?_
              refine ae_l2i dX4_run_203 ?_
              obtain ⟨r43, s44, hc45, hF46⟩ := ae_bdI hF42
              refine ae_cV1 (q := (6, 0)) (As := [ae_i r21.toInt32]) dX4_run_204 ww_836 vy_X6_get rfl rfl rfl rfl rfl (Nat.le_of_ble_eq_true rfl) (c_X6_get (d + 6) hc45) ?_
              obtain ⟨i47, ho48, hF49⟩ := ae_moO hF46
              subst ho48
              obtain ⟨r50, s51, hc52, hF53⟩ := ae_bdI hF49
              refine ae_cV0 (q := (21, 0)) (As := [ae_r (some (8, i47))]) dX4_run_207 ww_837 vy_X4_checkIndex rfl rfl rfl rfl rfl (Nat.le_of_ble_eq_true rfl) (c_X4_checkIndex (d + 3) hc52) ?_
              refine ae_goto 341 dX4_run_210 rfl ?_
              refine ae_pick (lv' := [(0, ae_r (some (21, 0))), (1, ae_i v1)]) [3, 4] rfl ?_
              exact t_X4_run_341 d (F_X4_run_27 n) ih v1 s51 hF53
            · have hF54 := ae_ifF hb41 hF40
              by_cases hb55 : r17 = (4 : Int32)
              · have hF56 := ae_ifT hb55 hF54
                refine ae_tabIn 213 dX4_run_87 (by rw [hb55]; decide) (by rw [hb55]; decide) (by rw [hb55]; rfl) rfl ?_
                refine ae_aload_n 3 dX4_run_213 rfl ?_
                refine ae_aload_n 3 dX4_run_214 rfl ?_
                refine ae_getO (q := (21, 0)) (some (6, 0)) dX4_run_215 fl_RX4_15 rfl rfl rfl ?_
                refine ae_lload 0 dX4_run_218 rfl ?_
                refine ae_l2i dX4_run_220 ?_
                obtain ⟨r57, s58, hc59, hF60⟩ := ae_bdI hF56
                refine ae_cV1 (q := (6, 0)) (As := [ae_i r21.toInt32]) dX4_run_221 ww_836 vy_X6_get rfl rfl rfl rfl rfl (Nat.le_of_ble_eq_true rfl) (c_X6_get (d + 6) hc59) ?_
                refine ae_aload_n 3 dX4_run_224 rfl ?_
                refine ae_getO (q := (21, 0)) (some (15, 0)) dX4_run_225 fl_RX4_9 rfl rfl rfl ?_
                refine ae_iload_n 2 dX4_run_228 rfl ?_
                obtain ⟨r61, s62, hc63, hF64⟩ := ae_bdI hF60
                refine ae_cV1 (q := (15, 0)) (As := [ae_i x15]) dX4_run_229 ww_865 vy_X1_second rfl rfl rfl rfl rfl (Nat.le_of_ble_eq_true rfl) (c_X1_second (d + 6) hc63) ?_
                obtain ⟨i65, ho66, hF67⟩ := ae_moO hF64
                subst ho66
                obtain ⟨r68, s69, hc70, hF71⟩ := ae_bdI hF67
                refine ae_cV0 (q := (21, 0)) (As := [ae_r (some (8, i65)), ae_i r61]) dX4_run_232 ww_869 vy_X4_load rfl rfl rfl rfl rfl (Nat.le_of_ble_eq_true rfl) (c_X4_load (d + 1) hc70) ?_
                refine ae_goto 341 dX4_run_235 rfl ?_
                refine ae_pick (lv' := [(0, ae_r (some (21, 0))), (1, ae_i v1)]) [3, 4] rfl ?_
                exact t_X4_run_341 d (F_X4_run_27 n) ih v1 s69 hF71
              · have hF72 := ae_ifF hb55 hF54
                by_cases hb73 : r17 = (5 : Int32)
                · have hF74 := ae_ifT hb73 hF72
                  refine ae_tabIn 238 dX4_run_87 (by rw [hb73]; decide) (by rw [hb73]; decide) (by rw [hb73]; rfl) rfl ?_
                  refine ae_aload_n 3 dX4_run_238 rfl ?_
                  refine ae_aload_n 3 dX4_run_239 rfl ?_
                  refine ae_getO (q := (21, 0)) (some (6, 0)) dX4_run_240 fl_RX4_15 rfl rfl rfl ?_
                  refine ae_lload 0 dX4_run_243 rfl ?_
                  refine ae_l2i dX4_run_245 ?_
                  obtain ⟨r75, s76, hc77, hF78⟩ := ae_bdI hF74
                  refine ae_cV1 (q := (6, 0)) (As := [ae_i r21.toInt32]) dX4_run_246 ww_836 vy_X6_get rfl rfl rfl rfl rfl (Nat.le_of_ble_eq_true rfl) (c_X6_get (d + 6) hc77) ?_
                  refine ae_aload_n 3 dX4_run_249 rfl ?_
                  refine ae_getO (q := (21, 0)) (some (15, 0)) dX4_run_250 fl_RX4_9 rfl rfl rfl ?_
                  refine ae_iload_n 2 dX4_run_253 rfl ?_
                  obtain ⟨r79, s80, hc81, hF82⟩ := ae_bdI hF78
                  refine ae_cV1 (q := (15, 0)) (As := [ae_i x15]) dX4_run_254 ww_865 vy_X1_second rfl rfl rfl rfl rfl (Nat.le_of_ble_eq_true rfl) (c_X1_second (d + 6) hc81) ?_
                  obtain ⟨i83, ho84, hF85⟩ := ae_moO hF82
                  subst ho84
                  obtain ⟨r86, s87, hc88, hF89⟩ := ae_bdI hF85
                  refine ae_cV0 (q := (21, 0)) (As := [ae_r (some (8, i83)), ae_i r79]) dX4_run_257 ww_920 vy_X4_store rfl rfl rfl rfl rfl (Nat.le_of_ble_eq_true rfl) (c_X4_store d hc88) ?_
                  refine ae_goto 341 dX4_run_260 rfl ?_
                  refine ae_pick (lv' := [(0, ae_r (some (21, 0))), (1, ae_i v1)]) [3, 4] rfl ?_
                  exact t_X4_run_341 d (F_X4_run_27 n) ih v1 s87 hF89
                · have hF90 := ae_ifF hb73 hF72
                  by_cases hb91 : r17 = (6 : Int32)
                  · have hF92 := ae_ifT hb91 hF90
                    refine ae_tabIn 263 dX4_run_87 (by rw [hb91]; decide) (by rw [hb91]; decide) (by rw [hb91]; rfl) rfl ?_
                    refine ae_aload_n 3 dX4_run_263 rfl ?_
                    obtain ⟨r93, s94, hc95, hF96⟩ := ae_bdI hF92
                    refine ae_cV0 (q := (21, 0)) (As := []) dX4_run_264 ww_959 vy_X4_negate rfl rfl rfl rfl rfl (Nat.le_of_ble_eq_true rfl) (c_X4_negate (d + 4) hc95) ?_
                    refine ae_goto 341 dX4_run_267 rfl ?_
                    refine ae_pick (lv' := [(0, ae_r (some (21, 0))), (1, ae_i v1)]) [3, 4] rfl ?_
                    exact t_X4_run_341 d (F_X4_run_27 n) ih v1 s94 hF96
                  · have hF97 := ae_ifF hb91 hF90
                    by_cases hb98 : r17 = (15 : Int32)
                    · have hF99 := ae_ifT hb98 hF97
                      refine ae_tabIn 270 dX4_run_87 (by rw [hb98]; decide) (by rw [hb98]; decide) (by rw [hb98]; rfl) rfl ?_
                      refine ae_aload_n 3 dX4_run_270 rfl ?_
                      refine ae_lload 0 dX4_run_271 rfl ?_
                      refine ae_l2i dX4_run_273 ?_
                      obtain ⟨r100, s101, hc102, hF103⟩ := ae_bdI hF99
                      refine ae_cV0 (q := (21, 0)) (As := [ae_i r21.toInt32]) dX4_run_274 ww_966 vy_X4_leapUnless rfl rfl rfl rfl rfl (Nat.le_of_ble_eq_true rfl) (c_X4_leapUnless (d + 5) hc102) ?_
                      refine ae_goto 341 dX4_run_277 rfl ?_
                      refine ae_pick (lv' := [(0, ae_r (some (21, 0))), (1, ae_i v1)]) [3, 4] rfl ?_
                      exact t_X4_run_341 d (F_X4_run_27 n) ih v1 s101 hF103
                    · have hF104 := ae_ifF hb98 hF97
                      by_cases hb105 : r17 = (16 : Int32)
                      · have hF106 := ae_ifT hb105 hF104
                        refine ae_tabIn 280 dX4_run_87 (by rw [hb105]; decide) (by rw [hb105]; decide) (by rw [hb105]; rfl) rfl ?_
                        refine ae_aload_n 3 dX4_run_280 rfl ?_
                        refine ae_iconst (4 : Int32) dX4_run_281 (by decide) ?_
                        obtain ⟨r107, s108, hc109, hF110⟩ := ae_bdI hF106
                        refine ae_cV0 (q := (21, 0)) (As := [ae_i (4 : Int32)]) dX4_run_282 ww_856 vy_X4_meet rfl rfl rfl rfl rfl (Nat.le_of_ble_eq_true rfl) (c_X4_meet (d + 4) hc109) ?_
                        refine ae_goto 341 dX4_run_285 rfl ?_
                        refine ae_pick (lv' := [(0, ae_r (some (21, 0))), (1, ae_i v1)]) [3, 4] rfl ?_
                        exact t_X4_run_341 d (F_X4_run_27 n) ih v1 s108 hF110
                      · have hF111 := ae_ifF hb105 hF104
                        by_cases hb112 : r17 = (17 : Int32)
                        · have hF113 := ae_ifT hb112 hF111
                          refine ae_tabIn 288 dX4_run_87 (by rw [hb112]; decide) (by rw [hb112]; decide) (by rw [hb112]; rfl) rfl ?_
                          refine ae_aload_n 3 dX4_run_288 rfl ?_
                          refine ae_aload_n 3 dX4_run_289 rfl ?_
                          refine ae_getI (q := (21, 0)) dX4_run_290 fl_RX4_53 rfl rfl ?_
                          refine ae_iconst (1 : Int32) dX4_run_293 (by decide) ?_
                          refine ae_iadd dX4_run_294 ?_
                          refine ae_lload 0 dX4_run_295 rfl ?_
                          refine ae_l2i dX4_run_297 ?_
                          obtain ⟨r114, s115, hc116, hF117⟩ := ae_bdI hF113
                          refine ae_cV0 (q := (21, 0)) (As := [ae_i ((s25.1 21 0 10) + (1 : Int32)), ae_i r21.toInt32]) dX4_run_298 ww_971 vy_X4_openLevel rfl rfl rfl rfl rfl (Nat.le_of_ble_eq_true rfl) (c_X4_openLevel (d + 4) hc116) ?_
                          refine ae_goto 341 dX4_run_301 rfl ?_
                          refine ae_pick (lv' := [(0, ae_r (some (21, 0))), (1, ae_i v1)]) [3, 4] rfl ?_
                          exact t_X4_run_341 d (F_X4_run_27 n) ih v1 s115 hF117
                        · have hF118 := ae_ifF hb112 hF111
                          by_cases hb119 : r17 = (18 : Int32)
                          · have hF120 := ae_ifT hb119 hF118
                            refine ae_tabIn 304 dX4_run_87 (by rw [hb119]; decide) (by rw [hb119]; decide) (by rw [hb119]; rfl) rfl ?_
                            refine ae_aload_n 3 dX4_run_304 rfl ?_
                            refine ae_aload_n 3 dX4_run_305 rfl ?_
                            refine ae_getI (q := (21, 0)) dX4_run_306 fl_RX4_53 rfl rfl ?_
                            refine ae_iconst (1 : Int32) dX4_run_309 (by decide) ?_
                            refine ae_isub dX4_run_310 ?_
                            refine ae_iconst (0 : Int32) dX4_run_311 (by decide) ?_
                            refine ae_mmax dX4_run_312 ww_864 ww_741 ww_21 ww_742 (Nat.le_of_ble_eq_true rfl) ?_
                            obtain ⟨s121, hs121, hF122⟩ := ae_ltI hF120
                            refine ae_putI (q := (21, 0)) dX4_run_315 fl_RX4_53 rfl rfl (ae_nmS hs121 ?_)
                            refine ae_goto 341 dX4_run_318 rfl ?_
                            refine ae_pick (lv' := [(0, ae_r (some (21, 0))), (1, ae_i v1)]) [3, 4] rfl ?_
                            exact t_X4_run_341 d (F_X4_run_27 n) ih v1 s121 hF122
                          · have hF123 := ae_ifF hb119 hF118
                            by_cases hb124 : r17 = (19 : Int32)
                            · have hF125 := ae_ifT hb124 hF123
                              refine ae_tabIn 321 dX4_run_87 (by rw [hb124]; decide) (by rw [hb124]; decide) (by rw [hb124]; rfl) rfl ?_
                              refine ae_aload_n 3 dX4_run_321 rfl ?_
                              refine ae_iconst (0 : Int32) dX4_run_322 (by decide) ?_
                              refine ae_aload_n 3 dX4_run_323 rfl ?_
                              refine ae_getO (q := (21, 0)) (some (15, 0)) dX4_run_324 fl_RX4_9 rfl rfl rfl ?_
                              obtain ⟨r126, s127, hc128, hF129⟩ := ae_bdI hF125
                              refine ae_cV1 (q := (15, 0)) (As := []) dX4_run_327 ww_820 vy_X1_length rfl rfl rfl rfl rfl (Nat.le_of_ble_eq_true rfl) (c_X1_length (d + 6) hc128) ?_
                              obtain ⟨r130, s131, hc132, hF133⟩ := ae_bdI hF129
                              refine ae_cV0 (q := (21, 0)) (As := [ae_i (0 : Int32), ae_i r126]) dX4_run_330 ww_971 vy_X4_openLevel rfl rfl rfl rfl rfl (Nat.le_of_ble_eq_true rfl) (c_X4_openLevel (d + 4) hc132) ?_
                              refine ae_goto 341 dX4_run_333 rfl ?_
                              refine ae_pick (lv' := [(0, ae_r (some (21, 0))), (1, ae_i v1)]) [3, 4] rfl ?_
                              exact t_X4_run_341 d (F_X4_run_27 n) ih v1 s131 hF133
                            · have hF134 := ae_ifF hb124 hF123
                              have hn139 : ¬ (r17).toInt = 1 := lv_neT hb27 (by decide)
                              have hn140 : ¬ (r17).toInt = 2 := lv_neT hb34 (by decide)
                              have hn141 : ¬ (r17).toInt = 3 := lv_neT hb41 (by decide)
                              have hn142 : ¬ (r17).toInt = 4 := lv_neT hb55 (by decide)
                              have hn143 : ¬ (r17).toInt = 5 := lv_neT hb73 (by decide)
                              have hn144 : ¬ (r17).toInt = 6 := lv_neT hb91 (by decide)
                              have hn145 : ¬ (r17).toInt = 15 := lv_neT hb98 (by decide)
                              have hn146 : ¬ (r17).toInt = 16 := lv_neT hb105 (by decide)
                              have hn147 : ¬ (r17).toInt = 17 := lv_neT hb112 (by decide)
                              have hn148 : ¬ (r17).toInt = 18 := lv_neT hb119 (by decide)
                              have hn149 : ¬ (r17).toInt = 19 := lv_neT hb124 (by decide)
                              by_cases hb150 : r17 = (7 : Int32)
                              · refine ae_tabIn 336 dX4_run_87 (by rw [hb150]; decide) (by rw [hb150]; decide) (by rw [hb150]; rfl) rfl ?_
                                refine ae_aload_n 3 dX4_run_336 rfl ?_
                                refine ae_iload_n 1 dX4_run_337 rfl ?_
                                obtain ⟨r135, s136, hc137, hF138⟩ := ae_bdI hF134
                                refine ae_cV0 (q := (21, 0)) (As := [ae_i r17]) dX4_run_338 ww_979 vy_X4_combine rfl rfl rfl rfl rfl (Nat.le_of_ble_eq_true rfl) (c_X4_combine d hc137) ?_
                                refine ae_pick (lv' := [(0, ae_r (some (21, 0))), (1, ae_i v1)]) [3, 4] rfl ?_
                                exact t_X4_run_341 d (F_X4_run_27 n) ih v1 s136 hF138
                              · have hn151 : ¬ (r17).toInt = 7 := lv_neT hb150 (by decide)
                                by_cases hb152 : r17 = (8 : Int32)
                                · refine ae_tabIn 336 dX4_run_87 (by rw [hb152]; decide) (by rw [hb152]; decide) (by rw [hb152]; rfl) rfl ?_
                                  refine ae_aload_n 3 dX4_run_336 rfl ?_
                                  refine ae_iload_n 1 dX4_run_337 rfl ?_
                                  obtain ⟨r135, s136, hc137, hF138⟩ := ae_bdI hF134
                                  refine ae_cV0 (q := (21, 0)) (As := [ae_i r17]) dX4_run_338 ww_979 vy_X4_combine rfl rfl rfl rfl rfl (Nat.le_of_ble_eq_true rfl) (c_X4_combine d hc137) ?_
                                  refine ae_pick (lv' := [(0, ae_r (some (21, 0))), (1, ae_i v1)]) [3, 4] rfl ?_
                                  exact t_X4_run_341 d (F_X4_run_27 n) ih v1 s136 hF138
                                · have hn153 : ¬ (r17).toInt = 8 := lv_neT hb152 (by decide)
                                  by_cases hb154 : r17 = (9 : Int32)
                                  · refine ae_tabIn 336 dX4_run_87 (by rw [hb154]; decide) (by rw [hb154]; decide) (by rw [hb154]; rfl) rfl ?_
                                    refine ae_aload_n 3 dX4_run_336 rfl ?_
                                    refine ae_iload_n 1 dX4_run_337 rfl ?_
                                    obtain ⟨r135, s136, hc137, hF138⟩ := ae_bdI hF134
                                    refine ae_cV0 (q := (21, 0)) (As := [ae_i r17]) dX4_run_338 ww_979 vy_X4_combine rfl rfl rfl rfl rfl (Nat.le_of_ble_eq_true rfl) (c_X4_combine d hc137) ?_
                                    refine ae_pick (lv' := [(0, ae_r (some (21, 0))), (1, ae_i v1)]) [3, 4] rfl ?_
                                    exact t_X4_run_341 d (F_X4_run_27 n) ih v1 s136 hF138
                                  · have hn155 : ¬ (r17).toInt = 9 := lv_neT hb154 (by decide)
                                    by_cases hb156 : r17 = (10 : Int32)
                                    · refine ae_tabIn 336 dX4_run_87 (by rw [hb156]; decide) (by rw [hb156]; decide) (by rw [hb156]; rfl) rfl ?_
                                      refine ae_aload_n 3 dX4_run_336 rfl ?_
                                      refine ae_iload_n 1 dX4_run_337 rfl ?_
                                      obtain ⟨r135, s136, hc137, hF138⟩ := ae_bdI hF134
                                      refine ae_cV0 (q := (21, 0)) (As := [ae_i r17]) dX4_run_338 ww_979 vy_X4_combine rfl rfl rfl rfl rfl (Nat.le_of_ble_eq_true rfl) (c_X4_combine d hc137) ?_
                                      refine ae_pick (lv' := [(0, ae_r (some (21, 0))), (1, ae_i v1)]) [3, 4] rfl ?_
                                      exact t_X4_run_341 d (F_X4_run_27 n) ih v1 s136 hF138
                                    · have hn157 : ¬ (r17).toInt = 10 := lv_neT hb156 (by decide)
                                      by_cases hb158 : r17 = (11 : Int32)
                                      · refine ae_tabIn 336 dX4_run_87 (by rw [hb158]; decide) (by rw [hb158]; decide) (by rw [hb158]; rfl) rfl ?_
                                        refine ae_aload_n 3 dX4_run_336 rfl ?_
                                        refine ae_iload_n 1 dX4_run_337 rfl ?_
                                        obtain ⟨r135, s136, hc137, hF138⟩ := ae_bdI hF134
                                        refine ae_cV0 (q := (21, 0)) (As := [ae_i r17]) dX4_run_338 ww_979 vy_X4_combine rfl rfl rfl rfl rfl (Nat.le_of_ble_eq_true rfl) (c_X4_combine d hc137) ?_
                                        refine ae_pick (lv' := [(0, ae_r (some (21, 0))), (1, ae_i v1)]) [3, 4] rfl ?_
                                        exact t_X4_run_341 d (F_X4_run_27 n) ih v1 s136 hF138
                                      · have hn159 : ¬ (r17).toInt = 11 := lv_neT hb158 (by decide)
                                        by_cases hb160 : r17 = (12 : Int32)
                                        · refine ae_tabIn 336 dX4_run_87 (by rw [hb160]; decide) (by rw [hb160]; decide) (by rw [hb160]; rfl) rfl ?_
                                          refine ae_aload_n 3 dX4_run_336 rfl ?_
                                          refine ae_iload_n 1 dX4_run_337 rfl ?_
                                          obtain ⟨r135, s136, hc137, hF138⟩ := ae_bdI hF134
                                          refine ae_cV0 (q := (21, 0)) (As := [ae_i r17]) dX4_run_338 ww_979 vy_X4_combine rfl rfl rfl rfl rfl (Nat.le_of_ble_eq_true rfl) (c_X4_combine d hc137) ?_
                                          refine ae_pick (lv' := [(0, ae_r (some (21, 0))), (1, ae_i v1)]) [3, 4] rfl ?_
                                          exact t_X4_run_341 d (F_X4_run_27 n) ih v1 s136 hF138
                                        · have hn161 : ¬ (r17).toInt = 12 := lv_neT hb160 (by decide)
                                          by_cases hb162 : r17 = (13 : Int32)
                                          · refine ae_tabIn 336 dX4_run_87 (by rw [hb162]; decide) (by rw [hb162]; decide) (by rw [hb162]; rfl) rfl ?_
                                            refine ae_aload_n 3 dX4_run_336 rfl ?_
                                            refine ae_iload_n 1 dX4_run_337 rfl ?_
                                            obtain ⟨r135, s136, hc137, hF138⟩ := ae_bdI hF134
                                            refine ae_cV0 (q := (21, 0)) (As := [ae_i r17]) dX4_run_338 ww_979 vy_X4_combine rfl rfl rfl rfl rfl (Nat.le_of_ble_eq_true rfl) (c_X4_combine d hc137) ?_
                                            refine ae_pick (lv' := [(0, ae_r (some (21, 0))), (1, ae_i v1)]) [3, 4] rfl ?_
                                            exact t_X4_run_341 d (F_X4_run_27 n) ih v1 s136 hF138
                                          · have hn163 : ¬ (r17).toInt = 13 := lv_neT hb162 (by decide)
                                            by_cases hb164 : r17 = (14 : Int32)
                                            · refine ae_tabIn 336 dX4_run_87 (by rw [hb164]; decide) (by rw [hb164]; decide) (by rw [hb164]; rfl) rfl ?_
                                              refine ae_aload_n 3 dX4_run_336 rfl ?_
                                              refine ae_iload_n 1 dX4_run_337 rfl ?_
                                              obtain ⟨r135, s136, hc137, hF138⟩ := ae_bdI hF134
                                              refine ae_cV0 (q := (21, 0)) (As := [ae_i r17]) dX4_run_338 ww_979 vy_X4_combine rfl rfl rfl rfl rfl (Nat.le_of_ble_eq_true rfl) (c_X4_combine d hc137) ?_
                                              refine ae_pick (lv' := [(0, ae_r (some (21, 0))), (1, ae_i v1)]) [3, 4] rfl ?_
                                              exact t_X4_run_341 d (F_X4_run_27 n) ih v1 s136 hF138
                                            · have hn165 : ¬ (r17).toInt = 14 := lv_neT hb164 (by decide)
                                              refine ae_tabOut 336 dX4_run_87 (by omega) rfl ?_
                                              refine ae_aload_n 3 dX4_run_336 rfl ?_
                                              refine ae_iload_n 1 dX4_run_337 rfl ?_
                                              obtain ⟨r135, s136, hc137, hF138⟩ := ae_bdI hF134
                                              refine ae_cV0 (q := (21, 0)) (As := [ae_i r17]) dX4_run_338 ww_979 vy_X4_combine rfl rfl rfl rfl rfl (Nat.le_of_ble_eq_true rfl) (c_X4_combine d hc137) ?_
                                              refine ae_pick (lv' := [(0, ae_r (some (21, 0))), (1, ae_i v1)]) [3, 4] rfl ?_
                                              exact t_X4_run_341 d (F_X4_run_27 n) ih v1 s136 hF138
def F_X4_run (s0 : ae_S) : Option (Int32 × ae_S) := ae_lt (ae_wI s0 21 0 9 (0 : Int32)) (fun s166 => ae_lt (ae_wI s166 21 0 10 (0 : Int32)) (fun s168 => ae_lt (ae_wI s168 21 0 11 (0 : Int32)) (fun s170 => ae_lt (ae_wI s170 21 0 12 (0 : Int32)) (fun s172 => ae_lt (ae_wI s172 21 0 13 (0 : Int32)) (fun s174 => F_X4_run_27 ae_fu (0 : Int32) s174)))))
set_option maxHeartbeats 4000000 in
set_option maxRecDepth 100000 in
theorem c_X4_run {l : Launch} {G : ae_G} (d : Nat) {s0 ss : ae_S} {rr : Int32} (hF : F_X4_run s0 = some (rr, ss)) : ae_Met l G (d + 7) yX4_run mX4_run [ae_r (some (21, 0))] s0 (ae_Po (some (ae_i rr)) ss) := by
  refine ae_enter (by decide) rfl (Nat.le_of_ble_eq_true rfl) ?_
  show ae_T l G (d + 7) mX4_run (ae_Po (some (ae_i rr)) ss) 0 [(0, ae_r (some (21, 0)))] [] s0
  unfold F_X4_run at hF
  refine ae_aload_n 0 dX4_run_0 rfl ?_
  refine ae_iconst (0 : Int32) dX4_run_1 (by decide) ?_
  obtain ⟨s166, hs166, hF167⟩ := ae_ltI hF
  refine ae_putI (q := (21, 0)) dX4_run_2 fl_RX4_50 rfl rfl (ae_nmS hs166 ?_)
  refine ae_aload_n 0 dX4_run_5 rfl ?_
  refine ae_iconst (0 : Int32) dX4_run_6 (by decide) ?_
  obtain ⟨s168, hs168, hF169⟩ := ae_ltI hF167
  refine ae_putI (q := (21, 0)) dX4_run_7 fl_RX4_53 rfl rfl (ae_nmS hs168 ?_)
  refine ae_aload_n 0 dX4_run_10 rfl ?_
  refine ae_iconst (0 : Int32) dX4_run_11 (by decide) ?_
  obtain ⟨s170, hs170, hF171⟩ := ae_ltI hF169
  refine ae_putI (q := (21, 0)) dX4_run_12 fl_RX4_56 rfl rfl (ae_nmS hs170 ?_)
  refine ae_aload_n 0 dX4_run_15 rfl ?_
  refine ae_iconst (0 : Int32) dX4_run_16 (by decide) ?_
  obtain ⟨s172, hs172, hF173⟩ := ae_ltI hF171
  refine ae_putI (q := (21, 0)) dX4_run_17 fl_RX4_59 rfl rfl (ae_nmS hs172 ?_)
  refine ae_aload_n 0 dX4_run_20 rfl ?_
  refine ae_iconst (0 : Int32) dX4_run_21 (by decide) ?_
  obtain ⟨s174, hs174, hF175⟩ := ae_ltI hF173
  refine ae_putI (q := (21, 0)) dX4_run_22 fl_RX4_46 rfl rfl (ae_nmS hs174 ?_)
  refine ae_iconst (0 : Int32) dX4_run_25 (by decide) ?_
  refine ae_istore_n (lv' := [(1, ae_i (0 : Int32)), (0, ae_r (some (21, 0)))]) dX4_run_26 (by decide) rfl ?_
  refine ae_pick (lv' := [(0, ae_r (some (21, 0))), (1, ae_i (0 : Int32))]) [1, 0] rfl ?_
  exact t_X4_run_27 d ae_fu (0 : Int32) s174 hF175
abbrev mX4_troubleCount : ae_M := (RX4, cX4_troubleCount, 1, some .int)
theorem vy_X4_troubleCount : ae_VY yX4_troubleCount mX4_troubleCount 0 := ⟨ww_1046, ww_1047, ww_12, ww_1048, ⟨by decide, by decide, by decide +kernel⟩, by decide⟩
theorem dX4_troubleCount_0 : decode cX4_troubleCount 0 = .ok (.aload_n 0, 1) := by decide +kernel
theorem dX4_troubleCount_1 : decode cX4_troubleCount 1 = .ok (.getfield 46, 3) := by decide +kernel
theorem dX4_troubleCount_4 : decode cX4_troubleCount 4 = .ok (.ireturn, 1) := by decide +kernel
def F_X4_troubleCount (s0 : ae_S) : Option (Int32 × ae_S) := some (s0.1 21 0 13, s0)
set_option maxHeartbeats 4000000 in
set_option maxRecDepth 100000 in
theorem c_X4_troubleCount {l : Launch} {G : ae_G} (d : Nat) {s0 ss : ae_S} {rr : Int32} (hF : F_X4_troubleCount s0 = some (rr, ss)) : ae_Met l G d yX4_troubleCount mX4_troubleCount [ae_r (some (21, 0))] s0 (ae_Po (some (ae_i rr)) ss) := by
  refine ae_enter (by decide) rfl (Nat.le_of_ble_eq_true rfl) ?_
  show ae_T l G d mX4_troubleCount (ae_Po (some (ae_i rr)) ss) 0 [(0, ae_r (some (21, 0)))] [] s0
  unfold F_X4_troubleCount at hF
  refine ae_aload_n 0 dX4_troubleCount_0 rfl ?_
  refine ae_getI (q := (21, 0)) dX4_troubleCount_1 fl_RX4_46 rfl rfl ?_
  obtain ⟨rfl, rfl⟩ := ae_retI hF
  exact ae_iret dX4_troubleCount_4 rfl rfl ⟨rfl, rfl⟩
abbrev mX4_troubleAt : ae_M := (RX4, cX4_troubleAt, 2, some .int)
theorem vy_X4_troubleAt : ae_VY yX4_troubleAt mX4_troubleAt 1 := ⟨ww_1050, ww_1051, ww_12, ww_1052, ⟨by decide, by decide, by decide +kernel⟩, by decide⟩
theorem dX4_troubleAt_0 : decode cX4_troubleAt 0 = .ok (.iload_n 1, 1) := by decide +kernel
theorem dX4_troubleAt_1 : decode cX4_troubleAt 1 = .ok (.ifCond .lt 26, 3) := by decide +kernel
theorem dX4_troubleAt_4 : decode cX4_troubleAt 4 = .ok (.iload_n 1, 1) := by decide +kernel
theorem dX4_troubleAt_5 : decode cX4_troubleAt 5 = .ok (.aload_n 0, 1) := by decide +kernel
theorem dX4_troubleAt_6 : decode cX4_troubleAt 6 = .ok (.getfield 46, 3) := by decide +kernel
theorem dX4_troubleAt_9 : decode cX4_troubleAt 9 = .ok (.if_icmp .ge 18, 3) := by decide +kernel
theorem dX4_troubleAt_12 : decode cX4_troubleAt 12 = .ok (.iload_n 1, 1) := by decide +kernel
theorem dX4_troubleAt_13 : decode cX4_troubleAt 13 = .ok (.bipush 20, 2) := by decide +kernel
theorem dX4_troubleAt_15 : decode cX4_troubleAt 15 = .ok (.if_icmp .ge 12, 3) := by decide +kernel
theorem dX4_troubleAt_18 : decode cX4_troubleAt 18 = .ok (.aload_n 0, 1) := by decide +kernel
theorem dX4_troubleAt_19 : decode cX4_troubleAt 19 = .ok (.getfield 43, 3) := by decide +kernel
theorem dX4_troubleAt_22 : decode cX4_troubleAt 22 = .ok (.iload_n 1, 1) := by decide +kernel
theorem dX4_troubleAt_23 : decode cX4_troubleAt 23 = .ok (.iaload, 1) := by decide +kernel
theorem dX4_troubleAt_24 : decode cX4_troubleAt 24 = .ok (.goto 4, 3) := by decide +kernel
theorem dX4_troubleAt_27 : decode cX4_troubleAt 27 = .ok (.iconst (-1), 1) := by decide +kernel
theorem dX4_troubleAt_28 : decode cX4_troubleAt 28 = .ok (.ireturn, 1) := by decide +kernel
def F_X4_troubleAt_28 (t0 : Int32) (s0 : ae_S) : Option (Int32 × ae_S) := some (t0, s0)
set_option maxHeartbeats 4000000 in
set_option maxRecDepth 100000 in
theorem t_X4_troubleAt_28 {l : Launch} {G : ae_G} (d : Nat) {rr : Int32} {ss : ae_S} (t0 : Int32) (s0 : ae_S) (hF : F_X4_troubleAt_28 t0 s0 = some (rr, ss)) : ae_T l G d mX4_troubleAt (ae_Po (some (ae_i rr)) ss) 28 [] [ae_i t0] s0 := by
  unfold F_X4_troubleAt_28 at hF
  obtain ⟨rfl, rfl⟩ := ae_retI hF
  exact ae_iret dX4_troubleAt_28 rfl rfl ⟨rfl, rfl⟩
def F_X4_troubleAt_27 (s0 : ae_S) : Option (Int32 × ae_S) := F_X4_troubleAt_28 (-1 : Int32) s0
set_option maxHeartbeats 4000000 in
set_option maxRecDepth 100000 in
theorem t_X4_troubleAt_27 {l : Launch} {G : ae_G} (d : Nat) {rr : Int32} {ss : ae_S} (s0 : ae_S) (hF : F_X4_troubleAt_27 s0 = some (rr, ss)) : ae_T l G d mX4_troubleAt (ae_Po (some (ae_i rr)) ss) 27 [] [] s0 := by
  unfold F_X4_troubleAt_27 at hF
  refine ae_iconst (-1 : Int32) dX4_troubleAt_27 (by decide) ?_
  refine ae_pick (lv' := []) [] rfl ?_
  exact t_X4_troubleAt_28 d (-1 : Int32) s0 hF
def F_X4_troubleAt (v1 : Int32) (s0 : ae_S) : Option (Int32 × ae_S) := if v1 < 0 then (F_X4_troubleAt_27 s0) else (if (s0.1 21 0 13) ≤ v1 then (F_X4_troubleAt_27 s0) else (if (20 : Int32) ≤ v1 then (F_X4_troubleAt_27 s0) else (ae_gd (ae_ib v1 20) (F_X4_troubleAt_28 (s0.1 26 0 v1.toNatClampNeg) s0))))
set_option maxHeartbeats 4000000 in
set_option maxRecDepth 100000 in
theorem c_X4_troubleAt {l : Launch} {G : ae_G} (d : Nat) {v1 : Int32} {s0 ss : ae_S} {rr : Int32} (hF : F_X4_troubleAt v1 s0 = some (rr, ss)) : ae_Met l G d yX4_troubleAt mX4_troubleAt [ae_r (some (21, 0)), ae_i v1] s0 (ae_Po (some (ae_i rr)) ss) := by
  refine ae_enter (by decide) rfl (Nat.le_of_ble_eq_true rfl) ?_
  show ae_T l G d mX4_troubleAt (ae_Po (some (ae_i rr)) ss) 0 [(0, ae_r (some (21, 0))), (1, ae_i v1)] [] s0
  unfold F_X4_troubleAt at hF
  refine ae_iload_n 1 dX4_troubleAt_0 rfl ?_
  refine ae_if_lt 27 dX4_troubleAt_1 rfl (fun hb1 => ?_) (fun hb1 => ?_)
  · have hF2 := ae_ifT hb1 hF
    refine ae_pick (lv' := []) [] rfl ?_
    exact t_X4_troubleAt_27 d s0 hF2
  · have hF2 := ae_ifF hb1 hF
    refine ae_iload_n 1 dX4_troubleAt_4 rfl ?_
    refine ae_aload_n 0 dX4_troubleAt_5 rfl ?_
    refine ae_getI (q := (21, 0)) dX4_troubleAt_6 fl_RX4_46 rfl rfl ?_
    refine ae_icmp_ge 27 dX4_troubleAt_9 rfl (fun hb3 => ?_) (fun hb3 => ?_)
    · have hF4 := ae_ifT hb3 hF2
      refine ae_pick (lv' := []) [] rfl ?_
      exact t_X4_troubleAt_27 d s0 hF4
    · have hF4 := ae_ifF hb3 hF2
      refine ae_iload_n 1 dX4_troubleAt_12 rfl ?_
      refine ae_bipush (20 : Int32) dX4_troubleAt_13 (by decide) ?_
      refine ae_icmp_ge 27 dX4_troubleAt_15 rfl (fun hb5 => ?_) (fun hb5 => ?_)
      · have hF6 := ae_ifT hb5 hF4
        refine ae_pick (lv' := []) [] rfl ?_
        exact t_X4_troubleAt_27 d s0 hF6
      · have hF6 := ae_ifF hb5 hF4
        refine ae_aload_n 0 dX4_troubleAt_18 rfl ?_
        refine ae_getA (q := (21, 0)) (some (26, 0)) dX4_troubleAt_19 fl_RX4_43 rfl rfl rfl ?_
        refine ae_iload_n 1 dX4_troubleAt_22 rfl ?_
        obtain ⟨hg7, hF8⟩ := ae_gdI hF6
        refine ae_iald (q := (26, 0)) dX4_troubleAt_23 rfl rfl (ae_ibI hg7) ?_
        refine ae_goto 28 dX4_troubleAt_24 rfl ?_
        refine ae_pick (lv' := []) [] rfl ?_
        exact t_X4_troubleAt_28 d (s0.1 26 0 v1.toNatClampNeg) s0 hF8
