/-! methods as functions: X12_trouble X12_view X12_isOn X12_isSeen X12_seen X12_isUnder X12_over X12_here X12_copy -/
abbrev mX12_trouble : ae_M := (RX12, cX12_trouble, 2, some .int)
theorem vy_X12_trouble : ae_VY yX12_trouble mX12_trouble 1 := ⟨ww_1821, ww_1822, ww_13, ww_1823, ⟨by decide, by decide, by decide +kernel⟩, by decide⟩
theorem dX12_trouble_0 : decode cX12_trouble 0 = .ok (.iload_n 1, 1) := by decide +kernel
theorem dX12_trouble_1 : decode cX12_trouble 1 = .ok (.iconst (-1), 1) := by decide +kernel
theorem dX12_trouble_2 : decode cX12_trouble 2 = .ok (.if_icmp .ne 8, 3) := by decide +kernel
theorem dX12_trouble_5 : decode cX12_trouble 5 = .ok (.aload_n 0, 1) := by decide +kernel
theorem dX12_trouble_6 : decode cX12_trouble 6 = .ok (.getfield 405, 3) := by decide +kernel
theorem dX12_trouble_9 : decode cX12_trouble 9 = .ok (.ireturn, 1) := by decide +kernel
theorem dX12_trouble_10 : decode cX12_trouble 10 = .ok (.iload_n 1, 1) := by decide +kernel
theorem dX12_trouble_11 : decode cX12_trouble 11 = .ok (.i2l, 1) := by decide +kernel
theorem dX12_trouble_12 : decode cX12_trouble 12 = .ok (.lconst 0, 1) := by decide +kernel
theorem dX12_trouble_13 : decode cX12_trouble 13 = .ok (.aload_n 0, 1) := by decide +kernel
theorem dX12_trouble_14 : decode cX12_trouble 14 = .ok (.getfield 405, 3) := by decide +kernel
theorem dX12_trouble_17 : decode cX12_trouble 17 = .ok (.bipush 20, 2) := by decide +kernel
theorem dX12_trouble_19 : decode cX12_trouble 19 = .ok (.invokestatic 465, 3) := by decide +kernel
theorem dX12_trouble_22 : decode cX12_trouble 22 = .ok (.iconst 1, 1) := by decide +kernel
theorem dX12_trouble_23 : decode cX12_trouble 23 = .ok (.isub, 1) := by decide +kernel
theorem dX12_trouble_24 : decode cX12_trouble 24 = .ok (.i2l, 1) := by decide +kernel
theorem dX12_trouble_25 : decode cX12_trouble 25 = .ok (.invokestatic 105, 3) := by decide +kernel
theorem dX12_trouble_28 : decode cX12_trouble 28 = .ok (.ifCond .eq 12, 3) := by decide +kernel
theorem dX12_trouble_31 : decode cX12_trouble 31 = .ok (.aload_n 0, 1) := by decide +kernel
theorem dX12_trouble_32 : decode cX12_trouble 32 = .ok (.getfield 85, 3) := by decide +kernel
theorem dX12_trouble_35 : decode cX12_trouble 35 = .ok (.iload_n 1, 1) := by decide +kernel
theorem dX12_trouble_36 : decode cX12_trouble 36 = .ok (.iaload, 1) := by decide +kernel
theorem dX12_trouble_37 : decode cX12_trouble 37 = .ok (.goto 4, 3) := by decide +kernel
theorem dX12_trouble_40 : decode cX12_trouble 40 = .ok (.iconst (-1), 1) := by decide +kernel
theorem dX12_trouble_41 : decode cX12_trouble 41 = .ok (.ireturn, 1) := by decide +kernel
def F_X12_trouble_41 (t0 : Int32) (s0 : ae_S) : Option (Int32 × ae_S) := some (t0, s0)
set_option maxHeartbeats 4000000 in
set_option maxRecDepth 100000 in
theorem t_X12_trouble_41 {l : Launch} {G : ae_G} (d : Nat) {rr : Int32} {ss : ae_S} (t0 : Int32) (s0 : ae_S) (hF : F_X12_trouble_41 t0 s0 = some (rr, ss)) : ae_T l G (d + 1) mX12_trouble (ae_Po (some (ae_i rr)) ss) 41 [] [ae_i t0] s0 := by
  unfold F_X12_trouble_41 at hF
  obtain ⟨rfl, rfl⟩ := ae_retI hF
  exact ae_iret dX12_trouble_41 rfl rfl ⟨rfl, rfl⟩
def F_X12_trouble (v1 : Int32) (s0 : ae_S) : Option (Int32 × ae_S) := if v1 = (-1 : Int32) then (some (s0.1 30 0 41, s0)) else (ae_bd (F_X12_isIn v1.toInt64 (0 : Int64) (((if (20 : Int32) < (s0.1 30 0 41) then (20 : Int32) else (s0.1 30 0 41)) - (1 : Int32)).toInt64) s0) (fun (r3 : Int32) s4 => if r3 = 0 then (F_X12_trouble_41 (-1 : Int32) s4) else (ae_gd (ae_ib v1 20) (F_X12_trouble_41 (s4.1 53 0 v1.toNatClampNeg) s4))))
set_option maxHeartbeats 4000000 in
set_option maxRecDepth 100000 in
theorem c_X12_trouble {l : Launch} {G : ae_G} (d : Nat) {v1 : Int32} {s0 ss : ae_S} {rr : Int32} (hF : F_X12_trouble v1 s0 = some (rr, ss)) : ae_Met l G (d + 1) yX12_trouble mX12_trouble [ae_r (some (30, 0)), ae_i v1] s0 (ae_Po (some (ae_i rr)) ss) := by
  refine ae_enter (by decide) rfl (Nat.le_of_ble_eq_true rfl) ?_
  show ae_T l G (d + 1) mX12_trouble (ae_Po (some (ae_i rr)) ss) 0 [(0, ae_r (some (30, 0))), (1, ae_i v1)] [] s0
  unfold F_X12_trouble at hF
  refine ae_iload_n 1 dX12_trouble_0 rfl ?_
  refine ae_iconst (-1 : Int32) dX12_trouble_1 (by decide) ?_
  refine ae_icmp_ne 10 dX12_trouble_2 rfl (fun hb1 => ?_) (fun hb1 => ?_)
  · have hF2 := ae_ifF hb1 hF
    refine ae_iload_n 1 dX12_trouble_10 rfl ?_
    refine ae_i2l dX12_trouble_11 ?_
    refine ae_lconst (0 : Int64) dX12_trouble_12 (by decide) ?_
    refine ae_aload_n 0 dX12_trouble_13 rfl ?_
    refine ae_getI (q := (30, 0)) dX12_trouble_14 fl_RX12_405 rfl rfl ?_
    refine ae_bipush (20 : Int32) dX12_trouble_17 (by decide) ?_
    refine ae_mmin dX12_trouble_19 ww_1824 ww_1147 ww_21 ww_1148 (Nat.le_of_ble_eq_true rfl) ?_
    refine ae_iconst (1 : Int32) dX12_trouble_22 (by decide) ?_
    refine ae_isub dX12_trouble_23 ?_
    refine ae_i2l dX12_trouble_24 ?_
    obtain ⟨r3, s4, hc5, hF6⟩ := ae_bdI hF2
    refine ae_cS1 (As := [ae_l v1.toInt64, ae_l (0 : Int64), ae_l (((if (20 : Int32) < (s0.1 30 0 41) then (20 : Int32) else (s0.1 30 0 41)) - (1 : Int32)).toInt64)]) dX12_trouble_25 ww_1461 vy_X12_isIn rfl rfl (Nat.le_of_ble_eq_true rfl) (c_X12_isIn d hc5) ?_
    refine ae_if_eq 40 dX12_trouble_28 rfl (fun hb7 => ?_) (fun hb7 => ?_)
    · have hF8 := ae_ifT hb7 hF6
      refine ae_iconst (-1 : Int32) dX12_trouble_40 (by decide) ?_
      refine ae_pick (lv' := []) [] rfl ?_
      exact t_X12_trouble_41 d (-1 : Int32) s4 hF8
    · have hF8 := ae_ifF hb7 hF6
      refine ae_aload_n 0 dX12_trouble_31 rfl ?_
      refine ae_getA (q := (30, 0)) (some (53, 0)) dX12_trouble_32 fl_RX12_85 rfl rfl rfl ?_
      refine ae_iload_n 1 dX12_trouble_35 rfl ?_
      obtain ⟨hg9, hF10⟩ := ae_gdI hF8
      refine ae_iald (q := (53, 0)) dX12_trouble_36 rfl rfl (ae_ibI hg9) ?_
      refine ae_goto 41 dX12_trouble_37 rfl ?_
      refine ae_pick (lv' := []) [] rfl ?_
      exact t_X12_trouble_41 d (s4.1 53 0 v1.toNatClampNeg) s4 hF10
  · have hF2 := ae_ifT hb1 hF
    refine ae_aload_n 0 dX12_trouble_5 rfl ?_
    refine ae_getI (q := (30, 0)) dX12_trouble_6 fl_RX12_405 rfl rfl ?_
    obtain ⟨rfl, rfl⟩ := ae_retI hF2
    exact ae_iret dX12_trouble_9 rfl rfl ⟨rfl, rfl⟩
abbrev mX12_view : ae_M := (RX12, cX12_view, 3, some .int)
theorem vy_X12_view : ae_VY yX12_view mX12_view 2 := ⟨ww_1826, ww_1827, ww_13, ww_1828, ⟨by decide, by decide, by decide +kernel⟩, by decide⟩
theorem dX12_view_0 : decode cX12_view 0 = .ok (.aload_n 0, 1) := by decide +kernel
theorem dX12_view_1 : decode cX12_view 1 = .ok (.iload_n 1, 1) := by decide +kernel
theorem dX12_view_2 : decode cX12_view 2 = .ok (.invokevirtual 122, 3) := by decide +kernel
theorem dX12_view_5 : decode cX12_view 5 = .ok (.ifCond .ne 5, 3) := by decide +kernel
theorem dX12_view_8 : decode cX12_view 8 = .ok (.iconst (-1), 1) := by decide +kernel
theorem dX12_view_9 : decode cX12_view 9 = .ok (.ireturn, 1) := by decide +kernel
theorem dX12_view_10 : decode cX12_view 10 = .ok (.iload_n 2, 1) := by decide +kernel
theorem dX12_view_11 : decode cX12_view 11 = .ok (.tableswitch 90 0 6 #[41, 48, 55, 62, 69, 76, 83], 41) := by decide +kernel
theorem dX12_view_52 : decode cX12_view 52 = .ok (.aload_n 0, 1) := by decide +kernel
theorem dX12_view_53 : decode cX12_view 53 = .ok (.getfield 29, 3) := by decide +kernel
theorem dX12_view_56 : decode cX12_view 56 = .ok (.iload_n 1, 1) := by decide +kernel
theorem dX12_view_57 : decode cX12_view 57 = .ok (.iaload, 1) := by decide +kernel
theorem dX12_view_58 : decode cX12_view 58 = .ok (.ireturn, 1) := by decide +kernel
theorem dX12_view_59 : decode cX12_view 59 = .ok (.aload_n 0, 1) := by decide +kernel
theorem dX12_view_60 : decode cX12_view 60 = .ok (.getfield 32, 3) := by decide +kernel
theorem dX12_view_63 : decode cX12_view 63 = .ok (.iload_n 1, 1) := by decide +kernel
theorem dX12_view_64 : decode cX12_view 64 = .ok (.iaload, 1) := by decide +kernel
theorem dX12_view_65 : decode cX12_view 65 = .ok (.ireturn, 1) := by decide +kernel
theorem dX12_view_66 : decode cX12_view 66 = .ok (.aload_n 0, 1) := by decide +kernel
theorem dX12_view_67 : decode cX12_view 67 = .ok (.getfield 35, 3) := by decide +kernel
theorem dX12_view_70 : decode cX12_view 70 = .ok (.iload_n 1, 1) := by decide +kernel
theorem dX12_view_71 : decode cX12_view 71 = .ok (.iaload, 1) := by decide +kernel
theorem dX12_view_72 : decode cX12_view 72 = .ok (.ireturn, 1) := by decide +kernel
theorem dX12_view_73 : decode cX12_view 73 = .ok (.aload_n 0, 1) := by decide +kernel
theorem dX12_view_74 : decode cX12_view 74 = .ok (.getfield 38, 3) := by decide +kernel
theorem dX12_view_77 : decode cX12_view 77 = .ok (.iload_n 1, 1) := by decide +kernel
theorem dX12_view_78 : decode cX12_view 78 = .ok (.iaload, 1) := by decide +kernel
theorem dX12_view_79 : decode cX12_view 79 = .ok (.ireturn, 1) := by decide +kernel
theorem dX12_view_80 : decode cX12_view 80 = .ok (.aload_n 0, 1) := by decide +kernel
theorem dX12_view_81 : decode cX12_view 81 = .ok (.getfield 41, 3) := by decide +kernel
theorem dX12_view_84 : decode cX12_view 84 = .ok (.iload_n 1, 1) := by decide +kernel
theorem dX12_view_85 : decode cX12_view 85 = .ok (.iaload, 1) := by decide +kernel
theorem dX12_view_86 : decode cX12_view 86 = .ok (.ireturn, 1) := by decide +kernel
theorem dX12_view_87 : decode cX12_view 87 = .ok (.aload_n 0, 1) := by decide +kernel
theorem dX12_view_88 : decode cX12_view 88 = .ok (.getfield 44, 3) := by decide +kernel
theorem dX12_view_91 : decode cX12_view 91 = .ok (.iload_n 1, 1) := by decide +kernel
theorem dX12_view_92 : decode cX12_view 92 = .ok (.iaload, 1) := by decide +kernel
theorem dX12_view_93 : decode cX12_view 93 = .ok (.ireturn, 1) := by decide +kernel
theorem dX12_view_94 : decode cX12_view 94 = .ok (.aload_n 0, 1) := by decide +kernel
theorem dX12_view_95 : decode cX12_view 95 = .ok (.getfield 47, 3) := by decide +kernel
theorem dX12_view_98 : decode cX12_view 98 = .ok (.iload_n 1, 1) := by decide +kernel
theorem dX12_view_99 : decode cX12_view 99 = .ok (.iaload, 1) := by decide +kernel
theorem dX12_view_100 : decode cX12_view 100 = .ok (.ireturn, 1) := by decide +kernel
theorem dX12_view_101 : decode cX12_view 101 = .ok (.iconst (-1), 1) := by decide +kernel
theorem dX12_view_102 : decode cX12_view 102 = .ok (.ireturn, 1) := by decide +kernel
def F_X12_view (v1 : Int32) (v2 : Int32) (s0 : ae_S) : Option (Int32 × ae_S) := ae_bd (F_X12_isView v1 s0) (fun (r1 : Int32) s2 => if r1 = 0 then (some ((-1 : Int32), s2)) else (if v2 = (0 : Int32) then (ae_gd (ae_ib v1 32) (some (s2.1 36 0 v1.toNatClampNeg, s2))) else (if v2 = (1 : Int32) then (ae_gd (ae_ib v1 32) (some (s2.1 37 0 v1.toNatClampNeg, s2))) else (if v2 = (2 : Int32) then (ae_gd (ae_ib v1 32) (some (s2.1 38 0 v1.toNatClampNeg, s2))) else (if v2 = (3 : Int32) then (ae_gd (ae_ib v1 32) (some (s2.1 39 0 v1.toNatClampNeg, s2))) else (if v2 = (4 : Int32) then (ae_gd (ae_ib v1 32) (some (s2.1 40 0 v1.toNatClampNeg, s2))) else (if v2 = (5 : Int32) then (ae_gd (ae_ib v1 32) (some (s2.1 41 0 v1.toNatClampNeg, s2))) else (if v2 = (6 : Int32) then (ae_gd (ae_ib v1 32) (some (s2.1 42 0 v1.toNatClampNeg, s2))) else (some ((-1 : Int32), s2))))))))))
set_option maxHeartbeats 4000000 in
set_option maxRecDepth 100000 in
theorem c_X12_view {l : Launch} {G : ae_G} (d : Nat) {v1 : Int32} {v2 : Int32} {s0 ss : ae_S} {rr : Int32} (hF : F_X12_view v1 v2 s0 = some (rr, ss)) : ae_Met l G (d + 2) yX12_view mX12_view [ae_r (some (30, 0)), ae_i v1, ae_i v2] s0 (ae_Po (some (ae_i rr)) ss) := by
  refine ae_enter (by decide) rfl (Nat.le_of_ble_eq_true rfl) ?_
  show ae_T l G (d + 2) mX12_view (ae_Po (some (ae_i rr)) ss) 0 [(0, ae_r (some (30, 0))), (1, ae_i v1), (2, ae_i v2)] [] s0
  unfold F_X12_view at hF
  refine ae_aload_n 0 dX12_view_0 rfl ?_
  refine ae_iload_n 1 dX12_view_1 rfl ?_
  obtain ⟨r1, s2, hc3, hF4⟩ := ae_bdI hF
  refine ae_cV1 (q := (30, 0)) (As := [ae_i v1]) dX12_view_2 ww_1635 vy_X12_isView rfl rfl rfl rfl rfl (Nat.le_of_ble_eq_true rfl) (c_X12_isView d hc3) ?_
  refine ae_if_ne 10 dX12_view_5 rfl (fun hb5 => ?_) (fun hb5 => ?_)
  · have hF6 := ae_ifF hb5 hF4
    refine ae_iload_n 2 dX12_view_10 rfl ?_
    by_cases hb7 : v2 = (0 : Int32)
    · have hF8 := ae_ifT hb7 hF6
      refine ae_tabIn 52 dX12_view_11 (by rw [hb7]; decide) (by rw [hb7]; decide) (by rw [hb7]; rfl) rfl ?_
      refine ae_aload_n 0 dX12_view_52 rfl ?_
      refine ae_getA (q := (30, 0)) (some (36, 0)) dX12_view_53 fl_RX12_29 rfl rfl rfl ?_
      refine ae_iload_n 1 dX12_view_56 rfl ?_
      obtain ⟨hg9, hF10⟩ := ae_gdI hF8
      refine ae_iald (q := (36, 0)) dX12_view_57 rfl rfl (ae_ibI hg9) ?_
      obtain ⟨rfl, rfl⟩ := ae_retI hF10
      exact ae_iret dX12_view_58 rfl rfl ⟨rfl, rfl⟩
    · have hF11 := ae_ifF hb7 hF6
      by_cases hb12 : v2 = (1 : Int32)
      · have hF13 := ae_ifT hb12 hF11
        refine ae_tabIn 59 dX12_view_11 (by rw [hb12]; decide) (by rw [hb12]; decide) (by rw [hb12]; rfl) rfl ?_
        refine ae_aload_n 0 dX12_view_59 rfl ?_
        refine ae_getA (q := (30, 0)) (some (37, 0)) dX12_view_60 fl_RX12_32 rfl rfl rfl ?_
        refine ae_iload_n 1 dX12_view_63 rfl ?_
        obtain ⟨hg14, hF15⟩ := ae_gdI hF13
        refine ae_iald (q := (37, 0)) dX12_view_64 rfl rfl (ae_ibI hg14) ?_
        obtain ⟨rfl, rfl⟩ := ae_retI hF15
        exact ae_iret dX12_view_65 rfl rfl ⟨rfl, rfl⟩
      · have hF16 := ae_ifF hb12 hF11
        by_cases hb17 : v2 = (2 : Int32)
        · have hF18 := ae_ifT hb17 hF16
          refine ae_tabIn 66 dX12_view_11 (by rw [hb17]; decide) (by rw [hb17]; decide) (by rw [hb17]; rfl) rfl ?_
          refine ae_aload_n 0 dX12_view_66 rfl ?_
          refine ae_getA (q := (30, 0)) (some (38, 0)) dX12_view_67 fl_RX12_35 rfl rfl rfl ?_
          refine ae_iload_n 1 dX12_view_70 rfl ?_
          obtain ⟨hg19, hF20⟩ := ae_gdI hF18
          refine ae_iald (q := (38, 0)) dX12_view_71 rfl rfl (ae_ibI hg19) ?_
          obtain ⟨rfl, rfl⟩ := ae_retI hF20
          exact ae_iret dX12_view_72 rfl rfl ⟨rfl, rfl⟩
        · have hF21 := ae_ifF hb17 hF16
          by_cases hb22 : v2 = (3 : Int32)
          · have hF23 := ae_ifT hb22 hF21
            refine ae_tabIn 73 dX12_view_11 (by rw [hb22]; decide) (by rw [hb22]; decide) (by rw [hb22]; rfl) rfl ?_
            refine ae_aload_n 0 dX12_view_73 rfl ?_
            refine ae_getA (q := (30, 0)) (some (39, 0)) dX12_view_74 fl_RX12_38 rfl rfl rfl ?_
            refine ae_iload_n 1 dX12_view_77 rfl ?_
            obtain ⟨hg24, hF25⟩ := ae_gdI hF23
            refine ae_iald (q := (39, 0)) dX12_view_78 rfl rfl (ae_ibI hg24) ?_
            obtain ⟨rfl, rfl⟩ := ae_retI hF25
            exact ae_iret dX12_view_79 rfl rfl ⟨rfl, rfl⟩
          · have hF26 := ae_ifF hb22 hF21
            by_cases hb27 : v2 = (4 : Int32)
            · have hF28 := ae_ifT hb27 hF26
              refine ae_tabIn 80 dX12_view_11 (by rw [hb27]; decide) (by rw [hb27]; decide) (by rw [hb27]; rfl) rfl ?_
              refine ae_aload_n 0 dX12_view_80 rfl ?_
              refine ae_getA (q := (30, 0)) (some (40, 0)) dX12_view_81 fl_RX12_41 rfl rfl rfl ?_
              refine ae_iload_n 1 dX12_view_84 rfl ?_
              obtain ⟨hg29, hF30⟩ := ae_gdI hF28
              refine ae_iald (q := (40, 0)) dX12_view_85 rfl rfl (ae_ibI hg29) ?_
              obtain ⟨rfl, rfl⟩ := ae_retI hF30
              exact ae_iret dX12_view_86 rfl rfl ⟨rfl, rfl⟩
            · have hF31 := ae_ifF hb27 hF26
              by_cases hb32 : v2 = (5 : Int32)
              · have hF33 := ae_ifT hb32 hF31
                refine ae_tabIn 87 dX12_view_11 (by rw [hb32]; decide) (by rw [hb32]; decide) (by rw [hb32]; rfl) rfl ?_
                refine ae_aload_n 0 dX12_view_87 rfl ?_
                refine ae_getA (q := (30, 0)) (some (41, 0)) dX12_view_88 fl_RX12_44 rfl rfl rfl ?_
                refine ae_iload_n 1 dX12_view_91 rfl ?_
                obtain ⟨hg34, hF35⟩ := ae_gdI hF33
                refine ae_iald (q := (41, 0)) dX12_view_92 rfl rfl (ae_ibI hg34) ?_
                obtain ⟨rfl, rfl⟩ := ae_retI hF35
                exact ae_iret dX12_view_93 rfl rfl ⟨rfl, rfl⟩
              · have hF36 := ae_ifF hb32 hF31
                by_cases hb37 : v2 = (6 : Int32)
                · have hF38 := ae_ifT hb37 hF36
                  refine ae_tabIn 94 dX12_view_11 (by rw [hb37]; decide) (by rw [hb37]; decide) (by rw [hb37]; rfl) rfl ?_
                  refine ae_aload_n 0 dX12_view_94 rfl ?_
                  refine ae_getA (q := (30, 0)) (some (42, 0)) dX12_view_95 fl_RX12_47 rfl rfl rfl ?_
                  refine ae_iload_n 1 dX12_view_98 rfl ?_
                  obtain ⟨hg39, hF40⟩ := ae_gdI hF38
                  refine ae_iald (q := (42, 0)) dX12_view_99 rfl rfl (ae_ibI hg39) ?_
                  obtain ⟨rfl, rfl⟩ := ae_retI hF40
                  exact ae_iret dX12_view_100 rfl rfl ⟨rfl, rfl⟩
                · have hF41 := ae_ifF hb37 hF36
                  have hn42 : ¬ (v2).toInt = 0 := lv_neT hb7 (by decide)
                  have hn43 : ¬ (v2).toInt = 1 := lv_neT hb12 (by decide)
                  have hn44 : ¬ (v2).toInt = 2 := lv_neT hb17 (by decide)
                  have hn45 : ¬ (v2).toInt = 3 := lv_neT hb22 (by decide)
                  have hn46 : ¬ (v2).toInt = 4 := lv_neT hb27 (by decide)
                  have hn47 : ¬ (v2).toInt = 5 := lv_neT hb32 (by decide)
                  have hn48 : ¬ (v2).toInt = 6 := lv_neT hb37 (by decide)
                  refine ae_tabOut 101 dX12_view_11 (by omega) rfl ?_
                  refine ae_iconst (-1 : Int32) dX12_view_101 (by decide) ?_
                  obtain ⟨rfl, rfl⟩ := ae_retI hF41
                  exact ae_iret dX12_view_102 rfl rfl ⟨rfl, rfl⟩
  · have hF6 := ae_ifT hb5 hF4
    refine ae_iconst (-1 : Int32) dX12_view_8 (by decide) ?_
    obtain ⟨rfl, rfl⟩ := ae_retI hF6
    exact ae_iret dX12_view_9 rfl rfl ⟨rfl, rfl⟩
abbrev mX12_isOn : ae_M := (RX12, cX12_isOn, 5, some .boolean)
theorem vy_X12_isOn : ae_VY yX12_isOn mX12_isOn 3 := ⟨ww_1839, wq_109, ww_13, ww_1840, ⟨by decide, by decide, by decide +kernel⟩, by decide⟩
theorem dX12_isOn_0 : decode cX12_isOn 0 = .ok (.aload_n 0, 1) := by decide +kernel
theorem dX12_isOn_1 : decode cX12_isOn 1 = .ok (.getfield 35, 3) := by decide +kernel
theorem dX12_isOn_4 : decode cX12_isOn 4 = .ok (.iload_n 1, 1) := by decide +kernel
theorem dX12_isOn_5 : decode cX12_isOn 5 = .ok (.iaload, 1) := by decide +kernel
theorem dX12_isOn_6 : decode cX12_isOn 6 = .ok (.aload_n 0, 1) := by decide +kernel
theorem dX12_isOn_7 : decode cX12_isOn 7 = .ok (.getfield 41, 3) := by decide +kernel
theorem dX12_isOn_10 : decode cX12_isOn 10 = .ok (.iload_n 1, 1) := by decide +kernel
theorem dX12_isOn_11 : decode cX12_isOn 11 = .ok (.iaload, 1) := by decide +kernel
theorem dX12_isOn_12 : decode cX12_isOn 12 = .ok (.iload_n 2, 1) := by decide +kernel
theorem dX12_isOn_13 : decode cX12_isOn 13 = .ok (.imul, 1) := by decide +kernel
theorem dX12_isOn_14 : decode cX12_isOn 14 = .ok (.iadd, 1) := by decide +kernel
theorem dX12_isOn_15 : decode cX12_isOn 15 = .ok (.istore 4, 2) := by decide +kernel
theorem dX12_isOn_17 : decode cX12_isOn 17 = .ok (.iload_n 3, 1) := by decide +kernel
theorem dX12_isOn_18 : decode cX12_isOn 18 = .ok (.i2l, 1) := by decide +kernel
theorem dX12_isOn_19 : decode cX12_isOn 19 = .ok (.iload 4, 2) := by decide +kernel
theorem dX12_isOn_21 : decode cX12_isOn 21 = .ok (.i2l, 1) := by decide +kernel
theorem dX12_isOn_22 : decode cX12_isOn 22 = .ok (.iload 4, 2) := by decide +kernel
theorem dX12_isOn_24 : decode cX12_isOn 24 = .ok (.aload_n 0, 1) := by decide +kernel
theorem dX12_isOn_25 : decode cX12_isOn 25 = .ok (.getfield 29, 3) := by decide +kernel
theorem dX12_isOn_28 : decode cX12_isOn 28 = .ok (.iload_n 1, 1) := by decide +kernel
theorem dX12_isOn_29 : decode cX12_isOn 29 = .ok (.iaload, 1) := by decide +kernel
theorem dX12_isOn_30 : decode cX12_isOn 30 = .ok (.invokestatic 267, 3) := by decide +kernel
theorem dX12_isOn_33 : decode cX12_isOn 33 = .ok (.iadd, 1) := by decide +kernel
theorem dX12_isOn_34 : decode cX12_isOn 34 = .ok (.iconst 1, 1) := by decide +kernel
theorem dX12_isOn_35 : decode cX12_isOn 35 = .ok (.isub, 1) := by decide +kernel
theorem dX12_isOn_36 : decode cX12_isOn 36 = .ok (.i2l, 1) := by decide +kernel
theorem dX12_isOn_37 : decode cX12_isOn 37 = .ok (.invokestatic 105, 3) := by decide +kernel
theorem dX12_isOn_40 : decode cX12_isOn 40 = .ok (.ireturn, 1) := by decide +kernel
def F_X12_isOn (v1 : Int32) (v2 : Int32) (v3 : Int32) (s0 : ae_S) : Option (Int32 × ae_S) := ae_gd (ae_ib v1 32) (ae_gd (ae_ib v1 32) (ae_lt ((s0.1 38 0 v1.toNatClampNeg) + ((s0.1 40 0 v1.toNatClampNeg) * v2)) (fun x5 => ae_gd (ae_ib v1 32) (ae_bd (F_X12_bytesOf (s0.1 36 0 v1.toNatClampNeg) s0) (fun (r9 : Int32) s10 => ae_bd (F_X12_isIn v3.toInt64 x5.toInt64 (((x5 + r9) - (1 : Int32)).toInt64) s10) (fun (r13 : Int32) s14 => ae_gd (ae_zz r13) (some (r13, s14))))))))
set_option maxHeartbeats 4000000 in
set_option maxRecDepth 100000 in
theorem c_X12_isOn {l : Launch} {G : ae_G} (d : Nat) {v1 : Int32} {v2 : Int32} {v3 : Int32} {s0 ss : ae_S} {rr : Int32} (hF : F_X12_isOn v1 v2 v3 s0 = some (rr, ss)) : ae_Met l G (d + 1) yX12_isOn mX12_isOn [ae_r (some (30, 0)), ae_i v1, ae_i v2, ae_i v3] s0 (ae_Po (some (ae_i rr)) ss) := by
  refine ae_enter (by decide) rfl (Nat.le_of_ble_eq_true rfl) ?_
  show ae_T l G (d + 1) mX12_isOn (ae_Po (some (ae_i rr)) ss) 0 [(0, ae_r (some (30, 0))), (1, ae_i v1), (2, ae_i v2), (3, ae_i v3)] [] s0
  unfold F_X12_isOn at hF
  refine ae_aload_n 0 dX12_isOn_0 rfl ?_
  refine ae_getA (q := (30, 0)) (some (38, 0)) dX12_isOn_1 fl_RX12_35 rfl rfl rfl ?_
  refine ae_iload_n 1 dX12_isOn_4 rfl ?_
  obtain ⟨hg1, hF2⟩ := ae_gdI hF
  refine ae_iald (q := (38, 0)) dX12_isOn_5 rfl rfl (ae_ibI hg1) ?_
  refine ae_aload_n 0 dX12_isOn_6 rfl ?_
  refine ae_getA (q := (30, 0)) (some (40, 0)) dX12_isOn_7 fl_RX12_41 rfl rfl rfl ?_
  refine ae_iload_n 1 dX12_isOn_10 rfl ?_
  obtain ⟨hg3, hF4⟩ := ae_gdI hF2
  refine ae_iald (q := (40, 0)) dX12_isOn_11 rfl rfl (ae_ibI hg3) ?_
  refine ae_iload_n 2 dX12_isOn_12 rfl ?_
  refine ae_imul dX12_isOn_13 ?_
  refine ae_iadd dX12_isOn_14 ?_
  obtain ⟨x5, hx5, hF6⟩ := ae_ltI hF4
  refine ae_nmI hx5 ?_
  refine ae_istore (lv' := [(4, ae_i x5), (0, ae_r (some (30, 0))), (1, ae_i v1), (2, ae_i v2), (3, ae_i v3)]) dX12_isOn_15 (by decide) rfl ?_
  refine ae_iload_n 4 dX12_isOn_17 rfl ?_
  refine ae_i2l dX12_isOn_18 ?_
  refine ae_iload 0 dX12_isOn_19 rfl ?_
  refine ae_i2l dX12_isOn_21 ?_
  refine ae_iload 0 dX12_isOn_22 rfl ?_
  refine ae_aload_n 1 dX12_isOn_24 rfl ?_
  refine ae_getA (q := (30, 0)) (some (36, 0)) dX12_isOn_25 fl_RX12_29 rfl rfl rfl ?_
  refine ae_iload_n 2 dX12_isOn_28 rfl ?_
  obtain ⟨hg7, hF8⟩ := ae_gdI hF6
  refine ae_iald (q := (36, 0)) dX12_isOn_29 rfl rfl (ae_ibI hg7) ?_
  obtain ⟨r9, s10, hc11, hF12⟩ := ae_bdI hF8
  refine ae_cS1 (As := [ae_i (s0.1 36 0 v1.toNatClampNeg)]) dX12_isOn_30 ww_1590 vy_X12_bytesOf rfl rfl (Nat.le_of_ble_eq_true rfl) (c_X12_bytesOf d hc11) ?_
  refine ae_iadd dX12_isOn_33 ?_
  refine ae_iconst (1 : Int32) dX12_isOn_34 (by decide) ?_
  refine ae_isub dX12_isOn_35 ?_
  refine ae_i2l dX12_isOn_36 ?_
  obtain ⟨r13, s14, hc15, hF16⟩ := ae_bdI hF12
  refine ae_cS1 (As := [ae_l v3.toInt64, ae_l x5.toInt64, ae_l (((x5 + r9) - (1 : Int32)).toInt64)]) dX12_isOn_37 ww_1461 vy_X12_isIn rfl rfl (Nat.le_of_ble_eq_true rfl) (c_X12_isIn d hc15) ?_
  obtain ⟨hg17, hF18⟩ := ae_gdI hF16
  obtain ⟨rfl, rfl⟩ := ae_retI hF18
  exact ae_iret dX12_isOn_40 rfl (ae_zzN (ae_zzI hg17)) ⟨rfl, rfl⟩
abbrev mX12_isSeen : ae_M := (RX12, cX12_isSeen, 4, some .boolean)
theorem vy_X12_isSeen : ae_VY yX12_isSeen mX12_isSeen 2 := ⟨ww_1835, wq_108, ww_13, ww_1836, ⟨by decide, by decide, by decide +kernel⟩, by decide⟩
theorem dX12_isSeen_0 : decode cX12_isSeen 0 = .ok (.iconst 0, 1) := by decide +kernel
theorem dX12_isSeen_1 : decode cX12_isSeen 1 = .ok (.istore_n 3, 1) := by decide +kernel
theorem dX12_isSeen_2 : decode cX12_isSeen 2 = .ok (.iload_n 3, 1) := by decide +kernel
theorem dX12_isSeen_3 : decode cX12_isSeen 3 = .ok (.aload_n 0, 1) := by decide +kernel
theorem dX12_isSeen_4 : decode cX12_isSeen 4 = .ok (.getfield 100, 3) := by decide +kernel
theorem dX12_isSeen_7 : decode cX12_isSeen 7 = .ok (.if_icmp .ge 30, 3) := by decide +kernel
theorem dX12_isSeen_10 : decode cX12_isSeen 10 = .ok (.aload_n 0, 1) := by decide +kernel
theorem dX12_isSeen_11 : decode cX12_isSeen 11 = .ok (.getfield 18, 3) := by decide +kernel
theorem dX12_isSeen_14 : decode cX12_isSeen 14 = .ok (.iload_n 3, 1) := by decide +kernel
theorem dX12_isSeen_15 : decode cX12_isSeen 15 = .ok (.baload, 1) := by decide +kernel
theorem dX12_isSeen_16 : decode cX12_isSeen 16 = .ok (.ifCond .eq 15, 3) := by decide +kernel
theorem dX12_isSeen_19 : decode cX12_isSeen 19 = .ok (.aload_n 0, 1) := by decide +kernel
theorem dX12_isSeen_20 : decode cX12_isSeen 20 = .ok (.iload_n 1, 1) := by decide +kernel
theorem dX12_isSeen_21 : decode cX12_isSeen 21 = .ok (.iload_n 2, 1) := by decide +kernel
theorem dX12_isSeen_22 : decode cX12_isSeen 22 = .ok (.iload_n 3, 1) := by decide +kernel
theorem dX12_isSeen_23 : decode cX12_isSeen 23 = .ok (.invokevirtual 471, 3) := by decide +kernel
theorem dX12_isSeen_26 : decode cX12_isSeen 26 = .ok (.ifCond .eq 5, 3) := by decide +kernel
theorem dX12_isSeen_29 : decode cX12_isSeen 29 = .ok (.iconst 1, 1) := by decide +kernel
theorem dX12_isSeen_30 : decode cX12_isSeen 30 = .ok (.ireturn, 1) := by decide +kernel
theorem dX12_isSeen_31 : decode cX12_isSeen 31 = .ok (.iinc 3 1, 3) := by decide +kernel
theorem dX12_isSeen_34 : decode cX12_isSeen 34 = .ok (.goto (-32), 3) := by decide +kernel
theorem dX12_isSeen_37 : decode cX12_isSeen 37 = .ok (.iconst 0, 1) := by decide +kernel
theorem dX12_isSeen_38 : decode cX12_isSeen 38 = .ok (.ireturn, 1) := by decide +kernel
def F_X12_isSeen_31 (k2 : Int32 → Int32 → Int32 → ae_S → Option (Int32 × ae_S)) (v1 : Int32) (v2 : Int32) (v3 : Int32) (s0 : ae_S) : Option (Int32 × ae_S) := ae_lt (v3 + (1 : Int32)) (fun x1 => k2 v1 v2 x1 s0)
set_option maxHeartbeats 4000000 in
set_option maxRecDepth 100000 in
theorem t_X12_isSeen_31 {l : Launch} {G : ae_G} (d : Nat) (k2 : Int32 → Int32 → Int32 → ae_S → Option (Int32 × ae_S)) {rr : Int32} {ss : ae_S} (hk2 : ∀ (v1 : Int32) (v2 : Int32) (v3 : Int32) (s0 : ae_S), k2 v1 v2 v3 s0 = some (rr, ss) → ae_T l G (d + 2) mX12_isSeen (ae_Po (some (ae_i rr)) ss) 2 [(0, ae_r (some (30, 0))), (1, ae_i v1), (2, ae_i v2), (3, ae_i v3)] [] s0) (v1 : Int32) (v2 : Int32) (v3 : Int32) (s0 : ae_S) (hF : F_X12_isSeen_31 k2 v1 v2 v3 s0 = some (rr, ss)) : ae_T l G (d + 2) mX12_isSeen (ae_Po (some (ae_i rr)) ss) 31 [(0, ae_r (some (30, 0))), (1, ae_i v1), (2, ae_i v2), (3, ae_i v3)] [] s0 := by
  unfold F_X12_isSeen_31 at hF
  obtain ⟨x1, hx1, hF2⟩ := ae_ltI hF
  refine ae_iinc (lv' := [(3, ae_i x1), (0, ae_r (some (30, 0))), (1, ae_i v1), (2, ae_i v2)]) 3 (1 : Int32) dX12_isSeen_31 rfl (by decide) (by decide) (by rw [hx1]; rfl) ?_
  refine ae_goto 2 dX12_isSeen_34 rfl ?_
  refine ae_pick (lv' := [(0, ae_r (some (30, 0))), (1, ae_i v1), (2, ae_i v2), (3, ae_i x1)]) [1, 2, 3, 0] rfl ?_
  exact hk2 v1 v2 x1 s0 hF2
def F_X12_isSeen_2 : Nat → Int32 → Int32 → Int32 → ae_S → Option (Int32 × ae_S)
  | 0, _, _, _, _ => none
  | n + 1, v1, v2, v3, s0 => if (s0.1 30 0 0) ≤ v3 then (some ((0 : Int32), s0)) else (ae_gd (ae_ib v3 256) (if (s0.1 33 0 v3.toNatClampNeg) = 0 then (F_X12_isSeen_31 (F_X12_isSeen_2 n) v1 v2 v3 s0) else (ae_bd (F_X12_isOn v1 v2 v3 s0) (fun (r9 : Int32) s10 => if r9 = 0 then (F_X12_isSeen_31 (F_X12_isSeen_2 n) v1 v2 v3 s10) else (some ((1 : Int32), s10))))))
set_option maxHeartbeats 4000000 in
set_option maxRecDepth 100000 in
theorem t_X12_isSeen_2 {l : Launch} {G : ae_G} (d : Nat) {rr : Int32} {ss : ae_S} : ∀ (n : Nat) (v1 : Int32) (v2 : Int32) (v3 : Int32) (s0 : ae_S), F_X12_isSeen_2 n v1 v2 v3 s0 = some (rr, ss) → ae_T l G (d + 2) mX12_isSeen (ae_Po (some (ae_i rr)) ss) 2 [(0, ae_r (some (30, 0))), (1, ae_i v1), (2, ae_i v2), (3, ae_i v3)] [] s0 := by
  intro n
  induction n with
  | zero =>
    intro v1 v2 v3 s0 hF
    exact absurd (show (none : Option (Int32 × ae_S)) = some (rr, ss) from hF) (by simp)
  | succ n ih =>
    intro v1 v2 v3 s0 hF
    unfold F_X12_isSeen_2 at hF
    refine ae_iload_n 3 dX12_isSeen_2 rfl ?_
    refine ae_aload_n 0 dX12_isSeen_3 rfl ?_
    refine ae_getI (q := (30, 0)) dX12_isSeen_4 fl_RX12_100 rfl rfl ?_
    refine ae_icmp_ge 37 dX12_isSeen_7 rfl (fun hb3 => ?_) (fun hb3 => ?_)
    · have hF4 := ae_ifT hb3 hF
      refine ae_iconst (0 : Int32) dX12_isSeen_37 (by decide) ?_
      obtain ⟨rfl, rfl⟩ := ae_retI hF4
      exact ae_iret dX12_isSeen_38 rfl (by decide) ⟨rfl, rfl⟩
    · have hF4 := ae_ifF hb3 hF
      refine ae_aload_n 0 dX12_isSeen_10 rfl ?_
      refine ae_getA (q := (30, 0)) (some (33, 0)) dX12_isSeen_11 fl_RX12_18 rfl rfl rfl ?_
      refine ae_iload_n 3 dX12_isSeen_14 rfl ?_
      obtain ⟨hg5, hF6⟩ := ae_gdI hF4
      refine ae_zald (q := (33, 0)) dX12_isSeen_15 rfl rfl (ae_ibI hg5) ?_
      refine ae_if_eq 31 dX12_isSeen_16 rfl (fun hb7 => ?_) (fun hb7 => ?_)
      · have hF8 := ae_ifT hb7 hF6
        refine ae_pick (lv' := [(0, ae_r (some (30, 0))), (1, ae_i v1), (2, ae_i v2), (3, ae_i v3)]) [0, 1, 2, 3] rfl ?_
        exact t_X12_isSeen_31 d (F_X12_isSeen_2 n) ih v1 v2 v3 s0 hF8
      · have hF8 := ae_ifF hb7 hF6
        refine ae_aload_n 0 dX12_isSeen_19 rfl ?_
        refine ae_iload_n 1 dX12_isSeen_20 rfl ?_
        refine ae_iload_n 2 dX12_isSeen_21 rfl ?_
        refine ae_iload_n 3 dX12_isSeen_22 rfl ?_
        obtain ⟨r9, s10, hc11, hF12⟩ := ae_bdI hF8
        refine ae_cV1 (q := (30, 0)) (As := [ae_i v1, ae_i v2, ae_i v3]) dX12_isSeen_23 ww_1837 vy_X12_isOn rfl rfl rfl rfl rfl (Nat.le_of_ble_eq_true rfl) (c_X12_isOn d hc11) ?_
        refine ae_if_eq 31 dX12_isSeen_26 rfl (fun hb13 => ?_) (fun hb13 => ?_)
        · have hF14 := ae_ifT hb13 hF12
          refine ae_pick (lv' := [(0, ae_r (some (30, 0))), (1, ae_i v1), (2, ae_i v2), (3, ae_i v3)]) [0, 1, 2, 3] rfl ?_
          exact t_X12_isSeen_31 d (F_X12_isSeen_2 n) ih v1 v2 v3 s10 hF14
        · have hF14 := ae_ifF hb13 hF12
          refine ae_iconst (1 : Int32) dX12_isSeen_29 (by decide) ?_
          obtain ⟨rfl, rfl⟩ := ae_retI hF14
          exact ae_iret dX12_isSeen_30 rfl (by decide) ⟨rfl, rfl⟩
def F_X12_isSeen (v1 : Int32) (v2 : Int32) (s0 : ae_S) : Option (Int32 × ae_S) := F_X12_isSeen_2 ae_fu v1 v2 (0 : Int32) s0
set_option maxHeartbeats 4000000 in
set_option maxRecDepth 100000 in
theorem c_X12_isSeen {l : Launch} {G : ae_G} (d : Nat) {v1 : Int32} {v2 : Int32} {s0 ss : ae_S} {rr : Int32} (hF : F_X12_isSeen v1 v2 s0 = some (rr, ss)) : ae_Met l G (d + 2) yX12_isSeen mX12_isSeen [ae_r (some (30, 0)), ae_i v1, ae_i v2] s0 (ae_Po (some (ae_i rr)) ss) := by
  refine ae_enter (by decide) rfl (Nat.le_of_ble_eq_true rfl) ?_
  show ae_T l G (d + 2) mX12_isSeen (ae_Po (some (ae_i rr)) ss) 0 [(0, ae_r (some (30, 0))), (1, ae_i v1), (2, ae_i v2)] [] s0
  unfold F_X12_isSeen at hF
  refine ae_iconst (0 : Int32) dX12_isSeen_0 (by decide) ?_
  refine ae_istore_n (lv' := [(3, ae_i (0 : Int32)), (0, ae_r (some (30, 0))), (1, ae_i v1), (2, ae_i v2)]) dX12_isSeen_1 (by decide) rfl ?_
  refine ae_pick (lv' := [(0, ae_r (some (30, 0))), (1, ae_i v1), (2, ae_i v2), (3, ae_i (0 : Int32))]) [1, 2, 3, 0] rfl ?_
  exact t_X12_isSeen_2 d ae_fu v1 v2 (0 : Int32) s0 hF
abbrev mX12_seen : ae_M := (RX12, cX12_seen, 5, some .int)
theorem vy_X12_seen : ae_VY yX12_seen mX12_seen 2 := ⟨ww_1830, ww_1831, ww_13, ww_1832, ⟨by decide, by decide, by decide +kernel⟩, by decide⟩
theorem dX12_seen_0 : decode cX12_seen 0 = .ok (.aload_n 0, 1) := by decide +kernel
theorem dX12_seen_1 : decode cX12_seen 1 = .ok (.iload_n 1, 1) := by decide +kernel
theorem dX12_seen_2 : decode cX12_seen 2 = .ok (.invokevirtual 122, 3) := by decide +kernel
theorem dX12_seen_5 : decode cX12_seen 5 = .ok (.ifCond .ne 5, 3) := by decide +kernel
theorem dX12_seen_8 : decode cX12_seen 8 = .ok (.iconst (-1), 1) := by decide +kernel
theorem dX12_seen_9 : decode cX12_seen 9 = .ok (.ireturn, 1) := by decide +kernel
theorem dX12_seen_10 : decode cX12_seen 10 = .ok (.iconst 0, 1) := by decide +kernel
theorem dX12_seen_11 : decode cX12_seen 11 = .ok (.istore_n 3, 1) := by decide +kernel
theorem dX12_seen_12 : decode cX12_seen 12 = .ok (.iconst 0, 1) := by decide +kernel
theorem dX12_seen_13 : decode cX12_seen 13 = .ok (.istore 4, 2) := by decide +kernel
theorem dX12_seen_15 : decode cX12_seen 15 = .ok (.iload 4, 2) := by decide +kernel
theorem dX12_seen_17 : decode cX12_seen 17 = .ok (.aload_n 0, 1) := by decide +kernel
theorem dX12_seen_18 : decode cX12_seen 18 = .ok (.getfield 38, 3) := by decide +kernel
theorem dX12_seen_21 : decode cX12_seen 21 = .ok (.iload_n 1, 1) := by decide +kernel
theorem dX12_seen_22 : decode cX12_seen 22 = .ok (.iaload, 1) := by decide +kernel
theorem dX12_seen_23 : decode cX12_seen 23 = .ok (.if_icmp .ge 33, 3) := by decide +kernel
theorem dX12_seen_26 : decode cX12_seen 26 = .ok (.aload_n 0, 1) := by decide +kernel
theorem dX12_seen_27 : decode cX12_seen 27 = .ok (.iload_n 1, 1) := by decide +kernel
theorem dX12_seen_28 : decode cX12_seen 28 = .ok (.iload 4, 2) := by decide +kernel
theorem dX12_seen_30 : decode cX12_seen 30 = .ok (.invokevirtual 475, 3) := by decide +kernel
theorem dX12_seen_33 : decode cX12_seen 33 = .ok (.ifCond .ne 6, 3) := by decide +kernel
theorem dX12_seen_36 : decode cX12_seen 36 = .ok (.goto 14, 3) := by decide +kernel
theorem dX12_seen_39 : decode cX12_seen 39 = .ok (.iload_n 3, 1) := by decide +kernel
theorem dX12_seen_40 : decode cX12_seen 40 = .ok (.iload_n 2, 1) := by decide +kernel
theorem dX12_seen_41 : decode cX12_seen 41 = .ok (.if_icmp .ne 6, 3) := by decide +kernel
theorem dX12_seen_44 : decode cX12_seen 44 = .ok (.iload 4, 2) := by decide +kernel
theorem dX12_seen_46 : decode cX12_seen 46 = .ok (.ireturn, 1) := by decide +kernel
theorem dX12_seen_47 : decode cX12_seen 47 = .ok (.iinc 3 1, 3) := by decide +kernel
theorem dX12_seen_50 : decode cX12_seen 50 = .ok (.iinc 4 1, 3) := by decide +kernel
theorem dX12_seen_53 : decode cX12_seen 53 = .ok (.goto (-38), 3) := by decide +kernel
theorem dX12_seen_56 : decode cX12_seen 56 = .ok (.iload_n 2, 1) := by decide +kernel
theorem dX12_seen_57 : decode cX12_seen 57 = .ok (.iconst (-1), 1) := by decide +kernel
theorem dX12_seen_58 : decode cX12_seen 58 = .ok (.if_icmp .ne 7, 3) := by decide +kernel
theorem dX12_seen_61 : decode cX12_seen 61 = .ok (.iload_n 3, 1) := by decide +kernel
theorem dX12_seen_62 : decode cX12_seen 62 = .ok (.goto 4, 3) := by decide +kernel
theorem dX12_seen_65 : decode cX12_seen 65 = .ok (.iconst (-1), 1) := by decide +kernel
theorem dX12_seen_66 : decode cX12_seen 66 = .ok (.ireturn, 1) := by decide +kernel
def F_X12_seen_66 (t0 : Int32) (s0 : ae_S) : Option (Int32 × ae_S) := some (t0, s0)
set_option maxHeartbeats 4000000 in
set_option maxRecDepth 100000 in
theorem t_X12_seen_66 {l : Launch} {G : ae_G} (d : Nat) {rr : Int32} {ss : ae_S} (t0 : Int32) (s0 : ae_S) (hF : F_X12_seen_66 t0 s0 = some (rr, ss)) : ae_T l G (d + 3) mX12_seen (ae_Po (some (ae_i rr)) ss) 66 [] [ae_i t0] s0 := by
  unfold F_X12_seen_66 at hF
  obtain ⟨rfl, rfl⟩ := ae_retI hF
  exact ae_iret dX12_seen_66 rfl rfl ⟨rfl, rfl⟩
def F_X12_seen_50 (k15 : Int32 → Int32 → Int32 → Int32 → ae_S → Option (Int32 × ae_S)) (v1 : Int32) (v2 : Int32) (v3 : Int32) (v4 : Int32) (s0 : ae_S) : Option (Int32 × ae_S) := ae_lt (v4 + (1 : Int32)) (fun x1 => k15 v1 v2 v3 x1 s0)
set_option maxHeartbeats 4000000 in
set_option maxRecDepth 100000 in
theorem t_X12_seen_50 {l : Launch} {G : ae_G} (d : Nat) (k15 : Int32 → Int32 → Int32 → Int32 → ae_S → Option (Int32 × ae_S)) {rr : Int32} {ss : ae_S} (hk15 : ∀ (v1 : Int32) (v2 : Int32) (v3 : Int32) (v4 : Int32) (s0 : ae_S), k15 v1 v2 v3 v4 s0 = some (rr, ss) → ae_T l G (d + 3) mX12_seen (ae_Po (some (ae_i rr)) ss) 15 [(0, ae_r (some (30, 0))), (1, ae_i v1), (2, ae_i v2), (3, ae_i v3), (4, ae_i v4)] [] s0) (v1 : Int32) (v2 : Int32) (v3 : Int32) (v4 : Int32) (s0 : ae_S) (hF : F_X12_seen_50 k15 v1 v2 v3 v4 s0 = some (rr, ss)) : ae_T l G (d + 3) mX12_seen (ae_Po (some (ae_i rr)) ss) 50 [(0, ae_r (some (30, 0))), (1, ae_i v1), (2, ae_i v2), (3, ae_i v3), (4, ae_i v4)] [] s0 := by
  unfold F_X12_seen_50 at hF
  obtain ⟨x1, hx1, hF2⟩ := ae_ltI hF
  refine ae_iinc (lv' := [(4, ae_i x1), (0, ae_r (some (30, 0))), (1, ae_i v1), (2, ae_i v2), (3, ae_i v3)]) 4 (1 : Int32) dX12_seen_50 rfl (by decide) (by decide) (by rw [hx1]; rfl) ?_
  refine ae_goto 15 dX12_seen_53 rfl ?_
  refine ae_pick (lv' := [(0, ae_r (some (30, 0))), (1, ae_i v1), (2, ae_i v2), (3, ae_i v3), (4, ae_i x1)]) [1, 2, 3, 4, 0] rfl ?_
  exact hk15 v1 v2 v3 x1 s0 hF2
def F_X12_seen_15 : Nat → Int32 → Int32 → Int32 → Int32 → ae_S → Option (Int32 × ae_S)
  | 0, _, _, _, _, _ => none
  | n + 1, v1, v2, v3, v4, s0 => ae_gd (ae_ib v1 32) (if (s0.1 39 0 v1.toNatClampNeg) ≤ v4 then (if v2 = (-1 : Int32) then (F_X12_seen_66 v3 s0) else (F_X12_seen_66 (-1 : Int32) s0)) else (ae_bd (F_X12_isSeen v1 v4 s0) (fun (r9 : Int32) s10 => if r9 = 0 then (F_X12_seen_50 (F_X12_seen_15 n) v1 v2 v3 v4 s10) else (if v3 = v2 then (some (v4, s10)) else (ae_lt (v3 + (1 : Int32)) (fun x17 => F_X12_seen_50 (F_X12_seen_15 n) v1 v2 x17 v4 s10))))))
set_option maxHeartbeats 4000000 in
set_option maxRecDepth 100000 in
theorem t_X12_seen_15 {l : Launch} {G : ae_G} (d : Nat) {rr : Int32} {ss : ae_S} : ∀ (n : Nat) (v1 : Int32) (v2 : Int32) (v3 : Int32) (v4 : Int32) (s0 : ae_S), F_X12_seen_15 n v1 v2 v3 v4 s0 = some (rr, ss) → ae_T l G (d + 3) mX12_seen (ae_Po (some (ae_i rr)) ss) 15 [(0, ae_r (some (30, 0))), (1, ae_i v1), (2, ae_i v2), (3, ae_i v3), (4, ae_i v4)] [] s0 := by
  intro n
  induction n with
  | zero =>
    intro v1 v2 v3 v4 s0 hF
    exact absurd (show (none : Option (Int32 × ae_S)) = some (rr, ss) from hF) (by simp)
  | succ n ih =>
    intro v1 v2 v3 v4 s0 hF
    unfold F_X12_seen_15 at hF
    refine ae_iload 4 dX12_seen_15 rfl ?_
    refine ae_aload_n 0 dX12_seen_17 rfl ?_
    refine ae_getA (q := (30, 0)) (some (39, 0)) dX12_seen_18 fl_RX12_38 rfl rfl rfl ?_
    refine ae_iload_n 1 dX12_seen_21 rfl ?_
    obtain ⟨hg3, hF4⟩ := ae_gdI hF
    refine ae_iald (q := (39, 0)) dX12_seen_22 rfl rfl (ae_ibI hg3) ?_
    refine ae_icmp_ge 56 dX12_seen_23 rfl (fun hb5 => ?_) (fun hb5 => ?_)
    · have hF6 := ae_ifT hb5 hF4
      refine ae_iload_n 2 dX12_seen_56 rfl ?_
      refine ae_iconst (-1 : Int32) dX12_seen_57 (by decide) ?_
      refine ae_icmp_ne 65 dX12_seen_58 rfl (fun hb7 => ?_) (fun hb7 => ?_)
      · have hF8 := ae_ifF hb7 hF6
        refine ae_iconst (-1 : Int32) dX12_seen_65 (by decide) ?_
        refine ae_pick (lv' := []) [] rfl ?_
        exact t_X12_seen_66 d (-1 : Int32) s0 hF8
      · have hF8 := ae_ifT hb7 hF6
        refine ae_iload_n 3 dX12_seen_61 rfl ?_
        refine ae_goto 66 dX12_seen_62 rfl ?_
        refine ae_pick (lv' := []) [] rfl ?_
        exact t_X12_seen_66 d v3 s0 hF8
    · have hF6 := ae_ifF hb5 hF4
      refine ae_aload_n 0 dX12_seen_26 rfl ?_
      refine ae_iload_n 1 dX12_seen_27 rfl ?_
      refine ae_iload 4 dX12_seen_28 rfl ?_
      obtain ⟨r9, s10, hc11, hF12⟩ := ae_bdI hF6
      refine ae_cV1 (q := (30, 0)) (As := [ae_i v1, ae_i v4]) dX12_seen_30 ww_1833 vy_X12_isSeen rfl rfl rfl rfl rfl (Nat.le_of_ble_eq_true rfl) (c_X12_isSeen d hc11) ?_
      refine ae_if_ne 39 dX12_seen_33 rfl (fun hb13 => ?_) (fun hb13 => ?_)
      · have hF14 := ae_ifF hb13 hF12
        refine ae_iload_n 3 dX12_seen_39 rfl ?_
        refine ae_iload_n 2 dX12_seen_40 rfl ?_
        refine ae_icmp_ne 47 dX12_seen_41 rfl (fun hb15 => ?_) (fun hb15 => ?_)
        · have hF16 := ae_ifF hb15 hF14
          obtain ⟨x17, hx17, hF18⟩ := ae_ltI hF16
          refine ae_iinc (lv' := [(3, ae_i x17), (0, ae_r (some (30, 0))), (1, ae_i v1), (2, ae_i v2), (4, ae_i v4)]) 3 (1 : Int32) dX12_seen_47 rfl (by decide) (by decide) (by rw [hx17]; rfl) ?_
          refine ae_pick (lv' := [(0, ae_r (some (30, 0))), (1, ae_i v1), (2, ae_i v2), (3, ae_i x17), (4, ae_i v4)]) [1, 2, 3, 0, 4] rfl ?_
          exact t_X12_seen_50 d (F_X12_seen_15 n) ih v1 v2 x17 v4 s10 hF18
        · have hF16 := ae_ifT hb15 hF14
          refine ae_iload 4 dX12_seen_44 rfl ?_
          obtain ⟨rfl, rfl⟩ := ae_retI hF16
          exact ae_iret dX12_seen_46 rfl rfl ⟨rfl, rfl⟩
      · have hF14 := ae_ifT hb13 hF12
        refine ae_goto 50 dX12_seen_36 rfl ?_
        refine ae_pick (lv' := [(0, ae_r (some (30, 0))), (1, ae_i v1), (2, ae_i v2), (3, ae_i v3), (4, ae_i v4)]) [0, 1, 2, 3, 4] rfl ?_
        exact t_X12_seen_50 d (F_X12_seen_15 n) ih v1 v2 v3 v4 s10 hF14
def F_X12_seen (v1 : Int32) (v2 : Int32) (s0 : ae_S) : Option (Int32 × ae_S) := ae_bd (F_X12_isView v1 s0) (fun (r19 : Int32) s20 => if r19 = 0 then (some ((-1 : Int32), s20)) else (F_X12_seen_15 ae_fu v1 v2 (0 : Int32) (0 : Int32) s20))
set_option maxHeartbeats 4000000 in
set_option maxRecDepth 100000 in
theorem c_X12_seen {l : Launch} {G : ae_G} (d : Nat) {v1 : Int32} {v2 : Int32} {s0 ss : ae_S} {rr : Int32} (hF : F_X12_seen v1 v2 s0 = some (rr, ss)) : ae_Met l G (d + 3) yX12_seen mX12_seen [ae_r (some (30, 0)), ae_i v1, ae_i v2] s0 (ae_Po (some (ae_i rr)) ss) := by
  refine ae_enter (by decide) rfl (Nat.le_of_ble_eq_true rfl) ?_
  show ae_T l G (d + 3) mX12_seen (ae_Po (some (ae_i rr)) ss) 0 [(0, ae_r (some (30, 0))), (1, ae_i v1), (2, ae_i v2)] [] s0
  unfold F_X12_seen at hF
  refine ae_aload_n 0 dX12_seen_0 rfl ?_
  refine ae_iload_n 1 dX12_seen_1 rfl ?_
  obtain ⟨r19, s20, hc21, hF22⟩ := ae_bdI hF
  refine ae_cV1 (q := (30, 0)) (As := [ae_i v1]) dX12_seen_2 ww_1635 vy_X12_isView rfl rfl rfl rfl rfl (Nat.le_of_ble_eq_true rfl) (c_X12_isView (d + 1) hc21) ?_
  refine ae_if_ne 10 dX12_seen_5 rfl (fun hb23 => ?_) (fun hb23 => ?_)
  · have hF24 := ae_ifF hb23 hF22
    refine ae_iconst (0 : Int32) dX12_seen_10 (by decide) ?_
    refine ae_istore_n (lv' := [(3, ae_i (0 : Int32)), (0, ae_r (some (30, 0))), (1, ae_i v1), (2, ae_i v2)]) dX12_seen_11 (by decide) rfl ?_
    refine ae_iconst (0 : Int32) dX12_seen_12 (by decide) ?_
    refine ae_istore (lv' := [(4, ae_i (0 : Int32)), (3, ae_i (0 : Int32)), (0, ae_r (some (30, 0))), (1, ae_i v1), (2, ae_i v2)]) dX12_seen_13 (by decide) rfl ?_
    refine ae_pick (lv' := [(0, ae_r (some (30, 0))), (1, ae_i v1), (2, ae_i v2), (3, ae_i (0 : Int32)), (4, ae_i (0 : Int32))]) [2, 3, 4, 1, 0] rfl ?_
    exact t_X12_seen_15 d ae_fu v1 v2 (0 : Int32) (0 : Int32) s20 hF24
  · have hF24 := ae_ifT hb23 hF22
    refine ae_iconst (-1 : Int32) dX12_seen_8 (by decide) ?_
    obtain ⟨rfl, rfl⟩ := ae_retI hF24
    exact ae_iret dX12_seen_9 rfl rfl ⟨rfl, rfl⟩
abbrev mX12_isUnder : ae_M := (RX12, cX12_isUnder, 4, some .boolean)
theorem vy_X12_isUnder : ae_VY yX12_isUnder mX12_isUnder 2 := ⟨ww_1847, wq_110, ww_13, ww_1848, ⟨by decide, by decide, by decide +kernel⟩, by decide⟩
theorem dX12_isUnder_0 : decode cX12_isUnder 0 = .ok (.iconst 0, 1) := by decide +kernel
theorem dX12_isUnder_1 : decode cX12_isUnder 1 = .ok (.istore_n 3, 1) := by decide +kernel
theorem dX12_isUnder_2 : decode cX12_isUnder 2 = .ok (.iload_n 3, 1) := by decide +kernel
theorem dX12_isUnder_3 : decode cX12_isUnder 3 = .ok (.aload_n 0, 1) := by decide +kernel
theorem dX12_isUnder_4 : decode cX12_isUnder 4 = .ok (.getfield 38, 3) := by decide +kernel
theorem dX12_isUnder_7 : decode cX12_isUnder 7 = .ok (.iload_n 1, 1) := by decide +kernel
theorem dX12_isUnder_8 : decode cX12_isUnder 8 = .ok (.iaload, 1) := by decide +kernel
theorem dX12_isUnder_9 : decode cX12_isUnder 9 = .ok (.if_icmp .ge 21, 3) := by decide +kernel
theorem dX12_isUnder_12 : decode cX12_isUnder 12 = .ok (.aload_n 0, 1) := by decide +kernel
theorem dX12_isUnder_13 : decode cX12_isUnder 13 = .ok (.iload_n 1, 1) := by decide +kernel
theorem dX12_isUnder_14 : decode cX12_isUnder 14 = .ok (.iload_n 3, 1) := by decide +kernel
theorem dX12_isUnder_15 : decode cX12_isUnder 15 = .ok (.iload_n 2, 1) := by decide +kernel
theorem dX12_isUnder_16 : decode cX12_isUnder 16 = .ok (.invokevirtual 471, 3) := by decide +kernel
theorem dX12_isUnder_19 : decode cX12_isUnder 19 = .ok (.ifCond .eq 5, 3) := by decide +kernel
theorem dX12_isUnder_22 : decode cX12_isUnder 22 = .ok (.iconst 1, 1) := by decide +kernel
theorem dX12_isUnder_23 : decode cX12_isUnder 23 = .ok (.ireturn, 1) := by decide +kernel
theorem dX12_isUnder_24 : decode cX12_isUnder 24 = .ok (.iinc 3 1, 3) := by decide +kernel
theorem dX12_isUnder_27 : decode cX12_isUnder 27 = .ok (.goto (-25), 3) := by decide +kernel
theorem dX12_isUnder_30 : decode cX12_isUnder 30 = .ok (.iconst 0, 1) := by decide +kernel
theorem dX12_isUnder_31 : decode cX12_isUnder 31 = .ok (.ireturn, 1) := by decide +kernel
def F_X12_isUnder_2 : Nat → Int32 → Int32 → Int32 → ae_S → Option (Int32 × ae_S)
  | 0, _, _, _, _ => none
  | n + 1, v1, v2, v3, s0 => ae_gd (ae_ib v1 32) (if (s0.1 39 0 v1.toNatClampNeg) ≤ v3 then (some ((0 : Int32), s0)) else (ae_bd (F_X12_isOn v1 v3 v2 s0) (fun (r5 : Int32) s6 => if r5 = 0 then (ae_lt (v3 + (1 : Int32)) (fun x11 => F_X12_isUnder_2 n v1 v2 x11 s6)) else (some ((1 : Int32), s6)))))
set_option maxHeartbeats 4000000 in
set_option maxRecDepth 100000 in
theorem t_X12_isUnder_2 {l : Launch} {G : ae_G} (d : Nat) {rr : Int32} {ss : ae_S} : ∀ (n : Nat) (v1 : Int32) (v2 : Int32) (v3 : Int32) (s0 : ae_S), F_X12_isUnder_2 n v1 v2 v3 s0 = some (rr, ss) → ae_T l G (d + 2) mX12_isUnder (ae_Po (some (ae_i rr)) ss) 2 [(0, ae_r (some (30, 0))), (1, ae_i v1), (2, ae_i v2), (3, ae_i v3)] [] s0 := by
  intro n
  induction n with
  | zero =>
    intro v1 v2 v3 s0 hF
    exact absurd (show (none : Option (Int32 × ae_S)) = some (rr, ss) from hF) (by simp)
  | succ n ih =>
    intro v1 v2 v3 s0 hF
    unfold F_X12_isUnder_2 at hF
    refine ae_iload_n 3 dX12_isUnder_2 rfl ?_
    refine ae_aload_n 0 dX12_isUnder_3 rfl ?_
    refine ae_getA (q := (30, 0)) (some (39, 0)) dX12_isUnder_4 fl_RX12_38 rfl rfl rfl ?_
    refine ae_iload_n 1 dX12_isUnder_7 rfl ?_
    obtain ⟨hg1, hF2⟩ := ae_gdI hF
    refine ae_iald (q := (39, 0)) dX12_isUnder_8 rfl rfl (ae_ibI hg1) ?_
    refine ae_icmp_ge 30 dX12_isUnder_9 rfl (fun hb3 => ?_) (fun hb3 => ?_)
    · have hF4 := ae_ifT hb3 hF2
      refine ae_iconst (0 : Int32) dX12_isUnder_30 (by decide) ?_
      obtain ⟨rfl, rfl⟩ := ae_retI hF4
      exact ae_iret dX12_isUnder_31 rfl (by decide) ⟨rfl, rfl⟩
    · have hF4 := ae_ifF hb3 hF2
      refine ae_aload_n 0 dX12_isUnder_12 rfl ?_
      refine ae_iload_n 1 dX12_isUnder_13 rfl ?_
      refine ae_iload_n 3 dX12_isUnder_14 rfl ?_
      refine ae_iload_n 2 dX12_isUnder_15 rfl ?_
      obtain ⟨r5, s6, hc7, hF8⟩ := ae_bdI hF4
      refine ae_cV1 (q := (30, 0)) (As := [ae_i v1, ae_i v3, ae_i v2]) dX12_isUnder_16 ww_1837 vy_X12_isOn rfl rfl rfl rfl rfl (Nat.le_of_ble_eq_true rfl) (c_X12_isOn d hc7) ?_
      refine ae_if_eq 24 dX12_isUnder_19 rfl (fun hb9 => ?_) (fun hb9 => ?_)
      · have hF10 := ae_ifT hb9 hF8
        obtain ⟨x11, hx11, hF12⟩ := ae_ltI hF10
        refine ae_iinc (lv' := [(3, ae_i x11), (0, ae_r (some (30, 0))), (1, ae_i v1), (2, ae_i v2)]) 3 (1 : Int32) dX12_isUnder_24 rfl (by decide) (by decide) (by rw [hx11]; rfl) ?_
        refine ae_goto 2 dX12_isUnder_27 rfl ?_
        refine ae_pick (lv' := [(0, ae_r (some (30, 0))), (1, ae_i v1), (2, ae_i v2), (3, ae_i x11)]) [1, 2, 3, 0] rfl ?_
        exact ih v1 v2 x11 s6 hF12
      · have hF10 := ae_ifF hb9 hF8
        refine ae_iconst (1 : Int32) dX12_isUnder_22 (by decide) ?_
        obtain ⟨rfl, rfl⟩ := ae_retI hF10
        exact ae_iret dX12_isUnder_23 rfl (by decide) ⟨rfl, rfl⟩
def F_X12_isUnder (v1 : Int32) (v2 : Int32) (s0 : ae_S) : Option (Int32 × ae_S) := F_X12_isUnder_2 ae_fu v1 v2 (0 : Int32) s0
set_option maxHeartbeats 4000000 in
set_option maxRecDepth 100000 in
theorem c_X12_isUnder {l : Launch} {G : ae_G} (d : Nat) {v1 : Int32} {v2 : Int32} {s0 ss : ae_S} {rr : Int32} (hF : F_X12_isUnder v1 v2 s0 = some (rr, ss)) : ae_Met l G (d + 2) yX12_isUnder mX12_isUnder [ae_r (some (30, 0)), ae_i v1, ae_i v2] s0 (ae_Po (some (ae_i rr)) ss) := by
  refine ae_enter (by decide) rfl (Nat.le_of_ble_eq_true rfl) ?_
  show ae_T l G (d + 2) mX12_isUnder (ae_Po (some (ae_i rr)) ss) 0 [(0, ae_r (some (30, 0))), (1, ae_i v1), (2, ae_i v2)] [] s0
  unfold F_X12_isUnder at hF
  refine ae_iconst (0 : Int32) dX12_isUnder_0 (by decide) ?_
  refine ae_istore_n (lv' := [(3, ae_i (0 : Int32)), (0, ae_r (some (30, 0))), (1, ae_i v1), (2, ae_i v2)]) dX12_isUnder_1 (by decide) rfl ?_
  refine ae_pick (lv' := [(0, ae_r (some (30, 0))), (1, ae_i v1), (2, ae_i v2), (3, ae_i (0 : Int32))]) [1, 2, 3, 0] rfl ?_
  exact t_X12_isUnder_2 d ae_fu v1 v2 (0 : Int32) s0 hF
abbrev mX12_over : ae_M := (RX12, cX12_over, 5, some .int)
theorem vy_X12_over : ae_VY yX12_over mX12_over 2 := ⟨ww_1842, ww_1843, ww_13, ww_1844, ⟨by decide, by decide, by decide +kernel⟩, by decide⟩
theorem dX12_over_0 : decode cX12_over 0 = .ok (.aload_n 0, 1) := by decide +kernel
theorem dX12_over_1 : decode cX12_over 1 = .ok (.iload_n 1, 1) := by decide +kernel
theorem dX12_over_2 : decode cX12_over 2 = .ok (.invokevirtual 122, 3) := by decide +kernel
theorem dX12_over_5 : decode cX12_over 5 = .ok (.ifCond .eq 11, 3) := by decide +kernel
theorem dX12_over_8 : decode cX12_over 8 = .ok (.aload_n 0, 1) := by decide +kernel
theorem dX12_over_9 : decode cX12_over 9 = .ok (.iload_n 2, 1) := by decide +kernel
theorem dX12_over_10 : decode cX12_over 10 = .ok (.invokevirtual 122, 3) := by decide +kernel
theorem dX12_over_13 : decode cX12_over 13 = .ok (.ifCond .ne 5, 3) := by decide +kernel
theorem dX12_over_16 : decode cX12_over 16 = .ok (.iconst (-1), 1) := by decide +kernel
theorem dX12_over_17 : decode cX12_over 17 = .ok (.ireturn, 1) := by decide +kernel
theorem dX12_over_18 : decode cX12_over 18 = .ok (.iconst 0, 1) := by decide +kernel
theorem dX12_over_19 : decode cX12_over 19 = .ok (.istore_n 3, 1) := by decide +kernel
theorem dX12_over_20 : decode cX12_over 20 = .ok (.iconst 0, 1) := by decide +kernel
theorem dX12_over_21 : decode cX12_over 21 = .ok (.istore 4, 2) := by decide +kernel
theorem dX12_over_23 : decode cX12_over 23 = .ok (.iload 4, 2) := by decide +kernel
theorem dX12_over_25 : decode cX12_over 25 = .ok (.aload_n 0, 1) := by decide +kernel
theorem dX12_over_26 : decode cX12_over 26 = .ok (.getfield 100, 3) := by decide +kernel
theorem dX12_over_29 : decode cX12_over 29 = .ok (.if_icmp .ge 40, 3) := by decide +kernel
theorem dX12_over_32 : decode cX12_over 32 = .ok (.iload_n 3, 1) := by decide +kernel
theorem dX12_over_33 : decode cX12_over 33 = .ok (.aload_n 0, 1) := by decide +kernel
theorem dX12_over_34 : decode cX12_over 34 = .ok (.iload_n 1, 1) := by decide +kernel
theorem dX12_over_35 : decode cX12_over 35 = .ok (.iload 4, 2) := by decide +kernel
theorem dX12_over_37 : decode cX12_over 37 = .ok (.invokevirtual 478, 3) := by decide +kernel
theorem dX12_over_40 : decode cX12_over 40 = .ok (.ifCond .eq 17, 3) := by decide +kernel
theorem dX12_over_43 : decode cX12_over 43 = .ok (.aload_n 0, 1) := by decide +kernel
theorem dX12_over_44 : decode cX12_over 44 = .ok (.iload_n 2, 1) := by decide +kernel
theorem dX12_over_45 : decode cX12_over 45 = .ok (.iload 4, 2) := by decide +kernel
theorem dX12_over_47 : decode cX12_over 47 = .ok (.invokevirtual 478, 3) := by decide +kernel
theorem dX12_over_50 : decode cX12_over 50 = .ok (.ifCond .eq 7, 3) := by decide +kernel
theorem dX12_over_53 : decode cX12_over 53 = .ok (.iconst 1, 1) := by decide +kernel
theorem dX12_over_54 : decode cX12_over 54 = .ok (.goto 4, 3) := by decide +kernel
theorem dX12_over_57 : decode cX12_over 57 = .ok (.iconst 0, 1) := by decide +kernel
theorem dX12_over_58 : decode cX12_over 58 = .ok (.invokestatic 260, 3) := by decide +kernel
theorem dX12_over_61 : decode cX12_over 61 = .ok (.iadd, 1) := by decide +kernel
theorem dX12_over_62 : decode cX12_over 62 = .ok (.istore_n 3, 1) := by decide +kernel
theorem dX12_over_63 : decode cX12_over 63 = .ok (.iinc 4 1, 3) := by decide +kernel
theorem dX12_over_66 : decode cX12_over 66 = .ok (.goto (-43), 3) := by decide +kernel
theorem dX12_over_69 : decode cX12_over 69 = .ok (.iload_n 3, 1) := by decide +kernel
theorem dX12_over_70 : decode cX12_over 70 = .ok (.ireturn, 1) := by decide +kernel
def F_X12_over_16 (s0 : ae_S) : Option (Int32 × ae_S) := some ((-1 : Int32), s0)
set_option maxHeartbeats 4000000 in
set_option maxRecDepth 100000 in
theorem t_X12_over_16 {l : Launch} {G : ae_G} (d : Nat) {rr : Int32} {ss : ae_S} (s0 : ae_S) (hF : F_X12_over_16 s0 = some (rr, ss)) : ae_T l G (d + 3) mX12_over (ae_Po (some (ae_i rr)) ss) 16 [] [] s0 := by
  unfold F_X12_over_16 at hF
  refine ae_iconst (-1 : Int32) dX12_over_16 (by decide) ?_
  obtain ⟨rfl, rfl⟩ := ae_retI hF
  exact ae_iret dX12_over_17 rfl rfl ⟨rfl, rfl⟩
def F_X12_over_58 (k23 : Int32 → Int32 → Int32 → Int32 → ae_S → Option (Int32 × ae_S)) (v1 : Int32) (v2 : Int32) (v4 : Int32) (t0 : Int32) (t1 : Int32) (s0 : ae_S) : Option (Int32 × ae_S) := ae_bd (F_X12_one t0 s0) (fun (r1 : Int32) s2 => ae_lt (t1 + r1) (fun x5 => ae_lt (v4 + (1 : Int32)) (fun x7 => k23 v1 v2 x5 x7 s2)))
set_option maxHeartbeats 4000000 in
set_option maxRecDepth 100000 in
theorem t_X12_over_58 {l : Launch} {G : ae_G} (d : Nat) (k23 : Int32 → Int32 → Int32 → Int32 → ae_S → Option (Int32 × ae_S)) {rr : Int32} {ss : ae_S} (hk23 : ∀ (v1 : Int32) (v2 : Int32) (v3 : Int32) (v4 : Int32) (s0 : ae_S), k23 v1 v2 v3 v4 s0 = some (rr, ss) → ae_T l G (d + 3) mX12_over (ae_Po (some (ae_i rr)) ss) 23 [(0, ae_r (some (30, 0))), (1, ae_i v1), (2, ae_i v2), (3, ae_i v3), (4, ae_i v4)] [] s0) (v1 : Int32) (v2 : Int32) (v4 : Int32) (t0 : Int32) (t1 : Int32) (s0 : ae_S) (hF : F_X12_over_58 k23 v1 v2 v4 t0 t1 s0 = some (rr, ss)) : ae_T l G (d + 3) mX12_over (ae_Po (some (ae_i rr)) ss) 58 [(0, ae_r (some (30, 0))), (1, ae_i v1), (2, ae_i v2), (4, ae_i v4)] [ae_i t0, ae_i t1] s0 := by
  unfold F_X12_over_58 at hF
  obtain ⟨r1, s2, hc3, hF4⟩ := ae_bdI hF
  refine ae_cS1 (As := [ae_i t0]) dX12_over_58 ww_1579 vy_X12_one rfl rfl (Nat.le_of_ble_eq_true rfl) (c_X12_one (d + 2) hc3) ?_
  refine ae_iadd dX12_over_61 ?_
  obtain ⟨x5, hx5, hF6⟩ := ae_ltI hF4
  refine ae_nmI hx5 ?_
  refine ae_istore_n (lv' := [(3, ae_i x5), (0, ae_r (some (30, 0))), (1, ae_i v1), (2, ae_i v2), (4, ae_i v4)]) dX12_over_62 (by decide) rfl ?_
  obtain ⟨x7, hx7, hF8⟩ := ae_ltI hF6
  refine ae_iinc (lv' := [(4, ae_i x7), (3, ae_i x5), (0, ae_r (some (30, 0))), (1, ae_i v1), (2, ae_i v2)]) 4 (1 : Int32) dX12_over_63 rfl (by decide) (by decide) (by rw [hx7]; rfl) ?_
  refine ae_goto 23 dX12_over_66 rfl ?_
  refine ae_pick (lv' := [(0, ae_r (some (30, 0))), (1, ae_i v1), (2, ae_i v2), (3, ae_i x5), (4, ae_i x7)]) [2, 3, 4, 1, 0] rfl ?_
  exact hk23 v1 v2 x5 x7 s2 hF8
def F_X12_over_57 (k23 : Int32 → Int32 → Int32 → Int32 → ae_S → Option (Int32 × ae_S)) (v1 : Int32) (v2 : Int32) (v4 : Int32) (t0 : Int32) (s0 : ae_S) : Option (Int32 × ae_S) := F_X12_over_58 k23 v1 v2 v4 (0 : Int32) t0 s0
set_option maxHeartbeats 4000000 in
set_option maxRecDepth 100000 in
theorem t_X12_over_57 {l : Launch} {G : ae_G} (d : Nat) (k23 : Int32 → Int32 → Int32 → Int32 → ae_S → Option (Int32 × ae_S)) {rr : Int32} {ss : ae_S} (hk23 : ∀ (v1 : Int32) (v2 : Int32) (v3 : Int32) (v4 : Int32) (s0 : ae_S), k23 v1 v2 v3 v4 s0 = some (rr, ss) → ae_T l G (d + 3) mX12_over (ae_Po (some (ae_i rr)) ss) 23 [(0, ae_r (some (30, 0))), (1, ae_i v1), (2, ae_i v2), (3, ae_i v3), (4, ae_i v4)] [] s0) (v1 : Int32) (v2 : Int32) (v4 : Int32) (t0 : Int32) (s0 : ae_S) (hF : F_X12_over_57 k23 v1 v2 v4 t0 s0 = some (rr, ss)) : ae_T l G (d + 3) mX12_over (ae_Po (some (ae_i rr)) ss) 57 [(0, ae_r (some (30, 0))), (1, ae_i v1), (2, ae_i v2), (4, ae_i v4)] [ae_i t0] s0 := by
  unfold F_X12_over_57 at hF
  refine ae_iconst (0 : Int32) dX12_over_57 (by decide) ?_
  refine ae_pick (lv' := [(0, ae_r (some (30, 0))), (1, ae_i v1), (2, ae_i v2), (4, ae_i v4)]) [0, 1, 2, 3] rfl ?_
  exact t_X12_over_58 d k23 hk23 v1 v2 v4 (0 : Int32) t0 s0 hF
def F_X12_over_23 : Nat → Int32 → Int32 → Int32 → Int32 → ae_S → Option (Int32 × ae_S)
  | 0, _, _, _, _, _ => none
  | n + 1, v1, v2, v3, v4, s0 => if (s0.1 30 0 0) ≤ v4 then (some (v3, s0)) else (ae_bd (F_X12_isUnder v1 v4 s0) (fun (r11 : Int32) s12 => if r11 = 0 then (F_X12_over_57 (F_X12_over_23 n) v1 v2 v4 v3 s12) else (ae_bd (F_X12_isUnder v2 v4 s12) (fun (r17 : Int32) s18 => if r17 = 0 then (F_X12_over_57 (F_X12_over_23 n) v1 v2 v4 v3 s18) else (F_X12_over_58 (F_X12_over_23 n) v1 v2 v4 (1 : Int32) v3 s18)))))
set_option maxHeartbeats 4000000 in
set_option maxRecDepth 100000 in
theorem t_X12_over_23 {l : Launch} {G : ae_G} (d : Nat) {rr : Int32} {ss : ae_S} : ∀ (n : Nat) (v1 : Int32) (v2 : Int32) (v3 : Int32) (v4 : Int32) (s0 : ae_S), F_X12_over_23 n v1 v2 v3 v4 s0 = some (rr, ss) → ae_T l G (d + 3) mX12_over (ae_Po (some (ae_i rr)) ss) 23 [(0, ae_r (some (30, 0))), (1, ae_i v1), (2, ae_i v2), (3, ae_i v3), (4, ae_i v4)] [] s0 := by
  intro n
  induction n with
  | zero =>
    intro v1 v2 v3 v4 s0 hF
    exact absurd (show (none : Option (Int32 × ae_S)) = some (rr, ss) from hF) (by simp)
  | succ n ih =>
    intro v1 v2 v3 v4 s0 hF
    unfold F_X12_over_23 at hF
    refine ae_iload 4 dX12_over_23 rfl ?_
    refine ae_aload_n 0 dX12_over_25 rfl ?_
    refine ae_getI (q := (30, 0)) dX12_over_26 fl_RX12_100 rfl rfl ?_
    refine ae_icmp_ge 69 dX12_over_29 rfl (fun hb9 => ?_) (fun hb9 => ?_)
    · have hF10 := ae_ifT hb9 hF
      refine ae_iload_n 3 dX12_over_69 rfl ?_
      obtain ⟨rfl, rfl⟩ := ae_retI hF10
      exact ae_iret dX12_over_70 rfl rfl ⟨rfl, rfl⟩
    · have hF10 := ae_ifF hb9 hF
      refine ae_iload_n 3 dX12_over_32 rfl ?_
      refine ae_aload_n 0 dX12_over_33 rfl ?_
      refine ae_iload_n 1 dX12_over_34 rfl ?_
      refine ae_iload 4 dX12_over_35 rfl ?_
      obtain ⟨r11, s12, hc13, hF14⟩ := ae_bdI hF10
      refine ae_cV1 (q := (30, 0)) (As := [ae_i v1, ae_i v4]) dX12_over_37 ww_1845 vy_X12_isUnder rfl rfl rfl rfl rfl (Nat.le_of_ble_eq_true rfl) (c_X12_isUnder d hc13) ?_
      refine ae_if_eq 57 dX12_over_40 rfl (fun hb15 => ?_) (fun hb15 => ?_)
      · have hF16 := ae_ifT hb15 hF14
        refine ae_pick (lv' := [(0, ae_r (some (30, 0))), (1, ae_i v1), (2, ae_i v2), (4, ae_i v4)]) [0, 1, 2, 4] rfl ?_
        exact t_X12_over_57 d (F_X12_over_23 n) ih v1 v2 v4 v3 s12 hF16
      · have hF16 := ae_ifF hb15 hF14
        refine ae_aload_n 0 dX12_over_43 rfl ?_
        refine ae_iload_n 2 dX12_over_44 rfl ?_
        refine ae_iload 4 dX12_over_45 rfl ?_
        obtain ⟨r17, s18, hc19, hF20⟩ := ae_bdI hF16
        refine ae_cV1 (q := (30, 0)) (As := [ae_i v2, ae_i v4]) dX12_over_47 ww_1845 vy_X12_isUnder rfl rfl rfl rfl rfl (Nat.le_of_ble_eq_true rfl) (c_X12_isUnder d hc19) ?_
        refine ae_if_eq 57 dX12_over_50 rfl (fun hb21 => ?_) (fun hb21 => ?_)
        · have hF22 := ae_ifT hb21 hF20
          refine ae_pick (lv' := [(0, ae_r (some (30, 0))), (1, ae_i v1), (2, ae_i v2), (4, ae_i v4)]) [0, 1, 2, 4] rfl ?_
          exact t_X12_over_57 d (F_X12_over_23 n) ih v1 v2 v4 v3 s18 hF22
        · have hF22 := ae_ifF hb21 hF20
          refine ae_iconst (1 : Int32) dX12_over_53 (by decide) ?_
          refine ae_goto 58 dX12_over_54 rfl ?_
          refine ae_pick (lv' := [(0, ae_r (some (30, 0))), (1, ae_i v1), (2, ae_i v2), (4, ae_i v4)]) [0, 1, 2, 4] rfl ?_
          exact t_X12_over_58 d (F_X12_over_23 n) ih v1 v2 v4 (1 : Int32) v3 s18 hF22
def F_X12_over (v1 : Int32) (v2 : Int32) (s0 : ae_S) : Option (Int32 × ae_S) := ae_bd (F_X12_isView v1 s0) (fun (r23 : Int32) s24 => if r23 = 0 then (F_X12_over_16 s24) else (ae_bd (F_X12_isView v2 s24) (fun (r29 : Int32) s30 => if r29 = 0 then (F_X12_over_16 s30) else (F_X12_over_23 ae_fu v1 v2 (0 : Int32) (0 : Int32) s30))))
set_option maxHeartbeats 4000000 in
set_option maxRecDepth 100000 in
theorem c_X12_over {l : Launch} {G : ae_G} (d : Nat) {v1 : Int32} {v2 : Int32} {s0 ss : ae_S} {rr : Int32} (hF : F_X12_over v1 v2 s0 = some (rr, ss)) : ae_Met l G (d + 3) yX12_over mX12_over [ae_r (some (30, 0)), ae_i v1, ae_i v2] s0 (ae_Po (some (ae_i rr)) ss) := by
  refine ae_enter (by decide) rfl (Nat.le_of_ble_eq_true rfl) ?_
  show ae_T l G (d + 3) mX12_over (ae_Po (some (ae_i rr)) ss) 0 [(0, ae_r (some (30, 0))), (1, ae_i v1), (2, ae_i v2)] [] s0
  unfold F_X12_over at hF
  refine ae_aload_n 0 dX12_over_0 rfl ?_
  refine ae_iload_n 1 dX12_over_1 rfl ?_
  obtain ⟨r23, s24, hc25, hF26⟩ := ae_bdI hF
  refine ae_cV1 (q := (30, 0)) (As := [ae_i v1]) dX12_over_2 ww_1635 vy_X12_isView rfl rfl rfl rfl rfl (Nat.le_of_ble_eq_true rfl) (c_X12_isView (d + 1) hc25) ?_
  refine ae_if_eq 16 dX12_over_5 rfl (fun hb27 => ?_) (fun hb27 => ?_)
  · have hF28 := ae_ifT hb27 hF26
    refine ae_pick (lv' := []) [] rfl ?_
    exact t_X12_over_16 d s24 hF28
  · have hF28 := ae_ifF hb27 hF26
    refine ae_aload_n 0 dX12_over_8 rfl ?_
    refine ae_iload_n 2 dX12_over_9 rfl ?_
    obtain ⟨r29, s30, hc31, hF32⟩ := ae_bdI hF28
    refine ae_cV1 (q := (30, 0)) (As := [ae_i v2]) dX12_over_10 ww_1635 vy_X12_isView rfl rfl rfl rfl rfl (Nat.le_of_ble_eq_true rfl) (c_X12_isView (d + 1) hc31) ?_
    refine ae_if_ne 18 dX12_over_13 rfl (fun hb33 => ?_) (fun hb33 => ?_)
    · have hF34 := ae_ifF hb33 hF32
      refine ae_iconst (0 : Int32) dX12_over_18 (by decide) ?_
      refine ae_istore_n (lv' := [(3, ae_i (0 : Int32)), (0, ae_r (some (30, 0))), (1, ae_i v1), (2, ae_i v2)]) dX12_over_19 (by decide) rfl ?_
      refine ae_iconst (0 : Int32) dX12_over_20 (by decide) ?_
      refine ae_istore (lv' := [(4, ae_i (0 : Int32)), (3, ae_i (0 : Int32)), (0, ae_r (some (30, 0))), (1, ae_i v1), (2, ae_i v2)]) dX12_over_21 (by decide) rfl ?_
      refine ae_pick (lv' := [(0, ae_r (some (30, 0))), (1, ae_i v1), (2, ae_i v2), (3, ae_i (0 : Int32)), (4, ae_i (0 : Int32))]) [2, 3, 4, 1, 0] rfl ?_
      exact t_X12_over_23 d ae_fu v1 v2 (0 : Int32) (0 : Int32) s30 hF34
    · have hF34 := ae_ifT hb33 hF32
      refine ae_pick (lv' := []) [] rfl ?_
      exact t_X12_over_16 d s30 hF34
abbrev mX12_here : ae_M := (RX12, cX12_here, 4, some .int)
theorem vy_X12_here : ae_VY yX12_here mX12_here 1 := ⟨ww_1850, ww_1851, ww_13, ww_1852, ⟨by decide, by decide, by decide +kernel⟩, by decide⟩
theorem dX12_here_0 : decode cX12_here 0 = .ok (.iload_n 1, 1) := by decide +kernel
theorem dX12_here_1 : decode cX12_here 1 = .ok (.i2l, 1) := by decide +kernel
theorem dX12_here_2 : decode cX12_here 2 = .ok (.lconst 0, 1) := by decide +kernel
theorem dX12_here_3 : decode cX12_here 3 = .ok (.aload_n 0, 1) := by decide +kernel
theorem dX12_here_4 : decode cX12_here 4 = .ok (.getfield 100, 3) := by decide +kernel
theorem dX12_here_7 : decode cX12_here 7 = .ok (.iconst 1, 1) := by decide +kernel
theorem dX12_here_8 : decode cX12_here 8 = .ok (.isub, 1) := by decide +kernel
theorem dX12_here_9 : decode cX12_here 9 = .ok (.i2l, 1) := by decide +kernel
theorem dX12_here_10 : decode cX12_here 10 = .ok (.invokestatic 105, 3) := by decide +kernel
theorem dX12_here_13 : decode cX12_here 13 = .ok (.ifCond .ne 5, 3) := by decide +kernel
theorem dX12_here_16 : decode cX12_here 16 = .ok (.iconst (-1), 1) := by decide +kernel
theorem dX12_here_17 : decode cX12_here 17 = .ok (.ireturn, 1) := by decide +kernel
theorem dX12_here_18 : decode cX12_here 18 = .ok (.iconst 0, 1) := by decide +kernel
theorem dX12_here_19 : decode cX12_here 19 = .ok (.istore_n 2, 1) := by decide +kernel
theorem dX12_here_20 : decode cX12_here 20 = .ok (.iconst 0, 1) := by decide +kernel
theorem dX12_here_21 : decode cX12_here 21 = .ok (.istore_n 3, 1) := by decide +kernel
theorem dX12_here_22 : decode cX12_here 22 = .ok (.iload_n 3, 1) := by decide +kernel
theorem dX12_here_23 : decode cX12_here 23 = .ok (.aload_n 0, 1) := by decide +kernel
theorem dX12_here_24 : decode cX12_here 24 = .ok (.getfield 109, 3) := by decide +kernel
theorem dX12_here_27 : decode cX12_here 27 = .ok (.if_icmp .ge 23, 3) := by decide +kernel
theorem dX12_here_30 : decode cX12_here 30 = .ok (.iload_n 2, 1) := by decide +kernel
theorem dX12_here_31 : decode cX12_here 31 = .ok (.aload_n 0, 1) := by decide +kernel
theorem dX12_here_32 : decode cX12_here 32 = .ok (.iload_n 3, 1) := by decide +kernel
theorem dX12_here_33 : decode cX12_here 33 = .ok (.iload_n 1, 1) := by decide +kernel
theorem dX12_here_34 : decode cX12_here 34 = .ok (.invokevirtual 478, 3) := by decide +kernel
theorem dX12_here_37 : decode cX12_here 37 = .ok (.invokestatic 260, 3) := by decide +kernel
theorem dX12_here_40 : decode cX12_here 40 = .ok (.iload_n 3, 1) := by decide +kernel
theorem dX12_here_41 : decode cX12_here 41 = .ok (.ishl, 1) := by decide +kernel
theorem dX12_here_42 : decode cX12_here 42 = .ok (.ior, 1) := by decide +kernel
theorem dX12_here_43 : decode cX12_here 43 = .ok (.istore_n 2, 1) := by decide +kernel
theorem dX12_here_44 : decode cX12_here 44 = .ok (.iinc 3 1, 3) := by decide +kernel
theorem dX12_here_47 : decode cX12_here 47 = .ok (.goto (-25), 3) := by decide +kernel
theorem dX12_here_50 : decode cX12_here 50 = .ok (.iload_n 2, 1) := by decide +kernel
theorem dX12_here_51 : decode cX12_here 51 = .ok (.ireturn, 1) := by decide +kernel
def F_X12_here_22 : Nat → Int32 → Int32 → Int32 → ae_S → Option (Int32 × ae_S)
  | 0, _, _, _, _ => none
  | n + 1, v1, v2, v3, s0 => if (s0.1 30 0 17) ≤ v3 then (some (v2, s0)) else (ae_bd (F_X12_isUnder v3 v1 s0) (fun (r3 : Int32) s4 => ae_bd (F_X12_one r3 s4) (fun (r7 : Int32) s8 => ae_lt (v2 ||| (r7 <<< (v3 &&& 31))) (fun x11 => ae_lt (v3 + (1 : Int32)) (fun x13 => F_X12_here_22 n v1 x11 x13 s8)))))
set_option maxHeartbeats 4000000 in
set_option maxRecDepth 100000 in
theorem t_X12_here_22 {l : Launch} {G : ae_G} (d : Nat) {rr : Int32} {ss : ae_S} : ∀ (n : Nat) (v1 : Int32) (v2 : Int32) (v3 : Int32) (s0 : ae_S), F_X12_here_22 n v1 v2 v3 s0 = some (rr, ss) → ae_T l G (d + 3) mX12_here (ae_Po (some (ae_i rr)) ss) 22 [(0, ae_r (some (30, 0))), (1, ae_i v1), (2, ae_i v2), (3, ae_i v3)] [] s0 := by
  intro n
  induction n with
  | zero =>
    intro v1 v2 v3 s0 hF
    exact absurd (show (none : Option (Int32 × ae_S)) = some (rr, ss) from hF) (by simp)
  | succ n ih =>
    intro v1 v2 v3 s0 hF
    unfold F_X12_here_22 at hF
    refine ae_iload_n 3 dX12_here_22 rfl ?_
    refine ae_aload_n 0 dX12_here_23 rfl ?_
    refine ae_getI (q := (30, 0)) dX12_here_24 fl_RX12_109 rfl rfl ?_
    refine ae_icmp_ge 50 dX12_here_27 rfl (fun hb1 => ?_) (fun hb1 => ?_)
    · have hF2 := ae_ifT hb1 hF
      refine ae_iload_n 2 dX12_here_50 rfl ?_
      obtain ⟨rfl, rfl⟩ := ae_retI hF2
      exact ae_iret dX12_here_51 rfl rfl ⟨rfl, rfl⟩
    · have hF2 := ae_ifF hb1 hF
      refine ae_iload_n 2 dX12_here_30 rfl ?_
      refine ae_aload_n 0 dX12_here_31 rfl ?_
      refine ae_iload_n 3 dX12_here_32 rfl ?_
      refine ae_iload_n 1 dX12_here_33 rfl ?_
      obtain ⟨r3, s4, hc5, hF6⟩ := ae_bdI hF2
      refine ae_cV1 (q := (30, 0)) (As := [ae_i v3, ae_i v1]) dX12_here_34 ww_1845 vy_X12_isUnder rfl rfl rfl rfl rfl (Nat.le_of_ble_eq_true rfl) (c_X12_isUnder d hc5) ?_
      obtain ⟨r7, s8, hc9, hF10⟩ := ae_bdI hF6
      refine ae_cS1 (As := [ae_i r3]) dX12_here_37 ww_1579 vy_X12_one rfl rfl (Nat.le_of_ble_eq_true rfl) (c_X12_one (d + 2) hc9) ?_
      refine ae_iload_n 3 dX12_here_40 rfl ?_
      refine ae_ishl dX12_here_41 ?_
      refine ae_ior dX12_here_42 ?_
      obtain ⟨x11, hx11, hF12⟩ := ae_ltI hF10
      refine ae_nmI hx11 ?_
      refine ae_istore_n (lv' := [(2, ae_i x11), (0, ae_r (some (30, 0))), (1, ae_i v1), (3, ae_i v3)]) dX12_here_43 (by decide) rfl ?_
      obtain ⟨x13, hx13, hF14⟩ := ae_ltI hF12
      refine ae_iinc (lv' := [(3, ae_i x13), (2, ae_i x11), (0, ae_r (some (30, 0))), (1, ae_i v1)]) 3 (1 : Int32) dX12_here_44 rfl (by decide) (by decide) (by rw [hx13]; rfl) ?_
      refine ae_goto 22 dX12_here_47 rfl ?_
      refine ae_pick (lv' := [(0, ae_r (some (30, 0))), (1, ae_i v1), (2, ae_i x11), (3, ae_i x13)]) [2, 3, 1, 0] rfl ?_
      exact ih v1 x11 x13 s8 hF14
def F_X12_here (v1 : Int32) (s0 : ae_S) : Option (Int32 × ae_S) := ae_bd (F_X12_isIn v1.toInt64 (0 : Int64) (((s0.1 30 0 0) - (1 : Int32)).toInt64) s0) (fun (r15 : Int32) s16 => if r15 = 0 then (some ((-1 : Int32), s16)) else (F_X12_here_22 ae_fu v1 (0 : Int32) (0 : Int32) s16))
set_option maxHeartbeats 4000000 in
set_option maxRecDepth 100000 in
theorem c_X12_here {l : Launch} {G : ae_G} (d : Nat) {v1 : Int32} {s0 ss : ae_S} {rr : Int32} (hF : F_X12_here v1 s0 = some (rr, ss)) : ae_Met l G (d + 3) yX12_here mX12_here [ae_r (some (30, 0)), ae_i v1] s0 (ae_Po (some (ae_i rr)) ss) := by
  refine ae_enter (by decide) rfl (Nat.le_of_ble_eq_true rfl) ?_
  show ae_T l G (d + 3) mX12_here (ae_Po (some (ae_i rr)) ss) 0 [(0, ae_r (some (30, 0))), (1, ae_i v1)] [] s0
  unfold F_X12_here at hF
  refine ae_iload_n 1 dX12_here_0 rfl ?_
  refine ae_i2l dX12_here_1 ?_
  refine ae_lconst (0 : Int64) dX12_here_2 (by decide) ?_
  refine ae_aload_n 0 dX12_here_3 rfl ?_
  refine ae_getI (q := (30, 0)) dX12_here_4 fl_RX12_100 rfl rfl ?_
  refine ae_iconst (1 : Int32) dX12_here_7 (by decide) ?_
  refine ae_isub dX12_here_8 ?_
  refine ae_i2l dX12_here_9 ?_
  obtain ⟨r15, s16, hc17, hF18⟩ := ae_bdI hF
  refine ae_cS1 (As := [ae_l v1.toInt64, ae_l (0 : Int64), ae_l (((s0.1 30 0 0) - (1 : Int32)).toInt64)]) dX12_here_10 ww_1461 vy_X12_isIn rfl rfl (Nat.le_of_ble_eq_true rfl) (c_X12_isIn (d + 2) hc17) ?_
  refine ae_if_ne 18 dX12_here_13 rfl (fun hb19 => ?_) (fun hb19 => ?_)
  · have hF20 := ae_ifF hb19 hF18
    refine ae_iconst (0 : Int32) dX12_here_18 (by decide) ?_
    refine ae_istore_n (lv' := [(2, ae_i (0 : Int32)), (0, ae_r (some (30, 0))), (1, ae_i v1)]) dX12_here_19 (by decide) rfl ?_
    refine ae_iconst (0 : Int32) dX12_here_20 (by decide) ?_
    refine ae_istore_n (lv' := [(3, ae_i (0 : Int32)), (2, ae_i (0 : Int32)), (0, ae_r (some (30, 0))), (1, ae_i v1)]) dX12_here_21 (by decide) rfl ?_
    refine ae_pick (lv' := [(0, ae_r (some (30, 0))), (1, ae_i v1), (2, ae_i (0 : Int32)), (3, ae_i (0 : Int32))]) [2, 3, 1, 0] rfl ?_
    exact t_X12_here_22 d ae_fu v1 (0 : Int32) (0 : Int32) s16 hF20
  · have hF20 := ae_ifT hb19 hF18
    refine ae_iconst (-1 : Int32) dX12_here_16 (by decide) ?_
    obtain ⟨rfl, rfl⟩ := ae_retI hF20
    exact ae_iret dX12_here_17 rfl rfl ⟨rfl, rfl⟩
abbrev mX12_copy : ae_M := (RX12, cX12_copy, 6, some .int)
theorem vy_X12_copy : ae_VY yX12_copy mX12_copy 2 := ⟨ww_1854, ww_1855, ww_13, ww_1856, ⟨by decide, by decide, by decide +kernel⟩, by decide⟩
theorem dX12_copy_0 : decode cX12_copy 0 = .ok (.aload_n 0, 1) := by decide +kernel
theorem dX12_copy_1 : decode cX12_copy 1 = .ok (.iload_n 1, 1) := by decide +kernel
theorem dX12_copy_2 : decode cX12_copy 2 = .ok (.invokevirtual 122, 3) := by decide +kernel
theorem dX12_copy_5 : decode cX12_copy 5 = .ok (.ifCond .eq 21, 3) := by decide +kernel
theorem dX12_copy_8 : decode cX12_copy 8 = .ok (.aload_n 0, 1) := by decide +kernel
theorem dX12_copy_9 : decode cX12_copy 9 = .ok (.iload_n 2, 1) := by decide +kernel
theorem dX12_copy_10 : decode cX12_copy 10 = .ok (.invokevirtual 122, 3) := by decide +kernel
theorem dX12_copy_13 : decode cX12_copy 13 = .ok (.ifCond .eq 13, 3) := by decide +kernel
theorem dX12_copy_16 : decode cX12_copy 16 = .ok (.aload_n 0, 1) := by decide +kernel
theorem dX12_copy_17 : decode cX12_copy 17 = .ok (.getfield 44, 3) := by decide +kernel
theorem dX12_copy_20 : decode cX12_copy 20 = .ok (.iload_n 2, 1) := by decide +kernel
theorem dX12_copy_21 : decode cX12_copy 21 = .ok (.iaload, 1) := by decide +kernel
theorem dX12_copy_22 : decode cX12_copy 22 = .ok (.iconst 1, 1) := by decide +kernel
theorem dX12_copy_23 : decode cX12_copy 23 = .ok (.if_icmp .ne 5, 3) := by decide +kernel
theorem dX12_copy_26 : decode cX12_copy 26 = .ok (.iconst (-1), 1) := by decide +kernel
theorem dX12_copy_27 : decode cX12_copy 27 = .ok (.ireturn, 1) := by decide +kernel
theorem dX12_copy_28 : decode cX12_copy 28 = .ok (.aload_n 0, 1) := by decide +kernel
theorem dX12_copy_29 : decode cX12_copy 29 = .ok (.invokevirtual 115, 3) := by decide +kernel
theorem dX12_copy_32 : decode cX12_copy 32 = .ok (.aload_n 0, 1) := by decide +kernel
theorem dX12_copy_33 : decode cX12_copy 33 = .ok (.getfield 38, 3) := by decide +kernel
theorem dX12_copy_36 : decode cX12_copy 36 = .ok (.iload_n 1, 1) := by decide +kernel
theorem dX12_copy_37 : decode cX12_copy 37 = .ok (.iaload, 1) := by decide +kernel
theorem dX12_copy_38 : decode cX12_copy 38 = .ok (.aload_n 0, 1) := by decide +kernel
theorem dX12_copy_39 : decode cX12_copy 39 = .ok (.getfield 38, 3) := by decide +kernel
theorem dX12_copy_42 : decode cX12_copy 42 = .ok (.iload_n 2, 1) := by decide +kernel
theorem dX12_copy_43 : decode cX12_copy 43 = .ok (.iaload, 1) := by decide +kernel
theorem dX12_copy_44 : decode cX12_copy 44 = .ok (.invokestatic 465, 3) := by decide +kernel
theorem dX12_copy_47 : decode cX12_copy 47 = .ok (.istore_n 3, 1) := by decide +kernel
theorem dX12_copy_48 : decode cX12_copy 48 = .ok (.iconst 0, 1) := by decide +kernel
theorem dX12_copy_49 : decode cX12_copy 49 = .ok (.istore 4, 2) := by decide +kernel
theorem dX12_copy_51 : decode cX12_copy 51 = .ok (.iload 4, 2) := by decide +kernel
theorem dX12_copy_53 : decode cX12_copy 53 = .ok (.iload_n 3, 1) := by decide +kernel
theorem dX12_copy_54 : decode cX12_copy 54 = .ok (.if_icmp .ge 62, 3) := by decide +kernel
theorem dX12_copy_57 : decode cX12_copy 57 = .ok (.aload_n 0, 1) := by decide +kernel
theorem dX12_copy_58 : decode cX12_copy 58 = .ok (.iload_n 1, 1) := by decide +kernel
theorem dX12_copy_59 : decode cX12_copy 59 = .ok (.invokevirtual 316, 3) := by decide +kernel
theorem dX12_copy_62 : decode cX12_copy 62 = .ok (.istore 5, 2) := by decide +kernel
theorem dX12_copy_64 : decode cX12_copy 64 = .ok (.aload_n 0, 1) := by decide +kernel
theorem dX12_copy_65 : decode cX12_copy 65 = .ok (.iload_n 2, 1) := by decide +kernel
theorem dX12_copy_66 : decode cX12_copy 66 = .ok (.iload 4, 2) := by decide +kernel
theorem dX12_copy_68 : decode cX12_copy 68 = .ok (.aload_n 0, 1) := by decide +kernel
theorem dX12_copy_69 : decode cX12_copy 69 = .ok (.iload_n 2, 1) := by decide +kernel
theorem dX12_copy_70 : decode cX12_copy 70 = .ok (.iload 5, 2) := by decide +kernel
theorem dX12_copy_72 : decode cX12_copy 72 = .ok (.iload 5, 2) := by decide +kernel
theorem dX12_copy_74 : decode cX12_copy 74 = .ok (.ifCond .eq 7, 3) := by decide +kernel
theorem dX12_copy_77 : decode cX12_copy 77 = .ok (.lconst 0, 1) := by decide +kernel
theorem dX12_copy_78 : decode cX12_copy 78 = .ok (.goto 10, 3) := by decide +kernel
theorem dX12_copy_81 : decode cX12_copy 81 = .ok (.aload_n 0, 1) := by decide +kernel
theorem dX12_copy_82 : decode cX12_copy 82 = .ok (.iload_n 1, 1) := by decide +kernel
theorem dX12_copy_83 : decode cX12_copy 83 = .ok (.iload 4, 2) := by decide +kernel
theorem dX12_copy_85 : decode cX12_copy 85 = .ok (.invokevirtual 319, 3) := by decide +kernel
theorem dX12_copy_88 : decode cX12_copy 88 = .ok (.iload 5, 2) := by decide +kernel
theorem dX12_copy_90 : decode cX12_copy 90 = .ok (.ifCond .eq 13, 3) := by decide +kernel
theorem dX12_copy_93 : decode cX12_copy 93 = .ok (.aload_n 0, 1) := by decide +kernel
theorem dX12_copy_94 : decode cX12_copy 94 = .ok (.iload_n 1, 1) := by decide +kernel
theorem dX12_copy_95 : decode cX12_copy 95 = .ok (.iload 4, 2) := by decide +kernel
theorem dX12_copy_97 : decode cX12_copy 97 = .ok (.invokevirtual 322, 3) := by decide +kernel
theorem dX12_copy_100 : decode cX12_copy 100 = .ok (.goto 4, 3) := by decide +kernel
theorem dX12_copy_103 : decode cX12_copy 103 = .ok (.dconst 0, 1) := by decide +kernel
theorem dX12_copy_104 : decode cX12_copy 104 = .ok (.invokevirtual 356, 3) := by decide +kernel
theorem dX12_copy_107 : decode cX12_copy 107 = .ok (.invokevirtual 360, 3) := by decide +kernel
theorem dX12_copy_110 : decode cX12_copy 110 = .ok (.iinc 4 1, 3) := by decide +kernel
theorem dX12_copy_113 : decode cX12_copy 113 = .ok (.goto (-62), 3) := by decide +kernel
theorem dX12_copy_116 : decode cX12_copy 116 = .ok (.aload_n 0, 1) := by decide +kernel
theorem dX12_copy_117 : decode cX12_copy 117 = .ok (.iconst 1, 1) := by decide +kernel
theorem dX12_copy_118 : decode cX12_copy 118 = .ok (.invokevirtual 118, 3) := by decide +kernel
theorem dX12_copy_121 : decode cX12_copy 121 = .ok (.iload_n 3, 1) := by decide +kernel
theorem dX12_copy_122 : decode cX12_copy 122 = .ok (.ireturn, 1) := by decide +kernel
def F_X12_copy_26 (s0 : ae_S) : Option (Int32 × ae_S) := some ((-1 : Int32), s0)
set_option maxHeartbeats 4000000 in
set_option maxRecDepth 100000 in
theorem t_X12_copy_26 {l : Launch} {G : ae_G} (d : Nat) {rr : Int32} {ss : ae_S} (s0 : ae_S) (hF : F_X12_copy_26 s0 = some (rr, ss)) : ae_T l G (d + 3) mX12_copy (ae_Po (some (ae_i rr)) ss) 26 [] [] s0 := by
  unfold F_X12_copy_26 at hF
  refine ae_iconst (-1 : Int32) dX12_copy_26 (by decide) ?_
  obtain ⟨rfl, rfl⟩ := ae_retI hF
  exact ae_iret dX12_copy_27 rfl rfl ⟨rfl, rfl⟩
def F_X12_copy_104 (k51 : Int32 → Int32 → Int32 → Int32 → ae_S → Option (Int32 × ae_S)) (v1 : Int32) (v2 : Int32) (v3 : Int32) (v4 : Int32) (t0 : UInt64) (t1 : Int64) (t2 : Int32) (t3 : Int32) (t5 : Int32) (t6 : Int32) (s0 : ae_S) : Option (Int32 × ae_S) := ae_bd (F_X12_bitsBy t3 t2 t1 t0 s0) (fun (r1 : Int64) s2 => ae_bd (F_X12_writes t6 t5 r1 s2) (fun (r5 : Unit) s6 => ae_lt (v4 + (1 : Int32)) (fun x9 => k51 v1 v2 v3 x9 s6)))
set_option maxHeartbeats 4000000 in
set_option maxRecDepth 100000 in
theorem t_X12_copy_104 {l : Launch} {G : ae_G} (d : Nat) (k51 : Int32 → Int32 → Int32 → Int32 → ae_S → Option (Int32 × ae_S)) {rr : Int32} {ss : ae_S} (hk51 : ∀ (v1 : Int32) (v2 : Int32) (v3 : Int32) (v4 : Int32) (s0 : ae_S), k51 v1 v2 v3 v4 s0 = some (rr, ss) → ae_T l G (d + 3) mX12_copy (ae_Po (some (ae_i rr)) ss) 51 [(0, ae_r (some (30, 0))), (1, ae_i v1), (2, ae_i v2), (3, ae_i v3), (4, ae_i v4)] [] s0) (v1 : Int32) (v2 : Int32) (v3 : Int32) (v4 : Int32) (t0 : UInt64) (t1 : Int64) (t2 : Int32) (t3 : Int32) (t5 : Int32) (t6 : Int32) (s0 : ae_S) (hF : F_X12_copy_104 k51 v1 v2 v3 v4 t0 t1 t2 t3 t5 t6 s0 = some (rr, ss)) : ae_T l G (d + 3) mX12_copy (ae_Po (some (ae_i rr)) ss) 104 [(0, ae_r (some (30, 0))), (1, ae_i v1), (2, ae_i v2), (3, ae_i v3), (4, ae_i v4)] [ae_d t0, ae_l t1, ae_i t2, ae_i t3, ae_r (some (30, 0)), ae_i t5, ae_i t6, ae_r (some (30, 0))] s0 := by
  unfold F_X12_copy_104 at hF
  obtain ⟨r1, s2, hc3, hF4⟩ := ae_bdI hF
  refine ae_cV1 (q := (30, 0)) (As := [ae_i t3, ae_i t2, ae_l t1, ae_d t0]) dX12_copy_104 ww_1711 vy_X12_bitsBy rfl rfl rfl rfl rfl (Nat.le_of_ble_eq_true rfl) (c_X12_bitsBy d hc3) ?_
  obtain ⟨r5, s6, hc7, hF8⟩ := ae_bdI hF4
  refine ae_cV0 (q := (30, 0)) (As := [ae_i t6, ae_i t5, ae_l r1]) dX12_copy_107 ww_1715 vy_X12_writes rfl rfl rfl rfl rfl (Nat.le_of_ble_eq_true rfl) (c_X12_writes d hc7) ?_
  obtain ⟨x9, hx9, hF10⟩ := ae_ltI hF8
  refine ae_iinc (lv' := [(4, ae_i x9), (0, ae_r (some (30, 0))), (1, ae_i v1), (2, ae_i v2), (3, ae_i v3)]) 4 (1 : Int32) dX12_copy_110 rfl (by decide) (by decide) (by rw [hx9]; rfl) ?_
  refine ae_goto 51 dX12_copy_113 rfl ?_
  refine ae_pick (lv' := [(0, ae_r (some (30, 0))), (1, ae_i v1), (2, ae_i v2), (3, ae_i v3), (4, ae_i x9)]) [1, 2, 3, 4, 0] rfl ?_
  exact hk51 v1 v2 v3 x9 s6 hF10
def F_X12_copy_88 (k51 : Int32 → Int32 → Int32 → Int32 → ae_S → Option (Int32 × ae_S)) (v1 : Int32) (v2 : Int32) (v3 : Int32) (v4 : Int32) (v5 : Int32) (t0 : Int64) (t1 : Int32) (t2 : Int32) (t4 : Int32) (t5 : Int32) (s0 : ae_S) : Option (Int32 × ae_S) := if v5 = 0 then (F_X12_copy_104 k51 v1 v2 v3 v4 FP.dconst0 t0 t1 t2 t4 t5 s0) else (ae_bd (F_X12_floatOf v1 v4 s0) (fun (r13 : UInt64) s14 => F_X12_copy_104 k51 v1 v2 v3 v4 r13 t0 t1 t2 t4 t5 s14))
set_option maxHeartbeats 4000000 in
set_option maxRecDepth 100000 in
theorem t_X12_copy_88 {l : Launch} {G : ae_G} (d : Nat) (k51 : Int32 → Int32 → Int32 → Int32 → ae_S → Option (Int32 × ae_S)) {rr : Int32} {ss : ae_S} (hk51 : ∀ (v1 : Int32) (v2 : Int32) (v3 : Int32) (v4 : Int32) (s0 : ae_S), k51 v1 v2 v3 v4 s0 = some (rr, ss) → ae_T l G (d + 3) mX12_copy (ae_Po (some (ae_i rr)) ss) 51 [(0, ae_r (some (30, 0))), (1, ae_i v1), (2, ae_i v2), (3, ae_i v3), (4, ae_i v4)] [] s0) (v1 : Int32) (v2 : Int32) (v3 : Int32) (v4 : Int32) (v5 : Int32) (t0 : Int64) (t1 : Int32) (t2 : Int32) (t4 : Int32) (t5 : Int32) (s0 : ae_S) (hF : F_X12_copy_88 k51 v1 v2 v3 v4 v5 t0 t1 t2 t4 t5 s0 = some (rr, ss)) : ae_T l G (d + 3) mX12_copy (ae_Po (some (ae_i rr)) ss) 88 [(0, ae_r (some (30, 0))), (1, ae_i v1), (2, ae_i v2), (3, ae_i v3), (4, ae_i v4), (5, ae_i v5)] [ae_l t0, ae_i t1, ae_i t2, ae_r (some (30, 0)), ae_i t4, ae_i t5, ae_r (some (30, 0))] s0 := by
  unfold F_X12_copy_88 at hF
  refine ae_iload 5 dX12_copy_88 rfl ?_
  refine ae_if_eq 103 dX12_copy_90 rfl (fun hb11 => ?_) (fun hb11 => ?_)
  · have hF12 := ae_ifT hb11 hF
    refine ae_dconst0 dX12_copy_103 ?_
    refine ae_pick (lv' := [(0, ae_r (some (30, 0))), (1, ae_i v1), (2, ae_i v2), (3, ae_i v3), (4, ae_i v4)]) [0, 1, 2, 3, 4] rfl ?_
    exact t_X12_copy_104 d k51 hk51 v1 v2 v3 v4 FP.dconst0 t0 t1 t2 t4 t5 s0 hF12
  · have hF12 := ae_ifF hb11 hF
    refine ae_aload_n 0 dX12_copy_93 rfl ?_
    refine ae_iload_n 1 dX12_copy_94 rfl ?_
    refine ae_iload 4 dX12_copy_95 rfl ?_
    obtain ⟨r13, s14, hc15, hF16⟩ := ae_bdI hF12
    refine ae_cV1 (q := (30, 0)) (As := [ae_i v1, ae_i v4]) dX12_copy_97 ww_1656 vy_X12_floatOf rfl rfl rfl rfl rfl (Nat.le_of_ble_eq_true rfl) (c_X12_floatOf d hc15) ?_
    refine ae_goto 104 dX12_copy_100 rfl ?_
    refine ae_pick (lv' := [(0, ae_r (some (30, 0))), (1, ae_i v1), (2, ae_i v2), (3, ae_i v3), (4, ae_i v4)]) [0, 1, 2, 3, 4] rfl ?_
    exact t_X12_copy_104 d k51 hk51 v1 v2 v3 v4 r13 t0 t1 t2 t4 t5 s14 hF16
def F_X12_copy_51 : Nat → Int32 → Int32 → Int32 → Int32 → ae_S → Option (Int32 × ae_S)
  | 0, _, _, _, _, _ => none
  | n + 1, v1, v2, v3, v4, s0 => if v3 ≤ v4 then (ae_bd (F_X12_ends (1 : Int32) s0) (fun (r19 : Unit) s20 => some (v3, s20))) else (ae_bd (F_X12_isFloating v1 s0) (fun (r23 : Int32) s24 => if r23 = 0 then (ae_bd (F_X12_wholeOf v1 v4 s24) (fun (r29 : Int64) s30 => F_X12_copy_88 (F_X12_copy_51 n) v1 v2 v3 v4 r23 r29 r23 v2 v4 v2 s30)) else (F_X12_copy_88 (F_X12_copy_51 n) v1 v2 v3 v4 r23 (0 : Int64) r23 v2 v4 v2 s24)))
set_option maxHeartbeats 4000000 in
set_option maxRecDepth 100000 in
theorem t_X12_copy_51 {l : Launch} {G : ae_G} (d : Nat) {rr : Int32} {ss : ae_S} : ∀ (n : Nat) (v1 : Int32) (v2 : Int32) (v3 : Int32) (v4 : Int32) (s0 : ae_S), F_X12_copy_51 n v1 v2 v3 v4 s0 = some (rr, ss) → ae_T l G (d + 3) mX12_copy (ae_Po (some (ae_i rr)) ss) 51 [(0, ae_r (some (30, 0))), (1, ae_i v1), (2, ae_i v2), (3, ae_i v3), (4, ae_i v4)] [] s0 := by
  intro n
  induction n with
  | zero =>
    intro v1 v2 v3 v4 s0 hF
    exact absurd (show (none : Option (Int32 × ae_S)) = some (rr, ss) from hF) (by simp)
  | succ n ih =>
    intro v1 v2 v3 v4 s0 hF
    unfold F_X12_copy_51 at hF
    refine ae_iload 4 dX12_copy_51 rfl ?_
    refine ae_iload_n 3 dX12_copy_53 rfl ?_
    refine ae_icmp_ge 116 dX12_copy_54 rfl (fun hb17 => ?_) (fun hb17 => ?_)
    · have hF18 := ae_ifT hb17 hF
      refine ae_aload_n 0 dX12_copy_116 rfl ?_
      refine ae_iconst (1 : Int32) dX12_copy_117 (by decide) ?_
      obtain ⟨r19, s20, hc21, hF22⟩ := ae_bdI hF18
      refine ae_cV0 (q := (30, 0)) (As := [ae_i (1 : Int32)]) dX12_copy_118 ww_1472 vy_X12_ends rfl rfl rfl rfl rfl (Nat.le_of_ble_eq_true rfl) (c_X12_ends (d + 2) hc21) ?_
      refine ae_iload_n 3 dX12_copy_121 rfl ?_
      obtain ⟨rfl, rfl⟩ := ae_retI hF22
      exact ae_iret dX12_copy_122 rfl rfl ⟨rfl, rfl⟩
    · have hF18 := ae_ifF hb17 hF
      refine ae_aload_n 0 dX12_copy_57 rfl ?_
      refine ae_iload_n 1 dX12_copy_58 rfl ?_
      obtain ⟨r23, s24, hc25, hF26⟩ := ae_bdI hF18
      refine ae_cV1 (q := (30, 0)) (As := [ae_i v1]) dX12_copy_59 ww_1644 vy_X12_isFloating rfl rfl rfl rfl rfl (Nat.le_of_ble_eq_true rfl) (c_X12_isFloating (d + 2) hc25) ?_
      refine ae_istore (lv' := [(5, ae_i r23), (0, ae_r (some (30, 0))), (1, ae_i v1), (2, ae_i v2), (3, ae_i v3), (4, ae_i v4)]) dX12_copy_62 (by decide) rfl ?_
      refine ae_aload_n 1 dX12_copy_64 rfl ?_
      refine ae_iload_n 3 dX12_copy_65 rfl ?_
      refine ae_iload 5 dX12_copy_66 rfl ?_
      refine ae_aload_n 1 dX12_copy_68 rfl ?_
      refine ae_iload_n 3 dX12_copy_69 rfl ?_
      refine ae_iload 0 dX12_copy_70 rfl ?_
      refine ae_iload 0 dX12_copy_72 rfl ?_
      refine ae_if_eq 81 dX12_copy_74 rfl (fun hb27 => ?_) (fun hb27 => ?_)
      · have hF28 := ae_ifT hb27 hF26
        refine ae_aload_n 1 dX12_copy_81 rfl ?_
        refine ae_iload_n 2 dX12_copy_82 rfl ?_
        refine ae_iload 5 dX12_copy_83 rfl ?_
        obtain ⟨r29, s30, hc31, hF32⟩ := ae_bdI hF28
        refine ae_cV1 (q := (30, 0)) (As := [ae_i v1, ae_i v4]) dX12_copy_85 ww_1648 vy_X12_wholeOf rfl rfl rfl rfl rfl (Nat.le_of_ble_eq_true rfl) (c_X12_wholeOf d hc31) ?_
        refine ae_pick (lv' := [(0, ae_r (some (30, 0))), (1, ae_i v1), (2, ae_i v2), (3, ae_i v3), (4, ae_i v4), (5, ae_i r23)]) [1, 2, 3, 4, 5, 0] rfl ?_
        exact t_X12_copy_88 d (F_X12_copy_51 n) ih v1 v2 v3 v4 r23 r29 r23 v2 v4 v2 s30 hF32
      · have hF28 := ae_ifF hb27 hF26
        refine ae_lconst (0 : Int64) dX12_copy_77 (by decide) ?_
        refine ae_goto 88 dX12_copy_78 rfl ?_
        refine ae_pick (lv' := [(0, ae_r (some (30, 0))), (1, ae_i v1), (2, ae_i v2), (3, ae_i v3), (4, ae_i v4), (5, ae_i r23)]) [1, 2, 3, 4, 5, 0] rfl ?_
        exact t_X12_copy_88 d (F_X12_copy_51 n) ih v1 v2 v3 v4 r23 (0 : Int64) r23 v2 v4 v2 s24 hF28
def F_X12_copy (v1 : Int32) (v2 : Int32) (s0 : ae_S) : Option (Int32 × ae_S) := ae_bd (F_X12_isView v1 s0) (fun (r33 : Int32) s34 => if r33 = 0 then (F_X12_copy_26 s34) else (ae_bd (F_X12_isView v2 s34) (fun (r39 : Int32) s40 => if r39 = 0 then (F_X12_copy_26 s40) else (ae_gd (ae_ib v2 32) (if (s40.1 41 0 v2.toNatClampNeg) = (1 : Int32) then (F_X12_copy_26 s40) else (ae_bd (F_X12_begins s40) (fun (r49 : Unit) s50 => ae_gd (ae_ib v1 32) (ae_gd (ae_ib v2 32) (ae_lt (if (s50.1 39 0 v2.toNatClampNeg) < (s50.1 39 0 v1.toNatClampNeg) then (s50.1 39 0 v2.toNatClampNeg) else (s50.1 39 0 v1.toNatClampNeg)) (fun x57 => F_X12_copy_51 ae_fu v1 v2 x57 (0 : Int32) s50))))))))))
set_option maxHeartbeats 4000000 in
set_option maxRecDepth 100000 in
theorem c_X12_copy {l : Launch} {G : ae_G} (d : Nat) {v1 : Int32} {v2 : Int32} {s0 ss : ae_S} {rr : Int32} (hF : F_X12_copy v1 v2 s0 = some (rr, ss)) : ae_Met l G (d + 3) yX12_copy mX12_copy [ae_r (some (30, 0)), ae_i v1, ae_i v2] s0 (ae_Po (some (ae_i rr)) ss) := by
  refine ae_enter (by decide) rfl (Nat.le_of_ble_eq_true rfl) ?_
  show ae_T l G (d + 3) mX12_copy (ae_Po (some (ae_i rr)) ss) 0 [(0, ae_r (some (30, 0))), (1, ae_i v1), (2, ae_i v2)] [] s0
  unfold F_X12_copy at hF
  refine ae_aload_n 0 dX12_copy_0 rfl ?_
  refine ae_iload_n 1 dX12_copy_1 rfl ?_
  obtain ⟨r33, s34, hc35, hF36⟩ := ae_bdI hF
  refine ae_cV1 (q := (30, 0)) (As := [ae_i v1]) dX12_copy_2 ww_1635 vy_X12_isView rfl rfl rfl rfl rfl (Nat.le_of_ble_eq_true rfl) (c_X12_isView (d + 1) hc35) ?_
  refine ae_if_eq 26 dX12_copy_5 rfl (fun hb37 => ?_) (fun hb37 => ?_)
  · have hF38 := ae_ifT hb37 hF36
    refine ae_pick (lv' := []) [] rfl ?_
    exact t_X12_copy_26 d s34 hF38
  · have hF38 := ae_ifF hb37 hF36
    refine ae_aload_n 0 dX12_copy_8 rfl ?_
    refine ae_iload_n 2 dX12_copy_9 rfl ?_
    obtain ⟨r39, s40, hc41, hF42⟩ := ae_bdI hF38
    refine ae_cV1 (q := (30, 0)) (As := [ae_i v2]) dX12_copy_10 ww_1635 vy_X12_isView rfl rfl rfl rfl rfl (Nat.le_of_ble_eq_true rfl) (c_X12_isView (d + 1) hc41) ?_
    refine ae_if_eq 26 dX12_copy_13 rfl (fun hb43 => ?_) (fun hb43 => ?_)
    · have hF44 := ae_ifT hb43 hF42
      refine ae_pick (lv' := []) [] rfl ?_
      exact t_X12_copy_26 d s40 hF44
    · have hF44 := ae_ifF hb43 hF42
      refine ae_aload_n 0 dX12_copy_16 rfl ?_
      refine ae_getA (q := (30, 0)) (some (41, 0)) dX12_copy_17 fl_RX12_44 rfl rfl rfl ?_
      refine ae_iload_n 2 dX12_copy_20 rfl ?_
      obtain ⟨hg45, hF46⟩ := ae_gdI hF44
      refine ae_iald (q := (41, 0)) dX12_copy_21 rfl rfl (ae_ibI hg45) ?_
      refine ae_iconst (1 : Int32) dX12_copy_22 (by decide) ?_
      refine ae_icmp_ne 28 dX12_copy_23 rfl (fun hb47 => ?_) (fun hb47 => ?_)
      · have hF48 := ae_ifF hb47 hF46
        refine ae_aload_n 0 dX12_copy_28 rfl ?_
        obtain ⟨r49, s50, hc51, hF52⟩ := ae_bdI hF48
        refine ae_cV0 (q := (30, 0)) (As := []) dX12_copy_29 ww_1468 vy_X12_begins rfl rfl rfl rfl rfl (Nat.le_of_ble_eq_true rfl) (c_X12_begins (d + 2) hc51) ?_
        refine ae_aload_n 0 dX12_copy_32 rfl ?_
        refine ae_getA (q := (30, 0)) (some (39, 0)) dX12_copy_33 fl_RX12_38 rfl rfl rfl ?_
        refine ae_iload_n 1 dX12_copy_36 rfl ?_
        obtain ⟨hg53, hF54⟩ := ae_gdI hF52
        refine ae_iald (q := (39, 0)) dX12_copy_37 rfl rfl (ae_ibI hg53) ?_
        refine ae_aload_n 0 dX12_copy_38 rfl ?_
        refine ae_getA (q := (30, 0)) (some (39, 0)) dX12_copy_39 fl_RX12_38 rfl rfl rfl ?_
        refine ae_iload_n 2 dX12_copy_42 rfl ?_
        obtain ⟨hg55, hF56⟩ := ae_gdI hF54
        refine ae_iald (q := (39, 0)) dX12_copy_43 rfl rfl (ae_ibI hg55) ?_
        refine ae_mmin dX12_copy_44 ww_1824 ww_1147 ww_21 ww_1148 (Nat.le_of_ble_eq_true rfl) ?_
        obtain ⟨x57, hx57, hF58⟩ := ae_ltI hF56
        refine ae_nmI hx57 ?_
        refine ae_istore_n (lv' := [(3, ae_i x57), (0, ae_r (some (30, 0))), (1, ae_i v1), (2, ae_i v2)]) dX12_copy_47 (by decide) rfl ?_
        refine ae_iconst (0 : Int32) dX12_copy_48 (by decide) ?_
        refine ae_istore (lv' := [(4, ae_i (0 : Int32)), (3, ae_i x57), (0, ae_r (some (30, 0))), (1, ae_i v1), (2, ae_i v2)]) dX12_copy_49 (by decide) rfl ?_
        refine ae_pick (lv' := [(0, ae_r (some (30, 0))), (1, ae_i v1), (2, ae_i v2), (3, ae_i x57), (4, ae_i (0 : Int32))]) [2, 3, 4, 1, 0] rfl ?_
        exact t_X12_copy_51 d ae_fu v1 v2 x57 (0 : Int32) s50 hF58
      · have hF48 := ae_ifT hb47 hF46
        refine ae_pick (lv' := []) [] rfl ?_
        exact t_X12_copy_26 d s40 hF48
