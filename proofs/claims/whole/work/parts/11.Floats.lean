/-! methods as functions: J6_numberOfLeadingZeros_0f7a4 J13_numberOfLeadingZeros_95d88 X2_rounded X2_ofWhole X2_digitsOf X2_isInfinite X2_isNan X2_isZero X2_liftOf X2_powerOf X2_quotient X2_divide X2_loweredBy X2_addLower X2_add X2_toWhole X2_widened X2_plain X2_narrowed X2_smallOfWhole X2_negative X2_product X2_multiply X2_remainder X2_orderOf X2_less X2_alike -/
abbrev mJ6_numberOfLeadingZeros_0f7a4 : ae_M := (RJ6, cJ6_numberOfLeadingZeros_0f7a4, 2, some .int)
theorem vy_J6_numberOfLeadingZeros_0f7a4 : ae_SY yJ6_numberOfLeadingZeros_0f7a4 mJ6_numberOfLeadingZeros_0f7a4 1 := ⟨ww_737, ww_20, ww_738, ⟨by decide, by decide, by decide +kernel⟩, by decide⟩
theorem dJ6_numberOfLeadingZeros_0f7a4_0 : decode cJ6_numberOfLeadingZeros_0f7a4 0 = .ok (.iload_n 0, 1) := by decide +kernel
theorem dJ6_numberOfLeadingZeros_0f7a4_1 : decode cJ6_numberOfLeadingZeros_0f7a4 1 = .ok (.ifCond .gt 14, 3) := by decide +kernel
theorem dJ6_numberOfLeadingZeros_0f7a4_4 : decode cJ6_numberOfLeadingZeros_0f7a4 4 = .ok (.iload_n 0, 1) := by decide +kernel
theorem dJ6_numberOfLeadingZeros_0f7a4_5 : decode cJ6_numberOfLeadingZeros_0f7a4 5 = .ok (.ifCond .ne 8, 3) := by decide +kernel
theorem dJ6_numberOfLeadingZeros_0f7a4_8 : decode cJ6_numberOfLeadingZeros_0f7a4 8 = .ok (.bipush 32, 2) := by decide +kernel
theorem dJ6_numberOfLeadingZeros_0f7a4_10 : decode cJ6_numberOfLeadingZeros_0f7a4 10 = .ok (.goto 4, 3) := by decide +kernel
theorem dJ6_numberOfLeadingZeros_0f7a4_13 : decode cJ6_numberOfLeadingZeros_0f7a4 13 = .ok (.iconst 0, 1) := by decide +kernel
theorem dJ6_numberOfLeadingZeros_0f7a4_14 : decode cJ6_numberOfLeadingZeros_0f7a4 14 = .ok (.ireturn, 1) := by decide +kernel
theorem dJ6_numberOfLeadingZeros_0f7a4_15 : decode cJ6_numberOfLeadingZeros_0f7a4 15 = .ok (.bipush 31, 2) := by decide +kernel
theorem dJ6_numberOfLeadingZeros_0f7a4_17 : decode cJ6_numberOfLeadingZeros_0f7a4 17 = .ok (.istore_n 1, 1) := by decide +kernel
theorem dJ6_numberOfLeadingZeros_0f7a4_18 : decode cJ6_numberOfLeadingZeros_0f7a4 18 = .ok (.iload_n 0, 1) := by decide +kernel
theorem dJ6_numberOfLeadingZeros_0f7a4_19 : decode cJ6_numberOfLeadingZeros_0f7a4 19 = .ok (.ldc_w 264, 3) := by decide +kernel
theorem dJ6_numberOfLeadingZeros_0f7a4_22 : decode cJ6_numberOfLeadingZeros_0f7a4 22 = .ok (.if_icmp .lt 11, 3) := by decide +kernel
theorem dJ6_numberOfLeadingZeros_0f7a4_25 : decode cJ6_numberOfLeadingZeros_0f7a4 25 = .ok (.iinc 1 (-16), 3) := by decide +kernel
theorem dJ6_numberOfLeadingZeros_0f7a4_28 : decode cJ6_numberOfLeadingZeros_0f7a4 28 = .ok (.iload_n 0, 1) := by decide +kernel
theorem dJ6_numberOfLeadingZeros_0f7a4_29 : decode cJ6_numberOfLeadingZeros_0f7a4 29 = .ok (.bipush 16, 2) := by decide +kernel
theorem dJ6_numberOfLeadingZeros_0f7a4_31 : decode cJ6_numberOfLeadingZeros_0f7a4 31 = .ok (.iushr, 1) := by decide +kernel
theorem dJ6_numberOfLeadingZeros_0f7a4_32 : decode cJ6_numberOfLeadingZeros_0f7a4 32 = .ok (.istore_n 0, 1) := by decide +kernel
theorem dJ6_numberOfLeadingZeros_0f7a4_33 : decode cJ6_numberOfLeadingZeros_0f7a4 33 = .ok (.iload_n 0, 1) := by decide +kernel
theorem dJ6_numberOfLeadingZeros_0f7a4_34 : decode cJ6_numberOfLeadingZeros_0f7a4 34 = .ok (.sipush 256, 3) := by decide +kernel
theorem dJ6_numberOfLeadingZeros_0f7a4_37 : decode cJ6_numberOfLeadingZeros_0f7a4 37 = .ok (.if_icmp .lt 11, 3) := by decide +kernel
theorem dJ6_numberOfLeadingZeros_0f7a4_40 : decode cJ6_numberOfLeadingZeros_0f7a4 40 = .ok (.iinc 1 (-8), 3) := by decide +kernel
theorem dJ6_numberOfLeadingZeros_0f7a4_43 : decode cJ6_numberOfLeadingZeros_0f7a4 43 = .ok (.iload_n 0, 1) := by decide +kernel
theorem dJ6_numberOfLeadingZeros_0f7a4_44 : decode cJ6_numberOfLeadingZeros_0f7a4 44 = .ok (.bipush 8, 2) := by decide +kernel
theorem dJ6_numberOfLeadingZeros_0f7a4_46 : decode cJ6_numberOfLeadingZeros_0f7a4 46 = .ok (.iushr, 1) := by decide +kernel
theorem dJ6_numberOfLeadingZeros_0f7a4_47 : decode cJ6_numberOfLeadingZeros_0f7a4 47 = .ok (.istore_n 0, 1) := by decide +kernel
theorem dJ6_numberOfLeadingZeros_0f7a4_48 : decode cJ6_numberOfLeadingZeros_0f7a4 48 = .ok (.iload_n 0, 1) := by decide +kernel
theorem dJ6_numberOfLeadingZeros_0f7a4_49 : decode cJ6_numberOfLeadingZeros_0f7a4 49 = .ok (.bipush 16, 2) := by decide +kernel
theorem dJ6_numberOfLeadingZeros_0f7a4_51 : decode cJ6_numberOfLeadingZeros_0f7a4 51 = .ok (.if_icmp .lt 10, 3) := by decide +kernel
theorem dJ6_numberOfLeadingZeros_0f7a4_54 : decode cJ6_numberOfLeadingZeros_0f7a4 54 = .ok (.iinc 1 (-4), 3) := by decide +kernel
theorem dJ6_numberOfLeadingZeros_0f7a4_57 : decode cJ6_numberOfLeadingZeros_0f7a4 57 = .ok (.iload_n 0, 1) := by decide +kernel
theorem dJ6_numberOfLeadingZeros_0f7a4_58 : decode cJ6_numberOfLeadingZeros_0f7a4 58 = .ok (.iconst 4, 1) := by decide +kernel
theorem dJ6_numberOfLeadingZeros_0f7a4_59 : decode cJ6_numberOfLeadingZeros_0f7a4 59 = .ok (.iushr, 1) := by decide +kernel
theorem dJ6_numberOfLeadingZeros_0f7a4_60 : decode cJ6_numberOfLeadingZeros_0f7a4 60 = .ok (.istore_n 0, 1) := by decide +kernel
theorem dJ6_numberOfLeadingZeros_0f7a4_61 : decode cJ6_numberOfLeadingZeros_0f7a4 61 = .ok (.iload_n 0, 1) := by decide +kernel
theorem dJ6_numberOfLeadingZeros_0f7a4_62 : decode cJ6_numberOfLeadingZeros_0f7a4 62 = .ok (.iconst 4, 1) := by decide +kernel
theorem dJ6_numberOfLeadingZeros_0f7a4_63 : decode cJ6_numberOfLeadingZeros_0f7a4 63 = .ok (.if_icmp .lt 10, 3) := by decide +kernel
theorem dJ6_numberOfLeadingZeros_0f7a4_66 : decode cJ6_numberOfLeadingZeros_0f7a4 66 = .ok (.iinc 1 (-2), 3) := by decide +kernel
theorem dJ6_numberOfLeadingZeros_0f7a4_69 : decode cJ6_numberOfLeadingZeros_0f7a4 69 = .ok (.iload_n 0, 1) := by decide +kernel
theorem dJ6_numberOfLeadingZeros_0f7a4_70 : decode cJ6_numberOfLeadingZeros_0f7a4 70 = .ok (.iconst 2, 1) := by decide +kernel
theorem dJ6_numberOfLeadingZeros_0f7a4_71 : decode cJ6_numberOfLeadingZeros_0f7a4 71 = .ok (.iushr, 1) := by decide +kernel
theorem dJ6_numberOfLeadingZeros_0f7a4_72 : decode cJ6_numberOfLeadingZeros_0f7a4 72 = .ok (.istore_n 0, 1) := by decide +kernel
theorem dJ6_numberOfLeadingZeros_0f7a4_73 : decode cJ6_numberOfLeadingZeros_0f7a4 73 = .ok (.iload_n 1, 1) := by decide +kernel
theorem dJ6_numberOfLeadingZeros_0f7a4_74 : decode cJ6_numberOfLeadingZeros_0f7a4 74 = .ok (.iload_n 0, 1) := by decide +kernel
theorem dJ6_numberOfLeadingZeros_0f7a4_75 : decode cJ6_numberOfLeadingZeros_0f7a4 75 = .ok (.iconst 1, 1) := by decide +kernel
theorem dJ6_numberOfLeadingZeros_0f7a4_76 : decode cJ6_numberOfLeadingZeros_0f7a4 76 = .ok (.iushr, 1) := by decide +kernel
theorem dJ6_numberOfLeadingZeros_0f7a4_77 : decode cJ6_numberOfLeadingZeros_0f7a4 77 = .ok (.isub, 1) := by decide +kernel
theorem dJ6_numberOfLeadingZeros_0f7a4_78 : decode cJ6_numberOfLeadingZeros_0f7a4 78 = .ok (.ireturn, 1) := by decide +kernel
def F_J6_numberOfLeadingZeros_0f7a4_73 (v0 : Int32) (v1 : Int32) (s0 : ae_S) : Option (Int32 × ae_S) := some (v1 - ((v0.toUInt32 >>> ((1 : Int32).toUInt32 &&& Int32.toUInt32 31)).toInt32), s0)
set_option maxHeartbeats 4000000 in
set_option maxRecDepth 100000 in
theorem t_J6_numberOfLeadingZeros_0f7a4_73 {l : Launch} {G : ae_G} (d : Nat) {rr : Int32} {ss : ae_S} (v0 : Int32) (v1 : Int32) (s0 : ae_S) (hF : F_J6_numberOfLeadingZeros_0f7a4_73 v0 v1 s0 = some (rr, ss)) : ae_T l G d mJ6_numberOfLeadingZeros_0f7a4 (ae_Po (some (ae_i rr)) ss) 73 [(0, ae_i v0), (1, ae_i v1)] [] s0 := by
  unfold F_J6_numberOfLeadingZeros_0f7a4_73 at hF
  refine ae_iload_n 1 dJ6_numberOfLeadingZeros_0f7a4_73 rfl ?_
  refine ae_iload_n 0 dJ6_numberOfLeadingZeros_0f7a4_74 rfl ?_
  refine ae_iconst (1 : Int32) dJ6_numberOfLeadingZeros_0f7a4_75 (by decide) ?_
  refine ae_iushr dJ6_numberOfLeadingZeros_0f7a4_76 ?_
  refine ae_isub dJ6_numberOfLeadingZeros_0f7a4_77 ?_
  obtain ⟨rfl, rfl⟩ := ae_retI hF
  exact ae_iret dJ6_numberOfLeadingZeros_0f7a4_78 rfl rfl ⟨rfl, rfl⟩
def F_J6_numberOfLeadingZeros_0f7a4_61 (v0 : Int32) (v1 : Int32) (s0 : ae_S) : Option (Int32 × ae_S) := if v0 < (4 : Int32) then (F_J6_numberOfLeadingZeros_0f7a4_73 v0 v1 s0) else (ae_lt (v1 + (-2 : Int32)) (fun x3 => ae_lt ((v0.toUInt32 >>> ((2 : Int32).toUInt32 &&& Int32.toUInt32 31)).toInt32) (fun x5 => F_J6_numberOfLeadingZeros_0f7a4_73 x5 x3 s0)))
set_option maxHeartbeats 4000000 in
set_option maxRecDepth 100000 in
theorem t_J6_numberOfLeadingZeros_0f7a4_61 {l : Launch} {G : ae_G} (d : Nat) {rr : Int32} {ss : ae_S} (v0 : Int32) (v1 : Int32) (s0 : ae_S) (hF : F_J6_numberOfLeadingZeros_0f7a4_61 v0 v1 s0 = some (rr, ss)) : ae_T l G d mJ6_numberOfLeadingZeros_0f7a4 (ae_Po (some (ae_i rr)) ss) 61 [(0, ae_i v0), (1, ae_i v1)] [] s0 := by
  unfold F_J6_numberOfLeadingZeros_0f7a4_61 at hF
  refine ae_iload_n 0 dJ6_numberOfLeadingZeros_0f7a4_61 rfl ?_
  refine ae_iconst (4 : Int32) dJ6_numberOfLeadingZeros_0f7a4_62 (by decide) ?_
  refine ae_icmp_lt 73 dJ6_numberOfLeadingZeros_0f7a4_63 rfl (fun hb1 => ?_) (fun hb1 => ?_)
  · have hF2 := ae_ifT hb1 hF
    refine ae_pick (lv' := [(0, ae_i v0), (1, ae_i v1)]) [0, 1] rfl ?_
    exact t_J6_numberOfLeadingZeros_0f7a4_73 d v0 v1 s0 hF2
  · have hF2 := ae_ifF hb1 hF
    obtain ⟨x3, hx3, hF4⟩ := ae_ltI hF2
    refine ae_iinc (lv' := [(1, ae_i x3), (0, ae_i v0)]) 1 (-2 : Int32) dJ6_numberOfLeadingZeros_0f7a4_66 rfl (by decide) (by decide) (by rw [hx3]; rfl) ?_
    refine ae_iload_n 1 dJ6_numberOfLeadingZeros_0f7a4_69 rfl ?_
    refine ae_iconst (2 : Int32) dJ6_numberOfLeadingZeros_0f7a4_70 (by decide) ?_
    refine ae_iushr dJ6_numberOfLeadingZeros_0f7a4_71 ?_
    obtain ⟨x5, hx5, hF6⟩ := ae_ltI hF4
    refine ae_nmI hx5 ?_
    refine ae_istore_n (lv' := [(0, ae_i x5), (1, ae_i x3)]) dJ6_numberOfLeadingZeros_0f7a4_72 (by decide) rfl ?_
    refine ae_pick (lv' := [(0, ae_i x5), (1, ae_i x3)]) [0, 1] rfl ?_
    exact t_J6_numberOfLeadingZeros_0f7a4_73 d x5 x3 s0 hF6
def F_J6_numberOfLeadingZeros_0f7a4_48 (v0 : Int32) (v1 : Int32) (s0 : ae_S) : Option (Int32 × ae_S) := if v0 < (16 : Int32) then (F_J6_numberOfLeadingZeros_0f7a4_61 v0 v1 s0) else (ae_lt (v1 + (-4 : Int32)) (fun x9 => ae_lt ((v0.toUInt32 >>> ((4 : Int32).toUInt32 &&& Int32.toUInt32 31)).toInt32) (fun x11 => F_J6_numberOfLeadingZeros_0f7a4_61 x11 x9 s0)))
set_option maxHeartbeats 4000000 in
set_option maxRecDepth 100000 in
theorem t_J6_numberOfLeadingZeros_0f7a4_48 {l : Launch} {G : ae_G} (d : Nat) {rr : Int32} {ss : ae_S} (v0 : Int32) (v1 : Int32) (s0 : ae_S) (hF : F_J6_numberOfLeadingZeros_0f7a4_48 v0 v1 s0 = some (rr, ss)) : ae_T l G d mJ6_numberOfLeadingZeros_0f7a4 (ae_Po (some (ae_i rr)) ss) 48 [(0, ae_i v0), (1, ae_i v1)] [] s0 := by
  unfold F_J6_numberOfLeadingZeros_0f7a4_48 at hF
  refine ae_iload_n 0 dJ6_numberOfLeadingZeros_0f7a4_48 rfl ?_
  refine ae_bipush (16 : Int32) dJ6_numberOfLeadingZeros_0f7a4_49 (by decide) ?_
  refine ae_icmp_lt 61 dJ6_numberOfLeadingZeros_0f7a4_51 rfl (fun hb7 => ?_) (fun hb7 => ?_)
  · have hF8 := ae_ifT hb7 hF
    refine ae_pick (lv' := [(0, ae_i v0), (1, ae_i v1)]) [0, 1] rfl ?_
    exact t_J6_numberOfLeadingZeros_0f7a4_61 d v0 v1 s0 hF8
  · have hF8 := ae_ifF hb7 hF
    obtain ⟨x9, hx9, hF10⟩ := ae_ltI hF8
    refine ae_iinc (lv' := [(1, ae_i x9), (0, ae_i v0)]) 1 (-4 : Int32) dJ6_numberOfLeadingZeros_0f7a4_54 rfl (by decide) (by decide) (by rw [hx9]; rfl) ?_
    refine ae_iload_n 1 dJ6_numberOfLeadingZeros_0f7a4_57 rfl ?_
    refine ae_iconst (4 : Int32) dJ6_numberOfLeadingZeros_0f7a4_58 (by decide) ?_
    refine ae_iushr dJ6_numberOfLeadingZeros_0f7a4_59 ?_
    obtain ⟨x11, hx11, hF12⟩ := ae_ltI hF10
    refine ae_nmI hx11 ?_
    refine ae_istore_n (lv' := [(0, ae_i x11), (1, ae_i x9)]) dJ6_numberOfLeadingZeros_0f7a4_60 (by decide) rfl ?_
    refine ae_pick (lv' := [(0, ae_i x11), (1, ae_i x9)]) [0, 1] rfl ?_
    exact t_J6_numberOfLeadingZeros_0f7a4_61 d x11 x9 s0 hF12
def F_J6_numberOfLeadingZeros_0f7a4_33 (v0 : Int32) (v1 : Int32) (s0 : ae_S) : Option (Int32 × ae_S) := if v0 < (256 : Int32) then (F_J6_numberOfLeadingZeros_0f7a4_48 v0 v1 s0) else (ae_lt (v1 + (-8 : Int32)) (fun x15 => ae_lt ((v0.toUInt32 >>> ((8 : Int32).toUInt32 &&& Int32.toUInt32 31)).toInt32) (fun x17 => F_J6_numberOfLeadingZeros_0f7a4_48 x17 x15 s0)))
set_option maxHeartbeats 4000000 in
set_option maxRecDepth 100000 in
theorem t_J6_numberOfLeadingZeros_0f7a4_33 {l : Launch} {G : ae_G} (d : Nat) {rr : Int32} {ss : ae_S} (v0 : Int32) (v1 : Int32) (s0 : ae_S) (hF : F_J6_numberOfLeadingZeros_0f7a4_33 v0 v1 s0 = some (rr, ss)) : ae_T l G d mJ6_numberOfLeadingZeros_0f7a4 (ae_Po (some (ae_i rr)) ss) 33 [(0, ae_i v0), (1, ae_i v1)] [] s0 := by
  unfold F_J6_numberOfLeadingZeros_0f7a4_33 at hF
  refine ae_iload_n 0 dJ6_numberOfLeadingZeros_0f7a4_33 rfl ?_
  refine ae_sipush (256 : Int32) dJ6_numberOfLeadingZeros_0f7a4_34 (by decide) ?_
  refine ae_icmp_lt 48 dJ6_numberOfLeadingZeros_0f7a4_37 rfl (fun hb13 => ?_) (fun hb13 => ?_)
  · have hF14 := ae_ifT hb13 hF
    refine ae_pick (lv' := [(0, ae_i v0), (1, ae_i v1)]) [0, 1] rfl ?_
    exact t_J6_numberOfLeadingZeros_0f7a4_48 d v0 v1 s0 hF14
  · have hF14 := ae_ifF hb13 hF
    obtain ⟨x15, hx15, hF16⟩ := ae_ltI hF14
    refine ae_iinc (lv' := [(1, ae_i x15), (0, ae_i v0)]) 1 (-8 : Int32) dJ6_numberOfLeadingZeros_0f7a4_40 rfl (by decide) (by decide) (by rw [hx15]; rfl) ?_
    refine ae_iload_n 1 dJ6_numberOfLeadingZeros_0f7a4_43 rfl ?_
    refine ae_bipush (8 : Int32) dJ6_numberOfLeadingZeros_0f7a4_44 (by decide) ?_
    refine ae_iushr dJ6_numberOfLeadingZeros_0f7a4_46 ?_
    obtain ⟨x17, hx17, hF18⟩ := ae_ltI hF16
    refine ae_nmI hx17 ?_
    refine ae_istore_n (lv' := [(0, ae_i x17), (1, ae_i x15)]) dJ6_numberOfLeadingZeros_0f7a4_47 (by decide) rfl ?_
    refine ae_pick (lv' := [(0, ae_i x17), (1, ae_i x15)]) [0, 1] rfl ?_
    exact t_J6_numberOfLeadingZeros_0f7a4_48 d x17 x15 s0 hF18
def F_J6_numberOfLeadingZeros_0f7a4_14 (t0 : Int32) (s0 : ae_S) : Option (Int32 × ae_S) := some (t0, s0)
set_option maxHeartbeats 4000000 in
set_option maxRecDepth 100000 in
theorem t_J6_numberOfLeadingZeros_0f7a4_14 {l : Launch} {G : ae_G} (d : Nat) {rr : Int32} {ss : ae_S} (t0 : Int32) (s0 : ae_S) (hF : F_J6_numberOfLeadingZeros_0f7a4_14 t0 s0 = some (rr, ss)) : ae_T l G d mJ6_numberOfLeadingZeros_0f7a4 (ae_Po (some (ae_i rr)) ss) 14 [] [ae_i t0] s0 := by
  unfold F_J6_numberOfLeadingZeros_0f7a4_14 at hF
  obtain ⟨rfl, rfl⟩ := ae_retI hF
  exact ae_iret dJ6_numberOfLeadingZeros_0f7a4_14 rfl rfl ⟨rfl, rfl⟩
def F_J6_numberOfLeadingZeros_0f7a4 (v0 : Int32) (s0 : ae_S) : Option (Int32 × ae_S) := if 0 < v0 then (if v0 < (65536 : Int32) then (F_J6_numberOfLeadingZeros_0f7a4_33 v0 (31 : Int32) s0) else (ae_lt ((31 : Int32) + (-16 : Int32)) (fun x23 => ae_lt ((v0.toUInt32 >>> ((16 : Int32).toUInt32 &&& Int32.toUInt32 31)).toInt32) (fun x25 => F_J6_numberOfLeadingZeros_0f7a4_33 x25 x23 s0)))) else (if v0 = 0 then (F_J6_numberOfLeadingZeros_0f7a4_14 (32 : Int32) s0) else (F_J6_numberOfLeadingZeros_0f7a4_14 (0 : Int32) s0))
set_option maxHeartbeats 4000000 in
set_option maxRecDepth 100000 in
theorem c_J6_numberOfLeadingZeros_0f7a4 {l : Launch} {G : ae_G} (d : Nat) {v0 : Int32} {s0 ss : ae_S} {rr : Int32} (hF : F_J6_numberOfLeadingZeros_0f7a4 v0 s0 = some (rr, ss)) : ae_Met l G d yJ6_numberOfLeadingZeros_0f7a4 mJ6_numberOfLeadingZeros_0f7a4 [ae_i v0] s0 (ae_Po (some (ae_i rr)) ss) := by
  refine ae_enter (by decide) rfl (Nat.le_of_ble_eq_true rfl) ?_
  show ae_T l G d mJ6_numberOfLeadingZeros_0f7a4 (ae_Po (some (ae_i rr)) ss) 0 [(0, ae_i v0)] [] s0
  unfold F_J6_numberOfLeadingZeros_0f7a4 at hF
  refine ae_iload_n 0 dJ6_numberOfLeadingZeros_0f7a4_0 rfl ?_
  refine ae_if_gt 15 dJ6_numberOfLeadingZeros_0f7a4_1 rfl (fun hb19 => ?_) (fun hb19 => ?_)
  · have hF20 := ae_ifT hb19 hF
    refine ae_bipush (31 : Int32) dJ6_numberOfLeadingZeros_0f7a4_15 (by decide) ?_
    refine ae_istore_n (lv' := [(1, ae_i (31 : Int32)), (0, ae_i v0)]) dJ6_numberOfLeadingZeros_0f7a4_17 (by decide) rfl ?_
    refine ae_iload_n 1 dJ6_numberOfLeadingZeros_0f7a4_18 rfl ?_
    refine ae_ldcw dJ6_numberOfLeadingZeros_0f7a4_19 ww_739 ?_
    refine ae_icmp_lt 33 dJ6_numberOfLeadingZeros_0f7a4_22 rfl (fun hb21 => ?_) (fun hb21 => ?_)
    · have hF22 := ae_ifT hb21 hF20
      refine ae_pick (lv' := [(0, ae_i v0), (1, ae_i (31 : Int32))]) [1, 0] rfl ?_
      exact t_J6_numberOfLeadingZeros_0f7a4_33 d v0 (31 : Int32) s0 hF22
    · have hF22 := ae_ifF hb21 hF20
      obtain ⟨x23, hx23, hF24⟩ := ae_ltI hF22
      refine ae_iinc (lv' := [(1, ae_i x23), (0, ae_i v0)]) 0 (-16 : Int32) dJ6_numberOfLeadingZeros_0f7a4_25 rfl (by decide) (by decide) (by rw [hx23]; rfl) ?_
      refine ae_iload_n 1 dJ6_numberOfLeadingZeros_0f7a4_28 rfl ?_
      refine ae_bipush (16 : Int32) dJ6_numberOfLeadingZeros_0f7a4_29 (by decide) ?_
      refine ae_iushr dJ6_numberOfLeadingZeros_0f7a4_31 ?_
      obtain ⟨x25, hx25, hF26⟩ := ae_ltI hF24
      refine ae_nmI hx25 ?_
      refine ae_istore_n (lv' := [(0, ae_i x25), (1, ae_i x23)]) dJ6_numberOfLeadingZeros_0f7a4_32 (by decide) rfl ?_
      refine ae_pick (lv' := [(0, ae_i x25), (1, ae_i x23)]) [0, 1] rfl ?_
      exact t_J6_numberOfLeadingZeros_0f7a4_33 d x25 x23 s0 hF26
  · have hF20 := ae_ifF hb19 hF
    refine ae_iload_n 0 dJ6_numberOfLeadingZeros_0f7a4_4 rfl ?_
    refine ae_if_ne 13 dJ6_numberOfLeadingZeros_0f7a4_5 rfl (fun hb27 => ?_) (fun hb27 => ?_)
    · have hF28 := ae_ifF hb27 hF20
      refine ae_iconst (0 : Int32) dJ6_numberOfLeadingZeros_0f7a4_13 (by decide) ?_
      refine ae_pick (lv' := []) [] rfl ?_
      exact t_J6_numberOfLeadingZeros_0f7a4_14 d (0 : Int32) s0 hF28
    · have hF28 := ae_ifT hb27 hF20
      refine ae_bipush (32 : Int32) dJ6_numberOfLeadingZeros_0f7a4_8 (by decide) ?_
      refine ae_goto 14 dJ6_numberOfLeadingZeros_0f7a4_10 rfl ?_
      refine ae_pick (lv' := []) [] rfl ?_
      exact t_J6_numberOfLeadingZeros_0f7a4_14 d (32 : Int32) s0 hF28
abbrev mJ13_numberOfLeadingZeros_95d88 : ae_M := (RJ13, cJ13_numberOfLeadingZeros_95d88, 3, some .int)
theorem vy_J13_numberOfLeadingZeros_95d88 : ae_SY yJ13_numberOfLeadingZeros_95d88 mJ13_numberOfLeadingZeros_95d88 1 := ⟨ww_734, ww_19, ww_735, ⟨by decide, by decide, by decide +kernel⟩, by decide⟩
theorem dJ13_numberOfLeadingZeros_95d88_0 : decode cJ13_numberOfLeadingZeros_95d88 0 = .ok (.lload_n 0, 1) := by decide +kernel
theorem dJ13_numberOfLeadingZeros_95d88_1 : decode cJ13_numberOfLeadingZeros_95d88 1 = .ok (.bipush 32, 2) := by decide +kernel
theorem dJ13_numberOfLeadingZeros_95d88_3 : decode cJ13_numberOfLeadingZeros_95d88 3 = .ok (.lushr, 1) := by decide +kernel
theorem dJ13_numberOfLeadingZeros_95d88_4 : decode cJ13_numberOfLeadingZeros_95d88 4 = .ok (.l2i, 1) := by decide +kernel
theorem dJ13_numberOfLeadingZeros_95d88_5 : decode cJ13_numberOfLeadingZeros_95d88 5 = .ok (.istore_n 2, 1) := by decide +kernel
theorem dJ13_numberOfLeadingZeros_95d88_6 : decode cJ13_numberOfLeadingZeros_95d88 6 = .ok (.iload_n 2, 1) := by decide +kernel
theorem dJ13_numberOfLeadingZeros_95d88_7 : decode cJ13_numberOfLeadingZeros_95d88 7 = .ok (.ifCond .ne 14, 3) := by decide +kernel
theorem dJ13_numberOfLeadingZeros_95d88_10 : decode cJ13_numberOfLeadingZeros_95d88 10 = .ok (.bipush 32, 2) := by decide +kernel
theorem dJ13_numberOfLeadingZeros_95d88_12 : decode cJ13_numberOfLeadingZeros_95d88 12 = .ok (.lload_n 0, 1) := by decide +kernel
theorem dJ13_numberOfLeadingZeros_95d88_13 : decode cJ13_numberOfLeadingZeros_95d88 13 = .ok (.l2i, 1) := by decide +kernel
theorem dJ13_numberOfLeadingZeros_95d88_14 : decode cJ13_numberOfLeadingZeros_95d88 14 = .ok (.invokestatic 308, 3) := by decide +kernel
theorem dJ13_numberOfLeadingZeros_95d88_17 : decode cJ13_numberOfLeadingZeros_95d88 17 = .ok (.iadd, 1) := by decide +kernel
theorem dJ13_numberOfLeadingZeros_95d88_18 : decode cJ13_numberOfLeadingZeros_95d88 18 = .ok (.goto 7, 3) := by decide +kernel
theorem dJ13_numberOfLeadingZeros_95d88_21 : decode cJ13_numberOfLeadingZeros_95d88 21 = .ok (.iload_n 2, 1) := by decide +kernel
theorem dJ13_numberOfLeadingZeros_95d88_22 : decode cJ13_numberOfLeadingZeros_95d88 22 = .ok (.invokestatic 308, 3) := by decide +kernel
theorem dJ13_numberOfLeadingZeros_95d88_25 : decode cJ13_numberOfLeadingZeros_95d88 25 = .ok (.ireturn, 1) := by decide +kernel
def F_J13_numberOfLeadingZeros_95d88_25 (t0 : Int32) (s0 : ae_S) : Option (Int32 × ae_S) := some (t0, s0)
set_option maxHeartbeats 4000000 in
set_option maxRecDepth 100000 in
theorem t_J13_numberOfLeadingZeros_95d88_25 {l : Launch} {G : ae_G} (d : Nat) {rr : Int32} {ss : ae_S} (t0 : Int32) (s0 : ae_S) (hF : F_J13_numberOfLeadingZeros_95d88_25 t0 s0 = some (rr, ss)) : ae_T l G (d + 1) mJ13_numberOfLeadingZeros_95d88 (ae_Po (some (ae_i rr)) ss) 25 [] [ae_i t0] s0 := by
  unfold F_J13_numberOfLeadingZeros_95d88_25 at hF
  obtain ⟨rfl, rfl⟩ := ae_retI hF
  exact ae_iret dJ13_numberOfLeadingZeros_95d88_25 rfl rfl ⟨rfl, rfl⟩
def F_J13_numberOfLeadingZeros_95d88 (v0 : Int64) (s0 : ae_S) : Option (Int32 × ae_S) := ae_lt (((v0.toUInt64 >>> ((32 : Int32).toInt64.toUInt64 &&& Int64.toUInt64 63)).toInt64).toInt32) (fun x1 => if x1 = 0 then (ae_bd (F_J6_numberOfLeadingZeros_0f7a4 v0.toInt32 s0) (fun (r9 : Int32) s10 => F_J13_numberOfLeadingZeros_95d88_25 ((32 : Int32) + r9) s10)) else (ae_bd (F_J6_numberOfLeadingZeros_0f7a4 x1 s0) (fun (r5 : Int32) s6 => F_J13_numberOfLeadingZeros_95d88_25 r5 s6)))
set_option maxHeartbeats 4000000 in
set_option maxRecDepth 100000 in
theorem c_J13_numberOfLeadingZeros_95d88 {l : Launch} {G : ae_G} (d : Nat) {v0 : Int64} {s0 ss : ae_S} {rr : Int32} (hF : F_J13_numberOfLeadingZeros_95d88 v0 s0 = some (rr, ss)) : ae_Met l G (d + 1) yJ13_numberOfLeadingZeros_95d88 mJ13_numberOfLeadingZeros_95d88 [ae_l v0] s0 (ae_Po (some (ae_i rr)) ss) := by
  refine ae_enter (by decide) rfl (Nat.le_of_ble_eq_true rfl) ?_
  show ae_T l G (d + 1) mJ13_numberOfLeadingZeros_95d88 (ae_Po (some (ae_i rr)) ss) 0 [(0, ae_l v0)] [] s0
  unfold F_J13_numberOfLeadingZeros_95d88 at hF
  refine ae_lload_n 0 dJ13_numberOfLeadingZeros_95d88_0 rfl ?_
  refine ae_bipush (32 : Int32) dJ13_numberOfLeadingZeros_95d88_1 (by decide) ?_
  refine ae_lushr dJ13_numberOfLeadingZeros_95d88_3 ?_
  refine ae_l2i dJ13_numberOfLeadingZeros_95d88_4 ?_
  obtain ⟨x1, hx1, hF2⟩ := ae_ltI hF
  refine ae_nmI hx1 ?_
  refine ae_istore_n (lv' := [(2, ae_i x1), (0, ae_l v0)]) dJ13_numberOfLeadingZeros_95d88_5 (by decide) rfl ?_
  refine ae_iload_n 0 dJ13_numberOfLeadingZeros_95d88_6 rfl ?_
  refine ae_if_ne 21 dJ13_numberOfLeadingZeros_95d88_7 rfl (fun hb3 => ?_) (fun hb3 => ?_)
  · have hF4 := ae_ifF hb3 hF2
    refine ae_iload_n 0 dJ13_numberOfLeadingZeros_95d88_21 rfl ?_
    obtain ⟨r5, s6, hc7, hF8⟩ := ae_bdI hF4
    refine ae_cS1 (As := [ae_i x1]) dJ13_numberOfLeadingZeros_95d88_22 ww_736 vy_J6_numberOfLeadingZeros_0f7a4 rfl rfl (Nat.le_of_ble_eq_true rfl) (c_J6_numberOfLeadingZeros_0f7a4 d hc7) ?_
    refine ae_pick (lv' := []) [] rfl ?_
    exact t_J13_numberOfLeadingZeros_95d88_25 d r5 s6 hF8
  · have hF4 := ae_ifT hb3 hF2
    refine ae_bipush (32 : Int32) dJ13_numberOfLeadingZeros_95d88_10 (by decide) ?_
    refine ae_lload_n 1 dJ13_numberOfLeadingZeros_95d88_12 rfl ?_
    refine ae_l2i dJ13_numberOfLeadingZeros_95d88_13 ?_
    obtain ⟨r9, s10, hc11, hF12⟩ := ae_bdI hF4
    refine ae_cS1 (As := [ae_i v0.toInt32]) dJ13_numberOfLeadingZeros_95d88_14 ww_736 vy_J6_numberOfLeadingZeros_0f7a4 rfl rfl (Nat.le_of_ble_eq_true rfl) (c_J6_numberOfLeadingZeros_0f7a4 d hc11) ?_
    refine ae_iadd dJ13_numberOfLeadingZeros_95d88_17 ?_
    refine ae_goto 25 dJ13_numberOfLeadingZeros_95d88_18 rfl ?_
    refine ae_pick (lv' := []) [] rfl ?_
    exact t_J13_numberOfLeadingZeros_95d88_25 d ((32 : Int32) + r9) s10 hF12
abbrev mX2_rounded : ae_M := (RX2, cX2_rounded, 16, some .long)
theorem vy_X2_rounded : ae_SY yX2_rounded mX2_rounded 3 := ⟨ww_731, ww_18, ww_732, ⟨by decide, by decide, by decide +kernel⟩, by decide⟩
theorem dX2_rounded_0 : decode cX2_rounded 0 = .ok (.lload_n 0, 1) := by decide +kernel
theorem dX2_rounded_1 : decode cX2_rounded 1 = .ok (.lconst 0, 1) := by decide +kernel
theorem dX2_rounded_2 : decode cX2_rounded 2 = .ok (.lcmp, 1) := by decide +kernel
theorem dX2_rounded_3 : decode cX2_rounded 3 = .ok (.ifCond .ne 5, 3) := by decide +kernel
theorem dX2_rounded_6 : decode cX2_rounded 6 = .ok (.lconst 0, 1) := by decide +kernel
theorem dX2_rounded_7 : decode cX2_rounded 7 = .ok (.lreturn, 1) := by decide +kernel
theorem dX2_rounded_8 : decode cX2_rounded 8 = .ok (.iload_n 3, 1) := by decide +kernel
theorem dX2_rounded_9 : decode cX2_rounded 9 = .ok (.ifCond .eq 8, 3) := by decide +kernel
theorem dX2_rounded_12 : decode cX2_rounded 12 = .ok (.bipush 24, 2) := by decide +kernel
theorem dX2_rounded_14 : decode cX2_rounded 14 = .ok (.goto 5, 3) := by decide +kernel
theorem dX2_rounded_17 : decode cX2_rounded 17 = .ok (.bipush 53, 2) := by decide +kernel
theorem dX2_rounded_19 : decode cX2_rounded 19 = .ok (.istore 4, 2) := by decide +kernel
theorem dX2_rounded_21 : decode cX2_rounded 21 = .ok (.iload_n 3, 1) := by decide +kernel
theorem dX2_rounded_22 : decode cX2_rounded 22 = .ok (.ifCond .eq 9, 3) := by decide +kernel
theorem dX2_rounded_25 : decode cX2_rounded 25 = .ok (.sipush (-149), 3) := by decide +kernel
theorem dX2_rounded_28 : decode cX2_rounded 28 = .ok (.goto 6, 3) := by decide +kernel
theorem dX2_rounded_31 : decode cX2_rounded 31 = .ok (.sipush (-1074), 3) := by decide +kernel
theorem dX2_rounded_34 : decode cX2_rounded 34 = .ok (.istore 5, 2) := by decide +kernel
theorem dX2_rounded_36 : decode cX2_rounded 36 = .ok (.iload_n 3, 1) := by decide +kernel
theorem dX2_rounded_37 : decode cX2_rounded 37 = .ok (.ifCond .eq 9, 3) := by decide +kernel
theorem dX2_rounded_40 : decode cX2_rounded 40 = .ok (.sipush 254, 3) := by decide +kernel
theorem dX2_rounded_43 : decode cX2_rounded 43 = .ok (.goto 6, 3) := by decide +kernel
theorem dX2_rounded_46 : decode cX2_rounded 46 = .ok (.sipush 2046, 3) := by decide +kernel
theorem dX2_rounded_49 : decode cX2_rounded 49 = .ok (.istore 6, 2) := by decide +kernel
theorem dX2_rounded_51 : decode cX2_rounded 51 = .ok (.bipush 64, 2) := by decide +kernel
theorem dX2_rounded_53 : decode cX2_rounded 53 = .ok (.lload_n 0, 1) := by decide +kernel
theorem dX2_rounded_54 : decode cX2_rounded 54 = .ok (.invokestatic 68, 3) := by decide +kernel
theorem dX2_rounded_57 : decode cX2_rounded 57 = .ok (.isub, 1) := by decide +kernel
theorem dX2_rounded_58 : decode cX2_rounded 58 = .ok (.istore 7, 2) := by decide +kernel
theorem dX2_rounded_60 : decode cX2_rounded 60 = .ok (.iload 7, 2) := by decide +kernel
theorem dX2_rounded_62 : decode cX2_rounded 62 = .ok (.iload 4, 2) := by decide +kernel
theorem dX2_rounded_64 : decode cX2_rounded 64 = .ok (.isub, 1) := by decide +kernel
theorem dX2_rounded_65 : decode cX2_rounded 65 = .ok (.iload 5, 2) := by decide +kernel
theorem dX2_rounded_67 : decode cX2_rounded 67 = .ok (.iload_n 2, 1) := by decide +kernel
theorem dX2_rounded_68 : decode cX2_rounded 68 = .ok (.isub, 1) := by decide +kernel
theorem dX2_rounded_69 : decode cX2_rounded 69 = .ok (.invokestatic 27, 3) := by decide +kernel
theorem dX2_rounded_72 : decode cX2_rounded 72 = .ok (.istore 8, 2) := by decide +kernel
theorem dX2_rounded_74 : decode cX2_rounded 74 = .ok (.iload_n 2, 1) := by decide +kernel
theorem dX2_rounded_75 : decode cX2_rounded 75 = .ok (.iload 8, 2) := by decide +kernel
theorem dX2_rounded_77 : decode cX2_rounded 77 = .ok (.iadd, 1) := by decide +kernel
theorem dX2_rounded_78 : decode cX2_rounded 78 = .ok (.iload 5, 2) := by decide +kernel
theorem dX2_rounded_80 : decode cX2_rounded 80 = .ok (.isub, 1) := by decide +kernel
theorem dX2_rounded_81 : decode cX2_rounded 81 = .ok (.istore 9, 2) := by decide +kernel
theorem dX2_rounded_83 : decode cX2_rounded 83 = .ok (.iload 9, 2) := by decide +kernel
theorem dX2_rounded_85 : decode cX2_rounded 85 = .ok (.iload 6, 2) := by decide +kernel
theorem dX2_rounded_87 : decode cX2_rounded 87 = .ok (.if_icmp .lt 17, 3) := by decide +kernel
theorem dX2_rounded_90 : decode cX2_rounded 90 = .ok (.iload_n 3, 1) := by decide +kernel
theorem dX2_rounded_91 : decode cX2_rounded 91 = .ok (.ifCond .eq 9, 3) := by decide +kernel
theorem dX2_rounded_94 : decode cX2_rounded 94 = .ok (.ldc2_w 57, 3) := by decide +kernel
theorem dX2_rounded_97 : decode cX2_rounded 97 = .ok (.goto 6, 3) := by decide +kernel
theorem dX2_rounded_100 : decode cX2_rounded 100 = .ok (.ldc2_w 13, 3) := by decide +kernel
theorem dX2_rounded_103 : decode cX2_rounded 103 = .ok (.lreturn, 1) := by decide +kernel
theorem dX2_rounded_104 : decode cX2_rounded 104 = .ok (.lconst 0, 1) := by decide +kernel
theorem dX2_rounded_105 : decode cX2_rounded 105 = .ok (.lstore 10, 2) := by decide +kernel
theorem dX2_rounded_107 : decode cX2_rounded 107 = .ok (.iload 8, 2) := by decide +kernel
theorem dX2_rounded_109 : decode cX2_rounded 109 = .ok (.ifCond .gt 13, 3) := by decide +kernel
theorem dX2_rounded_112 : decode cX2_rounded 112 = .ok (.lload_n 0, 1) := by decide +kernel
theorem dX2_rounded_113 : decode cX2_rounded 113 = .ok (.iload 8, 2) := by decide +kernel
theorem dX2_rounded_115 : decode cX2_rounded 115 = .ok (.ineg, 1) := by decide +kernel
theorem dX2_rounded_116 : decode cX2_rounded 116 = .ok (.lshl, 1) := by decide +kernel
theorem dX2_rounded_117 : decode cX2_rounded 117 = .ok (.lstore 10, 2) := by decide +kernel
theorem dX2_rounded_119 : decode cX2_rounded 119 = .ok (.goto 65, 3) := by decide +kernel
theorem dX2_rounded_122 : decode cX2_rounded 122 = .ok (.iload 8, 2) := by decide +kernel
theorem dX2_rounded_124 : decode cX2_rounded 124 = .ok (.bipush 63, 2) := by decide +kernel
theorem dX2_rounded_126 : decode cX2_rounded 126 = .ok (.if_icmp .gt 58, 3) := by decide +kernel
theorem dX2_rounded_129 : decode cX2_rounded 129 = .ok (.lload_n 0, 1) := by decide +kernel
theorem dX2_rounded_130 : decode cX2_rounded 130 = .ok (.iload 8, 2) := by decide +kernel
theorem dX2_rounded_132 : decode cX2_rounded 132 = .ok (.lushr, 1) := by decide +kernel
theorem dX2_rounded_133 : decode cX2_rounded 133 = .ok (.lstore 10, 2) := by decide +kernel
theorem dX2_rounded_135 : decode cX2_rounded 135 = .ok (.lload_n 0, 1) := by decide +kernel
theorem dX2_rounded_136 : decode cX2_rounded 136 = .ok (.lconst 1, 1) := by decide +kernel
theorem dX2_rounded_137 : decode cX2_rounded 137 = .ok (.iload 8, 2) := by decide +kernel
theorem dX2_rounded_139 : decode cX2_rounded 139 = .ok (.lshl, 1) := by decide +kernel
theorem dX2_rounded_140 : decode cX2_rounded 140 = .ok (.lconst 1, 1) := by decide +kernel
theorem dX2_rounded_141 : decode cX2_rounded 141 = .ok (.lsub, 1) := by decide +kernel
theorem dX2_rounded_142 : decode cX2_rounded 142 = .ok (.land, 1) := by decide +kernel
theorem dX2_rounded_143 : decode cX2_rounded 143 = .ok (.lstore 12, 2) := by decide +kernel
theorem dX2_rounded_145 : decode cX2_rounded 145 = .ok (.lconst 1, 1) := by decide +kernel
theorem dX2_rounded_146 : decode cX2_rounded 146 = .ok (.iload 8, 2) := by decide +kernel
theorem dX2_rounded_148 : decode cX2_rounded 148 = .ok (.iconst 1, 1) := by decide +kernel
theorem dX2_rounded_149 : decode cX2_rounded 149 = .ok (.isub, 1) := by decide +kernel
theorem dX2_rounded_150 : decode cX2_rounded 150 = .ok (.lshl, 1) := by decide +kernel
theorem dX2_rounded_151 : decode cX2_rounded 151 = .ok (.lstore 14, 2) := by decide +kernel
theorem dX2_rounded_153 : decode cX2_rounded 153 = .ok (.lload 12, 2) := by decide +kernel
theorem dX2_rounded_155 : decode cX2_rounded 155 = .ok (.lload 14, 2) := by decide +kernel
theorem dX2_rounded_157 : decode cX2_rounded 157 = .ok (.lcmp, 1) := by decide +kernel
theorem dX2_rounded_158 : decode cX2_rounded 158 = .ok (.ifCond .gt 20, 3) := by decide +kernel
theorem dX2_rounded_161 : decode cX2_rounded 161 = .ok (.lload 12, 2) := by decide +kernel
theorem dX2_rounded_163 : decode cX2_rounded 163 = .ok (.lload 14, 2) := by decide +kernel
theorem dX2_rounded_165 : decode cX2_rounded 165 = .ok (.lcmp, 1) := by decide +kernel
theorem dX2_rounded_166 : decode cX2_rounded 166 = .ok (.ifCond .ne 18, 3) := by decide +kernel
theorem dX2_rounded_169 : decode cX2_rounded 169 = .ok (.lload 10, 2) := by decide +kernel
theorem dX2_rounded_171 : decode cX2_rounded 171 = .ok (.lconst 1, 1) := by decide +kernel
theorem dX2_rounded_172 : decode cX2_rounded 172 = .ok (.land, 1) := by decide +kernel
theorem dX2_rounded_173 : decode cX2_rounded 173 = .ok (.lconst 1, 1) := by decide +kernel
theorem dX2_rounded_174 : decode cX2_rounded 174 = .ok (.lcmp, 1) := by decide +kernel
theorem dX2_rounded_175 : decode cX2_rounded 175 = .ok (.ifCond .ne 9, 3) := by decide +kernel
theorem dX2_rounded_178 : decode cX2_rounded 178 = .ok (.lload 10, 2) := by decide +kernel
theorem dX2_rounded_180 : decode cX2_rounded 180 = .ok (.lconst 1, 1) := by decide +kernel
theorem dX2_rounded_181 : decode cX2_rounded 181 = .ok (.ladd, 1) := by decide +kernel
theorem dX2_rounded_182 : decode cX2_rounded 182 = .ok (.lstore 10, 2) := by decide +kernel
theorem dX2_rounded_184 : decode cX2_rounded 184 = .ok (.iload 9, 2) := by decide +kernel
theorem dX2_rounded_186 : decode cX2_rounded 186 = .ok (.i2l, 1) := by decide +kernel
theorem dX2_rounded_187 : decode cX2_rounded 187 = .ok (.iload 4, 2) := by decide +kernel
theorem dX2_rounded_189 : decode cX2_rounded 189 = .ok (.iconst 1, 1) := by decide +kernel
theorem dX2_rounded_190 : decode cX2_rounded 190 = .ok (.isub, 1) := by decide +kernel
theorem dX2_rounded_191 : decode cX2_rounded 191 = .ok (.lshl, 1) := by decide +kernel
theorem dX2_rounded_192 : decode cX2_rounded 192 = .ok (.lload 10, 2) := by decide +kernel
theorem dX2_rounded_194 : decode cX2_rounded 194 = .ok (.ladd, 1) := by decide +kernel
theorem dX2_rounded_195 : decode cX2_rounded 195 = .ok (.lreturn, 1) := by decide +kernel
def F_X2_rounded_184 (v4 : Int32) (v9 : Int32) (v10 : Int64) (s0 : ae_S) : Option (Int64 × ae_S) := some ((v9.toInt64 <<< ((v4 - (1 : Int32)).toInt64 &&& 63)) + v10, s0)
set_option maxHeartbeats 4000000 in
set_option maxRecDepth 100000 in
theorem t_X2_rounded_184 {l : Launch} {G : ae_G} (d : Nat) {rr : Int64} {ss : ae_S} (v4 : Int32) (v9 : Int32) (v10 : Int64) (s0 : ae_S) (hF : F_X2_rounded_184 v4 v9 v10 s0 = some (rr, ss)) : ae_T l G (d + 2) mX2_rounded (ae_Po (some (ae_l rr)) ss) 184 [(4, ae_i v4), (9, ae_i v9), (10, ae_l v10)] [] s0 := by
  unfold F_X2_rounded_184 at hF
  refine ae_iload 1 dX2_rounded_184 rfl ?_
  refine ae_i2l dX2_rounded_186 ?_
  refine ae_iload 0 dX2_rounded_187 rfl ?_
  refine ae_iconst (1 : Int32) dX2_rounded_189 (by decide) ?_
  refine ae_isub dX2_rounded_190 ?_
  refine ae_lshl dX2_rounded_191 ?_
  refine ae_lload 2 dX2_rounded_192 rfl ?_
  refine ae_ladd dX2_rounded_194 ?_
  obtain ⟨rfl, rfl⟩ := ae_retI hF
  exact ae_lret dX2_rounded_195 rfl ⟨rfl, rfl⟩
def F_X2_rounded_178 (v4 : Int32) (v9 : Int32) (v10 : Int64) (s0 : ae_S) : Option (Int64 × ae_S) := ae_lt (v10 + (1 : Int64)) (fun x1 => F_X2_rounded_184 v4 v9 x1 s0)
set_option maxHeartbeats 4000000 in
set_option maxRecDepth 100000 in
theorem t_X2_rounded_178 {l : Launch} {G : ae_G} (d : Nat) {rr : Int64} {ss : ae_S} (v4 : Int32) (v9 : Int32) (v10 : Int64) (s0 : ae_S) (hF : F_X2_rounded_178 v4 v9 v10 s0 = some (rr, ss)) : ae_T l G (d + 2) mX2_rounded (ae_Po (some (ae_l rr)) ss) 178 [(4, ae_i v4), (9, ae_i v9), (10, ae_l v10)] [] s0 := by
  unfold F_X2_rounded_178 at hF
  refine ae_lload 2 dX2_rounded_178 rfl ?_
  refine ae_lconst (1 : Int64) dX2_rounded_180 (by decide) ?_
  refine ae_ladd dX2_rounded_181 ?_
  obtain ⟨x1, hx1, hF2⟩ := ae_ltI hF
  refine ae_nmL hx1 ?_
  refine ae_lstore (lv' := [(10, ae_l x1), (4, ae_i v4), (9, ae_i v9)]) dX2_rounded_182 (by decide) rfl ?_
  refine ae_pick (lv' := [(4, ae_i v4), (9, ae_i v9), (10, ae_l x1)]) [1, 2, 0] rfl ?_
  exact t_X2_rounded_184 d v4 v9 x1 s0 hF2
def F_X2_rounded_103 (t0 : Int64) (s0 : ae_S) : Option (Int64 × ae_S) := some (t0, s0)
set_option maxHeartbeats 4000000 in
set_option maxRecDepth 100000 in
theorem t_X2_rounded_103 {l : Launch} {G : ae_G} (d : Nat) {rr : Int64} {ss : ae_S} (t0 : Int64) (s0 : ae_S) (hF : F_X2_rounded_103 t0 s0 = some (rr, ss)) : ae_T l G (d + 2) mX2_rounded (ae_Po (some (ae_l rr)) ss) 103 [] [ae_l t0] s0 := by
  unfold F_X2_rounded_103 at hF
  obtain ⟨rfl, rfl⟩ := ae_retI hF
  exact ae_lret dX2_rounded_103 rfl ⟨rfl, rfl⟩
def F_X2_rounded_49 (v0 : Int64) (v2 : Int32) (v3 : Int32) (v4 : Int32) (v5 : Int32) (t0 : Int32) (s0 : ae_S) : Option (Int64 × ae_S) := ae_bd (F_J13_numberOfLeadingZeros_95d88 v0 s0) (fun (r3 : Int32) s4 => ae_lt ((64 : Int32) - r3) (fun x7 => ae_lt (if (x7 - v4) < (v5 - v2) then (v5 - v2) else (x7 - v4)) (fun x9 => ae_lt ((v2 + x9) - v5) (fun x11 => if x11 < t0 then (if 0 < x9 then (if (63 : Int32) < x9 then (F_X2_rounded_184 v4 x11 (0 : Int64) s4) else (ae_lt ((v0.toUInt64 >>> (x9.toInt64.toUInt64 &&& Int64.toUInt64 63)).toInt64) (fun x19 => ae_lt (v0 &&& (((1 : Int64) <<< (x9.toInt64 &&& 63)) - (1 : Int64))) (fun x21 => ae_lt ((1 : Int64) <<< ((x9 - (1 : Int32)).toInt64 &&& 63)) (fun x23 => if 0 < (lg_cmp x21 x23) then (F_X2_rounded_178 v4 x11 x19 s4) else (if (lg_cmp x21 x23) = 0 then (if (lg_cmp (x19 &&& (1 : Int64)) (1 : Int64)) = 0 then (F_X2_rounded_178 v4 x11 x19 s4) else (F_X2_rounded_184 v4 x11 x19 s4)) else (F_X2_rounded_184 v4 x11 x19 s4))))))) else (ae_lt (v0 <<< ((-x9).toInt64 &&& 63)) (fun x31 => F_X2_rounded_184 v4 x11 x31 s4))) else (if v3 = 0 then (F_X2_rounded_103 (9218868437227405312 : Int64) s4) else (F_X2_rounded_103 (2139095040 : Int64) s4))))))
set_option maxHeartbeats 4000000 in
set_option maxRecDepth 100000 in
theorem t_X2_rounded_49 {l : Launch} {G : ae_G} (d : Nat) {rr : Int64} {ss : ae_S} (v0 : Int64) (v2 : Int32) (v3 : Int32) (v4 : Int32) (v5 : Int32) (t0 : Int32) (s0 : ae_S) (hF : F_X2_rounded_49 v0 v2 v3 v4 v5 t0 s0 = some (rr, ss)) : ae_T l G (d + 2) mX2_rounded (ae_Po (some (ae_l rr)) ss) 49 [(0, ae_l v0), (2, ae_i v2), (3, ae_i v3), (4, ae_i v4), (5, ae_i v5)] [ae_i t0] s0 := by
  unfold F_X2_rounded_49 at hF
  refine ae_istore (lv' := [(6, ae_i t0), (0, ae_l v0), (2, ae_i v2), (3, ae_i v3), (4, ae_i v4), (5, ae_i v5)]) dX2_rounded_49 (by decide) rfl ?_
  refine ae_bipush (64 : Int32) dX2_rounded_51 (by decide) ?_
  refine ae_lload_n 1 dX2_rounded_53 rfl ?_
  obtain ⟨r3, s4, hc5, hF6⟩ := ae_bdI hF
  refine ae_cS1 (As := [ae_l v0]) dX2_rounded_54 ww_733 vy_J13_numberOfLeadingZeros_95d88 rfl rfl (Nat.le_of_ble_eq_true rfl) (c_J13_numberOfLeadingZeros_95d88 d hc5) ?_
  refine ae_isub dX2_rounded_57 ?_
  obtain ⟨x7, hx7, hF8⟩ := ae_ltI hF6
  refine ae_nmI hx7 ?_
  refine ae_istore (lv' := [(7, ae_i x7), (6, ae_i t0), (0, ae_l v0), (2, ae_i v2), (3, ae_i v3), (4, ae_i v4), (5, ae_i v5)]) dX2_rounded_58 (by decide) rfl ?_
  refine ae_iload 0 dX2_rounded_60 rfl ?_
  refine ae_iload 5 dX2_rounded_62 rfl ?_
  refine ae_isub dX2_rounded_64 ?_
  refine ae_iload 6 dX2_rounded_65 rfl ?_
  refine ae_iload_n 3 dX2_rounded_67 rfl ?_
  refine ae_isub dX2_rounded_68 ?_
  refine ae_mmax dX2_rounded_69 ww_740 ww_741 ww_21 ww_742 (Nat.le_of_ble_eq_true rfl) ?_
  obtain ⟨x9, hx9, hF10⟩ := ae_ltI hF8
  refine ae_nmI hx9 ?_
  refine ae_istore (lv' := [(8, ae_i x9), (7, ae_i x7), (6, ae_i t0), (0, ae_l v0), (2, ae_i v2), (3, ae_i v3), (4, ae_i v4), (5, ae_i v5)]) dX2_rounded_72 (by decide) rfl ?_
  refine ae_iload_n 4 dX2_rounded_74 rfl ?_
  refine ae_iload 0 dX2_rounded_75 rfl ?_
  refine ae_iadd dX2_rounded_77 ?_
  refine ae_iload 7 dX2_rounded_78 rfl ?_
  refine ae_isub dX2_rounded_80 ?_
  obtain ⟨x11, hx11, hF12⟩ := ae_ltI hF10
  refine ae_nmI hx11 ?_
  refine ae_istore (lv' := [(9, ae_i x11), (8, ae_i x9), (7, ae_i x7), (6, ae_i t0), (0, ae_l v0), (2, ae_i v2), (3, ae_i v3), (4, ae_i v4), (5, ae_i v5)]) dX2_rounded_81 (by decide) rfl ?_
  refine ae_iload 0 dX2_rounded_83 rfl ?_
  refine ae_iload 3 dX2_rounded_85 rfl ?_
  refine ae_icmp_lt 104 dX2_rounded_87 rfl (fun hb13 => ?_) (fun hb13 => ?_)
  · have hF14 := ae_ifT hb13 hF12
    refine ae_lconst (0 : Int64) dX2_rounded_104 (by decide) ?_
    refine ae_lstore (lv' := [(10, ae_l (0 : Int64)), (9, ae_i x11), (8, ae_i x9), (7, ae_i x7), (6, ae_i t0), (0, ae_l v0), (2, ae_i v2), (3, ae_i v3), (4, ae_i v4), (5, ae_i v5)]) dX2_rounded_105 (by decide) rfl ?_
    refine ae_iload 2 dX2_rounded_107 rfl ?_
    refine ae_if_gt 122 dX2_rounded_109 rfl (fun hb15 => ?_) (fun hb15 => ?_)
    · have hF16 := ae_ifT hb15 hF14
      refine ae_iload 2 dX2_rounded_122 rfl ?_
      refine ae_bipush (63 : Int32) dX2_rounded_124 (by decide) ?_
      refine ae_icmp_gt 184 dX2_rounded_126 rfl (fun hb17 => ?_) (fun hb17 => ?_)
      · have hF18 := ae_ifT hb17 hF16
        refine ae_pick (lv' := [(4, ae_i v4), (9, ae_i x11), (10, ae_l (0 : Int64))]) [8, 1, 0] rfl ?_
        exact t_X2_rounded_184 d v4 x11 (0 : Int64) s4 hF18
      · have hF18 := ae_ifF hb17 hF16
        refine ae_lload_n 5 dX2_rounded_129 rfl ?_
        refine ae_iload 2 dX2_rounded_130 rfl ?_
        refine ae_lushr dX2_rounded_132 ?_
        obtain ⟨x19, hx19, hF20⟩ := ae_ltI hF18
        refine ae_nmL hx19 ?_
        refine ae_lstore (lv' := [(10, ae_l x19), (9, ae_i x11), (8, ae_i x9), (7, ae_i x7), (6, ae_i t0), (0, ae_l v0), (2, ae_i v2), (3, ae_i v3), (4, ae_i v4), (5, ae_i v5)]) dX2_rounded_133 (by decide) rfl ?_
        refine ae_lload_n 5 dX2_rounded_135 rfl ?_
        refine ae_lconst (1 : Int64) dX2_rounded_136 (by decide) ?_
        refine ae_iload 2 dX2_rounded_137 rfl ?_
        refine ae_lshl dX2_rounded_139 ?_
        refine ae_lconst (1 : Int64) dX2_rounded_140 (by decide) ?_
        refine ae_lsub dX2_rounded_141 ?_
        refine ae_land dX2_rounded_142 ?_
        obtain ⟨x21, hx21, hF22⟩ := ae_ltI hF20
        refine ae_nmL hx21 ?_
        refine ae_lstore (lv' := [(12, ae_l x21), (10, ae_l x19), (9, ae_i x11), (8, ae_i x9), (7, ae_i x7), (6, ae_i t0), (0, ae_l v0), (2, ae_i v2), (3, ae_i v3), (4, ae_i v4), (5, ae_i v5)]) dX2_rounded_143 (by decide) rfl ?_
        refine ae_lconst (1 : Int64) dX2_rounded_145 (by decide) ?_
        refine ae_iload 3 dX2_rounded_146 rfl ?_
        refine ae_iconst (1 : Int32) dX2_rounded_148 (by decide) ?_
        refine ae_isub dX2_rounded_149 ?_
        refine ae_lshl dX2_rounded_150 ?_
        obtain ⟨x23, hx23, hF24⟩ := ae_ltI hF22
        refine ae_nmL hx23 ?_
        refine ae_lstore (lv' := [(14, ae_l x23), (12, ae_l x21), (10, ae_l x19), (9, ae_i x11), (8, ae_i x9), (7, ae_i x7), (6, ae_i t0), (0, ae_l v0), (2, ae_i v2), (3, ae_i v3), (4, ae_i v4), (5, ae_i v5)]) dX2_rounded_151 (by decide) rfl ?_
        refine ae_lload 1 dX2_rounded_153 rfl ?_
        refine ae_lload 0 dX2_rounded_155 rfl ?_
        refine ae_lcmp dX2_rounded_157 ?_
        refine ae_if_gt 178 dX2_rounded_158 rfl (fun hb25 => ?_) (fun hb25 => ?_)
        · have hF26 := ae_ifT hb25 hF24
          refine ae_pick (lv' := [(4, ae_i v4), (9, ae_i x11), (10, ae_l x19)]) [10, 3, 2] rfl ?_
          exact t_X2_rounded_178 d v4 x11 x19 s4 hF26
        · have hF26 := ae_ifF hb25 hF24
          refine ae_lload 1 dX2_rounded_161 rfl ?_
          refine ae_lload 0 dX2_rounded_163 rfl ?_
          refine ae_lcmp dX2_rounded_165 ?_
          refine ae_if_ne 184 dX2_rounded_166 rfl (fun hb27 => ?_) (fun hb27 => ?_)
          · have hF28 := ae_ifF hb27 hF26
            refine ae_pick (lv' := [(4, ae_i v4), (9, ae_i x11), (10, ae_l x19)]) [10, 3, 2] rfl ?_
            exact t_X2_rounded_184 d v4 x11 x19 s4 hF28
          · have hF28 := ae_ifT hb27 hF26
            refine ae_lload 2 dX2_rounded_169 rfl ?_
            refine ae_lconst (1 : Int64) dX2_rounded_171 (by decide) ?_
            refine ae_land dX2_rounded_172 ?_
            refine ae_lconst (1 : Int64) dX2_rounded_173 (by decide) ?_
            refine ae_lcmp dX2_rounded_174 ?_
            refine ae_if_ne 184 dX2_rounded_175 rfl (fun hb29 => ?_) (fun hb29 => ?_)
            · have hF30 := ae_ifF hb29 hF28
              refine ae_pick (lv' := [(4, ae_i v4), (9, ae_i x11), (10, ae_l x19)]) [10, 3, 2] rfl ?_
              exact t_X2_rounded_184 d v4 x11 x19 s4 hF30
            · have hF30 := ae_ifT hb29 hF28
              refine ae_pick (lv' := [(4, ae_i v4), (9, ae_i x11), (10, ae_l x19)]) [10, 3, 2] rfl ?_
              exact t_X2_rounded_178 d v4 x11 x19 s4 hF30
    · have hF16 := ae_ifF hb15 hF14
      refine ae_lload_n 5 dX2_rounded_112 rfl ?_
      refine ae_iload 2 dX2_rounded_113 rfl ?_
      refine ae_ineg dX2_rounded_115 ?_
      refine ae_lshl dX2_rounded_116 ?_
      obtain ⟨x31, hx31, hF32⟩ := ae_ltI hF16
      refine ae_nmL hx31 ?_
      refine ae_lstore (lv' := [(10, ae_l x31), (9, ae_i x11), (8, ae_i x9), (7, ae_i x7), (6, ae_i t0), (0, ae_l v0), (2, ae_i v2), (3, ae_i v3), (4, ae_i v4), (5, ae_i v5)]) dX2_rounded_117 (by decide) rfl ?_
      refine ae_goto 184 dX2_rounded_119 rfl ?_
      refine ae_pick (lv' := [(4, ae_i v4), (9, ae_i x11), (10, ae_l x31)]) [8, 1, 0] rfl ?_
      exact t_X2_rounded_184 d v4 x11 x31 s4 hF32
  · have hF14 := ae_ifF hb13 hF12
    refine ae_iload_n 6 dX2_rounded_90 rfl ?_
    refine ae_if_eq 100 dX2_rounded_91 rfl (fun hb33 => ?_) (fun hb33 => ?_)
    · have hF34 := ae_ifT hb33 hF14
      refine ae_ldc2 dX2_rounded_100 ww_744 ?_
      refine ae_pick (lv' := []) [] rfl ?_
      exact t_X2_rounded_103 d (9218868437227405312 : Int64) s4 hF34
    · have hF34 := ae_ifF hb33 hF14
      refine ae_ldc2 dX2_rounded_94 ww_743 ?_
      refine ae_goto 103 dX2_rounded_97 rfl ?_
      refine ae_pick (lv' := []) [] rfl ?_
      exact t_X2_rounded_103 d (2139095040 : Int64) s4 hF34
def F_X2_rounded_34 (v0 : Int64) (v2 : Int32) (v3 : Int32) (v4 : Int32) (t0 : Int32) (s0 : ae_S) : Option (Int64 × ae_S) := if v3 = 0 then (F_X2_rounded_49 v0 v2 v3 v4 t0 (2046 : Int32) s0) else (F_X2_rounded_49 v0 v2 v3 v4 t0 (254 : Int32) s0)
set_option maxHeartbeats 4000000 in
set_option maxRecDepth 100000 in
theorem t_X2_rounded_34 {l : Launch} {G : ae_G} (d : Nat) {rr : Int64} {ss : ae_S} (v0 : Int64) (v2 : Int32) (v3 : Int32) (v4 : Int32) (t0 : Int32) (s0 : ae_S) (hF : F_X2_rounded_34 v0 v2 v3 v4 t0 s0 = some (rr, ss)) : ae_T l G (d + 2) mX2_rounded (ae_Po (some (ae_l rr)) ss) 34 [(0, ae_l v0), (2, ae_i v2), (3, ae_i v3), (4, ae_i v4)] [ae_i t0] s0 := by
  unfold F_X2_rounded_34 at hF
  refine ae_istore (lv' := [(5, ae_i t0), (0, ae_l v0), (2, ae_i v2), (3, ae_i v3), (4, ae_i v4)]) dX2_rounded_34 (by decide) rfl ?_
  refine ae_iload_n 3 dX2_rounded_36 rfl ?_
  refine ae_if_eq 46 dX2_rounded_37 rfl (fun hb35 => ?_) (fun hb35 => ?_)
  · have hF36 := ae_ifT hb35 hF
    refine ae_sipush (2046 : Int32) dX2_rounded_46 (by decide) ?_
    refine ae_pick (lv' := [(0, ae_l v0), (2, ae_i v2), (3, ae_i v3), (4, ae_i v4), (5, ae_i t0)]) [1, 2, 3, 4, 0] rfl ?_
    exact t_X2_rounded_49 d v0 v2 v3 v4 t0 (2046 : Int32) s0 hF36
  · have hF36 := ae_ifF hb35 hF
    refine ae_sipush (254 : Int32) dX2_rounded_40 (by decide) ?_
    refine ae_goto 49 dX2_rounded_43 rfl ?_
    refine ae_pick (lv' := [(0, ae_l v0), (2, ae_i v2), (3, ae_i v3), (4, ae_i v4), (5, ae_i t0)]) [1, 2, 3, 4, 0] rfl ?_
    exact t_X2_rounded_49 d v0 v2 v3 v4 t0 (254 : Int32) s0 hF36
def F_X2_rounded_19 (v0 : Int64) (v2 : Int32) (v3 : Int32) (t0 : Int32) (s0 : ae_S) : Option (Int64 × ae_S) := if v3 = 0 then (F_X2_rounded_34 v0 v2 v3 t0 (-1074 : Int32) s0) else (F_X2_rounded_34 v0 v2 v3 t0 (-149 : Int32) s0)
set_option maxHeartbeats 4000000 in
set_option maxRecDepth 100000 in
theorem t_X2_rounded_19 {l : Launch} {G : ae_G} (d : Nat) {rr : Int64} {ss : ae_S} (v0 : Int64) (v2 : Int32) (v3 : Int32) (t0 : Int32) (s0 : ae_S) (hF : F_X2_rounded_19 v0 v2 v3 t0 s0 = some (rr, ss)) : ae_T l G (d + 2) mX2_rounded (ae_Po (some (ae_l rr)) ss) 19 [(0, ae_l v0), (2, ae_i v2), (3, ae_i v3)] [ae_i t0] s0 := by
  unfold F_X2_rounded_19 at hF
  refine ae_istore (lv' := [(4, ae_i t0), (0, ae_l v0), (2, ae_i v2), (3, ae_i v3)]) dX2_rounded_19 (by decide) rfl ?_
  refine ae_iload_n 3 dX2_rounded_21 rfl ?_
  refine ae_if_eq 31 dX2_rounded_22 rfl (fun hb37 => ?_) (fun hb37 => ?_)
  · have hF38 := ae_ifT hb37 hF
    refine ae_sipush (-1074 : Int32) dX2_rounded_31 (by decide) ?_
    refine ae_pick (lv' := [(0, ae_l v0), (2, ae_i v2), (3, ae_i v3), (4, ae_i t0)]) [1, 2, 3, 0] rfl ?_
    exact t_X2_rounded_34 d v0 v2 v3 t0 (-1074 : Int32) s0 hF38
  · have hF38 := ae_ifF hb37 hF
    refine ae_sipush (-149 : Int32) dX2_rounded_25 (by decide) ?_
    refine ae_goto 34 dX2_rounded_28 rfl ?_
    refine ae_pick (lv' := [(0, ae_l v0), (2, ae_i v2), (3, ae_i v3), (4, ae_i t0)]) [1, 2, 3, 0] rfl ?_
    exact t_X2_rounded_34 d v0 v2 v3 t0 (-149 : Int32) s0 hF38
def F_X2_rounded (v0 : Int64) (v2 : Int32) (v3 : Int32) (s0 : ae_S) : Option (Int64 × ae_S) := if (lg_cmp v0 (0 : Int64)) = 0 then (some ((0 : Int64), s0)) else (if v3 = 0 then (F_X2_rounded_19 v0 v2 v3 (53 : Int32) s0) else (F_X2_rounded_19 v0 v2 v3 (24 : Int32) s0))
set_option maxHeartbeats 4000000 in
set_option maxRecDepth 100000 in
theorem c_X2_rounded {l : Launch} {G : ae_G} (d : Nat) {v0 : Int64} {v2 : Int32} {v3 : Int32} {s0 ss : ae_S} {rr : Int64} (hF : F_X2_rounded v0 v2 v3 s0 = some (rr, ss)) : ae_Met l G (d + 2) yX2_rounded mX2_rounded [ae_l v0, ae_i v2, ae_i v3] s0 (ae_Po (some (ae_l rr)) ss) := by
  refine ae_enter (by decide) rfl (Nat.le_of_ble_eq_true rfl) ?_
  show ae_T l G (d + 2) mX2_rounded (ae_Po (some (ae_l rr)) ss) 0 [(0, ae_l v0), (2, ae_i v2), (3, ae_i v3)] [] s0
  unfold F_X2_rounded at hF
  refine ae_lload_n 0 dX2_rounded_0 rfl ?_
  refine ae_lconst (0 : Int64) dX2_rounded_1 (by decide) ?_
  refine ae_lcmp dX2_rounded_2 ?_
  refine ae_if_ne 8 dX2_rounded_3 rfl (fun hb39 => ?_) (fun hb39 => ?_)
  · have hF40 := ae_ifF hb39 hF
    refine ae_iload_n 2 dX2_rounded_8 rfl ?_
    refine ae_if_eq 17 dX2_rounded_9 rfl (fun hb41 => ?_) (fun hb41 => ?_)
    · have hF42 := ae_ifT hb41 hF40
      refine ae_bipush (53 : Int32) dX2_rounded_17 (by decide) ?_
      refine ae_pick (lv' := [(0, ae_l v0), (2, ae_i v2), (3, ae_i v3)]) [0, 1, 2] rfl ?_
      exact t_X2_rounded_19 d v0 v2 v3 (53 : Int32) s0 hF42
    · have hF42 := ae_ifF hb41 hF40
      refine ae_bipush (24 : Int32) dX2_rounded_12 (by decide) ?_
      refine ae_goto 19 dX2_rounded_14 rfl ?_
      refine ae_pick (lv' := [(0, ae_l v0), (2, ae_i v2), (3, ae_i v3)]) [0, 1, 2] rfl ?_
      exact t_X2_rounded_19 d v0 v2 v3 (24 : Int32) s0 hF42
  · have hF40 := ae_ifT hb39 hF
    refine ae_lconst (0 : Int64) dX2_rounded_6 (by decide) ?_
    obtain ⟨rfl, rfl⟩ := ae_retI hF40
    exact ae_lret dX2_rounded_7 rfl ⟨rfl, rfl⟩
abbrev mX2_ofWhole : ae_M := (RX2, cX2_ofWhole, 2, some .long)
theorem vy_X2_ofWhole : ae_SY yX2_ofWhole mX2_ofWhole 1 := ⟨ww_727, ww_18, ww_728, ⟨by decide, by decide, by decide +kernel⟩, by decide⟩
theorem dX2_ofWhole_0 : decode cX2_ofWhole 0 = .ok (.lload_n 0, 1) := by decide +kernel
theorem dX2_ofWhole_1 : decode cX2_ofWhole 1 = .ok (.ldc2_w 21, 3) := by decide +kernel
theorem dX2_ofWhole_4 : decode cX2_ofWhole 4 = .ok (.land, 1) := by decide +kernel
theorem dX2_ofWhole_5 : decode cX2_ofWhole 5 = .ok (.lload_n 0, 1) := by decide +kernel
theorem dX2_ofWhole_6 : decode cX2_ofWhole 6 = .ok (.lconst 0, 1) := by decide +kernel
theorem dX2_ofWhole_7 : decode cX2_ofWhole 7 = .ok (.lcmp, 1) := by decide +kernel
theorem dX2_ofWhole_8 : decode cX2_ofWhole 8 = .ok (.ifCond .ge 8, 3) := by decide +kernel
theorem dX2_ofWhole_11 : decode cX2_ofWhole 11 = .ok (.lload_n 0, 1) := by decide +kernel
theorem dX2_ofWhole_12 : decode cX2_ofWhole 12 = .ok (.lneg, 1) := by decide +kernel
theorem dX2_ofWhole_13 : decode cX2_ofWhole 13 = .ok (.goto 4, 3) := by decide +kernel
theorem dX2_ofWhole_16 : decode cX2_ofWhole 16 = .ok (.lload_n 0, 1) := by decide +kernel
theorem dX2_ofWhole_17 : decode cX2_ofWhole 17 = .ok (.iconst 0, 1) := by decide +kernel
theorem dX2_ofWhole_18 : decode cX2_ofWhole 18 = .ok (.iconst 0, 1) := by decide +kernel
theorem dX2_ofWhole_19 : decode cX2_ofWhole 19 = .ok (.invokestatic 40, 3) := by decide +kernel
theorem dX2_ofWhole_22 : decode cX2_ofWhole 22 = .ok (.lor, 1) := by decide +kernel
theorem dX2_ofWhole_23 : decode cX2_ofWhole 23 = .ok (.lreturn, 1) := by decide +kernel
def F_X2_ofWhole_17 (t0 : Int64) (t1 : Int64) (s0 : ae_S) : Option (Int64 × ae_S) := ae_bd (F_X2_rounded t0 (0 : Int32) (0 : Int32) s0) (fun (r1 : Int64) s2 => some (t1 ||| r1, s2))
set_option maxHeartbeats 4000000 in
set_option maxRecDepth 100000 in
theorem t_X2_ofWhole_17 {l : Launch} {G : ae_G} (d : Nat) {rr : Int64} {ss : ae_S} (t0 : Int64) (t1 : Int64) (s0 : ae_S) (hF : F_X2_ofWhole_17 t0 t1 s0 = some (rr, ss)) : ae_T l G (d + 3) mX2_ofWhole (ae_Po (some (ae_l rr)) ss) 17 [] [ae_l t0, ae_l t1] s0 := by
  unfold F_X2_ofWhole_17 at hF
  refine ae_iconst (0 : Int32) dX2_ofWhole_17 (by decide) ?_
  refine ae_iconst (0 : Int32) dX2_ofWhole_18 (by decide) ?_
  obtain ⟨r1, s2, hc3, hF4⟩ := ae_bdI hF
  refine ae_cS1 (As := [ae_l t0, ae_i (0 : Int32), ae_i (0 : Int32)]) dX2_ofWhole_19 ww_730 vy_X2_rounded rfl rfl (Nat.le_of_ble_eq_true rfl) (c_X2_rounded d hc3) ?_
  refine ae_lor dX2_ofWhole_22 ?_
  obtain ⟨rfl, rfl⟩ := ae_retI hF4
  exact ae_lret dX2_ofWhole_23 rfl ⟨rfl, rfl⟩
def F_X2_ofWhole (v0 : Int64) (s0 : ae_S) : Option (Int64 × ae_S) := if 0 ≤ (lg_cmp v0 (0 : Int64)) then (F_X2_ofWhole_17 v0 (v0 &&& (-9223372036854775808 : Int64)) s0) else (F_X2_ofWhole_17 (-v0) (v0 &&& (-9223372036854775808 : Int64)) s0)
set_option maxHeartbeats 4000000 in
set_option maxRecDepth 100000 in
theorem c_X2_ofWhole {l : Launch} {G : ae_G} (d : Nat) {v0 : Int64} {s0 ss : ae_S} {rr : Int64} (hF : F_X2_ofWhole v0 s0 = some (rr, ss)) : ae_Met l G (d + 3) yX2_ofWhole mX2_ofWhole [ae_l v0] s0 (ae_Po (some (ae_l rr)) ss) := by
  refine ae_enter (by decide) rfl (Nat.le_of_ble_eq_true rfl) ?_
  show ae_T l G (d + 3) mX2_ofWhole (ae_Po (some (ae_l rr)) ss) 0 [(0, ae_l v0)] [] s0
  unfold F_X2_ofWhole at hF
  refine ae_lload_n 0 dX2_ofWhole_0 rfl ?_
  refine ae_ldc2 dX2_ofWhole_1 ww_729 ?_
  refine ae_land dX2_ofWhole_4 ?_
  refine ae_lload_n 0 dX2_ofWhole_5 rfl ?_
  refine ae_lconst (0 : Int64) dX2_ofWhole_6 (by decide) ?_
  refine ae_lcmp dX2_ofWhole_7 ?_
  refine ae_if_ge 16 dX2_ofWhole_8 rfl (fun hb5 => ?_) (fun hb5 => ?_)
  · have hF6 := ae_ifT hb5 hF
    refine ae_lload_n 0 dX2_ofWhole_16 rfl ?_
    refine ae_pick (lv' := []) [] rfl ?_
    exact t_X2_ofWhole_17 d v0 (v0 &&& (-9223372036854775808 : Int64)) s0 hF6
  · have hF6 := ae_ifF hb5 hF
    refine ae_lload_n 0 dX2_ofWhole_11 rfl ?_
    refine ae_lneg dX2_ofWhole_12 ?_
    refine ae_goto 17 dX2_ofWhole_13 rfl ?_
    refine ae_pick (lv' := []) [] rfl ?_
    exact t_X2_ofWhole_17 d (-v0) (v0 &&& (-9223372036854775808 : Int64)) s0 hF6
abbrev mX2_digitsOf : ae_M := (RX2, cX2_digitsOf, 4, some .long)
theorem vy_X2_digitsOf : ae_SY yX2_digitsOf mX2_digitsOf 1 := ⟨ww_763, ww_18, ww_764, ⟨by decide, by decide, by decide +kernel⟩, by decide⟩
theorem dX2_digitsOf_0 : decode cX2_digitsOf 0 = .ok (.lload_n 0, 1) := by decide +kernel
theorem dX2_digitsOf_1 : decode cX2_digitsOf 1 = .ok (.ldc2_w 23, 3) := by decide +kernel
theorem dX2_digitsOf_4 : decode cX2_digitsOf 4 = .ok (.land, 1) := by decide +kernel
theorem dX2_digitsOf_5 : decode cX2_digitsOf 5 = .ok (.lstore_n 2, 1) := by decide +kernel
theorem dX2_digitsOf_6 : decode cX2_digitsOf 6 = .ok (.lload_n 0, 1) := by decide +kernel
theorem dX2_digitsOf_7 : decode cX2_digitsOf 7 = .ok (.ldc2_w 13, 3) := by decide +kernel
theorem dX2_digitsOf_10 : decode cX2_digitsOf 10 = .ok (.land, 1) := by decide +kernel
theorem dX2_digitsOf_11 : decode cX2_digitsOf 11 = .ok (.lconst 0, 1) := by decide +kernel
theorem dX2_digitsOf_12 : decode cX2_digitsOf 12 = .ok (.lcmp, 1) := by decide +kernel
theorem dX2_digitsOf_13 : decode cX2_digitsOf 13 = .ok (.ifCond .ne 7, 3) := by decide +kernel
theorem dX2_digitsOf_16 : decode cX2_digitsOf 16 = .ok (.lload_n 2, 1) := by decide +kernel
theorem dX2_digitsOf_17 : decode cX2_digitsOf 17 = .ok (.goto 8, 3) := by decide +kernel
theorem dX2_digitsOf_20 : decode cX2_digitsOf 20 = .ok (.lload_n 2, 1) := by decide +kernel
theorem dX2_digitsOf_21 : decode cX2_digitsOf 21 = .ok (.ldc2_w 25, 3) := by decide +kernel
theorem dX2_digitsOf_24 : decode cX2_digitsOf 24 = .ok (.lor, 1) := by decide +kernel
theorem dX2_digitsOf_25 : decode cX2_digitsOf 25 = .ok (.lreturn, 1) := by decide +kernel
def F_X2_digitsOf_25 (t0 : Int64) (s0 : ae_S) : Option (Int64 × ae_S) := some (t0, s0)
set_option maxHeartbeats 4000000 in
set_option maxRecDepth 100000 in
theorem t_X2_digitsOf_25 {l : Launch} {G : ae_G} (d : Nat) {rr : Int64} {ss : ae_S} (t0 : Int64) (s0 : ae_S) (hF : F_X2_digitsOf_25 t0 s0 = some (rr, ss)) : ae_T l G d mX2_digitsOf (ae_Po (some (ae_l rr)) ss) 25 [] [ae_l t0] s0 := by
  unfold F_X2_digitsOf_25 at hF
  obtain ⟨rfl, rfl⟩ := ae_retI hF
  exact ae_lret dX2_digitsOf_25 rfl ⟨rfl, rfl⟩
def F_X2_digitsOf (v0 : Int64) (s0 : ae_S) : Option (Int64 × ae_S) := ae_lt (v0 &&& (4503599627370495 : Int64)) (fun x1 => if (lg_cmp (v0 &&& (9218868437227405312 : Int64)) (0 : Int64)) = 0 then (F_X2_digitsOf_25 x1 s0) else (F_X2_digitsOf_25 (x1 ||| (4503599627370496 : Int64)) s0))
set_option maxHeartbeats 4000000 in
set_option maxRecDepth 100000 in
theorem c_X2_digitsOf {l : Launch} {G : ae_G} (d : Nat) {v0 : Int64} {s0 ss : ae_S} {rr : Int64} (hF : F_X2_digitsOf v0 s0 = some (rr, ss)) : ae_Met l G d yX2_digitsOf mX2_digitsOf [ae_l v0] s0 (ae_Po (some (ae_l rr)) ss) := by
  refine ae_enter (by decide) rfl (Nat.le_of_ble_eq_true rfl) ?_
  show ae_T l G d mX2_digitsOf (ae_Po (some (ae_l rr)) ss) 0 [(0, ae_l v0)] [] s0
  unfold F_X2_digitsOf at hF
  refine ae_lload_n 0 dX2_digitsOf_0 rfl ?_
  refine ae_ldc2 dX2_digitsOf_1 ww_765 ?_
  refine ae_land dX2_digitsOf_4 ?_
  obtain ⟨x1, hx1, hF2⟩ := ae_ltI hF
  refine ae_nmL hx1 ?_
  refine ae_lstore_n (lv' := [(2, ae_l x1), (0, ae_l v0)]) dX2_digitsOf_5 (by decide) rfl ?_
  refine ae_lload_n 1 dX2_digitsOf_6 rfl ?_
  refine ae_ldc2 dX2_digitsOf_7 ww_744 ?_
  refine ae_land dX2_digitsOf_10 ?_
  refine ae_lconst (0 : Int64) dX2_digitsOf_11 (by decide) ?_
  refine ae_lcmp dX2_digitsOf_12 ?_
  refine ae_if_ne 20 dX2_digitsOf_13 rfl (fun hb3 => ?_) (fun hb3 => ?_)
  · have hF4 := ae_ifF hb3 hF2
    refine ae_lload_n 0 dX2_digitsOf_20 rfl ?_
    refine ae_ldc2 dX2_digitsOf_21 ww_766 ?_
    refine ae_lor dX2_digitsOf_24 ?_
    refine ae_pick (lv' := []) [] rfl ?_
    exact t_X2_digitsOf_25 d (x1 ||| (4503599627370496 : Int64)) s0 hF4
  · have hF4 := ae_ifT hb3 hF2
    refine ae_lload_n 0 dX2_digitsOf_16 rfl ?_
    refine ae_goto 25 dX2_digitsOf_17 rfl ?_
    refine ae_pick (lv' := []) [] rfl ?_
    exact t_X2_digitsOf_25 d x1 s0 hF4
abbrev mX2_isInfinite : ae_M := (RX2, cX2_isInfinite, 2, some .boolean)
theorem vy_X2_isInfinite : ae_SY yX2_isInfinite mX2_isInfinite 1 := ⟨ww_754, ww_18, ww_755, ⟨by decide, by decide, by decide +kernel⟩, by decide⟩
theorem dX2_isInfinite_0 : decode cX2_isInfinite 0 = .ok (.lload_n 0, 1) := by decide +kernel
theorem dX2_isInfinite_1 : decode cX2_isInfinite 1 = .ok (.ldc2_w 11, 3) := by decide +kernel
theorem dX2_isInfinite_4 : decode cX2_isInfinite 4 = .ok (.land, 1) := by decide +kernel
theorem dX2_isInfinite_5 : decode cX2_isInfinite 5 = .ok (.ldc2_w 13, 3) := by decide +kernel
theorem dX2_isInfinite_8 : decode cX2_isInfinite 8 = .ok (.lcmp, 1) := by decide +kernel
theorem dX2_isInfinite_9 : decode cX2_isInfinite 9 = .ok (.ifCond .ne 7, 3) := by decide +kernel
theorem dX2_isInfinite_12 : decode cX2_isInfinite 12 = .ok (.iconst 1, 1) := by decide +kernel
theorem dX2_isInfinite_13 : decode cX2_isInfinite 13 = .ok (.goto 4, 3) := by decide +kernel
theorem dX2_isInfinite_16 : decode cX2_isInfinite 16 = .ok (.iconst 0, 1) := by decide +kernel
theorem dX2_isInfinite_17 : decode cX2_isInfinite 17 = .ok (.ireturn, 1) := by decide +kernel
def F_X2_isInfinite_17 (t0 : Int32) (s0 : ae_S) : Option (Int32 × ae_S) := ae_gd (ae_zz t0) (some (t0, s0))
set_option maxHeartbeats 4000000 in
set_option maxRecDepth 100000 in
theorem t_X2_isInfinite_17 {l : Launch} {G : ae_G} (d : Nat) {rr : Int32} {ss : ae_S} (t0 : Int32) (s0 : ae_S) (hF : F_X2_isInfinite_17 t0 s0 = some (rr, ss)) : ae_T l G d mX2_isInfinite (ae_Po (some (ae_i rr)) ss) 17 [] [ae_i t0] s0 := by
  unfold F_X2_isInfinite_17 at hF
  obtain ⟨hg1, hF2⟩ := ae_gdI hF
  obtain ⟨rfl, rfl⟩ := ae_retI hF2
  exact ae_iret dX2_isInfinite_17 rfl (ae_zzN (ae_zzI hg1)) ⟨rfl, rfl⟩
def F_X2_isInfinite (v0 : Int64) (s0 : ae_S) : Option (Int32 × ae_S) := if (lg_cmp (v0 &&& (9223372036854775807 : Int64)) (9218868437227405312 : Int64)) = 0 then (F_X2_isInfinite_17 (1 : Int32) s0) else (F_X2_isInfinite_17 (0 : Int32) s0)
set_option maxHeartbeats 4000000 in
set_option maxRecDepth 100000 in
theorem c_X2_isInfinite {l : Launch} {G : ae_G} (d : Nat) {v0 : Int64} {s0 ss : ae_S} {rr : Int32} (hF : F_X2_isInfinite v0 s0 = some (rr, ss)) : ae_Met l G d yX2_isInfinite mX2_isInfinite [ae_l v0] s0 (ae_Po (some (ae_i rr)) ss) := by
  refine ae_enter (by decide) rfl (Nat.le_of_ble_eq_true rfl) ?_
  show ae_T l G d mX2_isInfinite (ae_Po (some (ae_i rr)) ss) 0 [(0, ae_l v0)] [] s0
  unfold F_X2_isInfinite at hF
  refine ae_lload_n 0 dX2_isInfinite_0 rfl ?_
  refine ae_ldc2 dX2_isInfinite_1 ww_751 ?_
  refine ae_land dX2_isInfinite_4 ?_
  refine ae_ldc2 dX2_isInfinite_5 ww_744 ?_
  refine ae_lcmp dX2_isInfinite_8 ?_
  refine ae_if_ne 16 dX2_isInfinite_9 rfl (fun hb3 => ?_) (fun hb3 => ?_)
  · have hF4 := ae_ifF hb3 hF
    refine ae_iconst (0 : Int32) dX2_isInfinite_16 (by decide) ?_
    refine ae_pick (lv' := []) [] rfl ?_
    exact t_X2_isInfinite_17 d (0 : Int32) s0 hF4
  · have hF4 := ae_ifT hb3 hF
    refine ae_iconst (1 : Int32) dX2_isInfinite_12 (by decide) ?_
    refine ae_goto 17 dX2_isInfinite_13 rfl ?_
    refine ae_pick (lv' := []) [] rfl ?_
    exact t_X2_isInfinite_17 d (1 : Int32) s0 hF4
abbrev mX2_isNan : ae_M := (RX2, cX2_isNan, 2, some .boolean)
theorem vy_X2_isNan : ae_SY yX2_isNan mX2_isNan 1 := ⟨ww_749, ww_18, ww_750, ⟨by decide, by decide, by decide +kernel⟩, by decide⟩
theorem dX2_isNan_0 : decode cX2_isNan 0 = .ok (.lload_n 0, 1) := by decide +kernel
theorem dX2_isNan_1 : decode cX2_isNan 1 = .ok (.ldc2_w 11, 3) := by decide +kernel
theorem dX2_isNan_4 : decode cX2_isNan 4 = .ok (.land, 1) := by decide +kernel
theorem dX2_isNan_5 : decode cX2_isNan 5 = .ok (.ldc2_w 13, 3) := by decide +kernel
theorem dX2_isNan_8 : decode cX2_isNan 8 = .ok (.lcmp, 1) := by decide +kernel
theorem dX2_isNan_9 : decode cX2_isNan 9 = .ok (.ifCond .le 7, 3) := by decide +kernel
theorem dX2_isNan_12 : decode cX2_isNan 12 = .ok (.iconst 1, 1) := by decide +kernel
theorem dX2_isNan_13 : decode cX2_isNan 13 = .ok (.goto 4, 3) := by decide +kernel
theorem dX2_isNan_16 : decode cX2_isNan 16 = .ok (.iconst 0, 1) := by decide +kernel
theorem dX2_isNan_17 : decode cX2_isNan 17 = .ok (.ireturn, 1) := by decide +kernel
def F_X2_isNan_17 (t0 : Int32) (s0 : ae_S) : Option (Int32 × ae_S) := ae_gd (ae_zz t0) (some (t0, s0))
set_option maxHeartbeats 4000000 in
set_option maxRecDepth 100000 in
theorem t_X2_isNan_17 {l : Launch} {G : ae_G} (d : Nat) {rr : Int32} {ss : ae_S} (t0 : Int32) (s0 : ae_S) (hF : F_X2_isNan_17 t0 s0 = some (rr, ss)) : ae_T l G d mX2_isNan (ae_Po (some (ae_i rr)) ss) 17 [] [ae_i t0] s0 := by
  unfold F_X2_isNan_17 at hF
  obtain ⟨hg1, hF2⟩ := ae_gdI hF
  obtain ⟨rfl, rfl⟩ := ae_retI hF2
  exact ae_iret dX2_isNan_17 rfl (ae_zzN (ae_zzI hg1)) ⟨rfl, rfl⟩
def F_X2_isNan (v0 : Int64) (s0 : ae_S) : Option (Int32 × ae_S) := if (lg_cmp (v0 &&& (9223372036854775807 : Int64)) (9218868437227405312 : Int64)) ≤ 0 then (F_X2_isNan_17 (0 : Int32) s0) else (F_X2_isNan_17 (1 : Int32) s0)
set_option maxHeartbeats 4000000 in
set_option maxRecDepth 100000 in
theorem c_X2_isNan {l : Launch} {G : ae_G} (d : Nat) {v0 : Int64} {s0 ss : ae_S} {rr : Int32} (hF : F_X2_isNan v0 s0 = some (rr, ss)) : ae_Met l G d yX2_isNan mX2_isNan [ae_l v0] s0 (ae_Po (some (ae_i rr)) ss) := by
  refine ae_enter (by decide) rfl (Nat.le_of_ble_eq_true rfl) ?_
  show ae_T l G d mX2_isNan (ae_Po (some (ae_i rr)) ss) 0 [(0, ae_l v0)] [] s0
  unfold F_X2_isNan at hF
  refine ae_lload_n 0 dX2_isNan_0 rfl ?_
  refine ae_ldc2 dX2_isNan_1 ww_751 ?_
  refine ae_land dX2_isNan_4 ?_
  refine ae_ldc2 dX2_isNan_5 ww_744 ?_
  refine ae_lcmp dX2_isNan_8 ?_
  refine ae_if_le 16 dX2_isNan_9 rfl (fun hb3 => ?_) (fun hb3 => ?_)
  · have hF4 := ae_ifT hb3 hF
    refine ae_iconst (0 : Int32) dX2_isNan_16 (by decide) ?_
    refine ae_pick (lv' := []) [] rfl ?_
    exact t_X2_isNan_17 d (0 : Int32) s0 hF4
  · have hF4 := ae_ifF hb3 hF
    refine ae_iconst (1 : Int32) dX2_isNan_12 (by decide) ?_
    refine ae_goto 17 dX2_isNan_13 rfl ?_
    refine ae_pick (lv' := []) [] rfl ?_
    exact t_X2_isNan_17 d (1 : Int32) s0 hF4
abbrev mX2_isZero : ae_M := (RX2, cX2_isZero, 2, some .boolean)
theorem vy_X2_isZero : ae_SY yX2_isZero mX2_isZero 1 := ⟨ww_757, ww_18, ww_758, ⟨by decide, by decide, by decide +kernel⟩, by decide⟩
theorem dX2_isZero_0 : decode cX2_isZero 0 = .ok (.lload_n 0, 1) := by decide +kernel
theorem dX2_isZero_1 : decode cX2_isZero 1 = .ok (.ldc2_w 11, 3) := by decide +kernel
theorem dX2_isZero_4 : decode cX2_isZero 4 = .ok (.land, 1) := by decide +kernel
theorem dX2_isZero_5 : decode cX2_isZero 5 = .ok (.lconst 0, 1) := by decide +kernel
theorem dX2_isZero_6 : decode cX2_isZero 6 = .ok (.lcmp, 1) := by decide +kernel
theorem dX2_isZero_7 : decode cX2_isZero 7 = .ok (.ifCond .ne 7, 3) := by decide +kernel
theorem dX2_isZero_10 : decode cX2_isZero 10 = .ok (.iconst 1, 1) := by decide +kernel
theorem dX2_isZero_11 : decode cX2_isZero 11 = .ok (.goto 4, 3) := by decide +kernel
theorem dX2_isZero_14 : decode cX2_isZero 14 = .ok (.iconst 0, 1) := by decide +kernel
theorem dX2_isZero_15 : decode cX2_isZero 15 = .ok (.ireturn, 1) := by decide +kernel
def F_X2_isZero_15 (t0 : Int32) (s0 : ae_S) : Option (Int32 × ae_S) := ae_gd (ae_zz t0) (some (t0, s0))
set_option maxHeartbeats 4000000 in
set_option maxRecDepth 100000 in
theorem t_X2_isZero_15 {l : Launch} {G : ae_G} (d : Nat) {rr : Int32} {ss : ae_S} (t0 : Int32) (s0 : ae_S) (hF : F_X2_isZero_15 t0 s0 = some (rr, ss)) : ae_T l G d mX2_isZero (ae_Po (some (ae_i rr)) ss) 15 [] [ae_i t0] s0 := by
  unfold F_X2_isZero_15 at hF
  obtain ⟨hg1, hF2⟩ := ae_gdI hF
  obtain ⟨rfl, rfl⟩ := ae_retI hF2
  exact ae_iret dX2_isZero_15 rfl (ae_zzN (ae_zzI hg1)) ⟨rfl, rfl⟩
def F_X2_isZero (v0 : Int64) (s0 : ae_S) : Option (Int32 × ae_S) := if (lg_cmp (v0 &&& (9223372036854775807 : Int64)) (0 : Int64)) = 0 then (F_X2_isZero_15 (1 : Int32) s0) else (F_X2_isZero_15 (0 : Int32) s0)
set_option maxHeartbeats 4000000 in
set_option maxRecDepth 100000 in
theorem c_X2_isZero {l : Launch} {G : ae_G} (d : Nat) {v0 : Int64} {s0 ss : ae_S} {rr : Int32} (hF : F_X2_isZero v0 s0 = some (rr, ss)) : ae_Met l G d yX2_isZero mX2_isZero [ae_l v0] s0 (ae_Po (some (ae_i rr)) ss) := by
  refine ae_enter (by decide) rfl (Nat.le_of_ble_eq_true rfl) ?_
  show ae_T l G d mX2_isZero (ae_Po (some (ae_i rr)) ss) 0 [(0, ae_l v0)] [] s0
  unfold F_X2_isZero at hF
  refine ae_lload_n 0 dX2_isZero_0 rfl ?_
  refine ae_ldc2 dX2_isZero_1 ww_751 ?_
  refine ae_land dX2_isZero_4 ?_
  refine ae_lconst (0 : Int64) dX2_isZero_5 (by decide) ?_
  refine ae_lcmp dX2_isZero_6 ?_
  refine ae_if_ne 14 dX2_isZero_7 rfl (fun hb3 => ?_) (fun hb3 => ?_)
  · have hF4 := ae_ifF hb3 hF
    refine ae_iconst (0 : Int32) dX2_isZero_14 (by decide) ?_
    refine ae_pick (lv' := []) [] rfl ?_
    exact t_X2_isZero_15 d (0 : Int32) s0 hF4
  · have hF4 := ae_ifT hb3 hF
    refine ae_iconst (1 : Int32) dX2_isZero_10 (by decide) ?_
    refine ae_goto 15 dX2_isZero_11 rfl ?_
    refine ae_pick (lv' := []) [] rfl ?_
    exact t_X2_isZero_15 d (1 : Int32) s0 hF4
abbrev mX2_liftOf : ae_M := (RX2, cX2_liftOf, 2, some .int)
theorem vy_X2_liftOf : ae_SY yX2_liftOf mX2_liftOf 1 := ⟨ww_760, ww_18, ww_761, ⟨by decide, by decide, by decide +kernel⟩, by decide⟩
theorem dX2_liftOf_0 : decode cX2_liftOf 0 = .ok (.lload_n 0, 1) := by decide +kernel
theorem dX2_liftOf_1 : decode cX2_liftOf 1 = .ok (.invokestatic 50, 3) := by decide +kernel
theorem dX2_liftOf_4 : decode cX2_liftOf 4 = .ok (.invokestatic 68, 3) := by decide +kernel
theorem dX2_liftOf_7 : decode cX2_liftOf 7 = .ok (.bipush 11, 2) := by decide +kernel
theorem dX2_liftOf_9 : decode cX2_liftOf 9 = .ok (.isub, 1) := by decide +kernel
theorem dX2_liftOf_10 : decode cX2_liftOf 10 = .ok (.iconst 0, 1) := by decide +kernel
theorem dX2_liftOf_11 : decode cX2_liftOf 11 = .ok (.invokestatic 27, 3) := by decide +kernel
theorem dX2_liftOf_14 : decode cX2_liftOf 14 = .ok (.ireturn, 1) := by decide +kernel
def F_X2_liftOf (v0 : Int64) (s0 : ae_S) : Option (Int32 × ae_S) := ae_bd (F_X2_digitsOf v0 s0) (fun (r1 : Int64) s2 => ae_bd (F_J13_numberOfLeadingZeros_95d88 r1 s2) (fun (r5 : Int32) s6 => some (if (r5 - (11 : Int32)) < (0 : Int32) then (0 : Int32) else (r5 - (11 : Int32)), s6)))
set_option maxHeartbeats 4000000 in
set_option maxRecDepth 100000 in
theorem c_X2_liftOf {l : Launch} {G : ae_G} (d : Nat) {v0 : Int64} {s0 ss : ae_S} {rr : Int32} (hF : F_X2_liftOf v0 s0 = some (rr, ss)) : ae_Met l G (d + 2) yX2_liftOf mX2_liftOf [ae_l v0] s0 (ae_Po (some (ae_i rr)) ss) := by
  refine ae_enter (by decide) rfl (Nat.le_of_ble_eq_true rfl) ?_
  show ae_T l G (d + 2) mX2_liftOf (ae_Po (some (ae_i rr)) ss) 0 [(0, ae_l v0)] [] s0
  unfold F_X2_liftOf at hF
  refine ae_lload_n 0 dX2_liftOf_0 rfl ?_
  obtain ⟨r1, s2, hc3, hF4⟩ := ae_bdI hF
  refine ae_cS1 (As := [ae_l v0]) dX2_liftOf_1 ww_762 vy_X2_digitsOf rfl rfl (Nat.le_of_ble_eq_true rfl) (c_X2_digitsOf (d + 1) hc3) ?_
  obtain ⟨r5, s6, hc7, hF8⟩ := ae_bdI hF4
  refine ae_cS1 (As := [ae_l r1]) dX2_liftOf_4 ww_733 vy_J13_numberOfLeadingZeros_95d88 rfl rfl (Nat.le_of_ble_eq_true rfl) (c_J13_numberOfLeadingZeros_95d88 d hc7) ?_
  refine ae_bipush (11 : Int32) dX2_liftOf_7 (by decide) ?_
  refine ae_isub dX2_liftOf_9 ?_
  refine ae_iconst (0 : Int32) dX2_liftOf_10 (by decide) ?_
  refine ae_mmax dX2_liftOf_11 ww_740 ww_741 ww_21 ww_742 (Nat.le_of_ble_eq_true rfl) ?_
  obtain ⟨rfl, rfl⟩ := ae_retI hF8
  exact ae_iret dX2_liftOf_14 rfl rfl ⟨rfl, rfl⟩
abbrev mX2_powerOf : ae_M := (RX2, cX2_powerOf, 3, some .int)
theorem vy_X2_powerOf : ae_SY yX2_powerOf mX2_powerOf 1 := ⟨ww_768, ww_18, ww_769, ⟨by decide, by decide, by decide +kernel⟩, by decide⟩
theorem dX2_powerOf_0 : decode cX2_powerOf 0 = .ok (.lload_n 0, 1) := by decide +kernel
theorem dX2_powerOf_1 : decode cX2_powerOf 1 = .ok (.bipush 52, 2) := by decide +kernel
theorem dX2_powerOf_3 : decode cX2_powerOf 3 = .ok (.lushr, 1) := by decide +kernel
theorem dX2_powerOf_4 : decode cX2_powerOf 4 = .ok (.l2i, 1) := by decide +kernel
theorem dX2_powerOf_5 : decode cX2_powerOf 5 = .ok (.sipush 2047, 3) := by decide +kernel
theorem dX2_powerOf_8 : decode cX2_powerOf 8 = .ok (.iand, 1) := by decide +kernel
theorem dX2_powerOf_9 : decode cX2_powerOf 9 = .ok (.istore_n 2, 1) := by decide +kernel
theorem dX2_powerOf_10 : decode cX2_powerOf 10 = .ok (.iload_n 2, 1) := by decide +kernel
theorem dX2_powerOf_11 : decode cX2_powerOf 11 = .ok (.iconst 1, 1) := by decide +kernel
theorem dX2_powerOf_12 : decode cX2_powerOf 12 = .ok (.invokestatic 27, 3) := by decide +kernel
theorem dX2_powerOf_15 : decode cX2_powerOf 15 = .ok (.iconst 1, 1) := by decide +kernel
theorem dX2_powerOf_16 : decode cX2_powerOf 16 = .ok (.isub, 1) := by decide +kernel
theorem dX2_powerOf_17 : decode cX2_powerOf 17 = .ok (.sipush (-1074), 3) := by decide +kernel
theorem dX2_powerOf_20 : decode cX2_powerOf 20 = .ok (.iadd, 1) := by decide +kernel
theorem dX2_powerOf_21 : decode cX2_powerOf 21 = .ok (.ireturn, 1) := by decide +kernel
def F_X2_powerOf (v0 : Int64) (s0 : ae_S) : Option (Int32 × ae_S) := ae_lt ((((v0.toUInt64 >>> ((52 : Int32).toInt64.toUInt64 &&& Int64.toUInt64 63)).toInt64).toInt32) &&& (2047 : Int32)) (fun x1 => some (((if x1 < (1 : Int32) then (1 : Int32) else x1) - (1 : Int32)) + (-1074 : Int32), s0))
set_option maxHeartbeats 4000000 in
set_option maxRecDepth 100000 in
theorem c_X2_powerOf {l : Launch} {G : ae_G} (d : Nat) {v0 : Int64} {s0 ss : ae_S} {rr : Int32} (hF : F_X2_powerOf v0 s0 = some (rr, ss)) : ae_Met l G (d + 1) yX2_powerOf mX2_powerOf [ae_l v0] s0 (ae_Po (some (ae_i rr)) ss) := by
  refine ae_enter (by decide) rfl (Nat.le_of_ble_eq_true rfl) ?_
  show ae_T l G (d + 1) mX2_powerOf (ae_Po (some (ae_i rr)) ss) 0 [(0, ae_l v0)] [] s0
  unfold F_X2_powerOf at hF
  refine ae_lload_n 0 dX2_powerOf_0 rfl ?_
  refine ae_bipush (52 : Int32) dX2_powerOf_1 (by decide) ?_
  refine ae_lushr dX2_powerOf_3 ?_
  refine ae_l2i dX2_powerOf_4 ?_
  refine ae_sipush (2047 : Int32) dX2_powerOf_5 (by decide) ?_
  refine ae_iand dX2_powerOf_8 ?_
  obtain ⟨x1, hx1, hF2⟩ := ae_ltI hF
  refine ae_nmI hx1 ?_
  refine ae_istore_n (lv' := [(2, ae_i x1), (0, ae_l v0)]) dX2_powerOf_9 (by decide) rfl ?_
  refine ae_iload_n 0 dX2_powerOf_10 rfl ?_
  refine ae_iconst (1 : Int32) dX2_powerOf_11 (by decide) ?_
  refine ae_mmax dX2_powerOf_12 ww_740 ww_741 ww_21 ww_742 (Nat.le_of_ble_eq_true rfl) ?_
  refine ae_iconst (1 : Int32) dX2_powerOf_15 (by decide) ?_
  refine ae_isub dX2_powerOf_16 ?_
  refine ae_sipush (-1074 : Int32) dX2_powerOf_17 (by decide) ?_
  refine ae_iadd dX2_powerOf_20 ?_
  obtain ⟨rfl, rfl⟩ := ae_retI hF2
  exact ae_iret dX2_powerOf_21 rfl rfl ⟨rfl, rfl⟩
abbrev mX2_quotient : ae_M := (RX2, cX2_quotient, 10, some .long)
theorem vy_X2_quotient : ae_SY yX2_quotient mX2_quotient 3 := ⟨ww_771, ww_18, ww_772, ⟨by decide, by decide, by decide +kernel⟩, by decide⟩
theorem dX2_quotient_0 : decode cX2_quotient 0 = .ok (.lload_n 0, 1) := by decide +kernel
theorem dX2_quotient_1 : decode cX2_quotient 1 = .ok (.lstore 5, 2) := by decide +kernel
theorem dX2_quotient_3 : decode cX2_quotient 3 = .ok (.lconst 0, 1) := by decide +kernel
theorem dX2_quotient_4 : decode cX2_quotient 4 = .ok (.lstore 7, 2) := by decide +kernel
theorem dX2_quotient_6 : decode cX2_quotient 6 = .ok (.iconst 0, 1) := by decide +kernel
theorem dX2_quotient_7 : decode cX2_quotient 7 = .ok (.istore 9, 2) := by decide +kernel
theorem dX2_quotient_9 : decode cX2_quotient 9 = .ok (.iload 9, 2) := by decide +kernel
theorem dX2_quotient_11 : decode cX2_quotient 11 = .ok (.bipush 60, 2) := by decide +kernel
theorem dX2_quotient_13 : decode cX2_quotient 13 = .ok (.if_icmp .ge 40, 3) := by decide +kernel
theorem dX2_quotient_16 : decode cX2_quotient 16 = .ok (.lload 7, 2) := by decide +kernel
theorem dX2_quotient_18 : decode cX2_quotient 18 = .ok (.iconst 1, 1) := by decide +kernel
theorem dX2_quotient_19 : decode cX2_quotient 19 = .ok (.lshl, 1) := by decide +kernel
theorem dX2_quotient_20 : decode cX2_quotient 20 = .ok (.lstore 7, 2) := by decide +kernel
theorem dX2_quotient_22 : decode cX2_quotient 22 = .ok (.lload 5, 2) := by decide +kernel
theorem dX2_quotient_24 : decode cX2_quotient 24 = .ok (.lload_n 2, 1) := by decide +kernel
theorem dX2_quotient_25 : decode cX2_quotient 25 = .ok (.lcmp, 1) := by decide +kernel
theorem dX2_quotient_26 : decode cX2_quotient 26 = .ok (.ifCond .lt 15, 3) := by decide +kernel
theorem dX2_quotient_29 : decode cX2_quotient 29 = .ok (.lload 5, 2) := by decide +kernel
theorem dX2_quotient_31 : decode cX2_quotient 31 = .ok (.lload_n 2, 1) := by decide +kernel
theorem dX2_quotient_32 : decode cX2_quotient 32 = .ok (.lsub, 1) := by decide +kernel
theorem dX2_quotient_33 : decode cX2_quotient 33 = .ok (.lstore 5, 2) := by decide +kernel
theorem dX2_quotient_35 : decode cX2_quotient 35 = .ok (.lload 7, 2) := by decide +kernel
theorem dX2_quotient_37 : decode cX2_quotient 37 = .ok (.lconst 1, 1) := by decide +kernel
theorem dX2_quotient_38 : decode cX2_quotient 38 = .ok (.lor, 1) := by decide +kernel
theorem dX2_quotient_39 : decode cX2_quotient 39 = .ok (.lstore 7, 2) := by decide +kernel
theorem dX2_quotient_41 : decode cX2_quotient 41 = .ok (.lload 5, 2) := by decide +kernel
theorem dX2_quotient_43 : decode cX2_quotient 43 = .ok (.iconst 1, 1) := by decide +kernel
theorem dX2_quotient_44 : decode cX2_quotient 44 = .ok (.lshl, 1) := by decide +kernel
theorem dX2_quotient_45 : decode cX2_quotient 45 = .ok (.lstore 5, 2) := by decide +kernel
theorem dX2_quotient_47 : decode cX2_quotient 47 = .ok (.iinc 9 1, 3) := by decide +kernel
theorem dX2_quotient_50 : decode cX2_quotient 50 = .ok (.goto (-41), 3) := by decide +kernel
theorem dX2_quotient_53 : decode cX2_quotient 53 = .ok (.lload 5, 2) := by decide +kernel
theorem dX2_quotient_55 : decode cX2_quotient 55 = .ok (.lconst 0, 1) := by decide +kernel
theorem dX2_quotient_56 : decode cX2_quotient 56 = .ok (.lcmp, 1) := by decide +kernel
theorem dX2_quotient_57 : decode cX2_quotient 57 = .ok (.ifCond .eq 9, 3) := by decide +kernel
theorem dX2_quotient_60 : decode cX2_quotient 60 = .ok (.lload 7, 2) := by decide +kernel
theorem dX2_quotient_62 : decode cX2_quotient 62 = .ok (.lconst 1, 1) := by decide +kernel
theorem dX2_quotient_63 : decode cX2_quotient 63 = .ok (.lor, 1) := by decide +kernel
theorem dX2_quotient_64 : decode cX2_quotient 64 = .ok (.lstore 7, 2) := by decide +kernel
theorem dX2_quotient_66 : decode cX2_quotient 66 = .ok (.lload 7, 2) := by decide +kernel
theorem dX2_quotient_68 : decode cX2_quotient 68 = .ok (.iload 4, 2) := by decide +kernel
theorem dX2_quotient_70 : decode cX2_quotient 70 = .ok (.bipush 59, 2) := by decide +kernel
theorem dX2_quotient_72 : decode cX2_quotient 72 = .ok (.isub, 1) := by decide +kernel
theorem dX2_quotient_73 : decode cX2_quotient 73 = .ok (.iconst 0, 1) := by decide +kernel
theorem dX2_quotient_74 : decode cX2_quotient 74 = .ok (.invokestatic 40, 3) := by decide +kernel
theorem dX2_quotient_77 : decode cX2_quotient 77 = .ok (.lreturn, 1) := by decide +kernel
def F_X2_quotient_66 (v4 : Int32) (v7 : Int64) (s0 : ae_S) : Option (Int64 × ae_S) := ae_bd (F_X2_rounded v7 (v4 - (59 : Int32)) (0 : Int32) s0) (fun (r1 : Int64) s2 => some (r1, s2))
set_option maxHeartbeats 4000000 in
set_option maxRecDepth 100000 in
theorem t_X2_quotient_66 {l : Launch} {G : ae_G} (d : Nat) {rr : Int64} {ss : ae_S} (v4 : Int32) (v7 : Int64) (s0 : ae_S) (hF : F_X2_quotient_66 v4 v7 s0 = some (rr, ss)) : ae_T l G (d + 3) mX2_quotient (ae_Po (some (ae_l rr)) ss) 66 [(4, ae_i v4), (7, ae_l v7)] [] s0 := by
  unfold F_X2_quotient_66 at hF
  refine ae_lload 1 dX2_quotient_66 rfl ?_
  refine ae_iload 0 dX2_quotient_68 rfl ?_
  refine ae_bipush (59 : Int32) dX2_quotient_70 (by decide) ?_
  refine ae_isub dX2_quotient_72 ?_
  refine ae_iconst (0 : Int32) dX2_quotient_73 (by decide) ?_
  obtain ⟨r1, s2, hc3, hF4⟩ := ae_bdI hF
  refine ae_cS1 (As := [ae_l v7, ae_i (v4 - (59 : Int32)), ae_i (0 : Int32)]) dX2_quotient_74 ww_730 vy_X2_rounded rfl rfl (Nat.le_of_ble_eq_true rfl) (c_X2_rounded d hc3) ?_
  obtain ⟨rfl, rfl⟩ := ae_retI hF4
  exact ae_lret dX2_quotient_77 rfl ⟨rfl, rfl⟩
def F_X2_quotient_41 (k9 : Int64 → Int32 → Int64 → Int64 → Int32 → ae_S → Option (Int64 × ae_S)) (v2 : Int64) (v4 : Int32) (v5 : Int64) (v7 : Int64) (v9 : Int32) (s0 : ae_S) : Option (Int64 × ae_S) := ae_lt (v5 <<< ((1 : Int32).toInt64 &&& 63)) (fun x5 => ae_lt (v9 + (1 : Int32)) (fun x7 => k9 v2 v4 x5 v7 x7 s0))
set_option maxHeartbeats 4000000 in
set_option maxRecDepth 100000 in
theorem t_X2_quotient_41 {l : Launch} {G : ae_G} (d : Nat) (k9 : Int64 → Int32 → Int64 → Int64 → Int32 → ae_S → Option (Int64 × ae_S)) {rr : Int64} {ss : ae_S} (hk9 : ∀ (v2 : Int64) (v4 : Int32) (v5 : Int64) (v7 : Int64) (v9 : Int32) (s0 : ae_S), k9 v2 v4 v5 v7 v9 s0 = some (rr, ss) → ae_T l G (d + 3) mX2_quotient (ae_Po (some (ae_l rr)) ss) 9 [(2, ae_l v2), (4, ae_i v4), (5, ae_l v5), (7, ae_l v7), (9, ae_i v9)] [] s0) (v2 : Int64) (v4 : Int32) (v5 : Int64) (v7 : Int64) (v9 : Int32) (s0 : ae_S) (hF : F_X2_quotient_41 k9 v2 v4 v5 v7 v9 s0 = some (rr, ss)) : ae_T l G (d + 3) mX2_quotient (ae_Po (some (ae_l rr)) ss) 41 [(2, ae_l v2), (4, ae_i v4), (5, ae_l v5), (7, ae_l v7), (9, ae_i v9)] [] s0 := by
  unfold F_X2_quotient_41 at hF
  refine ae_lload 2 dX2_quotient_41 rfl ?_
  refine ae_iconst (1 : Int32) dX2_quotient_43 (by decide) ?_
  refine ae_lshl dX2_quotient_44 ?_
  obtain ⟨x5, hx5, hF6⟩ := ae_ltI hF
  refine ae_nmL hx5 ?_
  refine ae_lstore (lv' := [(5, ae_l x5), (2, ae_l v2), (4, ae_i v4), (7, ae_l v7), (9, ae_i v9)]) dX2_quotient_45 (by decide) rfl ?_
  obtain ⟨x7, hx7, hF8⟩ := ae_ltI hF6
  refine ae_iinc (lv' := [(9, ae_i x7), (5, ae_l x5), (2, ae_l v2), (4, ae_i v4), (7, ae_l v7)]) 4 (1 : Int32) dX2_quotient_47 rfl (by decide) (by decide) (by rw [hx7]; rfl) ?_
  refine ae_goto 9 dX2_quotient_50 rfl ?_
  refine ae_pick (lv' := [(2, ae_l v2), (4, ae_i v4), (5, ae_l x5), (7, ae_l v7), (9, ae_i x7)]) [2, 3, 1, 4, 0] rfl ?_
  exact hk9 v2 v4 x5 v7 x7 s0 hF8
def F_X2_quotient_9 : Nat → Int64 → Int32 → Int64 → Int64 → Int32 → ae_S → Option (Int64 × ae_S)
  | 0, _, _, _, _, _, _ => none
  | n + 1, v2, v4, v5, v7, v9, s0 => if (60 : Int32) ≤ v9 then (if (lg_cmp v5 (0 : Int64)) = 0 then (F_X2_quotient_66 v4 v7 s0) else (ae_lt (v7 ||| (1 : Int64)) (fun x13 => F_X2_quotient_66 v4 x13 s0))) else (ae_lt (v7 <<< ((1 : Int32).toInt64 &&& 63)) (fun x15 => if (lg_cmp v5 v2) < 0 then (F_X2_quotient_41 (F_X2_quotient_9 n) v2 v4 v5 x15 v9 s0) else (ae_lt (v5 - v2) (fun x19 => ae_lt (x15 ||| (1 : Int64)) (fun x21 => F_X2_quotient_41 (F_X2_quotient_9 n) v2 v4 x19 x21 v9 s0)))))
set_option maxHeartbeats 4000000 in
set_option maxRecDepth 100000 in
theorem t_X2_quotient_9 {l : Launch} {G : ae_G} (d : Nat) {rr : Int64} {ss : ae_S} : ∀ (n : Nat) (v2 : Int64) (v4 : Int32) (v5 : Int64) (v7 : Int64) (v9 : Int32) (s0 : ae_S), F_X2_quotient_9 n v2 v4 v5 v7 v9 s0 = some (rr, ss) → ae_T l G (d + 3) mX2_quotient (ae_Po (some (ae_l rr)) ss) 9 [(2, ae_l v2), (4, ae_i v4), (5, ae_l v5), (7, ae_l v7), (9, ae_i v9)] [] s0 := by
  intro n
  induction n with
  | zero =>
    intro v2 v4 v5 v7 v9 s0 hF
    exact absurd (show (none : Option (Int64 × ae_S)) = some (rr, ss) from hF) (by simp)
  | succ n ih =>
    intro v2 v4 v5 v7 v9 s0 hF
    unfold F_X2_quotient_9 at hF
    refine ae_iload 4 dX2_quotient_9 rfl ?_
    refine ae_bipush (60 : Int32) dX2_quotient_11 (by decide) ?_
    refine ae_icmp_ge 53 dX2_quotient_13 rfl (fun hb9 => ?_) (fun hb9 => ?_)
    · have hF10 := ae_ifT hb9 hF
      refine ae_lload 2 dX2_quotient_53 rfl ?_
      refine ae_lconst (0 : Int64) dX2_quotient_55 (by decide) ?_
      refine ae_lcmp dX2_quotient_56 ?_
      refine ae_if_eq 66 dX2_quotient_57 rfl (fun hb11 => ?_) (fun hb11 => ?_)
      · have hF12 := ae_ifT hb11 hF10
        refine ae_pick (lv' := [(4, ae_i v4), (7, ae_l v7)]) [1, 3] rfl ?_
        exact t_X2_quotient_66 d v4 v7 s0 hF12
      · have hF12 := ae_ifF hb11 hF10
        refine ae_lload 3 dX2_quotient_60 rfl ?_
        refine ae_lconst (1 : Int64) dX2_quotient_62 (by decide) ?_
        refine ae_lor dX2_quotient_63 ?_
        obtain ⟨x13, hx13, hF14⟩ := ae_ltI hF12
        refine ae_nmL hx13 ?_
        refine ae_lstore (lv' := [(7, ae_l x13), (2, ae_l v2), (4, ae_i v4), (5, ae_l v5), (9, ae_i v9)]) dX2_quotient_64 (by decide) rfl ?_
        refine ae_pick (lv' := [(4, ae_i v4), (7, ae_l x13)]) [2, 0] rfl ?_
        exact t_X2_quotient_66 d v4 x13 s0 hF14
    · have hF10 := ae_ifF hb9 hF
      refine ae_lload 3 dX2_quotient_16 rfl ?_
      refine ae_iconst (1 : Int32) dX2_quotient_18 (by decide) ?_
      refine ae_lshl dX2_quotient_19 ?_
      obtain ⟨x15, hx15, hF16⟩ := ae_ltI hF10
      refine ae_nmL hx15 ?_
      refine ae_lstore (lv' := [(7, ae_l x15), (2, ae_l v2), (4, ae_i v4), (5, ae_l v5), (9, ae_i v9)]) dX2_quotient_20 (by decide) rfl ?_
      refine ae_lload 3 dX2_quotient_22 rfl ?_
      refine ae_lload_n 1 dX2_quotient_24 rfl ?_
      refine ae_lcmp dX2_quotient_25 ?_
      refine ae_if_lt 41 dX2_quotient_26 rfl (fun hb17 => ?_) (fun hb17 => ?_)
      · have hF18 := ae_ifT hb17 hF16
        refine ae_pick (lv' := [(2, ae_l v2), (4, ae_i v4), (5, ae_l v5), (7, ae_l x15), (9, ae_i v9)]) [1, 2, 3, 0, 4] rfl ?_
        exact t_X2_quotient_41 d (F_X2_quotient_9 n) ih v2 v4 v5 x15 v9 s0 hF18
      · have hF18 := ae_ifF hb17 hF16
        refine ae_lload 3 dX2_quotient_29 rfl ?_
        refine ae_lload_n 1 dX2_quotient_31 rfl ?_
        refine ae_lsub dX2_quotient_32 ?_
        obtain ⟨x19, hx19, hF20⟩ := ae_ltI hF18
        refine ae_nmL hx19 ?_
        refine ae_lstore (lv' := [(5, ae_l x19), (7, ae_l x15), (2, ae_l v2), (4, ae_i v4), (9, ae_i v9)]) dX2_quotient_33 (by decide) rfl ?_
        refine ae_lload 1 dX2_quotient_35 rfl ?_
        refine ae_lconst (1 : Int64) dX2_quotient_37 (by decide) ?_
        refine ae_lor dX2_quotient_38 ?_
        obtain ⟨x21, hx21, hF22⟩ := ae_ltI hF20
        refine ae_nmL hx21 ?_
        refine ae_lstore (lv' := [(7, ae_l x21), (5, ae_l x19), (2, ae_l v2), (4, ae_i v4), (9, ae_i v9)]) dX2_quotient_39 (by decide) rfl ?_
        refine ae_pick (lv' := [(2, ae_l v2), (4, ae_i v4), (5, ae_l x19), (7, ae_l x21), (9, ae_i v9)]) [2, 3, 1, 0, 4] rfl ?_
        exact t_X2_quotient_41 d (F_X2_quotient_9 n) ih v2 v4 x19 x21 v9 s0 hF22
def F_X2_quotient (v0 : Int64) (v2 : Int64) (v4 : Int32) (s0 : ae_S) : Option (Int64 × ae_S) := F_X2_quotient_9 ae_fu v2 v4 v0 (0 : Int64) (0 : Int32) s0
set_option maxHeartbeats 4000000 in
set_option maxRecDepth 100000 in
theorem c_X2_quotient {l : Launch} {G : ae_G} (d : Nat) {v0 : Int64} {v2 : Int64} {v4 : Int32} {s0 ss : ae_S} {rr : Int64} (hF : F_X2_quotient v0 v2 v4 s0 = some (rr, ss)) : ae_Met l G (d + 3) yX2_quotient mX2_quotient [ae_l v0, ae_l v2, ae_i v4] s0 (ae_Po (some (ae_l rr)) ss) := by
  refine ae_enter (by decide) rfl (Nat.le_of_ble_eq_true rfl) ?_
  show ae_T l G (d + 3) mX2_quotient (ae_Po (some (ae_l rr)) ss) 0 [(0, ae_l v0), (2, ae_l v2), (4, ae_i v4)] [] s0
  unfold F_X2_quotient at hF
  refine ae_lload_n 0 dX2_quotient_0 rfl ?_
  refine ae_lstore (lv' := [(5, ae_l v0), (0, ae_l v0), (2, ae_l v2), (4, ae_i v4)]) dX2_quotient_1 (by decide) rfl ?_
  refine ae_lconst (0 : Int64) dX2_quotient_3 (by decide) ?_
  refine ae_lstore (lv' := [(7, ae_l (0 : Int64)), (5, ae_l v0), (0, ae_l v0), (2, ae_l v2), (4, ae_i v4)]) dX2_quotient_4 (by decide) rfl ?_
  refine ae_iconst (0 : Int32) dX2_quotient_6 (by decide) ?_
  refine ae_istore (lv' := [(9, ae_i (0 : Int32)), (7, ae_l (0 : Int64)), (5, ae_l v0), (0, ae_l v0), (2, ae_l v2), (4, ae_i v4)]) dX2_quotient_7 (by decide) rfl ?_
  refine ae_pick (lv' := [(2, ae_l v2), (4, ae_i v4), (5, ae_l v0), (7, ae_l (0 : Int64)), (9, ae_i (0 : Int32))]) [4, 5, 2, 1, 0] rfl ?_
  exact t_X2_quotient_9 d ae_fu v2 v4 v0 (0 : Int64) (0 : Int32) s0 hF
abbrev mX2_divide : ae_M := (RX2, cX2_divide, 9, some .long)
theorem vy_X2_divide : ae_SY yX2_divide mX2_divide 2 := ⟨ww_746, ww_18, ww_747, ⟨by decide, by decide, by decide +kernel⟩, by decide⟩
theorem dX2_divide_0 : decode cX2_divide 0 = .ok (.lload_n 0, 1) := by decide +kernel
theorem dX2_divide_1 : decode cX2_divide 1 = .ok (.invokestatic 15, 3) := by decide +kernel
theorem dX2_divide_4 : decode cX2_divide 4 = .ok (.ifCond .ne 10, 3) := by decide +kernel
theorem dX2_divide_7 : decode cX2_divide 7 = .ok (.lload_n 2, 1) := by decide +kernel
theorem dX2_divide_8 : decode cX2_divide 8 = .ok (.invokestatic 15, 3) := by decide +kernel
theorem dX2_divide_11 : decode cX2_divide 11 = .ok (.ifCond .eq 7, 3) := by decide +kernel
theorem dX2_divide_14 : decode cX2_divide 14 = .ok (.ldc2_w 19, 3) := by decide +kernel
theorem dX2_divide_17 : decode cX2_divide 17 = .ok (.lreturn, 1) := by decide +kernel
theorem dX2_divide_18 : decode cX2_divide 18 = .ok (.lload_n 0, 1) := by decide +kernel
theorem dX2_divide_19 : decode cX2_divide 19 = .ok (.lload_n 2, 1) := by decide +kernel
theorem dX2_divide_20 : decode cX2_divide 20 = .ok (.lxor, 1) := by decide +kernel
theorem dX2_divide_21 : decode cX2_divide 21 = .ok (.ldc2_w 21, 3) := by decide +kernel
theorem dX2_divide_24 : decode cX2_divide 24 = .ok (.land, 1) := by decide +kernel
theorem dX2_divide_25 : decode cX2_divide 25 = .ok (.lstore 4, 2) := by decide +kernel
theorem dX2_divide_27 : decode cX2_divide 27 = .ok (.lload_n 0, 1) := by decide +kernel
theorem dX2_divide_28 : decode cX2_divide 28 = .ok (.invokestatic 65, 3) := by decide +kernel
theorem dX2_divide_31 : decode cX2_divide 31 = .ok (.ifCond .ne 10, 3) := by decide +kernel
theorem dX2_divide_34 : decode cX2_divide 34 = .ok (.lload_n 2, 1) := by decide +kernel
theorem dX2_divide_35 : decode cX2_divide 35 = .ok (.invokestatic 33, 3) := by decide +kernel
theorem dX2_divide_38 : decode cX2_divide 38 = .ok (.ifCond .eq 41, 3) := by decide +kernel
theorem dX2_divide_41 : decode cX2_divide 41 = .ok (.lload_n 0, 1) := by decide +kernel
theorem dX2_divide_42 : decode cX2_divide 42 = .ok (.invokestatic 65, 3) := by decide +kernel
theorem dX2_divide_45 : decode cX2_divide 45 = .ok (.ifCond .eq 10, 3) := by decide +kernel
theorem dX2_divide_48 : decode cX2_divide 48 = .ok (.lload_n 2, 1) := by decide +kernel
theorem dX2_divide_49 : decode cX2_divide 49 = .ok (.invokestatic 65, 3) := by decide +kernel
theorem dX2_divide_52 : decode cX2_divide 52 = .ok (.goto 7, 3) := by decide +kernel
theorem dX2_divide_55 : decode cX2_divide 55 = .ok (.lload_n 0, 1) := by decide +kernel
theorem dX2_divide_56 : decode cX2_divide 56 = .ok (.invokestatic 33, 3) := by decide +kernel
theorem dX2_divide_59 : decode cX2_divide 59 = .ok (.istore 6, 2) := by decide +kernel
theorem dX2_divide_61 : decode cX2_divide 61 = .ok (.iload 6, 2) := by decide +kernel
theorem dX2_divide_63 : decode cX2_divide 63 = .ok (.ifCond .eq 9, 3) := by decide +kernel
theorem dX2_divide_66 : decode cX2_divide 66 = .ok (.ldc2_w 19, 3) := by decide +kernel
theorem dX2_divide_69 : decode cX2_divide 69 = .ok (.goto 9, 3) := by decide +kernel
theorem dX2_divide_72 : decode cX2_divide 72 = .ok (.lload 4, 2) := by decide +kernel
theorem dX2_divide_74 : decode cX2_divide 74 = .ok (.ldc2_w 13, 3) := by decide +kernel
theorem dX2_divide_77 : decode cX2_divide 77 = .ok (.lor, 1) := by decide +kernel
theorem dX2_divide_78 : decode cX2_divide 78 = .ok (.lreturn, 1) := by decide +kernel
theorem dX2_divide_79 : decode cX2_divide 79 = .ok (.lload_n 2, 1) := by decide +kernel
theorem dX2_divide_80 : decode cX2_divide 80 = .ok (.invokestatic 65, 3) := by decide +kernel
theorem dX2_divide_83 : decode cX2_divide 83 = .ok (.ifCond .ne 10, 3) := by decide +kernel
theorem dX2_divide_86 : decode cX2_divide 86 = .ok (.lload_n 0, 1) := by decide +kernel
theorem dX2_divide_87 : decode cX2_divide 87 = .ok (.invokestatic 33, 3) := by decide +kernel
theorem dX2_divide_90 : decode cX2_divide 90 = .ok (.ifCond .eq 6, 3) := by decide +kernel
theorem dX2_divide_93 : decode cX2_divide 93 = .ok (.lload 4, 2) := by decide +kernel
theorem dX2_divide_95 : decode cX2_divide 95 = .ok (.lreturn, 1) := by decide +kernel
theorem dX2_divide_96 : decode cX2_divide 96 = .ok (.lload_n 0, 1) := by decide +kernel
theorem dX2_divide_97 : decode cX2_divide 97 = .ok (.invokestatic 79, 3) := by decide +kernel
theorem dX2_divide_100 : decode cX2_divide 100 = .ok (.istore 6, 2) := by decide +kernel
theorem dX2_divide_102 : decode cX2_divide 102 = .ok (.lload_n 2, 1) := by decide +kernel
theorem dX2_divide_103 : decode cX2_divide 103 = .ok (.invokestatic 79, 3) := by decide +kernel
theorem dX2_divide_106 : decode cX2_divide 106 = .ok (.istore 7, 2) := by decide +kernel
theorem dX2_divide_108 : decode cX2_divide 108 = .ok (.lload_n 0, 1) := by decide +kernel
theorem dX2_divide_109 : decode cX2_divide 109 = .ok (.invokestatic 46, 3) := by decide +kernel
theorem dX2_divide_112 : decode cX2_divide 112 = .ok (.iload 6, 2) := by decide +kernel
theorem dX2_divide_114 : decode cX2_divide 114 = .ok (.isub, 1) := by decide +kernel
theorem dX2_divide_115 : decode cX2_divide 115 = .ok (.lload_n 2, 1) := by decide +kernel
theorem dX2_divide_116 : decode cX2_divide 116 = .ok (.invokestatic 46, 3) := by decide +kernel
theorem dX2_divide_119 : decode cX2_divide 119 = .ok (.isub, 1) := by decide +kernel
theorem dX2_divide_120 : decode cX2_divide 120 = .ok (.iload 7, 2) := by decide +kernel
theorem dX2_divide_122 : decode cX2_divide 122 = .ok (.iadd, 1) := by decide +kernel
theorem dX2_divide_123 : decode cX2_divide 123 = .ok (.istore 8, 2) := by decide +kernel
theorem dX2_divide_125 : decode cX2_divide 125 = .ok (.lload 4, 2) := by decide +kernel
theorem dX2_divide_127 : decode cX2_divide 127 = .ok (.lload_n 0, 1) := by decide +kernel
theorem dX2_divide_128 : decode cX2_divide 128 = .ok (.invokestatic 50, 3) := by decide +kernel
theorem dX2_divide_131 : decode cX2_divide 131 = .ok (.iload 6, 2) := by decide +kernel
theorem dX2_divide_133 : decode cX2_divide 133 = .ok (.lshl, 1) := by decide +kernel
theorem dX2_divide_134 : decode cX2_divide 134 = .ok (.lload_n 2, 1) := by decide +kernel
theorem dX2_divide_135 : decode cX2_divide 135 = .ok (.invokestatic 50, 3) := by decide +kernel
theorem dX2_divide_138 : decode cX2_divide 138 = .ok (.iload 7, 2) := by decide +kernel
theorem dX2_divide_140 : decode cX2_divide 140 = .ok (.lshl, 1) := by decide +kernel
theorem dX2_divide_141 : decode cX2_divide 141 = .ok (.iload 8, 2) := by decide +kernel
theorem dX2_divide_143 : decode cX2_divide 143 = .ok (.invokestatic 88, 3) := by decide +kernel
theorem dX2_divide_146 : decode cX2_divide 146 = .ok (.lor, 1) := by decide +kernel
theorem dX2_divide_147 : decode cX2_divide 147 = .ok (.lreturn, 1) := by decide +kernel
def F_X2_divide_14 (s0 : ae_S) : Option (Int64 × ae_S) := some ((9221120237041090560 : Int64), s0)
set_option maxHeartbeats 4000000 in
set_option maxRecDepth 100000 in
theorem t_X2_divide_14 {l : Launch} {G : ae_G} (d : Nat) {rr : Int64} {ss : ae_S} (s0 : ae_S) (hF : F_X2_divide_14 s0 = some (rr, ss)) : ae_T l G (d + 4) mX2_divide (ae_Po (some (ae_l rr)) ss) 14 [] [] s0 := by
  unfold F_X2_divide_14 at hF
  refine ae_ldc2 dX2_divide_14 ww_752 ?_
  obtain ⟨rfl, rfl⟩ := ae_retI hF
  exact ae_lret dX2_divide_17 rfl ⟨rfl, rfl⟩
def F_X2_divide_78 (t0 : Int64) (s0 : ae_S) : Option (Int64 × ae_S) := some (t0, s0)
set_option maxHeartbeats 4000000 in
set_option maxRecDepth 100000 in
theorem t_X2_divide_78 {l : Launch} {G : ae_G} (d : Nat) {rr : Int64} {ss : ae_S} (t0 : Int64) (s0 : ae_S) (hF : F_X2_divide_78 t0 s0 = some (rr, ss)) : ae_T l G (d + 4) mX2_divide (ae_Po (some (ae_l rr)) ss) 78 [] [ae_l t0] s0 := by
  unfold F_X2_divide_78 at hF
  obtain ⟨rfl, rfl⟩ := ae_retI hF
  exact ae_lret dX2_divide_78 rfl ⟨rfl, rfl⟩
def F_X2_divide_59 (v4 : Int64) (t0 : Int32) (s0 : ae_S) : Option (Int64 × ae_S) := if t0 = 0 then (F_X2_divide_78 (v4 ||| (9218868437227405312 : Int64)) s0) else (F_X2_divide_78 (9221120237041090560 : Int64) s0)
set_option maxHeartbeats 4000000 in
set_option maxRecDepth 100000 in
theorem t_X2_divide_59 {l : Launch} {G : ae_G} (d : Nat) {rr : Int64} {ss : ae_S} (v4 : Int64) (t0 : Int32) (s0 : ae_S) (hF : F_X2_divide_59 v4 t0 s0 = some (rr, ss)) : ae_T l G (d + 4) mX2_divide (ae_Po (some (ae_l rr)) ss) 59 [(4, ae_l v4)] [ae_i t0] s0 := by
  unfold F_X2_divide_59 at hF
  refine ae_istore (lv' := [(6, ae_i t0), (4, ae_l v4)]) dX2_divide_59 (by decide) rfl ?_
  refine ae_iload 0 dX2_divide_61 rfl ?_
  refine ae_if_eq 72 dX2_divide_63 rfl (fun hb1 => ?_) (fun hb1 => ?_)
  · have hF2 := ae_ifT hb1 hF
    refine ae_lload 1 dX2_divide_72 rfl ?_
    refine ae_ldc2 dX2_divide_74 ww_744 ?_
    refine ae_lor dX2_divide_77 ?_
    refine ae_pick (lv' := []) [] rfl ?_
    exact t_X2_divide_78 d (v4 ||| (9218868437227405312 : Int64)) s0 hF2
  · have hF2 := ae_ifF hb1 hF
    refine ae_ldc2 dX2_divide_66 ww_752 ?_
    refine ae_goto 78 dX2_divide_69 rfl ?_
    refine ae_pick (lv' := []) [] rfl ?_
    exact t_X2_divide_78 d (9221120237041090560 : Int64) s0 hF2
def F_X2_divide_41 (v0 : Int64) (v2 : Int64) (v4 : Int64) (s0 : ae_S) : Option (Int64 × ae_S) := ae_bd (F_X2_isInfinite v0 s0) (fun (r3 : Int32) s4 => if r3 = 0 then (ae_bd (F_X2_isZero v0 s4) (fun (r9 : Int32) s10 => F_X2_divide_59 v4 r9 s10)) else (ae_bd (F_X2_isInfinite v2 s4) (fun (r13 : Int32) s14 => F_X2_divide_59 v4 r13 s14)))
set_option maxHeartbeats 4000000 in
set_option maxRecDepth 100000 in
theorem t_X2_divide_41 {l : Launch} {G : ae_G} (d : Nat) {rr : Int64} {ss : ae_S} (v0 : Int64) (v2 : Int64) (v4 : Int64) (s0 : ae_S) (hF : F_X2_divide_41 v0 v2 v4 s0 = some (rr, ss)) : ae_T l G (d + 4) mX2_divide (ae_Po (some (ae_l rr)) ss) 41 [(0, ae_l v0), (2, ae_l v2), (4, ae_l v4)] [] s0 := by
  unfold F_X2_divide_41 at hF
  refine ae_lload_n 0 dX2_divide_41 rfl ?_
  obtain ⟨r3, s4, hc5, hF6⟩ := ae_bdI hF
  refine ae_cS1 (As := [ae_l v0]) dX2_divide_42 ww_753 vy_X2_isInfinite rfl rfl (Nat.le_of_ble_eq_true rfl) (c_X2_isInfinite (d + 3) hc5) ?_
  refine ae_if_eq 55 dX2_divide_45 rfl (fun hb7 => ?_) (fun hb7 => ?_)
  · have hF8 := ae_ifT hb7 hF6
    refine ae_lload_n 0 dX2_divide_55 rfl ?_
    obtain ⟨r9, s10, hc11, hF12⟩ := ae_bdI hF8
    refine ae_cS1 (As := [ae_l v0]) dX2_divide_56 ww_756 vy_X2_isZero rfl rfl (Nat.le_of_ble_eq_true rfl) (c_X2_isZero (d + 3) hc11) ?_
    refine ae_pick (lv' := [(4, ae_l v4)]) [2] rfl ?_
    exact t_X2_divide_59 d v4 r9 s10 hF12
  · have hF8 := ae_ifF hb7 hF6
    refine ae_lload_n 1 dX2_divide_48 rfl ?_
    obtain ⟨r13, s14, hc15, hF16⟩ := ae_bdI hF8
    refine ae_cS1 (As := [ae_l v2]) dX2_divide_49 ww_753 vy_X2_isInfinite rfl rfl (Nat.le_of_ble_eq_true rfl) (c_X2_isInfinite (d + 3) hc15) ?_
    refine ae_goto 59 dX2_divide_52 rfl ?_
    refine ae_pick (lv' := [(4, ae_l v4)]) [2] rfl ?_
    exact t_X2_divide_59 d v4 r13 s14 hF16
def F_X2_divide_93 (v4 : Int64) (s0 : ae_S) : Option (Int64 × ae_S) := some (v4, s0)
set_option maxHeartbeats 4000000 in
set_option maxRecDepth 100000 in
theorem t_X2_divide_93 {l : Launch} {G : ae_G} (d : Nat) {rr : Int64} {ss : ae_S} (v4 : Int64) (s0 : ae_S) (hF : F_X2_divide_93 v4 s0 = some (rr, ss)) : ae_T l G (d + 4) mX2_divide (ae_Po (some (ae_l rr)) ss) 93 [(4, ae_l v4)] [] s0 := by
  unfold F_X2_divide_93 at hF
  refine ae_lload 0 dX2_divide_93 rfl ?_
  obtain ⟨rfl, rfl⟩ := ae_retI hF
  exact ae_lret dX2_divide_95 rfl ⟨rfl, rfl⟩
def F_X2_divide (v0 : Int64) (v2 : Int64) (s0 : ae_S) : Option (Int64 × ae_S) := ae_bd (F_X2_isNan v0 s0) (fun (r17 : Int32) s18 => if r17 = 0 then (ae_bd (F_X2_isNan v2 s18) (fun (r23 : Int32) s24 => if r23 = 0 then (ae_lt ((v0 ^^^ v2) &&& (-9223372036854775808 : Int64)) (fun x29 => ae_bd (F_X2_isInfinite v0 s24) (fun (r31 : Int32) s32 => if r31 = 0 then (ae_bd (F_X2_isZero v2 s32) (fun (r37 : Int32) s38 => if r37 = 0 then (ae_bd (F_X2_isInfinite v2 s38) (fun (r43 : Int32) s44 => if r43 = 0 then (ae_bd (F_X2_isZero v0 s44) (fun (r49 : Int32) s50 => if r49 = 0 then (ae_bd (F_X2_liftOf v0 s50) (fun (r55 : Int32) s56 => ae_bd (F_X2_liftOf v2 s56) (fun (r59 : Int32) s60 => ae_bd (F_X2_powerOf v0 s60) (fun (r63 : Int32) s64 => ae_bd (F_X2_powerOf v2 s64) (fun (r67 : Int32) s68 => ae_lt (((r63 - r55) - r67) + r59) (fun x71 => ae_bd (F_X2_digitsOf v0 s68) (fun (r73 : Int64) s74 => ae_bd (F_X2_digitsOf v2 s74) (fun (r77 : Int64) s78 => ae_bd (F_X2_quotient (r73 <<< (r55.toInt64 &&& 63)) (r77 <<< (r59.toInt64 &&& 63)) x71 s78) (fun (r81 : Int64) s82 => some (x29 ||| r81, s82)))))))))) else (F_X2_divide_93 x29 s50))) else (F_X2_divide_93 x29 s44))) else (F_X2_divide_41 v0 v2 x29 s38))) else (F_X2_divide_41 v0 v2 x29 s32)))) else (F_X2_divide_14 s24))) else (F_X2_divide_14 s18))
set_option maxHeartbeats 4000000 in
set_option maxRecDepth 100000 in
theorem c_X2_divide {l : Launch} {G : ae_G} (d : Nat) {v0 : Int64} {v2 : Int64} {s0 ss : ae_S} {rr : Int64} (hF : F_X2_divide v0 v2 s0 = some (rr, ss)) : ae_Met l G (d + 4) yX2_divide mX2_divide [ae_l v0, ae_l v2] s0 (ae_Po (some (ae_l rr)) ss) := by
  refine ae_enter (by decide) rfl (Nat.le_of_ble_eq_true rfl) ?_
  show ae_T l G (d + 4) mX2_divide (ae_Po (some (ae_l rr)) ss) 0 [(0, ae_l v0), (2, ae_l v2)] [] s0
  unfold F_X2_divide at hF
  refine ae_lload_n 0 dX2_divide_0 rfl ?_
  obtain ⟨r17, s18, hc19, hF20⟩ := ae_bdI hF
  refine ae_cS1 (As := [ae_l v0]) dX2_divide_1 ww_748 vy_X2_isNan rfl rfl (Nat.le_of_ble_eq_true rfl) (c_X2_isNan (d + 3) hc19) ?_
  refine ae_if_ne 14 dX2_divide_4 rfl (fun hb21 => ?_) (fun hb21 => ?_)
  · have hF22 := ae_ifF hb21 hF20
    refine ae_pick (lv' := []) [] rfl ?_
    exact t_X2_divide_14 d s18 hF22
  · have hF22 := ae_ifT hb21 hF20
    refine ae_lload_n 1 dX2_divide_7 rfl ?_
    obtain ⟨r23, s24, hc25, hF26⟩ := ae_bdI hF22
    refine ae_cS1 (As := [ae_l v2]) dX2_divide_8 ww_748 vy_X2_isNan rfl rfl (Nat.le_of_ble_eq_true rfl) (c_X2_isNan (d + 3) hc25) ?_
    refine ae_if_eq 18 dX2_divide_11 rfl (fun hb27 => ?_) (fun hb27 => ?_)
    · have hF28 := ae_ifT hb27 hF26
      refine ae_lload_n 0 dX2_divide_18 rfl ?_
      refine ae_lload_n 1 dX2_divide_19 rfl ?_
      refine ae_lxor dX2_divide_20 ?_
      refine ae_ldc2 dX2_divide_21 ww_729 ?_
      refine ae_land dX2_divide_24 ?_
      obtain ⟨x29, hx29, hF30⟩ := ae_ltI hF28
      refine ae_nmL hx29 ?_
      refine ae_lstore (lv' := [(4, ae_l x29), (0, ae_l v0), (2, ae_l v2)]) dX2_divide_25 (by decide) rfl ?_
      refine ae_lload_n 1 dX2_divide_27 rfl ?_
      obtain ⟨r31, s32, hc33, hF34⟩ := ae_bdI hF30
      refine ae_cS1 (As := [ae_l v0]) dX2_divide_28 ww_753 vy_X2_isInfinite rfl rfl (Nat.le_of_ble_eq_true rfl) (c_X2_isInfinite (d + 3) hc33) ?_
      refine ae_if_ne 41 dX2_divide_31 rfl (fun hb35 => ?_) (fun hb35 => ?_)
      · have hF36 := ae_ifF hb35 hF34
        refine ae_pick (lv' := [(0, ae_l v0), (2, ae_l v2), (4, ae_l x29)]) [1, 2, 0] rfl ?_
        exact t_X2_divide_41 d v0 v2 x29 s32 hF36
      · have hF36 := ae_ifT hb35 hF34
        refine ae_lload_n 2 dX2_divide_34 rfl ?_
        obtain ⟨r37, s38, hc39, hF40⟩ := ae_bdI hF36
        refine ae_cS1 (As := [ae_l v2]) dX2_divide_35 ww_756 vy_X2_isZero rfl rfl (Nat.le_of_ble_eq_true rfl) (c_X2_isZero (d + 3) hc39) ?_
        refine ae_if_eq 79 dX2_divide_38 rfl (fun hb41 => ?_) (fun hb41 => ?_)
        · have hF42 := ae_ifT hb41 hF40
          refine ae_lload_n 2 dX2_divide_79 rfl ?_
          obtain ⟨r43, s44, hc45, hF46⟩ := ae_bdI hF42
          refine ae_cS1 (As := [ae_l v2]) dX2_divide_80 ww_753 vy_X2_isInfinite rfl rfl (Nat.le_of_ble_eq_true rfl) (c_X2_isInfinite (d + 3) hc45) ?_
          refine ae_if_ne 93 dX2_divide_83 rfl (fun hb47 => ?_) (fun hb47 => ?_)
          · have hF48 := ae_ifF hb47 hF46
            refine ae_pick (lv' := [(4, ae_l x29)]) [0] rfl ?_
            exact t_X2_divide_93 d x29 s44 hF48
          · have hF48 := ae_ifT hb47 hF46
            refine ae_lload_n 1 dX2_divide_86 rfl ?_
            obtain ⟨r49, s50, hc51, hF52⟩ := ae_bdI hF48
            refine ae_cS1 (As := [ae_l v0]) dX2_divide_87 ww_756 vy_X2_isZero rfl rfl (Nat.le_of_ble_eq_true rfl) (c_X2_isZero (d + 3) hc51) ?_
            refine ae_if_eq 96 dX2_divide_90 rfl (fun hb53 => ?_) (fun hb53 => ?_)
            · have hF54 := ae_ifT hb53 hF52
              refine ae_lload_n 1 dX2_divide_96 rfl ?_
              obtain ⟨r55, s56, hc57, hF58⟩ := ae_bdI hF54
              refine ae_cS1 (As := [ae_l v0]) dX2_divide_97 ww_759 vy_X2_liftOf rfl rfl (Nat.le_of_ble_eq_true rfl) (c_X2_liftOf (d + 1) hc57) ?_
              refine ae_istore (lv' := [(6, ae_i r55), (4, ae_l x29), (0, ae_l v0), (2, ae_l v2)]) dX2_divide_100 (by decide) rfl ?_
              refine ae_lload_n 3 dX2_divide_102 rfl ?_
              obtain ⟨r59, s60, hc61, hF62⟩ := ae_bdI hF58
              refine ae_cS1 (As := [ae_l v2]) dX2_divide_103 ww_759 vy_X2_liftOf rfl rfl (Nat.le_of_ble_eq_true rfl) (c_X2_liftOf (d + 1) hc61) ?_
              refine ae_istore (lv' := [(7, ae_i r59), (6, ae_i r55), (4, ae_l x29), (0, ae_l v0), (2, ae_l v2)]) dX2_divide_106 (by decide) rfl ?_
              refine ae_lload_n 3 dX2_divide_108 rfl ?_
              obtain ⟨r63, s64, hc65, hF66⟩ := ae_bdI hF62
              refine ae_cS1 (As := [ae_l v0]) dX2_divide_109 ww_767 vy_X2_powerOf rfl rfl (Nat.le_of_ble_eq_true rfl) (c_X2_powerOf (d + 2) hc65) ?_
              refine ae_iload 1 dX2_divide_112 rfl ?_
              refine ae_isub dX2_divide_114 ?_
              refine ae_lload_n 4 dX2_divide_115 rfl ?_
              obtain ⟨r67, s68, hc69, hF70⟩ := ae_bdI hF66
              refine ae_cS1 (As := [ae_l v2]) dX2_divide_116 ww_767 vy_X2_powerOf rfl rfl (Nat.le_of_ble_eq_true rfl) (c_X2_powerOf (d + 2) hc69) ?_
              refine ae_isub dX2_divide_119 ?_
              refine ae_iload 0 dX2_divide_120 rfl ?_
              refine ae_iadd dX2_divide_122 ?_
              obtain ⟨x71, hx71, hF72⟩ := ae_ltI hF70
              refine ae_nmI hx71 ?_
              refine ae_istore (lv' := [(8, ae_i x71), (7, ae_i r59), (6, ae_i r55), (4, ae_l x29), (0, ae_l v0), (2, ae_l v2)]) dX2_divide_123 (by decide) rfl ?_
              refine ae_lload 3 dX2_divide_125 rfl ?_
              refine ae_lload_n 4 dX2_divide_127 rfl ?_
              obtain ⟨r73, s74, hc75, hF76⟩ := ae_bdI hF72
              refine ae_cS1 (As := [ae_l v0]) dX2_divide_128 ww_762 vy_X2_digitsOf rfl rfl (Nat.le_of_ble_eq_true rfl) (c_X2_digitsOf (d + 3) hc75) ?_
              refine ae_iload 2 dX2_divide_131 rfl ?_
              refine ae_lshl dX2_divide_133 ?_
              refine ae_lload_n 5 dX2_divide_134 rfl ?_
              obtain ⟨r77, s78, hc79, hF80⟩ := ae_bdI hF76
              refine ae_cS1 (As := [ae_l v2]) dX2_divide_135 ww_762 vy_X2_digitsOf rfl rfl (Nat.le_of_ble_eq_true rfl) (c_X2_digitsOf (d + 3) hc79) ?_
              refine ae_iload 1 dX2_divide_138 rfl ?_
              refine ae_lshl dX2_divide_140 ?_
              refine ae_iload 0 dX2_divide_141 rfl ?_
              obtain ⟨r81, s82, hc83, hF84⟩ := ae_bdI hF80
              refine ae_cS1 (As := [ae_l (r73 <<< (r55.toInt64 &&& 63)), ae_l (r77 <<< (r59.toInt64 &&& 63)), ae_i x71]) dX2_divide_143 ww_770 vy_X2_quotient rfl rfl (Nat.le_of_ble_eq_true rfl) (c_X2_quotient d hc83) ?_
              refine ae_lor dX2_divide_146 ?_
              obtain ⟨rfl, rfl⟩ := ae_retI hF84
              exact ae_lret dX2_divide_147 rfl ⟨rfl, rfl⟩
            · have hF54 := ae_ifF hb53 hF52
              refine ae_pick (lv' := [(4, ae_l x29)]) [0] rfl ?_
              exact t_X2_divide_93 d x29 s50 hF54
        · have hF42 := ae_ifF hb41 hF40
          refine ae_pick (lv' := [(0, ae_l v0), (2, ae_l v2), (4, ae_l x29)]) [1, 2, 0] rfl ?_
          exact t_X2_divide_41 d v0 v2 x29 s38 hF42
    · have hF28 := ae_ifF hb27 hF26
      refine ae_pick (lv' := []) [] rfl ?_
      exact t_X2_divide_14 d s24 hF28
abbrev mX2_loweredBy : ae_M := (RX2, cX2_loweredBy, 5, some .long)
theorem vy_X2_loweredBy : ae_SY yX2_loweredBy mX2_loweredBy 2 := ⟨ww_780, ww_18, ww_781, ⟨by decide, by decide, by decide +kernel⟩, by decide⟩
theorem dX2_loweredBy_0 : decode cX2_loweredBy 0 = .ok (.iload_n 2, 1) := by decide +kernel
theorem dX2_loweredBy_1 : decode cX2_loweredBy 1 = .ok (.ifCond .gt 5, 3) := by decide +kernel
theorem dX2_loweredBy_4 : decode cX2_loweredBy 4 = .ok (.lload_n 0, 1) := by decide +kernel
theorem dX2_loweredBy_5 : decode cX2_loweredBy 5 = .ok (.lreturn, 1) := by decide +kernel
theorem dX2_loweredBy_6 : decode cX2_loweredBy 6 = .ok (.iload_n 2, 1) := by decide +kernel
theorem dX2_loweredBy_7 : decode cX2_loweredBy 7 = .ok (.bipush 62, 2) := by decide +kernel
theorem dX2_loweredBy_9 : decode cX2_loweredBy 9 = .ok (.if_icmp .le 15, 3) := by decide +kernel
theorem dX2_loweredBy_12 : decode cX2_loweredBy 12 = .ok (.lload_n 0, 1) := by decide +kernel
theorem dX2_loweredBy_13 : decode cX2_loweredBy 13 = .ok (.lconst 0, 1) := by decide +kernel
theorem dX2_loweredBy_14 : decode cX2_loweredBy 14 = .ok (.lcmp, 1) := by decide +kernel
theorem dX2_loweredBy_15 : decode cX2_loweredBy 15 = .ok (.ifCond .ne 7, 3) := by decide +kernel
theorem dX2_loweredBy_18 : decode cX2_loweredBy 18 = .ok (.lconst 0, 1) := by decide +kernel
theorem dX2_loweredBy_19 : decode cX2_loweredBy 19 = .ok (.goto 4, 3) := by decide +kernel
theorem dX2_loweredBy_22 : decode cX2_loweredBy 22 = .ok (.lconst 1, 1) := by decide +kernel
theorem dX2_loweredBy_23 : decode cX2_loweredBy 23 = .ok (.lreturn, 1) := by decide +kernel
theorem dX2_loweredBy_24 : decode cX2_loweredBy 24 = .ok (.lload_n 0, 1) := by decide +kernel
theorem dX2_loweredBy_25 : decode cX2_loweredBy 25 = .ok (.lconst 1, 1) := by decide +kernel
theorem dX2_loweredBy_26 : decode cX2_loweredBy 26 = .ok (.iload_n 2, 1) := by decide +kernel
theorem dX2_loweredBy_27 : decode cX2_loweredBy 27 = .ok (.lshl, 1) := by decide +kernel
theorem dX2_loweredBy_28 : decode cX2_loweredBy 28 = .ok (.lconst 1, 1) := by decide +kernel
theorem dX2_loweredBy_29 : decode cX2_loweredBy 29 = .ok (.lsub, 1) := by decide +kernel
theorem dX2_loweredBy_30 : decode cX2_loweredBy 30 = .ok (.land, 1) := by decide +kernel
theorem dX2_loweredBy_31 : decode cX2_loweredBy 31 = .ok (.lstore_n 3, 1) := by decide +kernel
theorem dX2_loweredBy_32 : decode cX2_loweredBy 32 = .ok (.lload_n 0, 1) := by decide +kernel
theorem dX2_loweredBy_33 : decode cX2_loweredBy 33 = .ok (.iload_n 2, 1) := by decide +kernel
theorem dX2_loweredBy_34 : decode cX2_loweredBy 34 = .ok (.lushr, 1) := by decide +kernel
theorem dX2_loweredBy_35 : decode cX2_loweredBy 35 = .ok (.lload_n 3, 1) := by decide +kernel
theorem dX2_loweredBy_36 : decode cX2_loweredBy 36 = .ok (.lconst 0, 1) := by decide +kernel
theorem dX2_loweredBy_37 : decode cX2_loweredBy 37 = .ok (.lcmp, 1) := by decide +kernel
theorem dX2_loweredBy_38 : decode cX2_loweredBy 38 = .ok (.ifCond .ne 7, 3) := by decide +kernel
theorem dX2_loweredBy_41 : decode cX2_loweredBy 41 = .ok (.iconst 0, 1) := by decide +kernel
theorem dX2_loweredBy_42 : decode cX2_loweredBy 42 = .ok (.goto 4, 3) := by decide +kernel
theorem dX2_loweredBy_45 : decode cX2_loweredBy 45 = .ok (.iconst 1, 1) := by decide +kernel
theorem dX2_loweredBy_46 : decode cX2_loweredBy 46 = .ok (.i2l, 1) := by decide +kernel
theorem dX2_loweredBy_47 : decode cX2_loweredBy 47 = .ok (.lor, 1) := by decide +kernel
theorem dX2_loweredBy_48 : decode cX2_loweredBy 48 = .ok (.lreturn, 1) := by decide +kernel
def F_X2_loweredBy_46 (t0 : Int32) (t1 : Int64) (s0 : ae_S) : Option (Int64 × ae_S) := some (t1 ||| t0.toInt64, s0)
set_option maxHeartbeats 4000000 in
set_option maxRecDepth 100000 in
theorem t_X2_loweredBy_46 {l : Launch} {G : ae_G} (d : Nat) {rr : Int64} {ss : ae_S} (t0 : Int32) (t1 : Int64) (s0 : ae_S) (hF : F_X2_loweredBy_46 t0 t1 s0 = some (rr, ss)) : ae_T l G d mX2_loweredBy (ae_Po (some (ae_l rr)) ss) 46 [] [ae_i t0, ae_l t1] s0 := by
  unfold F_X2_loweredBy_46 at hF
  refine ae_i2l dX2_loweredBy_46 ?_
  refine ae_lor dX2_loweredBy_47 ?_
  obtain ⟨rfl, rfl⟩ := ae_retI hF
  exact ae_lret dX2_loweredBy_48 rfl ⟨rfl, rfl⟩
def F_X2_loweredBy_23 (t0 : Int64) (s0 : ae_S) : Option (Int64 × ae_S) := some (t0, s0)
set_option maxHeartbeats 4000000 in
set_option maxRecDepth 100000 in
theorem t_X2_loweredBy_23 {l : Launch} {G : ae_G} (d : Nat) {rr : Int64} {ss : ae_S} (t0 : Int64) (s0 : ae_S) (hF : F_X2_loweredBy_23 t0 s0 = some (rr, ss)) : ae_T l G d mX2_loweredBy (ae_Po (some (ae_l rr)) ss) 23 [] [ae_l t0] s0 := by
  unfold F_X2_loweredBy_23 at hF
  obtain ⟨rfl, rfl⟩ := ae_retI hF
  exact ae_lret dX2_loweredBy_23 rfl ⟨rfl, rfl⟩
def F_X2_loweredBy (v0 : Int64) (v2 : Int32) (s0 : ae_S) : Option (Int64 × ae_S) := if 0 < v2 then (if v2 ≤ (62 : Int32) then (ae_lt (v0 &&& (((1 : Int64) <<< (v2.toInt64 &&& 63)) - (1 : Int64))) (fun x5 => if (lg_cmp x5 (0 : Int64)) = 0 then (F_X2_loweredBy_46 (0 : Int32) ((v0.toUInt64 >>> (v2.toInt64.toUInt64 &&& Int64.toUInt64 63)).toInt64) s0) else (F_X2_loweredBy_46 (1 : Int32) ((v0.toUInt64 >>> (v2.toInt64.toUInt64 &&& Int64.toUInt64 63)).toInt64) s0))) else (if (lg_cmp v0 (0 : Int64)) = 0 then (F_X2_loweredBy_23 (0 : Int64) s0) else (F_X2_loweredBy_23 (1 : Int64) s0))) else (some (v0, s0))
set_option maxHeartbeats 4000000 in
set_option maxRecDepth 100000 in
theorem c_X2_loweredBy {l : Launch} {G : ae_G} (d : Nat) {v0 : Int64} {v2 : Int32} {s0 ss : ae_S} {rr : Int64} (hF : F_X2_loweredBy v0 v2 s0 = some (rr, ss)) : ae_Met l G d yX2_loweredBy mX2_loweredBy [ae_l v0, ae_i v2] s0 (ae_Po (some (ae_l rr)) ss) := by
  refine ae_enter (by decide) rfl (Nat.le_of_ble_eq_true rfl) ?_
  show ae_T l G d mX2_loweredBy (ae_Po (some (ae_l rr)) ss) 0 [(0, ae_l v0), (2, ae_i v2)] [] s0
  unfold F_X2_loweredBy at hF
  refine ae_iload_n 1 dX2_loweredBy_0 rfl ?_
  refine ae_if_gt 6 dX2_loweredBy_1 rfl (fun hb1 => ?_) (fun hb1 => ?_)
  · have hF2 := ae_ifT hb1 hF
    refine ae_iload_n 1 dX2_loweredBy_6 rfl ?_
    refine ae_bipush (62 : Int32) dX2_loweredBy_7 (by decide) ?_
    refine ae_icmp_le 24 dX2_loweredBy_9 rfl (fun hb3 => ?_) (fun hb3 => ?_)
    · have hF4 := ae_ifT hb3 hF2
      refine ae_lload_n 0 dX2_loweredBy_24 rfl ?_
      refine ae_lconst (1 : Int64) dX2_loweredBy_25 (by decide) ?_
      refine ae_iload_n 1 dX2_loweredBy_26 rfl ?_
      refine ae_lshl dX2_loweredBy_27 ?_
      refine ae_lconst (1 : Int64) dX2_loweredBy_28 (by decide) ?_
      refine ae_lsub dX2_loweredBy_29 ?_
      refine ae_land dX2_loweredBy_30 ?_
      obtain ⟨x5, hx5, hF6⟩ := ae_ltI hF4
      refine ae_nmL hx5 ?_
      refine ae_lstore_n (lv' := [(3, ae_l x5), (0, ae_l v0), (2, ae_i v2)]) dX2_loweredBy_31 (by decide) rfl ?_
      refine ae_lload_n 1 dX2_loweredBy_32 rfl ?_
      refine ae_iload_n 2 dX2_loweredBy_33 rfl ?_
      refine ae_lushr dX2_loweredBy_34 ?_
      refine ae_lload_n 0 dX2_loweredBy_35 rfl ?_
      refine ae_lconst (0 : Int64) dX2_loweredBy_36 (by decide) ?_
      refine ae_lcmp dX2_loweredBy_37 ?_
      refine ae_if_ne 45 dX2_loweredBy_38 rfl (fun hb7 => ?_) (fun hb7 => ?_)
      · have hF8 := ae_ifF hb7 hF6
        refine ae_iconst (1 : Int32) dX2_loweredBy_45 (by decide) ?_
        refine ae_pick (lv' := []) [] rfl ?_
        exact t_X2_loweredBy_46 d (1 : Int32) ((v0.toUInt64 >>> (v2.toInt64.toUInt64 &&& Int64.toUInt64 63)).toInt64) s0 hF8
      · have hF8 := ae_ifT hb7 hF6
        refine ae_iconst (0 : Int32) dX2_loweredBy_41 (by decide) ?_
        refine ae_goto 46 dX2_loweredBy_42 rfl ?_
        refine ae_pick (lv' := []) [] rfl ?_
        exact t_X2_loweredBy_46 d (0 : Int32) ((v0.toUInt64 >>> (v2.toInt64.toUInt64 &&& Int64.toUInt64 63)).toInt64) s0 hF8
    · have hF4 := ae_ifF hb3 hF2
      refine ae_lload_n 0 dX2_loweredBy_12 rfl ?_
      refine ae_lconst (0 : Int64) dX2_loweredBy_13 (by decide) ?_
      refine ae_lcmp dX2_loweredBy_14 ?_
      refine ae_if_ne 22 dX2_loweredBy_15 rfl (fun hb9 => ?_) (fun hb9 => ?_)
      · have hF10 := ae_ifF hb9 hF4
        refine ae_lconst (1 : Int64) dX2_loweredBy_22 (by decide) ?_
        refine ae_pick (lv' := []) [] rfl ?_
        exact t_X2_loweredBy_23 d (1 : Int64) s0 hF10
      · have hF10 := ae_ifT hb9 hF4
        refine ae_lconst (0 : Int64) dX2_loweredBy_18 (by decide) ?_
        refine ae_goto 23 dX2_loweredBy_19 rfl ?_
        refine ae_pick (lv' := []) [] rfl ?_
        exact t_X2_loweredBy_23 d (0 : Int64) s0 hF10
  · have hF2 := ae_ifF hb1 hF
    refine ae_lload_n 0 dX2_loweredBy_4 rfl ?_
    obtain ⟨rfl, rfl⟩ := ae_retI hF2
    exact ae_lret dX2_loweredBy_5 rfl ⟨rfl, rfl⟩
abbrev mX2_addLower : ae_M := (RX2, cX2_addLower, 13, some .long)
theorem vy_X2_addLower : ae_SY yX2_addLower mX2_addLower 2 := ⟨ww_777, ww_18, ww_778, ⟨by decide, by decide, by decide +kernel⟩, by decide⟩
theorem dX2_addLower_0 : decode cX2_addLower 0 = .ok (.lload_n 0, 1) := by decide +kernel
theorem dX2_addLower_1 : decode cX2_addLower 1 = .ok (.invokestatic 46, 3) := by decide +kernel
theorem dX2_addLower_4 : decode cX2_addLower 4 = .ok (.istore 4, 2) := by decide +kernel
theorem dX2_addLower_6 : decode cX2_addLower 6 = .ok (.lload_n 0, 1) := by decide +kernel
theorem dX2_addLower_7 : decode cX2_addLower 7 = .ok (.invokestatic 50, 3) := by decide +kernel
theorem dX2_addLower_10 : decode cX2_addLower 10 = .ok (.bipush 9, 2) := by decide +kernel
theorem dX2_addLower_12 : decode cX2_addLower 12 = .ok (.lshl, 1) := by decide +kernel
theorem dX2_addLower_13 : decode cX2_addLower 13 = .ok (.lstore 5, 2) := by decide +kernel
theorem dX2_addLower_15 : decode cX2_addLower 15 = .ok (.lload_n 2, 1) := by decide +kernel
theorem dX2_addLower_16 : decode cX2_addLower 16 = .ok (.invokestatic 50, 3) := by decide +kernel
theorem dX2_addLower_19 : decode cX2_addLower 19 = .ok (.bipush 9, 2) := by decide +kernel
theorem dX2_addLower_21 : decode cX2_addLower 21 = .ok (.lshl, 1) := by decide +kernel
theorem dX2_addLower_22 : decode cX2_addLower 22 = .ok (.iload 4, 2) := by decide +kernel
theorem dX2_addLower_24 : decode cX2_addLower 24 = .ok (.lload_n 2, 1) := by decide +kernel
theorem dX2_addLower_25 : decode cX2_addLower 25 = .ok (.invokestatic 46, 3) := by decide +kernel
theorem dX2_addLower_28 : decode cX2_addLower 28 = .ok (.isub, 1) := by decide +kernel
theorem dX2_addLower_29 : decode cX2_addLower 29 = .ok (.invokestatic 75, 3) := by decide +kernel
theorem dX2_addLower_32 : decode cX2_addLower 32 = .ok (.lstore 7, 2) := by decide +kernel
theorem dX2_addLower_34 : decode cX2_addLower 34 = .ok (.lload_n 0, 1) := by decide +kernel
theorem dX2_addLower_35 : decode cX2_addLower 35 = .ok (.lconst 0, 1) := by decide +kernel
theorem dX2_addLower_36 : decode cX2_addLower 36 = .ok (.lcmp, 1) := by decide +kernel
theorem dX2_addLower_37 : decode cX2_addLower 37 = .ok (.ifCond .ge 9, 3) := by decide +kernel
theorem dX2_addLower_40 : decode cX2_addLower 40 = .ok (.lload 5, 2) := by decide +kernel
theorem dX2_addLower_42 : decode cX2_addLower 42 = .ok (.lneg, 1) := by decide +kernel
theorem dX2_addLower_43 : decode cX2_addLower 43 = .ok (.goto 5, 3) := by decide +kernel
theorem dX2_addLower_46 : decode cX2_addLower 46 = .ok (.lload 5, 2) := by decide +kernel
theorem dX2_addLower_48 : decode cX2_addLower 48 = .ok (.lload_n 2, 1) := by decide +kernel
theorem dX2_addLower_49 : decode cX2_addLower 49 = .ok (.lconst 0, 1) := by decide +kernel
theorem dX2_addLower_50 : decode cX2_addLower 50 = .ok (.lcmp, 1) := by decide +kernel
theorem dX2_addLower_51 : decode cX2_addLower 51 = .ok (.ifCond .ge 9, 3) := by decide +kernel
theorem dX2_addLower_54 : decode cX2_addLower 54 = .ok (.lload 7, 2) := by decide +kernel
theorem dX2_addLower_56 : decode cX2_addLower 56 = .ok (.lneg, 1) := by decide +kernel
theorem dX2_addLower_57 : decode cX2_addLower 57 = .ok (.goto 5, 3) := by decide +kernel
theorem dX2_addLower_60 : decode cX2_addLower 60 = .ok (.lload 7, 2) := by decide +kernel
theorem dX2_addLower_62 : decode cX2_addLower 62 = .ok (.ladd, 1) := by decide +kernel
theorem dX2_addLower_63 : decode cX2_addLower 63 = .ok (.lstore 9, 2) := by decide +kernel
theorem dX2_addLower_65 : decode cX2_addLower 65 = .ok (.lload 9, 2) := by decide +kernel
theorem dX2_addLower_67 : decode cX2_addLower 67 = .ok (.lconst 0, 1) := by decide +kernel
theorem dX2_addLower_68 : decode cX2_addLower 68 = .ok (.lcmp, 1) := by decide +kernel
theorem dX2_addLower_69 : decode cX2_addLower 69 = .ok (.ifCond .ge 9, 3) := by decide +kernel
theorem dX2_addLower_72 : decode cX2_addLower 72 = .ok (.lload 9, 2) := by decide +kernel
theorem dX2_addLower_74 : decode cX2_addLower 74 = .ok (.lneg, 1) := by decide +kernel
theorem dX2_addLower_75 : decode cX2_addLower 75 = .ok (.goto 5, 3) := by decide +kernel
theorem dX2_addLower_78 : decode cX2_addLower 78 = .ok (.lload 9, 2) := by decide +kernel
theorem dX2_addLower_80 : decode cX2_addLower 80 = .ok (.lstore 11, 2) := by decide +kernel
theorem dX2_addLower_82 : decode cX2_addLower 82 = .ok (.lload 9, 2) := by decide +kernel
theorem dX2_addLower_84 : decode cX2_addLower 84 = .ok (.ldc2_w 21, 3) := by decide +kernel
theorem dX2_addLower_87 : decode cX2_addLower 87 = .ok (.land, 1) := by decide +kernel
theorem dX2_addLower_88 : decode cX2_addLower 88 = .ok (.lload 11, 2) := by decide +kernel
theorem dX2_addLower_90 : decode cX2_addLower 90 = .ok (.iload 4, 2) := by decide +kernel
theorem dX2_addLower_92 : decode cX2_addLower 92 = .ok (.bipush 9, 2) := by decide +kernel
theorem dX2_addLower_94 : decode cX2_addLower 94 = .ok (.isub, 1) := by decide +kernel
theorem dX2_addLower_95 : decode cX2_addLower 95 = .ok (.iconst 0, 1) := by decide +kernel
theorem dX2_addLower_96 : decode cX2_addLower 96 = .ok (.invokestatic 40, 3) := by decide +kernel
theorem dX2_addLower_99 : decode cX2_addLower 99 = .ok (.lor, 1) := by decide +kernel
theorem dX2_addLower_100 : decode cX2_addLower 100 = .ok (.lreturn, 1) := by decide +kernel
def F_X2_addLower_80 (v4 : Int32) (v9 : Int64) (t0 : Int64) (s0 : ae_S) : Option (Int64 × ae_S) := ae_bd (F_X2_rounded t0 (v4 - (9 : Int32)) (0 : Int32) s0) (fun (r1 : Int64) s2 => some ((v9 &&& (-9223372036854775808 : Int64)) ||| r1, s2))
set_option maxHeartbeats 4000000 in
set_option maxRecDepth 100000 in
theorem t_X2_addLower_80 {l : Launch} {G : ae_G} (d : Nat) {rr : Int64} {ss : ae_S} (v4 : Int32) (v9 : Int64) (t0 : Int64) (s0 : ae_S) (hF : F_X2_addLower_80 v4 v9 t0 s0 = some (rr, ss)) : ae_T l G (d + 3) mX2_addLower (ae_Po (some (ae_l rr)) ss) 80 [(4, ae_i v4), (9, ae_l v9)] [ae_l t0] s0 := by
  unfold F_X2_addLower_80 at hF
  refine ae_lstore (lv' := [(11, ae_l t0), (4, ae_i v4), (9, ae_l v9)]) dX2_addLower_80 (by decide) rfl ?_
  refine ae_lload 2 dX2_addLower_82 rfl ?_
  refine ae_ldc2 dX2_addLower_84 ww_729 ?_
  refine ae_land dX2_addLower_87 ?_
  refine ae_lload 0 dX2_addLower_88 rfl ?_
  refine ae_iload 1 dX2_addLower_90 rfl ?_
  refine ae_bipush (9 : Int32) dX2_addLower_92 (by decide) ?_
  refine ae_isub dX2_addLower_94 ?_
  refine ae_iconst (0 : Int32) dX2_addLower_95 (by decide) ?_
  obtain ⟨r1, s2, hc3, hF4⟩ := ae_bdI hF
  refine ae_cS1 (As := [ae_l t0, ae_i (v4 - (9 : Int32)), ae_i (0 : Int32)]) dX2_addLower_96 ww_730 vy_X2_rounded rfl rfl (Nat.le_of_ble_eq_true rfl) (c_X2_rounded d hc3) ?_
  refine ae_lor dX2_addLower_99 ?_
  obtain ⟨rfl, rfl⟩ := ae_retI hF4
  exact ae_lret dX2_addLower_100 rfl ⟨rfl, rfl⟩
def F_X2_addLower_62 (v4 : Int32) (t0 : Int64) (t1 : Int64) (s0 : ae_S) : Option (Int64 × ae_S) := ae_lt (t1 + t0) (fun x5 => if 0 ≤ (lg_cmp x5 (0 : Int64)) then (F_X2_addLower_80 v4 x5 x5 s0) else (F_X2_addLower_80 v4 x5 (-x5) s0))
set_option maxHeartbeats 4000000 in
set_option maxRecDepth 100000 in
theorem t_X2_addLower_62 {l : Launch} {G : ae_G} (d : Nat) {rr : Int64} {ss : ae_S} (v4 : Int32) (t0 : Int64) (t1 : Int64) (s0 : ae_S) (hF : F_X2_addLower_62 v4 t0 t1 s0 = some (rr, ss)) : ae_T l G (d + 3) mX2_addLower (ae_Po (some (ae_l rr)) ss) 62 [(4, ae_i v4)] [ae_l t0, ae_l t1] s0 := by
  unfold F_X2_addLower_62 at hF
  refine ae_ladd dX2_addLower_62 ?_
  obtain ⟨x5, hx5, hF6⟩ := ae_ltI hF
  refine ae_nmL hx5 ?_
  refine ae_lstore (lv' := [(9, ae_l x5), (4, ae_i v4)]) dX2_addLower_63 (by decide) rfl ?_
  refine ae_lload 0 dX2_addLower_65 rfl ?_
  refine ae_lconst (0 : Int64) dX2_addLower_67 (by decide) ?_
  refine ae_lcmp dX2_addLower_68 ?_
  refine ae_if_ge 78 dX2_addLower_69 rfl (fun hb7 => ?_) (fun hb7 => ?_)
  · have hF8 := ae_ifT hb7 hF6
    refine ae_lload 0 dX2_addLower_78 rfl ?_
    refine ae_pick (lv' := [(4, ae_i v4), (9, ae_l x5)]) [1, 0] rfl ?_
    exact t_X2_addLower_80 d v4 x5 x5 s0 hF8
  · have hF8 := ae_ifF hb7 hF6
    refine ae_lload 0 dX2_addLower_72 rfl ?_
    refine ae_lneg dX2_addLower_74 ?_
    refine ae_goto 80 dX2_addLower_75 rfl ?_
    refine ae_pick (lv' := [(4, ae_i v4), (9, ae_l x5)]) [1, 0] rfl ?_
    exact t_X2_addLower_80 d v4 x5 (-x5) s0 hF8
def F_X2_addLower_48 (v2 : Int64) (v4 : Int32) (v7 : Int64) (t0 : Int64) (s0 : ae_S) : Option (Int64 × ae_S) := if 0 ≤ (lg_cmp v2 (0 : Int64)) then (F_X2_addLower_62 v4 v7 t0 s0) else (F_X2_addLower_62 v4 (-v7) t0 s0)
set_option maxHeartbeats 4000000 in
set_option maxRecDepth 100000 in
theorem t_X2_addLower_48 {l : Launch} {G : ae_G} (d : Nat) {rr : Int64} {ss : ae_S} (v2 : Int64) (v4 : Int32) (v7 : Int64) (t0 : Int64) (s0 : ae_S) (hF : F_X2_addLower_48 v2 v4 v7 t0 s0 = some (rr, ss)) : ae_T l G (d + 3) mX2_addLower (ae_Po (some (ae_l rr)) ss) 48 [(2, ae_l v2), (4, ae_i v4), (7, ae_l v7)] [ae_l t0] s0 := by
  unfold F_X2_addLower_48 at hF
  refine ae_lload_n 0 dX2_addLower_48 rfl ?_
  refine ae_lconst (0 : Int64) dX2_addLower_49 (by decide) ?_
  refine ae_lcmp dX2_addLower_50 ?_
  refine ae_if_ge 60 dX2_addLower_51 rfl (fun hb9 => ?_) (fun hb9 => ?_)
  · have hF10 := ae_ifT hb9 hF
    refine ae_lload 2 dX2_addLower_60 rfl ?_
    refine ae_pick (lv' := [(4, ae_i v4)]) [1] rfl ?_
    exact t_X2_addLower_62 d v4 v7 t0 s0 hF10
  · have hF10 := ae_ifF hb9 hF
    refine ae_lload 2 dX2_addLower_54 rfl ?_
    refine ae_lneg dX2_addLower_56 ?_
    refine ae_goto 62 dX2_addLower_57 rfl ?_
    refine ae_pick (lv' := [(4, ae_i v4)]) [1] rfl ?_
    exact t_X2_addLower_62 d v4 (-v7) t0 s0 hF10
def F_X2_addLower (v0 : Int64) (v2 : Int64) (s0 : ae_S) : Option (Int64 × ae_S) := ae_bd (F_X2_powerOf v0 s0) (fun (r11 : Int32) s12 => ae_bd (F_X2_digitsOf v0 s12) (fun (r15 : Int64) s16 => ae_lt (r15 <<< ((9 : Int32).toInt64 &&& 63)) (fun x19 => ae_bd (F_X2_digitsOf v2 s16) (fun (r21 : Int64) s22 => ae_bd (F_X2_powerOf v2 s22) (fun (r25 : Int32) s26 => ae_bd (F_X2_loweredBy (r21 <<< ((9 : Int32).toInt64 &&& 63)) (r11 - r25) s26) (fun (r29 : Int64) s30 => if 0 ≤ (lg_cmp v0 (0 : Int64)) then (F_X2_addLower_48 v2 r11 r29 x19 s30) else (F_X2_addLower_48 v2 r11 r29 (-x19) s30)))))))
set_option maxHeartbeats 4000000 in
set_option maxRecDepth 100000 in
theorem c_X2_addLower {l : Launch} {G : ae_G} (d : Nat) {v0 : Int64} {v2 : Int64} {s0 ss : ae_S} {rr : Int64} (hF : F_X2_addLower v0 v2 s0 = some (rr, ss)) : ae_Met l G (d + 3) yX2_addLower mX2_addLower [ae_l v0, ae_l v2] s0 (ae_Po (some (ae_l rr)) ss) := by
  refine ae_enter (by decide) rfl (Nat.le_of_ble_eq_true rfl) ?_
  show ae_T l G (d + 3) mX2_addLower (ae_Po (some (ae_l rr)) ss) 0 [(0, ae_l v0), (2, ae_l v2)] [] s0
  unfold F_X2_addLower at hF
  refine ae_lload_n 0 dX2_addLower_0 rfl ?_
  obtain ⟨r11, s12, hc13, hF14⟩ := ae_bdI hF
  refine ae_cS1 (As := [ae_l v0]) dX2_addLower_1 ww_767 vy_X2_powerOf rfl rfl (Nat.le_of_ble_eq_true rfl) (c_X2_powerOf (d + 1) hc13) ?_
  refine ae_istore (lv' := [(4, ae_i r11), (0, ae_l v0), (2, ae_l v2)]) dX2_addLower_4 (by decide) rfl ?_
  refine ae_lload_n 1 dX2_addLower_6 rfl ?_
  obtain ⟨r15, s16, hc17, hF18⟩ := ae_bdI hF14
  refine ae_cS1 (As := [ae_l v0]) dX2_addLower_7 ww_762 vy_X2_digitsOf rfl rfl (Nat.le_of_ble_eq_true rfl) (c_X2_digitsOf (d + 2) hc17) ?_
  refine ae_bipush (9 : Int32) dX2_addLower_10 (by decide) ?_
  refine ae_lshl dX2_addLower_12 ?_
  obtain ⟨x19, hx19, hF20⟩ := ae_ltI hF18
  refine ae_nmL hx19 ?_
  refine ae_lstore (lv' := [(5, ae_l x19), (4, ae_i r11), (0, ae_l v0), (2, ae_l v2)]) dX2_addLower_13 (by decide) rfl ?_
  refine ae_lload_n 3 dX2_addLower_15 rfl ?_
  obtain ⟨r21, s22, hc23, hF24⟩ := ae_bdI hF20
  refine ae_cS1 (As := [ae_l v2]) dX2_addLower_16 ww_762 vy_X2_digitsOf rfl rfl (Nat.le_of_ble_eq_true rfl) (c_X2_digitsOf (d + 2) hc23) ?_
  refine ae_bipush (9 : Int32) dX2_addLower_19 (by decide) ?_
  refine ae_lshl dX2_addLower_21 ?_
  refine ae_iload 1 dX2_addLower_22 rfl ?_
  refine ae_lload_n 3 dX2_addLower_24 rfl ?_
  obtain ⟨r25, s26, hc27, hF28⟩ := ae_bdI hF24
  refine ae_cS1 (As := [ae_l v2]) dX2_addLower_25 ww_767 vy_X2_powerOf rfl rfl (Nat.le_of_ble_eq_true rfl) (c_X2_powerOf (d + 1) hc27) ?_
  refine ae_isub dX2_addLower_28 ?_
  obtain ⟨r29, s30, hc31, hF32⟩ := ae_bdI hF28
  refine ae_cS1 (As := [ae_l (r21 <<< ((9 : Int32).toInt64 &&& 63)), ae_i (r11 - r25)]) dX2_addLower_29 ww_779 vy_X2_loweredBy rfl rfl (Nat.le_of_ble_eq_true rfl) (c_X2_loweredBy (d + 2) hc31) ?_
  refine ae_lstore (lv' := [(7, ae_l r29), (5, ae_l x19), (4, ae_i r11), (0, ae_l v0), (2, ae_l v2)]) dX2_addLower_32 (by decide) rfl ?_
  refine ae_lload_n 3 dX2_addLower_34 rfl ?_
  refine ae_lconst (0 : Int64) dX2_addLower_35 (by decide) ?_
  refine ae_lcmp dX2_addLower_36 ?_
  refine ae_if_ge 46 dX2_addLower_37 rfl (fun hb33 => ?_) (fun hb33 => ?_)
  · have hF34 := ae_ifT hb33 hF32
    refine ae_lload 1 dX2_addLower_46 rfl ?_
    refine ae_pick (lv' := [(2, ae_l v2), (4, ae_i r11), (7, ae_l r29)]) [4, 2, 0] rfl ?_
    exact t_X2_addLower_48 d v2 r11 r29 x19 s30 hF34
  · have hF34 := ae_ifF hb33 hF32
    refine ae_lload 1 dX2_addLower_40 rfl ?_
    refine ae_lneg dX2_addLower_42 ?_
    refine ae_goto 48 dX2_addLower_43 rfl ?_
    refine ae_pick (lv' := [(2, ae_l v2), (4, ae_i r11), (7, ae_l r29)]) [4, 2, 0] rfl ?_
    exact t_X2_addLower_48 d v2 r11 r29 (-x19) s30 hF34
abbrev mX2_add : ae_M := (RX2, cX2_add, 5, some .long)
theorem vy_X2_add : ae_SY yX2_add mX2_add 2 := ⟨ww_774, ww_18, ww_775, ⟨by decide, by decide, by decide +kernel⟩, by decide⟩
theorem dX2_add_0 : decode cX2_add 0 = .ok (.lload_n 0, 1) := by decide +kernel
theorem dX2_add_1 : decode cX2_add 1 = .ok (.invokestatic 15, 3) := by decide +kernel
theorem dX2_add_4 : decode cX2_add 4 = .ok (.ifCond .ne 10, 3) := by decide +kernel
theorem dX2_add_7 : decode cX2_add 7 = .ok (.lload_n 2, 1) := by decide +kernel
theorem dX2_add_8 : decode cX2_add 8 = .ok (.invokestatic 15, 3) := by decide +kernel
theorem dX2_add_11 : decode cX2_add 11 = .ok (.ifCond .eq 7, 3) := by decide +kernel
theorem dX2_add_14 : decode cX2_add 14 = .ok (.ldc2_w 19, 3) := by decide +kernel
theorem dX2_add_17 : decode cX2_add 17 = .ok (.lreturn, 1) := by decide +kernel
theorem dX2_add_18 : decode cX2_add 18 = .ok (.lload_n 0, 1) := by decide +kernel
theorem dX2_add_19 : decode cX2_add 19 = .ok (.invokestatic 65, 3) := by decide +kernel
theorem dX2_add_22 : decode cX2_add 22 = .ok (.ifCond .ne 10, 3) := by decide +kernel
theorem dX2_add_25 : decode cX2_add 25 = .ok (.lload_n 2, 1) := by decide +kernel
theorem dX2_add_26 : decode cX2_add 26 = .ok (.invokestatic 65, 3) := by decide +kernel
theorem dX2_add_29 : decode cX2_add 29 = .ok (.ifCond .eq 54, 3) := by decide +kernel
theorem dX2_add_32 : decode cX2_add 32 = .ok (.lload_n 0, 1) := by decide +kernel
theorem dX2_add_33 : decode cX2_add 33 = .ok (.invokestatic 65, 3) := by decide +kernel
theorem dX2_add_36 : decode cX2_add 36 = .ok (.ifCond .eq 20, 3) := by decide +kernel
theorem dX2_add_39 : decode cX2_add 39 = .ok (.lload_n 2, 1) := by decide +kernel
theorem dX2_add_40 : decode cX2_add 40 = .ok (.invokestatic 65, 3) := by decide +kernel
theorem dX2_add_43 : decode cX2_add 43 = .ok (.ifCond .eq 13, 3) := by decide +kernel
theorem dX2_add_46 : decode cX2_add 46 = .ok (.lload_n 0, 1) := by decide +kernel
theorem dX2_add_47 : decode cX2_add 47 = .ok (.lload_n 2, 1) := by decide +kernel
theorem dX2_add_48 : decode cX2_add 48 = .ok (.lcmp, 1) := by decide +kernel
theorem dX2_add_49 : decode cX2_add 49 = .ok (.ifCond .eq 7, 3) := by decide +kernel
theorem dX2_add_52 : decode cX2_add 52 = .ok (.iconst 1, 1) := by decide +kernel
theorem dX2_add_53 : decode cX2_add 53 = .ok (.goto 4, 3) := by decide +kernel
theorem dX2_add_56 : decode cX2_add 56 = .ok (.iconst 0, 1) := by decide +kernel
theorem dX2_add_57 : decode cX2_add 57 = .ok (.istore 4, 2) := by decide +kernel
theorem dX2_add_59 : decode cX2_add 59 = .ok (.iload 4, 2) := by decide +kernel
theorem dX2_add_61 : decode cX2_add 61 = .ok (.ifCond .eq 9, 3) := by decide +kernel
theorem dX2_add_64 : decode cX2_add 64 = .ok (.ldc2_w 19, 3) := by decide +kernel
theorem dX2_add_67 : decode cX2_add 67 = .ok (.goto 15, 3) := by decide +kernel
theorem dX2_add_70 : decode cX2_add 70 = .ok (.lload_n 0, 1) := by decide +kernel
theorem dX2_add_71 : decode cX2_add 71 = .ok (.invokestatic 65, 3) := by decide +kernel
theorem dX2_add_74 : decode cX2_add 74 = .ok (.ifCond .eq 7, 3) := by decide +kernel
theorem dX2_add_77 : decode cX2_add 77 = .ok (.lload_n 0, 1) := by decide +kernel
theorem dX2_add_78 : decode cX2_add 78 = .ok (.goto 4, 3) := by decide +kernel
theorem dX2_add_81 : decode cX2_add 81 = .ok (.lload_n 2, 1) := by decide +kernel
theorem dX2_add_82 : decode cX2_add 82 = .ok (.lreturn, 1) := by decide +kernel
theorem dX2_add_83 : decode cX2_add 83 = .ok (.lload_n 0, 1) := by decide +kernel
theorem dX2_add_84 : decode cX2_add 84 = .ok (.invokestatic 33, 3) := by decide +kernel
theorem dX2_add_87 : decode cX2_add 87 = .ok (.ifCond .eq 14, 3) := by decide +kernel
theorem dX2_add_90 : decode cX2_add 90 = .ok (.lload_n 2, 1) := by decide +kernel
theorem dX2_add_91 : decode cX2_add 91 = .ok (.invokestatic 33, 3) := by decide +kernel
theorem dX2_add_94 : decode cX2_add 94 = .ok (.ifCond .eq 7, 3) := by decide +kernel
theorem dX2_add_97 : decode cX2_add 97 = .ok (.lload_n 0, 1) := by decide +kernel
theorem dX2_add_98 : decode cX2_add 98 = .ok (.lload_n 2, 1) := by decide +kernel
theorem dX2_add_99 : decode cX2_add 99 = .ok (.land, 1) := by decide +kernel
theorem dX2_add_100 : decode cX2_add 100 = .ok (.lreturn, 1) := by decide +kernel
theorem dX2_add_101 : decode cX2_add 101 = .ok (.lload_n 0, 1) := by decide +kernel
theorem dX2_add_102 : decode cX2_add 102 = .ok (.invokestatic 46, 3) := by decide +kernel
theorem dX2_add_105 : decode cX2_add 105 = .ok (.lload_n 2, 1) := by decide +kernel
theorem dX2_add_106 : decode cX2_add 106 = .ok (.invokestatic 46, 3) := by decide +kernel
theorem dX2_add_109 : decode cX2_add 109 = .ok (.if_icmp .lt 11, 3) := by decide +kernel
theorem dX2_add_112 : decode cX2_add 112 = .ok (.lload_n 0, 1) := by decide +kernel
theorem dX2_add_113 : decode cX2_add 113 = .ok (.lload_n 2, 1) := by decide +kernel
theorem dX2_add_114 : decode cX2_add 114 = .ok (.invokestatic 71, 3) := by decide +kernel
theorem dX2_add_117 : decode cX2_add 117 = .ok (.goto 8, 3) := by decide +kernel
theorem dX2_add_120 : decode cX2_add 120 = .ok (.lload_n 2, 1) := by decide +kernel
theorem dX2_add_121 : decode cX2_add 121 = .ok (.lload_n 0, 1) := by decide +kernel
theorem dX2_add_122 : decode cX2_add 122 = .ok (.invokestatic 71, 3) := by decide +kernel
theorem dX2_add_125 : decode cX2_add 125 = .ok (.lreturn, 1) := by decide +kernel
def F_X2_add_14 (s0 : ae_S) : Option (Int64 × ae_S) := some ((9221120237041090560 : Int64), s0)
set_option maxHeartbeats 4000000 in
set_option maxRecDepth 100000 in
theorem t_X2_add_14 {l : Launch} {G : ae_G} (d : Nat) {rr : Int64} {ss : ae_S} (s0 : ae_S) (hF : F_X2_add_14 s0 = some (rr, ss)) : ae_T l G (d + 4) mX2_add (ae_Po (some (ae_l rr)) ss) 14 [] [] s0 := by
  unfold F_X2_add_14 at hF
  refine ae_ldc2 dX2_add_14 ww_752 ?_
  obtain ⟨rfl, rfl⟩ := ae_retI hF
  exact ae_lret dX2_add_17 rfl ⟨rfl, rfl⟩
def F_X2_add_82 (t0 : Int64) (s0 : ae_S) : Option (Int64 × ae_S) := some (t0, s0)
set_option maxHeartbeats 4000000 in
set_option maxRecDepth 100000 in
theorem t_X2_add_82 {l : Launch} {G : ae_G} (d : Nat) {rr : Int64} {ss : ae_S} (t0 : Int64) (s0 : ae_S) (hF : F_X2_add_82 t0 s0 = some (rr, ss)) : ae_T l G (d + 4) mX2_add (ae_Po (some (ae_l rr)) ss) 82 [] [ae_l t0] s0 := by
  unfold F_X2_add_82 at hF
  obtain ⟨rfl, rfl⟩ := ae_retI hF
  exact ae_lret dX2_add_82 rfl ⟨rfl, rfl⟩
def F_X2_add_57 (v0 : Int64) (v2 : Int64) (t0 : Int32) (s0 : ae_S) : Option (Int64 × ae_S) := if t0 = 0 then (ae_bd (F_X2_isInfinite v0 s0) (fun (r3 : Int32) s4 => if r3 = 0 then (F_X2_add_82 v2 s4) else (F_X2_add_82 v0 s4))) else (F_X2_add_82 (9221120237041090560 : Int64) s0)
set_option maxHeartbeats 4000000 in
set_option maxRecDepth 100000 in
theorem t_X2_add_57 {l : Launch} {G : ae_G} (d : Nat) {rr : Int64} {ss : ae_S} (v0 : Int64) (v2 : Int64) (t0 : Int32) (s0 : ae_S) (hF : F_X2_add_57 v0 v2 t0 s0 = some (rr, ss)) : ae_T l G (d + 4) mX2_add (ae_Po (some (ae_l rr)) ss) 57 [(0, ae_l v0), (2, ae_l v2)] [ae_i t0] s0 := by
  unfold F_X2_add_57 at hF
  refine ae_istore (lv' := [(4, ae_i t0), (0, ae_l v0), (2, ae_l v2)]) dX2_add_57 (by decide) rfl ?_
  refine ae_iload 0 dX2_add_59 rfl ?_
  refine ae_if_eq 70 dX2_add_61 rfl (fun hb1 => ?_) (fun hb1 => ?_)
  · have hF2 := ae_ifT hb1 hF
    refine ae_lload_n 1 dX2_add_70 rfl ?_
    obtain ⟨r3, s4, hc5, hF6⟩ := ae_bdI hF2
    refine ae_cS1 (As := [ae_l v0]) dX2_add_71 ww_753 vy_X2_isInfinite rfl rfl (Nat.le_of_ble_eq_true rfl) (c_X2_isInfinite (d + 3) hc5) ?_
    refine ae_if_eq 81 dX2_add_74 rfl (fun hb7 => ?_) (fun hb7 => ?_)
    · have hF8 := ae_ifT hb7 hF6
      refine ae_lload_n 2 dX2_add_81 rfl ?_
      refine ae_pick (lv' := []) [] rfl ?_
      exact t_X2_add_82 d v2 s4 hF8
    · have hF8 := ae_ifF hb7 hF6
      refine ae_lload_n 1 dX2_add_77 rfl ?_
      refine ae_goto 82 dX2_add_78 rfl ?_
      refine ae_pick (lv' := []) [] rfl ?_
      exact t_X2_add_82 d v0 s4 hF8
  · have hF2 := ae_ifF hb1 hF
    refine ae_ldc2 dX2_add_64 ww_752 ?_
    refine ae_goto 82 dX2_add_67 rfl ?_
    refine ae_pick (lv' := []) [] rfl ?_
    exact t_X2_add_82 d (9221120237041090560 : Int64) s0 hF2
def F_X2_add_56 (v0 : Int64) (v2 : Int64) (s0 : ae_S) : Option (Int64 × ae_S) := F_X2_add_57 v0 v2 (0 : Int32) s0
set_option maxHeartbeats 4000000 in
set_option maxRecDepth 100000 in
theorem t_X2_add_56 {l : Launch} {G : ae_G} (d : Nat) {rr : Int64} {ss : ae_S} (v0 : Int64) (v2 : Int64) (s0 : ae_S) (hF : F_X2_add_56 v0 v2 s0 = some (rr, ss)) : ae_T l G (d + 4) mX2_add (ae_Po (some (ae_l rr)) ss) 56 [(0, ae_l v0), (2, ae_l v2)] [] s0 := by
  unfold F_X2_add_56 at hF
  refine ae_iconst (0 : Int32) dX2_add_56 (by decide) ?_
  refine ae_pick (lv' := [(0, ae_l v0), (2, ae_l v2)]) [0, 1] rfl ?_
  exact t_X2_add_57 d v0 v2 (0 : Int32) s0 hF
def F_X2_add_32 (v0 : Int64) (v2 : Int64) (s0 : ae_S) : Option (Int64 × ae_S) := ae_bd (F_X2_isInfinite v0 s0) (fun (r9 : Int32) s10 => if r9 = 0 then (F_X2_add_56 v0 v2 s10) else (ae_bd (F_X2_isInfinite v2 s10) (fun (r15 : Int32) s16 => if r15 = 0 then (F_X2_add_56 v0 v2 s16) else (if (lg_cmp v0 v2) = 0 then (F_X2_add_56 v0 v2 s16) else (F_X2_add_57 v0 v2 (1 : Int32) s16)))))
set_option maxHeartbeats 4000000 in
set_option maxRecDepth 100000 in
theorem t_X2_add_32 {l : Launch} {G : ae_G} (d : Nat) {rr : Int64} {ss : ae_S} (v0 : Int64) (v2 : Int64) (s0 : ae_S) (hF : F_X2_add_32 v0 v2 s0 = some (rr, ss)) : ae_T l G (d + 4) mX2_add (ae_Po (some (ae_l rr)) ss) 32 [(0, ae_l v0), (2, ae_l v2)] [] s0 := by
  unfold F_X2_add_32 at hF
  refine ae_lload_n 0 dX2_add_32 rfl ?_
  obtain ⟨r9, s10, hc11, hF12⟩ := ae_bdI hF
  refine ae_cS1 (As := [ae_l v0]) dX2_add_33 ww_753 vy_X2_isInfinite rfl rfl (Nat.le_of_ble_eq_true rfl) (c_X2_isInfinite (d + 3) hc11) ?_
  refine ae_if_eq 56 dX2_add_36 rfl (fun hb13 => ?_) (fun hb13 => ?_)
  · have hF14 := ae_ifT hb13 hF12
    refine ae_pick (lv' := [(0, ae_l v0), (2, ae_l v2)]) [0, 1] rfl ?_
    exact t_X2_add_56 d v0 v2 s10 hF14
  · have hF14 := ae_ifF hb13 hF12
    refine ae_lload_n 1 dX2_add_39 rfl ?_
    obtain ⟨r15, s16, hc17, hF18⟩ := ae_bdI hF14
    refine ae_cS1 (As := [ae_l v2]) dX2_add_40 ww_753 vy_X2_isInfinite rfl rfl (Nat.le_of_ble_eq_true rfl) (c_X2_isInfinite (d + 3) hc17) ?_
    refine ae_if_eq 56 dX2_add_43 rfl (fun hb19 => ?_) (fun hb19 => ?_)
    · have hF20 := ae_ifT hb19 hF18
      refine ae_pick (lv' := [(0, ae_l v0), (2, ae_l v2)]) [0, 1] rfl ?_
      exact t_X2_add_56 d v0 v2 s16 hF20
    · have hF20 := ae_ifF hb19 hF18
      refine ae_lload_n 0 dX2_add_46 rfl ?_
      refine ae_lload_n 1 dX2_add_47 rfl ?_
      refine ae_lcmp dX2_add_48 ?_
      refine ae_if_eq 56 dX2_add_49 rfl (fun hb21 => ?_) (fun hb21 => ?_)
      · have hF22 := ae_ifT hb21 hF20
        refine ae_pick (lv' := [(0, ae_l v0), (2, ae_l v2)]) [0, 1] rfl ?_
        exact t_X2_add_56 d v0 v2 s16 hF22
      · have hF22 := ae_ifF hb21 hF20
        refine ae_iconst (1 : Int32) dX2_add_52 (by decide) ?_
        refine ae_goto 57 dX2_add_53 rfl ?_
        refine ae_pick (lv' := [(0, ae_l v0), (2, ae_l v2)]) [0, 1] rfl ?_
        exact t_X2_add_57 d v0 v2 (1 : Int32) s16 hF22
def F_X2_add_125 (t0 : Int64) (s0 : ae_S) : Option (Int64 × ae_S) := some (t0, s0)
set_option maxHeartbeats 4000000 in
set_option maxRecDepth 100000 in
theorem t_X2_add_125 {l : Launch} {G : ae_G} (d : Nat) {rr : Int64} {ss : ae_S} (t0 : Int64) (s0 : ae_S) (hF : F_X2_add_125 t0 s0 = some (rr, ss)) : ae_T l G (d + 4) mX2_add (ae_Po (some (ae_l rr)) ss) 125 [] [ae_l t0] s0 := by
  unfold F_X2_add_125 at hF
  obtain ⟨rfl, rfl⟩ := ae_retI hF
  exact ae_lret dX2_add_125 rfl ⟨rfl, rfl⟩
def F_X2_add_101 (v0 : Int64) (v2 : Int64) (s0 : ae_S) : Option (Int64 × ae_S) := ae_bd (F_X2_powerOf v0 s0) (fun (r23 : Int32) s24 => ae_bd (F_X2_powerOf v2 s24) (fun (r27 : Int32) s28 => if r23 < r27 then (ae_bd (F_X2_addLower v2 v0 s28) (fun (r33 : Int64) s34 => F_X2_add_125 r33 s34)) else (ae_bd (F_X2_addLower v0 v2 s28) (fun (r37 : Int64) s38 => F_X2_add_125 r37 s38))))
set_option maxHeartbeats 4000000 in
set_option maxRecDepth 100000 in
theorem t_X2_add_101 {l : Launch} {G : ae_G} (d : Nat) {rr : Int64} {ss : ae_S} (v0 : Int64) (v2 : Int64) (s0 : ae_S) (hF : F_X2_add_101 v0 v2 s0 = some (rr, ss)) : ae_T l G (d + 4) mX2_add (ae_Po (some (ae_l rr)) ss) 101 [(0, ae_l v0), (2, ae_l v2)] [] s0 := by
  unfold F_X2_add_101 at hF
  refine ae_lload_n 0 dX2_add_101 rfl ?_
  obtain ⟨r23, s24, hc25, hF26⟩ := ae_bdI hF
  refine ae_cS1 (As := [ae_l v0]) dX2_add_102 ww_767 vy_X2_powerOf rfl rfl (Nat.le_of_ble_eq_true rfl) (c_X2_powerOf (d + 2) hc25) ?_
  refine ae_lload_n 1 dX2_add_105 rfl ?_
  obtain ⟨r27, s28, hc29, hF30⟩ := ae_bdI hF26
  refine ae_cS1 (As := [ae_l v2]) dX2_add_106 ww_767 vy_X2_powerOf rfl rfl (Nat.le_of_ble_eq_true rfl) (c_X2_powerOf (d + 2) hc29) ?_
  refine ae_icmp_lt 120 dX2_add_109 rfl (fun hb31 => ?_) (fun hb31 => ?_)
  · have hF32 := ae_ifT hb31 hF30
    refine ae_lload_n 1 dX2_add_120 rfl ?_
    refine ae_lload_n 0 dX2_add_121 rfl ?_
    obtain ⟨r33, s34, hc35, hF36⟩ := ae_bdI hF32
    refine ae_cS1 (As := [ae_l v2, ae_l v0]) dX2_add_122 ww_776 vy_X2_addLower rfl rfl (Nat.le_of_ble_eq_true rfl) (c_X2_addLower d hc35) ?_
    refine ae_pick (lv' := []) [] rfl ?_
    exact t_X2_add_125 d r33 s34 hF36
  · have hF32 := ae_ifF hb31 hF30
    refine ae_lload_n 0 dX2_add_112 rfl ?_
    refine ae_lload_n 1 dX2_add_113 rfl ?_
    obtain ⟨r37, s38, hc39, hF40⟩ := ae_bdI hF32
    refine ae_cS1 (As := [ae_l v0, ae_l v2]) dX2_add_114 ww_776 vy_X2_addLower rfl rfl (Nat.le_of_ble_eq_true rfl) (c_X2_addLower d hc39) ?_
    refine ae_goto 125 dX2_add_117 rfl ?_
    refine ae_pick (lv' := []) [] rfl ?_
    exact t_X2_add_125 d r37 s38 hF40
def F_X2_add (v0 : Int64) (v2 : Int64) (s0 : ae_S) : Option (Int64 × ae_S) := ae_bd (F_X2_isNan v0 s0) (fun (r41 : Int32) s42 => if r41 = 0 then (ae_bd (F_X2_isNan v2 s42) (fun (r47 : Int32) s48 => if r47 = 0 then (ae_bd (F_X2_isInfinite v0 s48) (fun (r53 : Int32) s54 => if r53 = 0 then (ae_bd (F_X2_isInfinite v2 s54) (fun (r59 : Int32) s60 => if r59 = 0 then (ae_bd (F_X2_isZero v0 s60) (fun (r65 : Int32) s66 => if r65 = 0 then (F_X2_add_101 v0 v2 s66) else (ae_bd (F_X2_isZero v2 s66) (fun (r71 : Int32) s72 => if r71 = 0 then (F_X2_add_101 v0 v2 s72) else (some (v0 &&& v2, s72)))))) else (F_X2_add_32 v0 v2 s60))) else (F_X2_add_32 v0 v2 s54))) else (F_X2_add_14 s48))) else (F_X2_add_14 s42))
set_option maxHeartbeats 4000000 in
set_option maxRecDepth 100000 in
theorem c_X2_add {l : Launch} {G : ae_G} (d : Nat) {v0 : Int64} {v2 : Int64} {s0 ss : ae_S} {rr : Int64} (hF : F_X2_add v0 v2 s0 = some (rr, ss)) : ae_Met l G (d + 4) yX2_add mX2_add [ae_l v0, ae_l v2] s0 (ae_Po (some (ae_l rr)) ss) := by
  refine ae_enter (by decide) rfl (Nat.le_of_ble_eq_true rfl) ?_
  show ae_T l G (d + 4) mX2_add (ae_Po (some (ae_l rr)) ss) 0 [(0, ae_l v0), (2, ae_l v2)] [] s0
  unfold F_X2_add at hF
  refine ae_lload_n 0 dX2_add_0 rfl ?_
  obtain ⟨r41, s42, hc43, hF44⟩ := ae_bdI hF
  refine ae_cS1 (As := [ae_l v0]) dX2_add_1 ww_748 vy_X2_isNan rfl rfl (Nat.le_of_ble_eq_true rfl) (c_X2_isNan (d + 3) hc43) ?_
  refine ae_if_ne 14 dX2_add_4 rfl (fun hb45 => ?_) (fun hb45 => ?_)
  · have hF46 := ae_ifF hb45 hF44
    refine ae_pick (lv' := []) [] rfl ?_
    exact t_X2_add_14 d s42 hF46
  · have hF46 := ae_ifT hb45 hF44
    refine ae_lload_n 1 dX2_add_7 rfl ?_
    obtain ⟨r47, s48, hc49, hF50⟩ := ae_bdI hF46
    refine ae_cS1 (As := [ae_l v2]) dX2_add_8 ww_748 vy_X2_isNan rfl rfl (Nat.le_of_ble_eq_true rfl) (c_X2_isNan (d + 3) hc49) ?_
    refine ae_if_eq 18 dX2_add_11 rfl (fun hb51 => ?_) (fun hb51 => ?_)
    · have hF52 := ae_ifT hb51 hF50
      refine ae_lload_n 0 dX2_add_18 rfl ?_
      obtain ⟨r53, s54, hc55, hF56⟩ := ae_bdI hF52
      refine ae_cS1 (As := [ae_l v0]) dX2_add_19 ww_753 vy_X2_isInfinite rfl rfl (Nat.le_of_ble_eq_true rfl) (c_X2_isInfinite (d + 3) hc55) ?_
      refine ae_if_ne 32 dX2_add_22 rfl (fun hb57 => ?_) (fun hb57 => ?_)
      · have hF58 := ae_ifF hb57 hF56
        refine ae_pick (lv' := [(0, ae_l v0), (2, ae_l v2)]) [0, 1] rfl ?_
        exact t_X2_add_32 d v0 v2 s54 hF58
      · have hF58 := ae_ifT hb57 hF56
        refine ae_lload_n 1 dX2_add_25 rfl ?_
        obtain ⟨r59, s60, hc61, hF62⟩ := ae_bdI hF58
        refine ae_cS1 (As := [ae_l v2]) dX2_add_26 ww_753 vy_X2_isInfinite rfl rfl (Nat.le_of_ble_eq_true rfl) (c_X2_isInfinite (d + 3) hc61) ?_
        refine ae_if_eq 83 dX2_add_29 rfl (fun hb63 => ?_) (fun hb63 => ?_)
        · have hF64 := ae_ifT hb63 hF62
          refine ae_lload_n 0 dX2_add_83 rfl ?_
          obtain ⟨r65, s66, hc67, hF68⟩ := ae_bdI hF64
          refine ae_cS1 (As := [ae_l v0]) dX2_add_84 ww_756 vy_X2_isZero rfl rfl (Nat.le_of_ble_eq_true rfl) (c_X2_isZero (d + 3) hc67) ?_
          refine ae_if_eq 101 dX2_add_87 rfl (fun hb69 => ?_) (fun hb69 => ?_)
          · have hF70 := ae_ifT hb69 hF68
            refine ae_pick (lv' := [(0, ae_l v0), (2, ae_l v2)]) [0, 1] rfl ?_
            exact t_X2_add_101 d v0 v2 s66 hF70
          · have hF70 := ae_ifF hb69 hF68
            refine ae_lload_n 1 dX2_add_90 rfl ?_
            obtain ⟨r71, s72, hc73, hF74⟩ := ae_bdI hF70
            refine ae_cS1 (As := [ae_l v2]) dX2_add_91 ww_756 vy_X2_isZero rfl rfl (Nat.le_of_ble_eq_true rfl) (c_X2_isZero (d + 3) hc73) ?_
            refine ae_if_eq 101 dX2_add_94 rfl (fun hb75 => ?_) (fun hb75 => ?_)
            · have hF76 := ae_ifT hb75 hF74
              refine ae_pick (lv' := [(0, ae_l v0), (2, ae_l v2)]) [0, 1] rfl ?_
              exact t_X2_add_101 d v0 v2 s72 hF76
            · have hF76 := ae_ifF hb75 hF74
              refine ae_lload_n 0 dX2_add_97 rfl ?_
              refine ae_lload_n 1 dX2_add_98 rfl ?_
              refine ae_land dX2_add_99 ?_
              obtain ⟨rfl, rfl⟩ := ae_retI hF76
              exact ae_lret dX2_add_100 rfl ⟨rfl, rfl⟩
        · have hF64 := ae_ifF hb63 hF62
          refine ae_pick (lv' := [(0, ae_l v0), (2, ae_l v2)]) [0, 1] rfl ?_
          exact t_X2_add_32 d v0 v2 s60 hF64
    · have hF52 := ae_ifF hb51 hF50
      refine ae_pick (lv' := []) [] rfl ?_
      exact t_X2_add_14 d s48 hF52
abbrev mX2_toWhole : ae_M := (RX2, cX2_toWhole, 7, some .long)
theorem vy_X2_toWhole : ae_SY yX2_toWhole mX2_toWhole 1 := ⟨ww_850, ww_18, ww_851, ⟨by decide, by decide, by decide +kernel⟩, by decide⟩
theorem dX2_toWhole_0 : decode cX2_toWhole 0 = .ok (.lload_n 0, 1) := by decide +kernel
theorem dX2_toWhole_1 : decode cX2_toWhole 1 = .ok (.invokestatic 15, 3) := by decide +kernel
theorem dX2_toWhole_4 : decode cX2_toWhole 4 = .ok (.ifCond .eq 5, 3) := by decide +kernel
theorem dX2_toWhole_7 : decode cX2_toWhole 7 = .ok (.lconst 0, 1) := by decide +kernel
theorem dX2_toWhole_8 : decode cX2_toWhole 8 = .ok (.lreturn, 1) := by decide +kernel
theorem dX2_toWhole_9 : decode cX2_toWhole 9 = .ok (.lload_n 0, 1) := by decide +kernel
theorem dX2_toWhole_10 : decode cX2_toWhole 10 = .ok (.invokestatic 46, 3) := by decide +kernel
theorem dX2_toWhole_13 : decode cX2_toWhole 13 = .ok (.istore_n 2, 1) := by decide +kernel
theorem dX2_toWhole_14 : decode cX2_toWhole 14 = .ok (.iload_n 2, 1) := by decide +kernel
theorem dX2_toWhole_15 : decode cX2_toWhole 15 = .ok (.bipush 10, 2) := by decide +kernel
theorem dX2_toWhole_17 : decode cX2_toWhole 17 = .ok (.if_icmp .le 19, 3) := by decide +kernel
theorem dX2_toWhole_20 : decode cX2_toWhole 20 = .ok (.lload_n 0, 1) := by decide +kernel
theorem dX2_toWhole_21 : decode cX2_toWhole 21 = .ok (.lconst 0, 1) := by decide +kernel
theorem dX2_toWhole_22 : decode cX2_toWhole 22 = .ok (.lcmp, 1) := by decide +kernel
theorem dX2_toWhole_23 : decode cX2_toWhole 23 = .ok (.ifCond .ge 9, 3) := by decide +kernel
theorem dX2_toWhole_26 : decode cX2_toWhole 26 = .ok (.ldc2_w 21, 3) := by decide +kernel
theorem dX2_toWhole_29 : decode cX2_toWhole 29 = .ok (.goto 6, 3) := by decide +kernel
theorem dX2_toWhole_32 : decode cX2_toWhole 32 = .ok (.ldc2_w 11, 3) := by decide +kernel
theorem dX2_toWhole_35 : decode cX2_toWhole 35 = .ok (.lreturn, 1) := by decide +kernel
theorem dX2_toWhole_36 : decode cX2_toWhole 36 = .ok (.lload_n 0, 1) := by decide +kernel
theorem dX2_toWhole_37 : decode cX2_toWhole 37 = .ok (.invokestatic 50, 3) := by decide +kernel
theorem dX2_toWhole_40 : decode cX2_toWhole 40 = .ok (.lstore_n 3, 1) := by decide +kernel
theorem dX2_toWhole_41 : decode cX2_toWhole 41 = .ok (.lconst 0, 1) := by decide +kernel
theorem dX2_toWhole_42 : decode cX2_toWhole 42 = .ok (.lstore 5, 2) := by decide +kernel
theorem dX2_toWhole_44 : decode cX2_toWhole 44 = .ok (.iload_n 2, 1) := by decide +kernel
theorem dX2_toWhole_45 : decode cX2_toWhole 45 = .ok (.ifCond .lt 11, 3) := by decide +kernel
theorem dX2_toWhole_48 : decode cX2_toWhole 48 = .ok (.lload_n 3, 1) := by decide +kernel
theorem dX2_toWhole_49 : decode cX2_toWhole 49 = .ok (.iload_n 2, 1) := by decide +kernel
theorem dX2_toWhole_50 : decode cX2_toWhole 50 = .ok (.lshl, 1) := by decide +kernel
theorem dX2_toWhole_51 : decode cX2_toWhole 51 = .ok (.lstore 5, 2) := by decide +kernel
theorem dX2_toWhole_53 : decode cX2_toWhole 53 = .ok (.goto 15, 3) := by decide +kernel
theorem dX2_toWhole_56 : decode cX2_toWhole 56 = .ok (.iload_n 2, 1) := by decide +kernel
theorem dX2_toWhole_57 : decode cX2_toWhole 57 = .ok (.bipush (-53), 2) := by decide +kernel
theorem dX2_toWhole_59 : decode cX2_toWhole 59 = .ok (.if_icmp .le 9, 3) := by decide +kernel
theorem dX2_toWhole_62 : decode cX2_toWhole 62 = .ok (.lload_n 3, 1) := by decide +kernel
theorem dX2_toWhole_63 : decode cX2_toWhole 63 = .ok (.iload_n 2, 1) := by decide +kernel
theorem dX2_toWhole_64 : decode cX2_toWhole 64 = .ok (.ineg, 1) := by decide +kernel
theorem dX2_toWhole_65 : decode cX2_toWhole 65 = .ok (.lushr, 1) := by decide +kernel
theorem dX2_toWhole_66 : decode cX2_toWhole 66 = .ok (.lstore 5, 2) := by decide +kernel
theorem dX2_toWhole_68 : decode cX2_toWhole 68 = .ok (.lload_n 0, 1) := by decide +kernel
theorem dX2_toWhole_69 : decode cX2_toWhole 69 = .ok (.lconst 0, 1) := by decide +kernel
theorem dX2_toWhole_70 : decode cX2_toWhole 70 = .ok (.lcmp, 1) := by decide +kernel
theorem dX2_toWhole_71 : decode cX2_toWhole 71 = .ok (.ifCond .ge 9, 3) := by decide +kernel
theorem dX2_toWhole_74 : decode cX2_toWhole 74 = .ok (.lload 5, 2) := by decide +kernel
theorem dX2_toWhole_76 : decode cX2_toWhole 76 = .ok (.lneg, 1) := by decide +kernel
theorem dX2_toWhole_77 : decode cX2_toWhole 77 = .ok (.goto 5, 3) := by decide +kernel
theorem dX2_toWhole_80 : decode cX2_toWhole 80 = .ok (.lload 5, 2) := by decide +kernel
theorem dX2_toWhole_82 : decode cX2_toWhole 82 = .ok (.lreturn, 1) := by decide +kernel
def F_X2_toWhole_82 (t0 : Int64) (s0 : ae_S) : Option (Int64 × ae_S) := some (t0, s0)
set_option maxHeartbeats 4000000 in
set_option maxRecDepth 100000 in
theorem t_X2_toWhole_82 {l : Launch} {G : ae_G} (d : Nat) {rr : Int64} {ss : ae_S} (t0 : Int64) (s0 : ae_S) (hF : F_X2_toWhole_82 t0 s0 = some (rr, ss)) : ae_T l G (d + 2) mX2_toWhole (ae_Po (some (ae_l rr)) ss) 82 [] [ae_l t0] s0 := by
  unfold F_X2_toWhole_82 at hF
  obtain ⟨rfl, rfl⟩ := ae_retI hF
  exact ae_lret dX2_toWhole_82 rfl ⟨rfl, rfl⟩
def F_X2_toWhole_68 (v0 : Int64) (v5 : Int64) (s0 : ae_S) : Option (Int64 × ae_S) := if 0 ≤ (lg_cmp v0 (0 : Int64)) then (F_X2_toWhole_82 v5 s0) else (F_X2_toWhole_82 (-v5) s0)
set_option maxHeartbeats 4000000 in
set_option maxRecDepth 100000 in
theorem t_X2_toWhole_68 {l : Launch} {G : ae_G} (d : Nat) {rr : Int64} {ss : ae_S} (v0 : Int64) (v5 : Int64) (s0 : ae_S) (hF : F_X2_toWhole_68 v0 v5 s0 = some (rr, ss)) : ae_T l G (d + 2) mX2_toWhole (ae_Po (some (ae_l rr)) ss) 68 [(0, ae_l v0), (5, ae_l v5)] [] s0 := by
  unfold F_X2_toWhole_68 at hF
  refine ae_lload_n 0 dX2_toWhole_68 rfl ?_
  refine ae_lconst (0 : Int64) dX2_toWhole_69 (by decide) ?_
  refine ae_lcmp dX2_toWhole_70 ?_
  refine ae_if_ge 80 dX2_toWhole_71 rfl (fun hb1 => ?_) (fun hb1 => ?_)
  · have hF2 := ae_ifT hb1 hF
    refine ae_lload 1 dX2_toWhole_80 rfl ?_
    refine ae_pick (lv' := []) [] rfl ?_
    exact t_X2_toWhole_82 d v5 s0 hF2
  · have hF2 := ae_ifF hb1 hF
    refine ae_lload 1 dX2_toWhole_74 rfl ?_
    refine ae_lneg dX2_toWhole_76 ?_
    refine ae_goto 82 dX2_toWhole_77 rfl ?_
    refine ae_pick (lv' := []) [] rfl ?_
    exact t_X2_toWhole_82 d (-v5) s0 hF2
def F_X2_toWhole_35 (t0 : Int64) (s0 : ae_S) : Option (Int64 × ae_S) := some (t0, s0)
set_option maxHeartbeats 4000000 in
set_option maxRecDepth 100000 in
theorem t_X2_toWhole_35 {l : Launch} {G : ae_G} (d : Nat) {rr : Int64} {ss : ae_S} (t0 : Int64) (s0 : ae_S) (hF : F_X2_toWhole_35 t0 s0 = some (rr, ss)) : ae_T l G (d + 2) mX2_toWhole (ae_Po (some (ae_l rr)) ss) 35 [] [ae_l t0] s0 := by
  unfold F_X2_toWhole_35 at hF
  obtain ⟨rfl, rfl⟩ := ae_retI hF
  exact ae_lret dX2_toWhole_35 rfl ⟨rfl, rfl⟩
def F_X2_toWhole (v0 : Int64) (s0 : ae_S) : Option (Int64 × ae_S) := ae_bd (F_X2_isNan v0 s0) (fun (r3 : Int32) s4 => if r3 = 0 then (ae_bd (F_X2_powerOf v0 s4) (fun (r9 : Int32) s10 => if r9 ≤ (10 : Int32) then (ae_bd (F_X2_digitsOf v0 s10) (fun (r15 : Int64) s16 => if r9 < 0 then (if r9 ≤ (-53 : Int32) then (F_X2_toWhole_68 v0 (0 : Int64) s16) else (ae_lt ((r15.toUInt64 >>> ((-r9).toInt64.toUInt64 &&& Int64.toUInt64 63)).toInt64) (fun x23 => F_X2_toWhole_68 v0 x23 s16))) else (ae_lt (r15 <<< (r9.toInt64 &&& 63)) (fun x25 => F_X2_toWhole_68 v0 x25 s16)))) else (if 0 ≤ (lg_cmp v0 (0 : Int64)) then (F_X2_toWhole_35 (9223372036854775807 : Int64) s10) else (F_X2_toWhole_35 (-9223372036854775808 : Int64) s10)))) else (some ((0 : Int64), s4)))
set_option maxHeartbeats 4000000 in
set_option maxRecDepth 100000 in
theorem c_X2_toWhole {l : Launch} {G : ae_G} (d : Nat) {v0 : Int64} {s0 ss : ae_S} {rr : Int64} (hF : F_X2_toWhole v0 s0 = some (rr, ss)) : ae_Met l G (d + 2) yX2_toWhole mX2_toWhole [ae_l v0] s0 (ae_Po (some (ae_l rr)) ss) := by
  refine ae_enter (by decide) rfl (Nat.le_of_ble_eq_true rfl) ?_
  show ae_T l G (d + 2) mX2_toWhole (ae_Po (some (ae_l rr)) ss) 0 [(0, ae_l v0)] [] s0
  unfold F_X2_toWhole at hF
  refine ae_lload_n 0 dX2_toWhole_0 rfl ?_
  obtain ⟨r3, s4, hc5, hF6⟩ := ae_bdI hF
  refine ae_cS1 (As := [ae_l v0]) dX2_toWhole_1 ww_748 vy_X2_isNan rfl rfl (Nat.le_of_ble_eq_true rfl) (c_X2_isNan (d + 1) hc5) ?_
  refine ae_if_eq 9 dX2_toWhole_4 rfl (fun hb7 => ?_) (fun hb7 => ?_)
  · have hF8 := ae_ifT hb7 hF6
    refine ae_lload_n 0 dX2_toWhole_9 rfl ?_
    obtain ⟨r9, s10, hc11, hF12⟩ := ae_bdI hF8
    refine ae_cS1 (As := [ae_l v0]) dX2_toWhole_10 ww_767 vy_X2_powerOf rfl rfl (Nat.le_of_ble_eq_true rfl) (c_X2_powerOf d hc11) ?_
    refine ae_istore_n (lv' := [(2, ae_i r9), (0, ae_l v0)]) dX2_toWhole_13 (by decide) rfl ?_
    refine ae_iload_n 0 dX2_toWhole_14 rfl ?_
    refine ae_bipush (10 : Int32) dX2_toWhole_15 (by decide) ?_
    refine ae_icmp_le 36 dX2_toWhole_17 rfl (fun hb13 => ?_) (fun hb13 => ?_)
    · have hF14 := ae_ifT hb13 hF12
      refine ae_lload_n 1 dX2_toWhole_36 rfl ?_
      obtain ⟨r15, s16, hc17, hF18⟩ := ae_bdI hF14
      refine ae_cS1 (As := [ae_l v0]) dX2_toWhole_37 ww_762 vy_X2_digitsOf rfl rfl (Nat.le_of_ble_eq_true rfl) (c_X2_digitsOf (d + 1) hc17) ?_
      refine ae_lstore_n (lv' := [(3, ae_l r15), (2, ae_i r9), (0, ae_l v0)]) dX2_toWhole_40 (by decide) rfl ?_
      refine ae_lconst (0 : Int64) dX2_toWhole_41 (by decide) ?_
      refine ae_lstore (lv' := [(5, ae_l (0 : Int64)), (3, ae_l r15), (2, ae_i r9), (0, ae_l v0)]) dX2_toWhole_42 (by decide) rfl ?_
      refine ae_iload_n 2 dX2_toWhole_44 rfl ?_
      refine ae_if_lt 56 dX2_toWhole_45 rfl (fun hb19 => ?_) (fun hb19 => ?_)
      · have hF20 := ae_ifT hb19 hF18
        refine ae_iload_n 2 dX2_toWhole_56 rfl ?_
        refine ae_bipush (-53 : Int32) dX2_toWhole_57 (by decide) ?_
        refine ae_icmp_le 68 dX2_toWhole_59 rfl (fun hb21 => ?_) (fun hb21 => ?_)
        · have hF22 := ae_ifT hb21 hF20
          refine ae_pick (lv' := [(0, ae_l v0), (5, ae_l (0 : Int64))]) [3, 0] rfl ?_
          exact t_X2_toWhole_68 d v0 (0 : Int64) s16 hF22
        · have hF22 := ae_ifF hb21 hF20
          refine ae_lload_n 1 dX2_toWhole_62 rfl ?_
          refine ae_iload_n 2 dX2_toWhole_63 rfl ?_
          refine ae_ineg dX2_toWhole_64 ?_
          refine ae_lushr dX2_toWhole_65 ?_
          obtain ⟨x23, hx23, hF24⟩ := ae_ltI hF22
          refine ae_nmL hx23 ?_
          refine ae_lstore (lv' := [(5, ae_l x23), (3, ae_l r15), (2, ae_i r9), (0, ae_l v0)]) dX2_toWhole_66 (by decide) rfl ?_
          refine ae_pick (lv' := [(0, ae_l v0), (5, ae_l x23)]) [3, 0] rfl ?_
          exact t_X2_toWhole_68 d v0 x23 s16 hF24
      · have hF20 := ae_ifF hb19 hF18
        refine ae_lload_n 1 dX2_toWhole_48 rfl ?_
        refine ae_iload_n 2 dX2_toWhole_49 rfl ?_
        refine ae_lshl dX2_toWhole_50 ?_
        obtain ⟨x25, hx25, hF26⟩ := ae_ltI hF20
        refine ae_nmL hx25 ?_
        refine ae_lstore (lv' := [(5, ae_l x25), (3, ae_l r15), (2, ae_i r9), (0, ae_l v0)]) dX2_toWhole_51 (by decide) rfl ?_
        refine ae_goto 68 dX2_toWhole_53 rfl ?_
        refine ae_pick (lv' := [(0, ae_l v0), (5, ae_l x25)]) [3, 0] rfl ?_
        exact t_X2_toWhole_68 d v0 x25 s16 hF26
    · have hF14 := ae_ifF hb13 hF12
      refine ae_lload_n 1 dX2_toWhole_20 rfl ?_
      refine ae_lconst (0 : Int64) dX2_toWhole_21 (by decide) ?_
      refine ae_lcmp dX2_toWhole_22 ?_
      refine ae_if_ge 32 dX2_toWhole_23 rfl (fun hb27 => ?_) (fun hb27 => ?_)
      · have hF28 := ae_ifT hb27 hF14
        refine ae_ldc2 dX2_toWhole_32 ww_751 ?_
        refine ae_pick (lv' := []) [] rfl ?_
        exact t_X2_toWhole_35 d (9223372036854775807 : Int64) s10 hF28
      · have hF28 := ae_ifF hb27 hF14
        refine ae_ldc2 dX2_toWhole_26 ww_729 ?_
        refine ae_goto 35 dX2_toWhole_29 rfl ?_
        refine ae_pick (lv' := []) [] rfl ?_
        exact t_X2_toWhole_35 d (-9223372036854775808 : Int64) s10 hF28
  · have hF8 := ae_ifF hb7 hF6
    refine ae_lconst (0 : Int64) dX2_toWhole_7 (by decide) ?_
    obtain ⟨rfl, rfl⟩ := ae_retI hF8
    exact ae_lret dX2_toWhole_8 rfl ⟨rfl, rfl⟩
abbrev mX2_widened : ae_M := (RX2, cX2_widened, 12, some .long)
theorem vy_X2_widened : ae_SY yX2_widened mX2_widened 1 := ⟨ww_886, ww_18, ww_887, ⟨by decide, by decide, by decide +kernel⟩, by decide⟩
theorem dX2_widened_0 : decode cX2_widened 0 = .ok (.lload_n 0, 1) := by decide +kernel
theorem dX2_widened_1 : decode cX2_widened 1 = .ok (.ldc2_w 44, 3) := by decide +kernel
theorem dX2_widened_4 : decode cX2_widened 4 = .ok (.land, 1) := by decide +kernel
theorem dX2_widened_5 : decode cX2_widened 5 = .ok (.lconst 0, 1) := by decide +kernel
theorem dX2_widened_6 : decode cX2_widened 6 = .ok (.lcmp, 1) := by decide +kernel
theorem dX2_widened_7 : decode cX2_widened 7 = .ok (.ifCond .ne 7, 3) := by decide +kernel
theorem dX2_widened_10 : decode cX2_widened 10 = .ok (.lconst 0, 1) := by decide +kernel
theorem dX2_widened_11 : decode cX2_widened 11 = .ok (.goto 6, 3) := by decide +kernel
theorem dX2_widened_14 : decode cX2_widened 14 = .ok (.ldc2_w 21, 3) := by decide +kernel
theorem dX2_widened_17 : decode cX2_widened 17 = .ok (.lstore_n 2, 1) := by decide +kernel
theorem dX2_widened_18 : decode cX2_widened 18 = .ok (.lload_n 0, 1) := by decide +kernel
theorem dX2_widened_19 : decode cX2_widened 19 = .ok (.ldc2_w 53, 3) := by decide +kernel
theorem dX2_widened_22 : decode cX2_widened 22 = .ok (.land, 1) := by decide +kernel
theorem dX2_widened_23 : decode cX2_widened 23 = .ok (.ldc2_w 55, 3) := by decide +kernel
theorem dX2_widened_26 : decode cX2_widened 26 = .ok (.land, 1) := by decide +kernel
theorem dX2_widened_27 : decode cX2_widened 27 = .ok (.lstore 4, 2) := by decide +kernel
theorem dX2_widened_29 : decode cX2_widened 29 = .ok (.lload 4, 2) := by decide +kernel
theorem dX2_widened_31 : decode cX2_widened 31 = .ok (.ldc2_w 57, 3) := by decide +kernel
theorem dX2_widened_34 : decode cX2_widened 34 = .ok (.lcmp, 1) := by decide +kernel
theorem dX2_widened_35 : decode cX2_widened 35 = .ok (.ifCond .le 7, 3) := by decide +kernel
theorem dX2_widened_38 : decode cX2_widened 38 = .ok (.ldc2_w 19, 3) := by decide +kernel
theorem dX2_widened_41 : decode cX2_widened 41 = .ok (.lreturn, 1) := by decide +kernel
theorem dX2_widened_42 : decode cX2_widened 42 = .ok (.lload 4, 2) := by decide +kernel
theorem dX2_widened_44 : decode cX2_widened 44 = .ok (.ldc2_w 57, 3) := by decide +kernel
theorem dX2_widened_47 : decode cX2_widened 47 = .ok (.lcmp, 1) := by decide +kernel
theorem dX2_widened_48 : decode cX2_widened 48 = .ok (.ifCond .ne 9, 3) := by decide +kernel
theorem dX2_widened_51 : decode cX2_widened 51 = .ok (.lload_n 2, 1) := by decide +kernel
theorem dX2_widened_52 : decode cX2_widened 52 = .ok (.ldc2_w 13, 3) := by decide +kernel
theorem dX2_widened_55 : decode cX2_widened 55 = .ok (.lor, 1) := by decide +kernel
theorem dX2_widened_56 : decode cX2_widened 56 = .ok (.lreturn, 1) := by decide +kernel
theorem dX2_widened_57 : decode cX2_widened 57 = .ok (.lload 4, 2) := by decide +kernel
theorem dX2_widened_59 : decode cX2_widened 59 = .ok (.bipush 23, 2) := by decide +kernel
theorem dX2_widened_61 : decode cX2_widened 61 = .ok (.lushr, 1) := by decide +kernel
theorem dX2_widened_62 : decode cX2_widened 62 = .ok (.l2i, 1) := by decide +kernel
theorem dX2_widened_63 : decode cX2_widened 63 = .ok (.istore 6, 2) := by decide +kernel
theorem dX2_widened_65 : decode cX2_widened 65 = .ok (.lload 4, 2) := by decide +kernel
theorem dX2_widened_67 : decode cX2_widened 67 = .ok (.ldc2_w 59, 3) := by decide +kernel
theorem dX2_widened_70 : decode cX2_widened 70 = .ok (.land, 1) := by decide +kernel
theorem dX2_widened_71 : decode cX2_widened 71 = .ok (.lstore 7, 2) := by decide +kernel
theorem dX2_widened_73 : decode cX2_widened 73 = .ok (.iload 6, 2) := by decide +kernel
theorem dX2_widened_75 : decode cX2_widened 75 = .ok (.ifCond .ne 8, 3) := by decide +kernel
theorem dX2_widened_78 : decode cX2_widened 78 = .ok (.lload 7, 2) := by decide +kernel
theorem dX2_widened_80 : decode cX2_widened 80 = .ok (.goto 9, 3) := by decide +kernel
theorem dX2_widened_83 : decode cX2_widened 83 = .ok (.lload 7, 2) := by decide +kernel
theorem dX2_widened_85 : decode cX2_widened 85 = .ok (.ldc2_w 61, 3) := by decide +kernel
theorem dX2_widened_88 : decode cX2_widened 88 = .ok (.lor, 1) := by decide +kernel
theorem dX2_widened_89 : decode cX2_widened 89 = .ok (.lstore 9, 2) := by decide +kernel
theorem dX2_widened_91 : decode cX2_widened 91 = .ok (.iload 6, 2) := by decide +kernel
theorem dX2_widened_93 : decode cX2_widened 93 = .ok (.iconst 1, 1) := by decide +kernel
theorem dX2_widened_94 : decode cX2_widened 94 = .ok (.invokestatic 27, 3) := by decide +kernel
theorem dX2_widened_97 : decode cX2_widened 97 = .ok (.iconst 1, 1) := by decide +kernel
theorem dX2_widened_98 : decode cX2_widened 98 = .ok (.isub, 1) := by decide +kernel
theorem dX2_widened_99 : decode cX2_widened 99 = .ok (.sipush (-149), 3) := by decide +kernel
theorem dX2_widened_102 : decode cX2_widened 102 = .ok (.iadd, 1) := by decide +kernel
theorem dX2_widened_103 : decode cX2_widened 103 = .ok (.istore 11, 2) := by decide +kernel
theorem dX2_widened_105 : decode cX2_widened 105 = .ok (.lload_n 2, 1) := by decide +kernel
theorem dX2_widened_106 : decode cX2_widened 106 = .ok (.lload 9, 2) := by decide +kernel
theorem dX2_widened_108 : decode cX2_widened 108 = .ok (.iload 11, 2) := by decide +kernel
theorem dX2_widened_110 : decode cX2_widened 110 = .ok (.iconst 0, 1) := by decide +kernel
theorem dX2_widened_111 : decode cX2_widened 111 = .ok (.invokestatic 40, 3) := by decide +kernel
theorem dX2_widened_114 : decode cX2_widened 114 = .ok (.lor, 1) := by decide +kernel
theorem dX2_widened_115 : decode cX2_widened 115 = .ok (.lreturn, 1) := by decide +kernel
def F_X2_widened_89 (v2 : Int64) (v6 : Int32) (t0 : Int64) (s0 : ae_S) : Option (Int64 × ae_S) := ae_lt (((if v6 < (1 : Int32) then (1 : Int32) else v6) - (1 : Int32)) + (-149 : Int32)) (fun x1 => ae_bd (F_X2_rounded t0 x1 (0 : Int32) s0) (fun (r3 : Int64) s4 => some (v2 ||| r3, s4)))
set_option maxHeartbeats 4000000 in
set_option maxRecDepth 100000 in
theorem t_X2_widened_89 {l : Launch} {G : ae_G} (d : Nat) {rr : Int64} {ss : ae_S} (v2 : Int64) (v6 : Int32) (t0 : Int64) (s0 : ae_S) (hF : F_X2_widened_89 v2 v6 t0 s0 = some (rr, ss)) : ae_T l G (d + 3) mX2_widened (ae_Po (some (ae_l rr)) ss) 89 [(2, ae_l v2), (6, ae_i v6)] [ae_l t0] s0 := by
  unfold F_X2_widened_89 at hF
  refine ae_lstore (lv' := [(9, ae_l t0), (2, ae_l v2), (6, ae_i v6)]) dX2_widened_89 (by decide) rfl ?_
  refine ae_iload 2 dX2_widened_91 rfl ?_
  refine ae_iconst (1 : Int32) dX2_widened_93 (by decide) ?_
  refine ae_mmax dX2_widened_94 ww_740 ww_741 ww_21 ww_742 (Nat.le_of_ble_eq_true rfl) ?_
  refine ae_iconst (1 : Int32) dX2_widened_97 (by decide) ?_
  refine ae_isub dX2_widened_98 ?_
  refine ae_sipush (-149 : Int32) dX2_widened_99 (by decide) ?_
  refine ae_iadd dX2_widened_102 ?_
  obtain ⟨x1, hx1, hF2⟩ := ae_ltI hF
  refine ae_nmI hx1 ?_
  refine ae_istore (lv' := [(11, ae_i x1), (9, ae_l t0), (2, ae_l v2), (6, ae_i v6)]) dX2_widened_103 (by decide) rfl ?_
  refine ae_lload_n 2 dX2_widened_105 rfl ?_
  refine ae_lload 1 dX2_widened_106 rfl ?_
  refine ae_iload 0 dX2_widened_108 rfl ?_
  refine ae_iconst (0 : Int32) dX2_widened_110 (by decide) ?_
  obtain ⟨r3, s4, hc5, hF6⟩ := ae_bdI hF2
  refine ae_cS1 (As := [ae_l t0, ae_i x1, ae_i (0 : Int32)]) dX2_widened_111 ww_730 vy_X2_rounded rfl rfl (Nat.le_of_ble_eq_true rfl) (c_X2_rounded d hc5) ?_
  refine ae_lor dX2_widened_114 ?_
  obtain ⟨rfl, rfl⟩ := ae_retI hF6
  exact ae_lret dX2_widened_115 rfl ⟨rfl, rfl⟩
def F_X2_widened_17 (v0 : Int64) (t0 : Int64) (s0 : ae_S) : Option (Int64 × ae_S) := ae_lt ((v0 &&& (-2147483649 : Int64)) &&& (4294967295 : Int64)) (fun x7 => if (lg_cmp x7 (2139095040 : Int64)) ≤ 0 then (if (lg_cmp x7 (2139095040 : Int64)) = 0 then (some (t0 ||| (9218868437227405312 : Int64), s0)) else (ae_lt (((x7.toUInt64 >>> ((23 : Int32).toInt64.toUInt64 &&& Int64.toUInt64 63)).toInt64).toInt32) (fun x13 => ae_lt (x7 &&& (8388607 : Int64)) (fun x15 => if x13 = 0 then (F_X2_widened_89 t0 x13 x15 s0) else (F_X2_widened_89 t0 x13 (x15 ||| (8388608 : Int64)) s0))))) else (some ((9221120237041090560 : Int64), s0)))
set_option maxHeartbeats 4000000 in
set_option maxRecDepth 100000 in
theorem t_X2_widened_17 {l : Launch} {G : ae_G} (d : Nat) {rr : Int64} {ss : ae_S} (v0 : Int64) (t0 : Int64) (s0 : ae_S) (hF : F_X2_widened_17 v0 t0 s0 = some (rr, ss)) : ae_T l G (d + 3) mX2_widened (ae_Po (some (ae_l rr)) ss) 17 [(0, ae_l v0)] [ae_l t0] s0 := by
  unfold F_X2_widened_17 at hF
  refine ae_lstore_n (lv' := [(2, ae_l t0), (0, ae_l v0)]) dX2_widened_17 (by decide) rfl ?_
  refine ae_lload_n 1 dX2_widened_18 rfl ?_
  refine ae_ldc2 dX2_widened_19 ww_889 ?_
  refine ae_land dX2_widened_22 ?_
  refine ae_ldc2 dX2_widened_23 ww_890 ?_
  refine ae_land dX2_widened_26 ?_
  obtain ⟨x7, hx7, hF8⟩ := ae_ltI hF
  refine ae_nmL hx7 ?_
  refine ae_lstore (lv' := [(4, ae_l x7), (2, ae_l t0), (0, ae_l v0)]) dX2_widened_27 (by decide) rfl ?_
  refine ae_lload 0 dX2_widened_29 rfl ?_
  refine ae_ldc2 dX2_widened_31 ww_743 ?_
  refine ae_lcmp dX2_widened_34 ?_
  refine ae_if_le 42 dX2_widened_35 rfl (fun hb9 => ?_) (fun hb9 => ?_)
  · have hF10 := ae_ifT hb9 hF8
    refine ae_lload 0 dX2_widened_42 rfl ?_
    refine ae_ldc2 dX2_widened_44 ww_743 ?_
    refine ae_lcmp dX2_widened_47 ?_
    refine ae_if_ne 57 dX2_widened_48 rfl (fun hb11 => ?_) (fun hb11 => ?_)
    · have hF12 := ae_ifF hb11 hF10
      refine ae_lload 0 dX2_widened_57 rfl ?_
      refine ae_bipush (23 : Int32) dX2_widened_59 (by decide) ?_
      refine ae_lushr dX2_widened_61 ?_
      refine ae_l2i dX2_widened_62 ?_
      obtain ⟨x13, hx13, hF14⟩ := ae_ltI hF12
      refine ae_nmI hx13 ?_
      refine ae_istore (lv' := [(6, ae_i x13), (4, ae_l x7), (2, ae_l t0), (0, ae_l v0)]) dX2_widened_63 (by decide) rfl ?_
      refine ae_lload 1 dX2_widened_65 rfl ?_
      refine ae_ldc2 dX2_widened_67 ww_891 ?_
      refine ae_land dX2_widened_70 ?_
      obtain ⟨x15, hx15, hF16⟩ := ae_ltI hF14
      refine ae_nmL hx15 ?_
      refine ae_lstore (lv' := [(7, ae_l x15), (6, ae_i x13), (4, ae_l x7), (2, ae_l t0), (0, ae_l v0)]) dX2_widened_71 (by decide) rfl ?_
      refine ae_iload 1 dX2_widened_73 rfl ?_
      refine ae_if_ne 83 dX2_widened_75 rfl (fun hb17 => ?_) (fun hb17 => ?_)
      · have hF18 := ae_ifF hb17 hF16
        refine ae_lload 0 dX2_widened_83 rfl ?_
        refine ae_ldc2 dX2_widened_85 ww_892 ?_
        refine ae_lor dX2_widened_88 ?_
        refine ae_pick (lv' := [(2, ae_l t0), (6, ae_i x13)]) [3, 1] rfl ?_
        exact t_X2_widened_89 d t0 x13 (x15 ||| (8388608 : Int64)) s0 hF18
      · have hF18 := ae_ifT hb17 hF16
        refine ae_lload 0 dX2_widened_78 rfl ?_
        refine ae_goto 89 dX2_widened_80 rfl ?_
        refine ae_pick (lv' := [(2, ae_l t0), (6, ae_i x13)]) [3, 1] rfl ?_
        exact t_X2_widened_89 d t0 x13 x15 s0 hF18
    · have hF12 := ae_ifT hb11 hF10
      refine ae_lload_n 1 dX2_widened_51 rfl ?_
      refine ae_ldc2 dX2_widened_52 ww_744 ?_
      refine ae_lor dX2_widened_55 ?_
      obtain ⟨rfl, rfl⟩ := ae_retI hF12
      exact ae_lret dX2_widened_56 rfl ⟨rfl, rfl⟩
  · have hF10 := ae_ifF hb9 hF8
    refine ae_ldc2 dX2_widened_38 ww_752 ?_
    obtain ⟨rfl, rfl⟩ := ae_retI hF10
    exact ae_lret dX2_widened_41 rfl ⟨rfl, rfl⟩
def F_X2_widened (v0 : Int64) (s0 : ae_S) : Option (Int64 × ae_S) := if (lg_cmp (v0 &&& (2147483648 : Int64)) (0 : Int64)) = 0 then (F_X2_widened_17 v0 (0 : Int64) s0) else (F_X2_widened_17 v0 (-9223372036854775808 : Int64) s0)
set_option maxHeartbeats 4000000 in
set_option maxRecDepth 100000 in
theorem c_X2_widened {l : Launch} {G : ae_G} (d : Nat) {v0 : Int64} {s0 ss : ae_S} {rr : Int64} (hF : F_X2_widened v0 s0 = some (rr, ss)) : ae_Met l G (d + 3) yX2_widened mX2_widened [ae_l v0] s0 (ae_Po (some (ae_l rr)) ss) := by
  refine ae_enter (by decide) rfl (Nat.le_of_ble_eq_true rfl) ?_
  show ae_T l G (d + 3) mX2_widened (ae_Po (some (ae_l rr)) ss) 0 [(0, ae_l v0)] [] s0
  unfold F_X2_widened at hF
  refine ae_lload_n 0 dX2_widened_0 rfl ?_
  refine ae_ldc2 dX2_widened_1 ww_888 ?_
  refine ae_land dX2_widened_4 ?_
  refine ae_lconst (0 : Int64) dX2_widened_5 (by decide) ?_
  refine ae_lcmp dX2_widened_6 ?_
  refine ae_if_ne 14 dX2_widened_7 rfl (fun hb19 => ?_) (fun hb19 => ?_)
  · have hF20 := ae_ifF hb19 hF
    refine ae_ldc2 dX2_widened_14 ww_729 ?_
    refine ae_pick (lv' := [(0, ae_l v0)]) [0] rfl ?_
    exact t_X2_widened_17 d v0 (-9223372036854775808 : Int64) s0 hF20
  · have hF20 := ae_ifT hb19 hF
    refine ae_lconst (0 : Int64) dX2_widened_10 (by decide) ?_
    refine ae_goto 17 dX2_widened_11 rfl ?_
    refine ae_pick (lv' := [(0, ae_l v0)]) [0] rfl ?_
    exact t_X2_widened_17 d v0 (0 : Int64) s0 hF20
abbrev mX2_plain : ae_M := (RX2, cX2_plain, 2, some .long)
theorem vy_X2_plain : ae_SY yX2_plain mX2_plain 1 := ⟨ww_894, ww_18, ww_895, ⟨by decide, by decide, by decide +kernel⟩, by decide⟩
theorem dX2_plain_0 : decode cX2_plain 0 = .ok (.lload_n 0, 1) := by decide +kernel
theorem dX2_plain_1 : decode cX2_plain 1 = .ok (.invokestatic 15, 3) := by decide +kernel
theorem dX2_plain_4 : decode cX2_plain 4 = .ok (.ifCond .eq 9, 3) := by decide +kernel
theorem dX2_plain_7 : decode cX2_plain 7 = .ok (.ldc2_w 19, 3) := by decide +kernel
theorem dX2_plain_10 : decode cX2_plain 10 = .ok (.goto 4, 3) := by decide +kernel
theorem dX2_plain_13 : decode cX2_plain 13 = .ok (.lload_n 0, 1) := by decide +kernel
theorem dX2_plain_14 : decode cX2_plain 14 = .ok (.lreturn, 1) := by decide +kernel
def F_X2_plain_14 (t0 : Int64) (s0 : ae_S) : Option (Int64 × ae_S) := some (t0, s0)
set_option maxHeartbeats 4000000 in
set_option maxRecDepth 100000 in
theorem t_X2_plain_14 {l : Launch} {G : ae_G} (d : Nat) {rr : Int64} {ss : ae_S} (t0 : Int64) (s0 : ae_S) (hF : F_X2_plain_14 t0 s0 = some (rr, ss)) : ae_T l G (d + 1) mX2_plain (ae_Po (some (ae_l rr)) ss) 14 [] [ae_l t0] s0 := by
  unfold F_X2_plain_14 at hF
  obtain ⟨rfl, rfl⟩ := ae_retI hF
  exact ae_lret dX2_plain_14 rfl ⟨rfl, rfl⟩
def F_X2_plain (v0 : Int64) (s0 : ae_S) : Option (Int64 × ae_S) := ae_bd (F_X2_isNan v0 s0) (fun (r1 : Int32) s2 => if r1 = 0 then (F_X2_plain_14 v0 s2) else (F_X2_plain_14 (9221120237041090560 : Int64) s2))
set_option maxHeartbeats 4000000 in
set_option maxRecDepth 100000 in
theorem c_X2_plain {l : Launch} {G : ae_G} (d : Nat) {v0 : Int64} {s0 ss : ae_S} {rr : Int64} (hF : F_X2_plain v0 s0 = some (rr, ss)) : ae_Met l G (d + 1) yX2_plain mX2_plain [ae_l v0] s0 (ae_Po (some (ae_l rr)) ss) := by
  refine ae_enter (by decide) rfl (Nat.le_of_ble_eq_true rfl) ?_
  show ae_T l G (d + 1) mX2_plain (ae_Po (some (ae_l rr)) ss) 0 [(0, ae_l v0)] [] s0
  unfold F_X2_plain at hF
  refine ae_lload_n 0 dX2_plain_0 rfl ?_
  obtain ⟨r1, s2, hc3, hF4⟩ := ae_bdI hF
  refine ae_cS1 (As := [ae_l v0]) dX2_plain_1 ww_748 vy_X2_isNan rfl rfl (Nat.le_of_ble_eq_true rfl) (c_X2_isNan d hc3) ?_
  refine ae_if_eq 13 dX2_plain_4 rfl (fun hb5 => ?_) (fun hb5 => ?_)
  · have hF6 := ae_ifT hb5 hF4
    refine ae_lload_n 0 dX2_plain_13 rfl ?_
    refine ae_pick (lv' := []) [] rfl ?_
    exact t_X2_plain_14 d v0 s2 hF6
  · have hF6 := ae_ifF hb5 hF4
    refine ae_ldc2 dX2_plain_7 ww_752 ?_
    refine ae_goto 14 dX2_plain_10 rfl ?_
    refine ae_pick (lv' := []) [] rfl ?_
    exact t_X2_plain_14 d (9221120237041090560 : Int64) s2 hF6
abbrev mX2_narrowed : ae_M := (RX2, cX2_narrowed, 4, some .long)
theorem vy_X2_narrowed : ae_SY yX2_narrowed mX2_narrowed 1 := ⟨ww_937, ww_18, ww_938, ⟨by decide, by decide, by decide +kernel⟩, by decide⟩
theorem dX2_narrowed_0 : decode cX2_narrowed 0 = .ok (.lload_n 0, 1) := by decide +kernel
theorem dX2_narrowed_1 : decode cX2_narrowed 1 = .ok (.invokestatic 15, 3) := by decide +kernel
theorem dX2_narrowed_4 : decode cX2_narrowed 4 = .ok (.ifCond .eq 7, 3) := by decide +kernel
theorem dX2_narrowed_7 : decode cX2_narrowed 7 = .ok (.ldc2_w 63, 3) := by decide +kernel
theorem dX2_narrowed_10 : decode cX2_narrowed 10 = .ok (.lreturn, 1) := by decide +kernel
theorem dX2_narrowed_11 : decode cX2_narrowed 11 = .ok (.lload_n 0, 1) := by decide +kernel
theorem dX2_narrowed_12 : decode cX2_narrowed 12 = .ok (.lconst 0, 1) := by decide +kernel
theorem dX2_narrowed_13 : decode cX2_narrowed 13 = .ok (.lcmp, 1) := by decide +kernel
theorem dX2_narrowed_14 : decode cX2_narrowed 14 = .ok (.ifCond .ge 9, 3) := by decide +kernel
theorem dX2_narrowed_17 : decode cX2_narrowed 17 = .ok (.ldc2_w 44, 3) := by decide +kernel
theorem dX2_narrowed_20 : decode cX2_narrowed 20 = .ok (.goto 4, 3) := by decide +kernel
theorem dX2_narrowed_23 : decode cX2_narrowed 23 = .ok (.lconst 0, 1) := by decide +kernel
theorem dX2_narrowed_24 : decode cX2_narrowed 24 = .ok (.lstore_n 2, 1) := by decide +kernel
theorem dX2_narrowed_25 : decode cX2_narrowed 25 = .ok (.lload_n 0, 1) := by decide +kernel
theorem dX2_narrowed_26 : decode cX2_narrowed 26 = .ok (.invokestatic 65, 3) := by decide +kernel
theorem dX2_narrowed_29 : decode cX2_narrowed 29 = .ok (.ifCond .eq 9, 3) := by decide +kernel
theorem dX2_narrowed_32 : decode cX2_narrowed 32 = .ok (.lload_n 2, 1) := by decide +kernel
theorem dX2_narrowed_33 : decode cX2_narrowed 33 = .ok (.ldc2_w 57, 3) := by decide +kernel
theorem dX2_narrowed_36 : decode cX2_narrowed 36 = .ok (.lor, 1) := by decide +kernel
theorem dX2_narrowed_37 : decode cX2_narrowed 37 = .ok (.lreturn, 1) := by decide +kernel
theorem dX2_narrowed_38 : decode cX2_narrowed 38 = .ok (.lload_n 2, 1) := by decide +kernel
theorem dX2_narrowed_39 : decode cX2_narrowed 39 = .ok (.lload_n 0, 1) := by decide +kernel
theorem dX2_narrowed_40 : decode cX2_narrowed 40 = .ok (.invokestatic 50, 3) := by decide +kernel
theorem dX2_narrowed_43 : decode cX2_narrowed 43 = .ok (.lload_n 0, 1) := by decide +kernel
theorem dX2_narrowed_44 : decode cX2_narrowed 44 = .ok (.invokestatic 46, 3) := by decide +kernel
theorem dX2_narrowed_47 : decode cX2_narrowed 47 = .ok (.iconst 1, 1) := by decide +kernel
theorem dX2_narrowed_48 : decode cX2_narrowed 48 = .ok (.invokestatic 40, 3) := by decide +kernel
theorem dX2_narrowed_51 : decode cX2_narrowed 51 = .ok (.lor, 1) := by decide +kernel
theorem dX2_narrowed_52 : decode cX2_narrowed 52 = .ok (.lreturn, 1) := by decide +kernel
def F_X2_narrowed_24 (v0 : Int64) (t0 : Int64) (s0 : ae_S) : Option (Int64 × ae_S) := ae_bd (F_X2_isInfinite v0 s0) (fun (r1 : Int32) s2 => if r1 = 0 then (ae_bd (F_X2_digitsOf v0 s2) (fun (r7 : Int64) s8 => ae_bd (F_X2_powerOf v0 s8) (fun (r11 : Int32) s12 => ae_bd (F_X2_rounded r7 r11 (1 : Int32) s12) (fun (r15 : Int64) s16 => some (t0 ||| r15, s16))))) else (some (t0 ||| (2139095040 : Int64), s2)))
set_option maxHeartbeats 4000000 in
set_option maxRecDepth 100000 in
theorem t_X2_narrowed_24 {l : Launch} {G : ae_G} (d : Nat) {rr : Int64} {ss : ae_S} (v0 : Int64) (t0 : Int64) (s0 : ae_S) (hF : F_X2_narrowed_24 v0 t0 s0 = some (rr, ss)) : ae_T l G (d + 3) mX2_narrowed (ae_Po (some (ae_l rr)) ss) 24 [(0, ae_l v0)] [ae_l t0] s0 := by
  unfold F_X2_narrowed_24 at hF
  refine ae_lstore_n (lv' := [(2, ae_l t0), (0, ae_l v0)]) dX2_narrowed_24 (by decide) rfl ?_
  refine ae_lload_n 1 dX2_narrowed_25 rfl ?_
  obtain ⟨r1, s2, hc3, hF4⟩ := ae_bdI hF
  refine ae_cS1 (As := [ae_l v0]) dX2_narrowed_26 ww_753 vy_X2_isInfinite rfl rfl (Nat.le_of_ble_eq_true rfl) (c_X2_isInfinite (d + 2) hc3) ?_
  refine ae_if_eq 38 dX2_narrowed_29 rfl (fun hb5 => ?_) (fun hb5 => ?_)
  · have hF6 := ae_ifT hb5 hF4
    refine ae_lload_n 0 dX2_narrowed_38 rfl ?_
    refine ae_lload_n 1 dX2_narrowed_39 rfl ?_
    obtain ⟨r7, s8, hc9, hF10⟩ := ae_bdI hF6
    refine ae_cS1 (As := [ae_l v0]) dX2_narrowed_40 ww_762 vy_X2_digitsOf rfl rfl (Nat.le_of_ble_eq_true rfl) (c_X2_digitsOf (d + 2) hc9) ?_
    refine ae_lload_n 1 dX2_narrowed_43 rfl ?_
    obtain ⟨r11, s12, hc13, hF14⟩ := ae_bdI hF10
    refine ae_cS1 (As := [ae_l v0]) dX2_narrowed_44 ww_767 vy_X2_powerOf rfl rfl (Nat.le_of_ble_eq_true rfl) (c_X2_powerOf (d + 1) hc13) ?_
    refine ae_iconst (1 : Int32) dX2_narrowed_47 (by decide) ?_
    obtain ⟨r15, s16, hc17, hF18⟩ := ae_bdI hF14
    refine ae_cS1 (As := [ae_l r7, ae_i r11, ae_i (1 : Int32)]) dX2_narrowed_48 ww_730 vy_X2_rounded rfl rfl (Nat.le_of_ble_eq_true rfl) (c_X2_rounded d hc17) ?_
    refine ae_lor dX2_narrowed_51 ?_
    obtain ⟨rfl, rfl⟩ := ae_retI hF18
    exact ae_lret dX2_narrowed_52 rfl ⟨rfl, rfl⟩
  · have hF6 := ae_ifF hb5 hF4
    refine ae_lload_n 0 dX2_narrowed_32 rfl ?_
    refine ae_ldc2 dX2_narrowed_33 ww_743 ?_
    refine ae_lor dX2_narrowed_36 ?_
    obtain ⟨rfl, rfl⟩ := ae_retI hF6
    exact ae_lret dX2_narrowed_37 rfl ⟨rfl, rfl⟩
def F_X2_narrowed (v0 : Int64) (s0 : ae_S) : Option (Int64 × ae_S) := ae_bd (F_X2_isNan v0 s0) (fun (r19 : Int32) s20 => if r19 = 0 then (if 0 ≤ (lg_cmp v0 (0 : Int64)) then (F_X2_narrowed_24 v0 (0 : Int64) s20) else (F_X2_narrowed_24 v0 (2147483648 : Int64) s20)) else (some ((2143289344 : Int64), s20)))
set_option maxHeartbeats 4000000 in
set_option maxRecDepth 100000 in
theorem c_X2_narrowed {l : Launch} {G : ae_G} (d : Nat) {v0 : Int64} {s0 ss : ae_S} {rr : Int64} (hF : F_X2_narrowed v0 s0 = some (rr, ss)) : ae_Met l G (d + 3) yX2_narrowed mX2_narrowed [ae_l v0] s0 (ae_Po (some (ae_l rr)) ss) := by
  refine ae_enter (by decide) rfl (Nat.le_of_ble_eq_true rfl) ?_
  show ae_T l G (d + 3) mX2_narrowed (ae_Po (some (ae_l rr)) ss) 0 [(0, ae_l v0)] [] s0
  unfold F_X2_narrowed at hF
  refine ae_lload_n 0 dX2_narrowed_0 rfl ?_
  obtain ⟨r19, s20, hc21, hF22⟩ := ae_bdI hF
  refine ae_cS1 (As := [ae_l v0]) dX2_narrowed_1 ww_748 vy_X2_isNan rfl rfl (Nat.le_of_ble_eq_true rfl) (c_X2_isNan (d + 2) hc21) ?_
  refine ae_if_eq 11 dX2_narrowed_4 rfl (fun hb23 => ?_) (fun hb23 => ?_)
  · have hF24 := ae_ifT hb23 hF22
    refine ae_lload_n 0 dX2_narrowed_11 rfl ?_
    refine ae_lconst (0 : Int64) dX2_narrowed_12 (by decide) ?_
    refine ae_lcmp dX2_narrowed_13 ?_
    refine ae_if_ge 23 dX2_narrowed_14 rfl (fun hb25 => ?_) (fun hb25 => ?_)
    · have hF26 := ae_ifT hb25 hF24
      refine ae_lconst (0 : Int64) dX2_narrowed_23 (by decide) ?_
      refine ae_pick (lv' := [(0, ae_l v0)]) [0] rfl ?_
      exact t_X2_narrowed_24 d v0 (0 : Int64) s20 hF26
    · have hF26 := ae_ifF hb25 hF24
      refine ae_ldc2 dX2_narrowed_17 ww_888 ?_
      refine ae_goto 24 dX2_narrowed_20 rfl ?_
      refine ae_pick (lv' := [(0, ae_l v0)]) [0] rfl ?_
      exact t_X2_narrowed_24 d v0 (2147483648 : Int64) s20 hF26
  · have hF24 := ae_ifF hb23 hF22
    refine ae_ldc2 dX2_narrowed_7 ww_939 ?_
    obtain ⟨rfl, rfl⟩ := ae_retI hF24
    exact ae_lret dX2_narrowed_10 rfl ⟨rfl, rfl⟩
abbrev mX2_smallOfWhole : ae_M := (RX2, cX2_smallOfWhole, 2, some .long)
theorem vy_X2_smallOfWhole : ae_SY yX2_smallOfWhole mX2_smallOfWhole 1 := ⟨ww_946, ww_18, ww_947, ⟨by decide, by decide, by decide +kernel⟩, by decide⟩
theorem dX2_smallOfWhole_0 : decode cX2_smallOfWhole 0 = .ok (.lload_n 0, 1) := by decide +kernel
theorem dX2_smallOfWhole_1 : decode cX2_smallOfWhole 1 = .ok (.lconst 0, 1) := by decide +kernel
theorem dX2_smallOfWhole_2 : decode cX2_smallOfWhole 2 = .ok (.lcmp, 1) := by decide +kernel
theorem dX2_smallOfWhole_3 : decode cX2_smallOfWhole 3 = .ok (.ifCond .ge 9, 3) := by decide +kernel
theorem dX2_smallOfWhole_6 : decode cX2_smallOfWhole 6 = .ok (.ldc2_w 44, 3) := by decide +kernel
theorem dX2_smallOfWhole_9 : decode cX2_smallOfWhole 9 = .ok (.goto 4, 3) := by decide +kernel
theorem dX2_smallOfWhole_12 : decode cX2_smallOfWhole 12 = .ok (.lconst 0, 1) := by decide +kernel
theorem dX2_smallOfWhole_13 : decode cX2_smallOfWhole 13 = .ok (.lload_n 0, 1) := by decide +kernel
theorem dX2_smallOfWhole_14 : decode cX2_smallOfWhole 14 = .ok (.lconst 0, 1) := by decide +kernel
theorem dX2_smallOfWhole_15 : decode cX2_smallOfWhole 15 = .ok (.lcmp, 1) := by decide +kernel
theorem dX2_smallOfWhole_16 : decode cX2_smallOfWhole 16 = .ok (.ifCond .ge 8, 3) := by decide +kernel
theorem dX2_smallOfWhole_19 : decode cX2_smallOfWhole 19 = .ok (.lload_n 0, 1) := by decide +kernel
theorem dX2_smallOfWhole_20 : decode cX2_smallOfWhole 20 = .ok (.lneg, 1) := by decide +kernel
theorem dX2_smallOfWhole_21 : decode cX2_smallOfWhole 21 = .ok (.goto 4, 3) := by decide +kernel
theorem dX2_smallOfWhole_24 : decode cX2_smallOfWhole 24 = .ok (.lload_n 0, 1) := by decide +kernel
theorem dX2_smallOfWhole_25 : decode cX2_smallOfWhole 25 = .ok (.iconst 0, 1) := by decide +kernel
theorem dX2_smallOfWhole_26 : decode cX2_smallOfWhole 26 = .ok (.iconst 1, 1) := by decide +kernel
theorem dX2_smallOfWhole_27 : decode cX2_smallOfWhole 27 = .ok (.invokestatic 40, 3) := by decide +kernel
theorem dX2_smallOfWhole_30 : decode cX2_smallOfWhole 30 = .ok (.lor, 1) := by decide +kernel
theorem dX2_smallOfWhole_31 : decode cX2_smallOfWhole 31 = .ok (.lreturn, 1) := by decide +kernel
def F_X2_smallOfWhole_25 (t0 : Int64) (t1 : Int64) (s0 : ae_S) : Option (Int64 × ae_S) := ae_bd (F_X2_rounded t0 (0 : Int32) (1 : Int32) s0) (fun (r1 : Int64) s2 => some (t1 ||| r1, s2))
set_option maxHeartbeats 4000000 in
set_option maxRecDepth 100000 in
theorem t_X2_smallOfWhole_25 {l : Launch} {G : ae_G} (d : Nat) {rr : Int64} {ss : ae_S} (t0 : Int64) (t1 : Int64) (s0 : ae_S) (hF : F_X2_smallOfWhole_25 t0 t1 s0 = some (rr, ss)) : ae_T l G (d + 3) mX2_smallOfWhole (ae_Po (some (ae_l rr)) ss) 25 [] [ae_l t0, ae_l t1] s0 := by
  unfold F_X2_smallOfWhole_25 at hF
  refine ae_iconst (0 : Int32) dX2_smallOfWhole_25 (by decide) ?_
  refine ae_iconst (1 : Int32) dX2_smallOfWhole_26 (by decide) ?_
  obtain ⟨r1, s2, hc3, hF4⟩ := ae_bdI hF
  refine ae_cS1 (As := [ae_l t0, ae_i (0 : Int32), ae_i (1 : Int32)]) dX2_smallOfWhole_27 ww_730 vy_X2_rounded rfl rfl (Nat.le_of_ble_eq_true rfl) (c_X2_rounded d hc3) ?_
  refine ae_lor dX2_smallOfWhole_30 ?_
  obtain ⟨rfl, rfl⟩ := ae_retI hF4
  exact ae_lret dX2_smallOfWhole_31 rfl ⟨rfl, rfl⟩
def F_X2_smallOfWhole_13 (v0 : Int64) (t0 : Int64) (s0 : ae_S) : Option (Int64 × ae_S) := if 0 ≤ (lg_cmp v0 (0 : Int64)) then (F_X2_smallOfWhole_25 v0 t0 s0) else (F_X2_smallOfWhole_25 (-v0) t0 s0)
set_option maxHeartbeats 4000000 in
set_option maxRecDepth 100000 in
theorem t_X2_smallOfWhole_13 {l : Launch} {G : ae_G} (d : Nat) {rr : Int64} {ss : ae_S} (v0 : Int64) (t0 : Int64) (s0 : ae_S) (hF : F_X2_smallOfWhole_13 v0 t0 s0 = some (rr, ss)) : ae_T l G (d + 3) mX2_smallOfWhole (ae_Po (some (ae_l rr)) ss) 13 [(0, ae_l v0)] [ae_l t0] s0 := by
  unfold F_X2_smallOfWhole_13 at hF
  refine ae_lload_n 0 dX2_smallOfWhole_13 rfl ?_
  refine ae_lconst (0 : Int64) dX2_smallOfWhole_14 (by decide) ?_
  refine ae_lcmp dX2_smallOfWhole_15 ?_
  refine ae_if_ge 24 dX2_smallOfWhole_16 rfl (fun hb5 => ?_) (fun hb5 => ?_)
  · have hF6 := ae_ifT hb5 hF
    refine ae_lload_n 0 dX2_smallOfWhole_24 rfl ?_
    refine ae_pick (lv' := []) [] rfl ?_
    exact t_X2_smallOfWhole_25 d v0 t0 s0 hF6
  · have hF6 := ae_ifF hb5 hF
    refine ae_lload_n 0 dX2_smallOfWhole_19 rfl ?_
    refine ae_lneg dX2_smallOfWhole_20 ?_
    refine ae_goto 25 dX2_smallOfWhole_21 rfl ?_
    refine ae_pick (lv' := []) [] rfl ?_
    exact t_X2_smallOfWhole_25 d (-v0) t0 s0 hF6
def F_X2_smallOfWhole (v0 : Int64) (s0 : ae_S) : Option (Int64 × ae_S) := if 0 ≤ (lg_cmp v0 (0 : Int64)) then (F_X2_smallOfWhole_13 v0 (0 : Int64) s0) else (F_X2_smallOfWhole_13 v0 (2147483648 : Int64) s0)
set_option maxHeartbeats 4000000 in
set_option maxRecDepth 100000 in
theorem c_X2_smallOfWhole {l : Launch} {G : ae_G} (d : Nat) {v0 : Int64} {s0 ss : ae_S} {rr : Int64} (hF : F_X2_smallOfWhole v0 s0 = some (rr, ss)) : ae_Met l G (d + 3) yX2_smallOfWhole mX2_smallOfWhole [ae_l v0] s0 (ae_Po (some (ae_l rr)) ss) := by
  refine ae_enter (by decide) rfl (Nat.le_of_ble_eq_true rfl) ?_
  show ae_T l G (d + 3) mX2_smallOfWhole (ae_Po (some (ae_l rr)) ss) 0 [(0, ae_l v0)] [] s0
  unfold F_X2_smallOfWhole at hF
  refine ae_lload_n 0 dX2_smallOfWhole_0 rfl ?_
  refine ae_lconst (0 : Int64) dX2_smallOfWhole_1 (by decide) ?_
  refine ae_lcmp dX2_smallOfWhole_2 ?_
  refine ae_if_ge 12 dX2_smallOfWhole_3 rfl (fun hb7 => ?_) (fun hb7 => ?_)
  · have hF8 := ae_ifT hb7 hF
    refine ae_lconst (0 : Int64) dX2_smallOfWhole_12 (by decide) ?_
    refine ae_pick (lv' := [(0, ae_l v0)]) [0] rfl ?_
    exact t_X2_smallOfWhole_13 d v0 (0 : Int64) s0 hF8
  · have hF8 := ae_ifF hb7 hF
    refine ae_ldc2 dX2_smallOfWhole_6 ww_888 ?_
    refine ae_goto 13 dX2_smallOfWhole_9 rfl ?_
    refine ae_pick (lv' := [(0, ae_l v0)]) [0] rfl ?_
    exact t_X2_smallOfWhole_13 d v0 (2147483648 : Int64) s0 hF8
abbrev mX2_negative : ae_M := (RX2, cX2_negative, 2, some .long)
theorem vy_X2_negative : ae_SY yX2_negative mX2_negative 1 := ⟨ww_964, ww_18, ww_965, ⟨by decide, by decide, by decide +kernel⟩, by decide⟩
theorem dX2_negative_0 : decode cX2_negative 0 = .ok (.lload_n 0, 1) := by decide +kernel
theorem dX2_negative_1 : decode cX2_negative 1 = .ok (.invokestatic 15, 3) := by decide +kernel
theorem dX2_negative_4 : decode cX2_negative 4 = .ok (.ifCond .eq 9, 3) := by decide +kernel
theorem dX2_negative_7 : decode cX2_negative 7 = .ok (.ldc2_w 19, 3) := by decide +kernel
theorem dX2_negative_10 : decode cX2_negative 10 = .ok (.goto 8, 3) := by decide +kernel
theorem dX2_negative_13 : decode cX2_negative 13 = .ok (.lload_n 0, 1) := by decide +kernel
theorem dX2_negative_14 : decode cX2_negative 14 = .ok (.ldc2_w 21, 3) := by decide +kernel
theorem dX2_negative_17 : decode cX2_negative 17 = .ok (.lxor, 1) := by decide +kernel
theorem dX2_negative_18 : decode cX2_negative 18 = .ok (.lreturn, 1) := by decide +kernel
def F_X2_negative_18 (t0 : Int64) (s0 : ae_S) : Option (Int64 × ae_S) := some (t0, s0)
set_option maxHeartbeats 4000000 in
set_option maxRecDepth 100000 in
theorem t_X2_negative_18 {l : Launch} {G : ae_G} (d : Nat) {rr : Int64} {ss : ae_S} (t0 : Int64) (s0 : ae_S) (hF : F_X2_negative_18 t0 s0 = some (rr, ss)) : ae_T l G (d + 1) mX2_negative (ae_Po (some (ae_l rr)) ss) 18 [] [ae_l t0] s0 := by
  unfold F_X2_negative_18 at hF
  obtain ⟨rfl, rfl⟩ := ae_retI hF
  exact ae_lret dX2_negative_18 rfl ⟨rfl, rfl⟩
def F_X2_negative (v0 : Int64) (s0 : ae_S) : Option (Int64 × ae_S) := ae_bd (F_X2_isNan v0 s0) (fun (r1 : Int32) s2 => if r1 = 0 then (F_X2_negative_18 (v0 ^^^ (-9223372036854775808 : Int64)) s2) else (F_X2_negative_18 (9221120237041090560 : Int64) s2))
set_option maxHeartbeats 4000000 in
set_option maxRecDepth 100000 in
theorem c_X2_negative {l : Launch} {G : ae_G} (d : Nat) {v0 : Int64} {s0 ss : ae_S} {rr : Int64} (hF : F_X2_negative v0 s0 = some (rr, ss)) : ae_Met l G (d + 1) yX2_negative mX2_negative [ae_l v0] s0 (ae_Po (some (ae_l rr)) ss) := by
  refine ae_enter (by decide) rfl (Nat.le_of_ble_eq_true rfl) ?_
  show ae_T l G (d + 1) mX2_negative (ae_Po (some (ae_l rr)) ss) 0 [(0, ae_l v0)] [] s0
  unfold F_X2_negative at hF
  refine ae_lload_n 0 dX2_negative_0 rfl ?_
  obtain ⟨r1, s2, hc3, hF4⟩ := ae_bdI hF
  refine ae_cS1 (As := [ae_l v0]) dX2_negative_1 ww_748 vy_X2_isNan rfl rfl (Nat.le_of_ble_eq_true rfl) (c_X2_isNan d hc3) ?_
  refine ae_if_eq 13 dX2_negative_4 rfl (fun hb5 => ?_) (fun hb5 => ?_)
  · have hF6 := ae_ifT hb5 hF4
    refine ae_lload_n 0 dX2_negative_13 rfl ?_
    refine ae_ldc2 dX2_negative_14 ww_729 ?_
    refine ae_lxor dX2_negative_17 ?_
    refine ae_pick (lv' := []) [] rfl ?_
    exact t_X2_negative_18 d (v0 ^^^ (-9223372036854775808 : Int64)) s2 hF6
  · have hF6 := ae_ifF hb5 hF4
    refine ae_ldc2 dX2_negative_7 ww_752 ?_
    refine ae_goto 18 dX2_negative_10 rfl ?_
    refine ae_pick (lv' := []) [] rfl ?_
    exact t_X2_negative_18 d (9221120237041090560 : Int64) s2 hF6
abbrev mX2_product : ae_M := (RX2, cX2_product, 18, some .long)
theorem vy_X2_product : ae_SY yX2_product mX2_product 3 := ⟨ww_993, ww_18, ww_994, ⟨by decide, by decide, by decide +kernel⟩, by decide⟩
theorem dX2_product_0 : decode cX2_product 0 = .ok (.lload_n 0, 1) := by decide +kernel
theorem dX2_product_1 : decode cX2_product 1 = .ok (.ldc2_w 86, 3) := by decide +kernel
theorem dX2_product_4 : decode cX2_product 4 = .ok (.land, 1) := by decide +kernel
theorem dX2_product_5 : decode cX2_product 5 = .ok (.lload_n 2, 1) := by decide +kernel
theorem dX2_product_6 : decode cX2_product 6 = .ok (.ldc2_w 86, 3) := by decide +kernel
theorem dX2_product_9 : decode cX2_product 9 = .ok (.land, 1) := by decide +kernel
theorem dX2_product_10 : decode cX2_product 10 = .ok (.lmul, 1) := by decide +kernel
theorem dX2_product_11 : decode cX2_product 11 = .ok (.lstore 5, 2) := by decide +kernel
theorem dX2_product_13 : decode cX2_product 13 = .ok (.lload_n 0, 1) := by decide +kernel
theorem dX2_product_14 : decode cX2_product 14 = .ok (.bipush 26, 2) := by decide +kernel
theorem dX2_product_16 : decode cX2_product 16 = .ok (.lushr, 1) := by decide +kernel
theorem dX2_product_17 : decode cX2_product 17 = .ok (.lload_n 2, 1) := by decide +kernel
theorem dX2_product_18 : decode cX2_product 18 = .ok (.ldc2_w 86, 3) := by decide +kernel
theorem dX2_product_21 : decode cX2_product 21 = .ok (.land, 1) := by decide +kernel
theorem dX2_product_22 : decode cX2_product 22 = .ok (.lmul, 1) := by decide +kernel
theorem dX2_product_23 : decode cX2_product 23 = .ok (.lload_n 0, 1) := by decide +kernel
theorem dX2_product_24 : decode cX2_product 24 = .ok (.ldc2_w 86, 3) := by decide +kernel
theorem dX2_product_27 : decode cX2_product 27 = .ok (.land, 1) := by decide +kernel
theorem dX2_product_28 : decode cX2_product 28 = .ok (.lload_n 2, 1) := by decide +kernel
theorem dX2_product_29 : decode cX2_product 29 = .ok (.bipush 26, 2) := by decide +kernel
theorem dX2_product_31 : decode cX2_product 31 = .ok (.lushr, 1) := by decide +kernel
theorem dX2_product_32 : decode cX2_product 32 = .ok (.lmul, 1) := by decide +kernel
theorem dX2_product_33 : decode cX2_product 33 = .ok (.ladd, 1) := by decide +kernel
theorem dX2_product_34 : decode cX2_product 34 = .ok (.lload 5, 2) := by decide +kernel
theorem dX2_product_36 : decode cX2_product 36 = .ok (.bipush 26, 2) := by decide +kernel
theorem dX2_product_38 : decode cX2_product 38 = .ok (.lushr, 1) := by decide +kernel
theorem dX2_product_39 : decode cX2_product 39 = .ok (.ladd, 1) := by decide +kernel
theorem dX2_product_40 : decode cX2_product 40 = .ok (.lstore 7, 2) := by decide +kernel
theorem dX2_product_42 : decode cX2_product 42 = .ok (.lload_n 0, 1) := by decide +kernel
theorem dX2_product_43 : decode cX2_product 43 = .ok (.bipush 26, 2) := by decide +kernel
theorem dX2_product_45 : decode cX2_product 45 = .ok (.lushr, 1) := by decide +kernel
theorem dX2_product_46 : decode cX2_product 46 = .ok (.lload_n 2, 1) := by decide +kernel
theorem dX2_product_47 : decode cX2_product 47 = .ok (.bipush 26, 2) := by decide +kernel
theorem dX2_product_49 : decode cX2_product 49 = .ok (.lushr, 1) := by decide +kernel
theorem dX2_product_50 : decode cX2_product 50 = .ok (.lmul, 1) := by decide +kernel
theorem dX2_product_51 : decode cX2_product 51 = .ok (.lload 7, 2) := by decide +kernel
theorem dX2_product_53 : decode cX2_product 53 = .ok (.bipush 26, 2) := by decide +kernel
theorem dX2_product_55 : decode cX2_product 55 = .ok (.lushr, 1) := by decide +kernel
theorem dX2_product_56 : decode cX2_product 56 = .ok (.ladd, 1) := by decide +kernel
theorem dX2_product_57 : decode cX2_product 57 = .ok (.lstore 9, 2) := by decide +kernel
theorem dX2_product_59 : decode cX2_product 59 = .ok (.lload 7, 2) := by decide +kernel
theorem dX2_product_61 : decode cX2_product 61 = .ok (.ldc2_w 86, 3) := by decide +kernel
theorem dX2_product_64 : decode cX2_product 64 = .ok (.land, 1) := by decide +kernel
theorem dX2_product_65 : decode cX2_product 65 = .ok (.bipush 26, 2) := by decide +kernel
theorem dX2_product_67 : decode cX2_product 67 = .ok (.lshl, 1) := by decide +kernel
theorem dX2_product_68 : decode cX2_product 68 = .ok (.lload 5, 2) := by decide +kernel
theorem dX2_product_70 : decode cX2_product 70 = .ok (.ldc2_w 86, 3) := by decide +kernel
theorem dX2_product_73 : decode cX2_product 73 = .ok (.land, 1) := by decide +kernel
theorem dX2_product_74 : decode cX2_product 74 = .ok (.lor, 1) := by decide +kernel
theorem dX2_product_75 : decode cX2_product 75 = .ok (.lstore 11, 2) := by decide +kernel
theorem dX2_product_77 : decode cX2_product 77 = .ok (.bipush 44, 2) := by decide +kernel
theorem dX2_product_79 : decode cX2_product 79 = .ok (.istore 13, 2) := by decide +kernel
theorem dX2_product_81 : decode cX2_product 81 = .ok (.lload 11, 2) := by decide +kernel
theorem dX2_product_83 : decode cX2_product 83 = .ok (.lconst 1, 1) := by decide +kernel
theorem dX2_product_84 : decode cX2_product 84 = .ok (.iload 13, 2) := by decide +kernel
theorem dX2_product_86 : decode cX2_product 86 = .ok (.lshl, 1) := by decide +kernel
theorem dX2_product_87 : decode cX2_product 87 = .ok (.lconst 1, 1) := by decide +kernel
theorem dX2_product_88 : decode cX2_product 88 = .ok (.lsub, 1) := by decide +kernel
theorem dX2_product_89 : decode cX2_product 89 = .ok (.land, 1) := by decide +kernel
theorem dX2_product_90 : decode cX2_product 90 = .ok (.lstore 14, 2) := by decide +kernel
theorem dX2_product_92 : decode cX2_product 92 = .ok (.lload 9, 2) := by decide +kernel
theorem dX2_product_94 : decode cX2_product 94 = .ok (.bipush 8, 2) := by decide +kernel
theorem dX2_product_96 : decode cX2_product 96 = .ok (.lshl, 1) := by decide +kernel
theorem dX2_product_97 : decode cX2_product 97 = .ok (.lload 11, 2) := by decide +kernel
theorem dX2_product_99 : decode cX2_product 99 = .ok (.iload 13, 2) := by decide +kernel
theorem dX2_product_101 : decode cX2_product 101 = .ok (.lushr, 1) := by decide +kernel
theorem dX2_product_102 : decode cX2_product 102 = .ok (.lor, 1) := by decide +kernel
theorem dX2_product_103 : decode cX2_product 103 = .ok (.lload 14, 2) := by decide +kernel
theorem dX2_product_105 : decode cX2_product 105 = .ok (.lconst 0, 1) := by decide +kernel
theorem dX2_product_106 : decode cX2_product 106 = .ok (.lcmp, 1) := by decide +kernel
theorem dX2_product_107 : decode cX2_product 107 = .ok (.ifCond .ne 7, 3) := by decide +kernel
theorem dX2_product_110 : decode cX2_product 110 = .ok (.iconst 0, 1) := by decide +kernel
theorem dX2_product_111 : decode cX2_product 111 = .ok (.goto 4, 3) := by decide +kernel
theorem dX2_product_114 : decode cX2_product 114 = .ok (.iconst 1, 1) := by decide +kernel
theorem dX2_product_115 : decode cX2_product 115 = .ok (.i2l, 1) := by decide +kernel
theorem dX2_product_116 : decode cX2_product 116 = .ok (.lor, 1) := by decide +kernel
theorem dX2_product_117 : decode cX2_product 117 = .ok (.lstore 16, 2) := by decide +kernel
theorem dX2_product_119 : decode cX2_product 119 = .ok (.lload 16, 2) := by decide +kernel
theorem dX2_product_121 : decode cX2_product 121 = .ok (.iload 4, 2) := by decide +kernel
theorem dX2_product_123 : decode cX2_product 123 = .ok (.iload 13, 2) := by decide +kernel
theorem dX2_product_125 : decode cX2_product 125 = .ok (.iadd, 1) := by decide +kernel
theorem dX2_product_126 : decode cX2_product 126 = .ok (.iconst 0, 1) := by decide +kernel
theorem dX2_product_127 : decode cX2_product 127 = .ok (.invokestatic 40, 3) := by decide +kernel
theorem dX2_product_130 : decode cX2_product 130 = .ok (.lreturn, 1) := by decide +kernel
def F_X2_product_115 (v4 : Int32) (v13 : Int32) (t0 : Int32) (t1 : Int64) (s0 : ae_S) : Option (Int64 × ae_S) := ae_lt (t1 ||| t0.toInt64) (fun x1 => ae_bd (F_X2_rounded x1 (v4 + v13) (0 : Int32) s0) (fun (r3 : Int64) s4 => some (r3, s4)))
set_option maxHeartbeats 4000000 in
set_option maxRecDepth 100000 in
theorem t_X2_product_115 {l : Launch} {G : ae_G} (d : Nat) {rr : Int64} {ss : ae_S} (v4 : Int32) (v13 : Int32) (t0 : Int32) (t1 : Int64) (s0 : ae_S) (hF : F_X2_product_115 v4 v13 t0 t1 s0 = some (rr, ss)) : ae_T l G (d + 3) mX2_product (ae_Po (some (ae_l rr)) ss) 115 [(4, ae_i v4), (13, ae_i v13)] [ae_i t0, ae_l t1] s0 := by
  unfold F_X2_product_115 at hF
  refine ae_i2l dX2_product_115 ?_
  refine ae_lor dX2_product_116 ?_
  obtain ⟨x1, hx1, hF2⟩ := ae_ltI hF
  refine ae_nmL hx1 ?_
  refine ae_lstore (lv' := [(16, ae_l x1), (4, ae_i v4), (13, ae_i v13)]) dX2_product_117 (by decide) rfl ?_
  refine ae_lload 0 dX2_product_119 rfl ?_
  refine ae_iload 1 dX2_product_121 rfl ?_
  refine ae_iload 2 dX2_product_123 rfl ?_
  refine ae_iadd dX2_product_125 ?_
  refine ae_iconst (0 : Int32) dX2_product_126 (by decide) ?_
  obtain ⟨r3, s4, hc5, hF6⟩ := ae_bdI hF2
  refine ae_cS1 (As := [ae_l x1, ae_i (v4 + v13), ae_i (0 : Int32)]) dX2_product_127 ww_730 vy_X2_rounded rfl rfl (Nat.le_of_ble_eq_true rfl) (c_X2_rounded d hc5) ?_
  obtain ⟨rfl, rfl⟩ := ae_retI hF6
  exact ae_lret dX2_product_130 rfl ⟨rfl, rfl⟩
def F_X2_product (v0 : Int64) (v2 : Int64) (v4 : Int32) (s0 : ae_S) : Option (Int64 × ae_S) := ae_lt ((v0 &&& (67108863 : Int64)) * (v2 &&& (67108863 : Int64))) (fun x7 => ae_lt (((((v0.toUInt64 >>> ((26 : Int32).toInt64.toUInt64 &&& Int64.toUInt64 63)).toInt64) * (v2 &&& (67108863 : Int64))) + ((v0 &&& (67108863 : Int64)) * ((v2.toUInt64 >>> ((26 : Int32).toInt64.toUInt64 &&& Int64.toUInt64 63)).toInt64))) + ((x7.toUInt64 >>> ((26 : Int32).toInt64.toUInt64 &&& Int64.toUInt64 63)).toInt64)) (fun x9 => ae_lt ((((v0.toUInt64 >>> ((26 : Int32).toInt64.toUInt64 &&& Int64.toUInt64 63)).toInt64) * ((v2.toUInt64 >>> ((26 : Int32).toInt64.toUInt64 &&& Int64.toUInt64 63)).toInt64)) + ((x9.toUInt64 >>> ((26 : Int32).toInt64.toUInt64 &&& Int64.toUInt64 63)).toInt64)) (fun x11 => ae_lt (((x9 &&& (67108863 : Int64)) <<< ((26 : Int32).toInt64 &&& 63)) ||| (x7 &&& (67108863 : Int64))) (fun x13 => ae_lt (x13 &&& (((1 : Int64) <<< ((44 : Int32).toInt64 &&& 63)) - (1 : Int64))) (fun x15 => if (lg_cmp x15 (0 : Int64)) = 0 then (F_X2_product_115 v4 (44 : Int32) (0 : Int32) ((x11 <<< ((8 : Int32).toInt64 &&& 63)) ||| ((x13.toUInt64 >>> ((44 : Int32).toInt64.toUInt64 &&& Int64.toUInt64 63)).toInt64)) s0) else (F_X2_product_115 v4 (44 : Int32) (1 : Int32) ((x11 <<< ((8 : Int32).toInt64 &&& 63)) ||| ((x13.toUInt64 >>> ((44 : Int32).toInt64.toUInt64 &&& Int64.toUInt64 63)).toInt64)) s0))))))
set_option maxHeartbeats 4000000 in
set_option maxRecDepth 100000 in
theorem c_X2_product {l : Launch} {G : ae_G} (d : Nat) {v0 : Int64} {v2 : Int64} {v4 : Int32} {s0 ss : ae_S} {rr : Int64} (hF : F_X2_product v0 v2 v4 s0 = some (rr, ss)) : ae_Met l G (d + 3) yX2_product mX2_product [ae_l v0, ae_l v2, ae_i v4] s0 (ae_Po (some (ae_l rr)) ss) := by
  refine ae_enter (by decide) rfl (Nat.le_of_ble_eq_true rfl) ?_
  show ae_T l G (d + 3) mX2_product (ae_Po (some (ae_l rr)) ss) 0 [(0, ae_l v0), (2, ae_l v2), (4, ae_i v4)] [] s0
  unfold F_X2_product at hF
  refine ae_lload_n 0 dX2_product_0 rfl ?_
  refine ae_ldc2 dX2_product_1 ww_995 ?_
  refine ae_land dX2_product_4 ?_
  refine ae_lload_n 1 dX2_product_5 rfl ?_
  refine ae_ldc2 dX2_product_6 ww_995 ?_
  refine ae_land dX2_product_9 ?_
  refine ae_lmul dX2_product_10 ?_
  obtain ⟨x7, hx7, hF8⟩ := ae_ltI hF
  refine ae_nmL hx7 ?_
  refine ae_lstore (lv' := [(5, ae_l x7), (0, ae_l v0), (2, ae_l v2), (4, ae_i v4)]) dX2_product_11 (by decide) rfl ?_
  refine ae_lload_n 1 dX2_product_13 rfl ?_
  refine ae_bipush (26 : Int32) dX2_product_14 (by decide) ?_
  refine ae_lushr dX2_product_16 ?_
  refine ae_lload_n 2 dX2_product_17 rfl ?_
  refine ae_ldc2 dX2_product_18 ww_995 ?_
  refine ae_land dX2_product_21 ?_
  refine ae_lmul dX2_product_22 ?_
  refine ae_lload_n 1 dX2_product_23 rfl ?_
  refine ae_ldc2 dX2_product_24 ww_995 ?_
  refine ae_land dX2_product_27 ?_
  refine ae_lload_n 2 dX2_product_28 rfl ?_
  refine ae_bipush (26 : Int32) dX2_product_29 (by decide) ?_
  refine ae_lushr dX2_product_31 ?_
  refine ae_lmul dX2_product_32 ?_
  refine ae_ladd dX2_product_33 ?_
  refine ae_lload 0 dX2_product_34 rfl ?_
  refine ae_bipush (26 : Int32) dX2_product_36 (by decide) ?_
  refine ae_lushr dX2_product_38 ?_
  refine ae_ladd dX2_product_39 ?_
  obtain ⟨x9, hx9, hF10⟩ := ae_ltI hF8
  refine ae_nmL hx9 ?_
  refine ae_lstore (lv' := [(7, ae_l x9), (5, ae_l x7), (0, ae_l v0), (2, ae_l v2), (4, ae_i v4)]) dX2_product_40 (by decide) rfl ?_
  refine ae_lload_n 2 dX2_product_42 rfl ?_
  refine ae_bipush (26 : Int32) dX2_product_43 (by decide) ?_
  refine ae_lushr dX2_product_45 ?_
  refine ae_lload_n 3 dX2_product_46 rfl ?_
  refine ae_bipush (26 : Int32) dX2_product_47 (by decide) ?_
  refine ae_lushr dX2_product_49 ?_
  refine ae_lmul dX2_product_50 ?_
  refine ae_lload 0 dX2_product_51 rfl ?_
  refine ae_bipush (26 : Int32) dX2_product_53 (by decide) ?_
  refine ae_lushr dX2_product_55 ?_
  refine ae_ladd dX2_product_56 ?_
  obtain ⟨x11, hx11, hF12⟩ := ae_ltI hF10
  refine ae_nmL hx11 ?_
  refine ae_lstore (lv' := [(9, ae_l x11), (7, ae_l x9), (5, ae_l x7), (0, ae_l v0), (2, ae_l v2), (4, ae_i v4)]) dX2_product_57 (by decide) rfl ?_
  refine ae_lload 1 dX2_product_59 rfl ?_
  refine ae_ldc2 dX2_product_61 ww_995 ?_
  refine ae_land dX2_product_64 ?_
  refine ae_bipush (26 : Int32) dX2_product_65 (by decide) ?_
  refine ae_lshl dX2_product_67 ?_
  refine ae_lload 2 dX2_product_68 rfl ?_
  refine ae_ldc2 dX2_product_70 ww_995 ?_
  refine ae_land dX2_product_73 ?_
  refine ae_lor dX2_product_74 ?_
  obtain ⟨x13, hx13, hF14⟩ := ae_ltI hF12
  refine ae_nmL hx13 ?_
  refine ae_lstore (lv' := [(11, ae_l x13), (9, ae_l x11), (7, ae_l x9), (5, ae_l x7), (0, ae_l v0), (2, ae_l v2), (4, ae_i v4)]) dX2_product_75 (by decide) rfl ?_
  refine ae_bipush (44 : Int32) dX2_product_77 (by decide) ?_
  refine ae_istore (lv' := [(13, ae_i (44 : Int32)), (11, ae_l x13), (9, ae_l x11), (7, ae_l x9), (5, ae_l x7), (0, ae_l v0), (2, ae_l v2), (4, ae_i v4)]) dX2_product_79 (by decide) rfl ?_
  refine ae_lload 1 dX2_product_81 rfl ?_
  refine ae_lconst (1 : Int64) dX2_product_83 (by decide) ?_
  refine ae_iload 0 dX2_product_84 rfl ?_
  refine ae_lshl dX2_product_86 ?_
  refine ae_lconst (1 : Int64) dX2_product_87 (by decide) ?_
  refine ae_lsub dX2_product_88 ?_
  refine ae_land dX2_product_89 ?_
  obtain ⟨x15, hx15, hF16⟩ := ae_ltI hF14
  refine ae_nmL hx15 ?_
  refine ae_lstore (lv' := [(14, ae_l x15), (13, ae_i (44 : Int32)), (11, ae_l x13), (9, ae_l x11), (7, ae_l x9), (5, ae_l x7), (0, ae_l v0), (2, ae_l v2), (4, ae_i v4)]) dX2_product_90 (by decide) rfl ?_
  refine ae_lload 3 dX2_product_92 rfl ?_
  refine ae_bipush (8 : Int32) dX2_product_94 (by decide) ?_
  refine ae_lshl dX2_product_96 ?_
  refine ae_lload 2 dX2_product_97 rfl ?_
  refine ae_iload 1 dX2_product_99 rfl ?_
  refine ae_lushr dX2_product_101 ?_
  refine ae_lor dX2_product_102 ?_
  refine ae_lload 0 dX2_product_103 rfl ?_
  refine ae_lconst (0 : Int64) dX2_product_105 (by decide) ?_
  refine ae_lcmp dX2_product_106 ?_
  refine ae_if_ne 114 dX2_product_107 rfl (fun hb17 => ?_) (fun hb17 => ?_)
  · have hF18 := ae_ifF hb17 hF16
    refine ae_iconst (1 : Int32) dX2_product_114 (by decide) ?_
    refine ae_pick (lv' := [(4, ae_i v4), (13, ae_i (44 : Int32))]) [8, 1] rfl ?_
    exact t_X2_product_115 d v4 (44 : Int32) (1 : Int32) ((x11 <<< ((8 : Int32).toInt64 &&& 63)) ||| ((x13.toUInt64 >>> ((44 : Int32).toInt64.toUInt64 &&& Int64.toUInt64 63)).toInt64)) s0 hF18
  · have hF18 := ae_ifT hb17 hF16
    refine ae_iconst (0 : Int32) dX2_product_110 (by decide) ?_
    refine ae_goto 115 dX2_product_111 rfl ?_
    refine ae_pick (lv' := [(4, ae_i v4), (13, ae_i (44 : Int32))]) [8, 1] rfl ?_
    exact t_X2_product_115 d v4 (44 : Int32) (0 : Int32) ((x11 <<< ((8 : Int32).toInt64 &&& 63)) ||| ((x13.toUInt64 >>> ((44 : Int32).toInt64.toUInt64 &&& Int64.toUInt64 63)).toInt64)) s0 hF18
abbrev mX2_multiply : ae_M := (RX2, cX2_multiply, 9, some .long)
theorem vy_X2_multiply : ae_SY yX2_multiply mX2_multiply 2 := ⟨ww_990, ww_18, ww_991, ⟨by decide, by decide, by decide +kernel⟩, by decide⟩
theorem dX2_multiply_0 : decode cX2_multiply 0 = .ok (.lload_n 0, 1) := by decide +kernel
theorem dX2_multiply_1 : decode cX2_multiply 1 = .ok (.invokestatic 15, 3) := by decide +kernel
theorem dX2_multiply_4 : decode cX2_multiply 4 = .ok (.ifCond .ne 10, 3) := by decide +kernel
theorem dX2_multiply_7 : decode cX2_multiply 7 = .ok (.lload_n 2, 1) := by decide +kernel
theorem dX2_multiply_8 : decode cX2_multiply 8 = .ok (.invokestatic 15, 3) := by decide +kernel
theorem dX2_multiply_11 : decode cX2_multiply 11 = .ok (.ifCond .eq 7, 3) := by decide +kernel
theorem dX2_multiply_14 : decode cX2_multiply 14 = .ok (.ldc2_w 19, 3) := by decide +kernel
theorem dX2_multiply_17 : decode cX2_multiply 17 = .ok (.lreturn, 1) := by decide +kernel
theorem dX2_multiply_18 : decode cX2_multiply 18 = .ok (.lload_n 0, 1) := by decide +kernel
theorem dX2_multiply_19 : decode cX2_multiply 19 = .ok (.lload_n 2, 1) := by decide +kernel
theorem dX2_multiply_20 : decode cX2_multiply 20 = .ok (.lxor, 1) := by decide +kernel
theorem dX2_multiply_21 : decode cX2_multiply 21 = .ok (.ldc2_w 21, 3) := by decide +kernel
theorem dX2_multiply_24 : decode cX2_multiply 24 = .ok (.land, 1) := by decide +kernel
theorem dX2_multiply_25 : decode cX2_multiply 25 = .ok (.lstore 4, 2) := by decide +kernel
theorem dX2_multiply_27 : decode cX2_multiply 27 = .ok (.lload_n 0, 1) := by decide +kernel
theorem dX2_multiply_28 : decode cX2_multiply 28 = .ok (.invokestatic 65, 3) := by decide +kernel
theorem dX2_multiply_31 : decode cX2_multiply 31 = .ok (.ifCond .ne 10, 3) := by decide +kernel
theorem dX2_multiply_34 : decode cX2_multiply 34 = .ok (.lload_n 2, 1) := by decide +kernel
theorem dX2_multiply_35 : decode cX2_multiply 35 = .ok (.invokestatic 65, 3) := by decide +kernel
theorem dX2_multiply_38 : decode cX2_multiply 38 = .ok (.ifCond .eq 30, 3) := by decide +kernel
theorem dX2_multiply_41 : decode cX2_multiply 41 = .ok (.lload_n 0, 1) := by decide +kernel
theorem dX2_multiply_42 : decode cX2_multiply 42 = .ok (.invokestatic 33, 3) := by decide +kernel
theorem dX2_multiply_45 : decode cX2_multiply 45 = .ok (.ifCond .ne 10, 3) := by decide +kernel
theorem dX2_multiply_48 : decode cX2_multiply 48 = .ok (.lload_n 2, 1) := by decide +kernel
theorem dX2_multiply_49 : decode cX2_multiply 49 = .ok (.invokestatic 33, 3) := by decide +kernel
theorem dX2_multiply_52 : decode cX2_multiply 52 = .ok (.ifCond .eq 9, 3) := by decide +kernel
theorem dX2_multiply_55 : decode cX2_multiply 55 = .ok (.ldc2_w 19, 3) := by decide +kernel
theorem dX2_multiply_58 : decode cX2_multiply 58 = .ok (.goto 9, 3) := by decide +kernel
theorem dX2_multiply_61 : decode cX2_multiply 61 = .ok (.lload 4, 2) := by decide +kernel
theorem dX2_multiply_63 : decode cX2_multiply 63 = .ok (.ldc2_w 13, 3) := by decide +kernel
theorem dX2_multiply_66 : decode cX2_multiply 66 = .ok (.lor, 1) := by decide +kernel
theorem dX2_multiply_67 : decode cX2_multiply 67 = .ok (.lreturn, 1) := by decide +kernel
theorem dX2_multiply_68 : decode cX2_multiply 68 = .ok (.lload_n 0, 1) := by decide +kernel
theorem dX2_multiply_69 : decode cX2_multiply 69 = .ok (.invokestatic 33, 3) := by decide +kernel
theorem dX2_multiply_72 : decode cX2_multiply 72 = .ok (.ifCond .ne 10, 3) := by decide +kernel
theorem dX2_multiply_75 : decode cX2_multiply 75 = .ok (.lload_n 2, 1) := by decide +kernel
theorem dX2_multiply_76 : decode cX2_multiply 76 = .ok (.invokestatic 33, 3) := by decide +kernel
theorem dX2_multiply_79 : decode cX2_multiply 79 = .ok (.ifCond .eq 6, 3) := by decide +kernel
theorem dX2_multiply_82 : decode cX2_multiply 82 = .ok (.lload 4, 2) := by decide +kernel
theorem dX2_multiply_84 : decode cX2_multiply 84 = .ok (.lreturn, 1) := by decide +kernel
theorem dX2_multiply_85 : decode cX2_multiply 85 = .ok (.lload_n 0, 1) := by decide +kernel
theorem dX2_multiply_86 : decode cX2_multiply 86 = .ok (.invokestatic 79, 3) := by decide +kernel
theorem dX2_multiply_89 : decode cX2_multiply 89 = .ok (.istore 6, 2) := by decide +kernel
theorem dX2_multiply_91 : decode cX2_multiply 91 = .ok (.lload_n 2, 1) := by decide +kernel
theorem dX2_multiply_92 : decode cX2_multiply 92 = .ok (.invokestatic 79, 3) := by decide +kernel
theorem dX2_multiply_95 : decode cX2_multiply 95 = .ok (.istore 7, 2) := by decide +kernel
theorem dX2_multiply_97 : decode cX2_multiply 97 = .ok (.lload_n 0, 1) := by decide +kernel
theorem dX2_multiply_98 : decode cX2_multiply 98 = .ok (.invokestatic 46, 3) := by decide +kernel
theorem dX2_multiply_101 : decode cX2_multiply 101 = .ok (.iload 6, 2) := by decide +kernel
theorem dX2_multiply_103 : decode cX2_multiply 103 = .ok (.isub, 1) := by decide +kernel
theorem dX2_multiply_104 : decode cX2_multiply 104 = .ok (.lload_n 2, 1) := by decide +kernel
theorem dX2_multiply_105 : decode cX2_multiply 105 = .ok (.invokestatic 46, 3) := by decide +kernel
theorem dX2_multiply_108 : decode cX2_multiply 108 = .ok (.iadd, 1) := by decide +kernel
theorem dX2_multiply_109 : decode cX2_multiply 109 = .ok (.iload 7, 2) := by decide +kernel
theorem dX2_multiply_111 : decode cX2_multiply 111 = .ok (.isub, 1) := by decide +kernel
theorem dX2_multiply_112 : decode cX2_multiply 112 = .ok (.istore 8, 2) := by decide +kernel
theorem dX2_multiply_114 : decode cX2_multiply 114 = .ok (.lload 4, 2) := by decide +kernel
theorem dX2_multiply_116 : decode cX2_multiply 116 = .ok (.lload_n 0, 1) := by decide +kernel
theorem dX2_multiply_117 : decode cX2_multiply 117 = .ok (.invokestatic 50, 3) := by decide +kernel
theorem dX2_multiply_120 : decode cX2_multiply 120 = .ok (.iload 6, 2) := by decide +kernel
theorem dX2_multiply_122 : decode cX2_multiply 122 = .ok (.lshl, 1) := by decide +kernel
theorem dX2_multiply_123 : decode cX2_multiply 123 = .ok (.lload_n 2, 1) := by decide +kernel
theorem dX2_multiply_124 : decode cX2_multiply 124 = .ok (.invokestatic 50, 3) := by decide +kernel
theorem dX2_multiply_127 : decode cX2_multiply 127 = .ok (.iload 7, 2) := by decide +kernel
theorem dX2_multiply_129 : decode cX2_multiply 129 = .ok (.lshl, 1) := by decide +kernel
theorem dX2_multiply_130 : decode cX2_multiply 130 = .ok (.iload 8, 2) := by decide +kernel
theorem dX2_multiply_132 : decode cX2_multiply 132 = .ok (.invokestatic 82, 3) := by decide +kernel
theorem dX2_multiply_135 : decode cX2_multiply 135 = .ok (.lor, 1) := by decide +kernel
theorem dX2_multiply_136 : decode cX2_multiply 136 = .ok (.lreturn, 1) := by decide +kernel
def F_X2_multiply_14 (s0 : ae_S) : Option (Int64 × ae_S) := some ((9221120237041090560 : Int64), s0)
set_option maxHeartbeats 4000000 in
set_option maxRecDepth 100000 in
theorem t_X2_multiply_14 {l : Launch} {G : ae_G} (d : Nat) {rr : Int64} {ss : ae_S} (s0 : ae_S) (hF : F_X2_multiply_14 s0 = some (rr, ss)) : ae_T l G (d + 4) mX2_multiply (ae_Po (some (ae_l rr)) ss) 14 [] [] s0 := by
  unfold F_X2_multiply_14 at hF
  refine ae_ldc2 dX2_multiply_14 ww_752 ?_
  obtain ⟨rfl, rfl⟩ := ae_retI hF
  exact ae_lret dX2_multiply_17 rfl ⟨rfl, rfl⟩
def F_X2_multiply_67 (t0 : Int64) (s0 : ae_S) : Option (Int64 × ae_S) := some (t0, s0)
set_option maxHeartbeats 4000000 in
set_option maxRecDepth 100000 in
theorem t_X2_multiply_67 {l : Launch} {G : ae_G} (d : Nat) {rr : Int64} {ss : ae_S} (t0 : Int64) (s0 : ae_S) (hF : F_X2_multiply_67 t0 s0 = some (rr, ss)) : ae_T l G (d + 4) mX2_multiply (ae_Po (some (ae_l rr)) ss) 67 [] [ae_l t0] s0 := by
  unfold F_X2_multiply_67 at hF
  obtain ⟨rfl, rfl⟩ := ae_retI hF
  exact ae_lret dX2_multiply_67 rfl ⟨rfl, rfl⟩
def F_X2_multiply_55 (s0 : ae_S) : Option (Int64 × ae_S) := F_X2_multiply_67 (9221120237041090560 : Int64) s0
set_option maxHeartbeats 4000000 in
set_option maxRecDepth 100000 in
theorem t_X2_multiply_55 {l : Launch} {G : ae_G} (d : Nat) {rr : Int64} {ss : ae_S} (s0 : ae_S) (hF : F_X2_multiply_55 s0 = some (rr, ss)) : ae_T l G (d + 4) mX2_multiply (ae_Po (some (ae_l rr)) ss) 55 [] [] s0 := by
  unfold F_X2_multiply_55 at hF
  refine ae_ldc2 dX2_multiply_55 ww_752 ?_
  refine ae_goto 67 dX2_multiply_58 rfl ?_
  refine ae_pick (lv' := []) [] rfl ?_
  exact t_X2_multiply_67 d (9221120237041090560 : Int64) s0 hF
def F_X2_multiply_41 (v0 : Int64) (v2 : Int64) (v4 : Int64) (s0 : ae_S) : Option (Int64 × ae_S) := ae_bd (F_X2_isZero v0 s0) (fun (r1 : Int32) s2 => if r1 = 0 then (ae_bd (F_X2_isZero v2 s2) (fun (r7 : Int32) s8 => if r7 = 0 then (F_X2_multiply_67 (v4 ||| (9218868437227405312 : Int64)) s8) else (F_X2_multiply_55 s8))) else (F_X2_multiply_55 s2))
set_option maxHeartbeats 4000000 in
set_option maxRecDepth 100000 in
theorem t_X2_multiply_41 {l : Launch} {G : ae_G} (d : Nat) {rr : Int64} {ss : ae_S} (v0 : Int64) (v2 : Int64) (v4 : Int64) (s0 : ae_S) (hF : F_X2_multiply_41 v0 v2 v4 s0 = some (rr, ss)) : ae_T l G (d + 4) mX2_multiply (ae_Po (some (ae_l rr)) ss) 41 [(0, ae_l v0), (2, ae_l v2), (4, ae_l v4)] [] s0 := by
  unfold F_X2_multiply_41 at hF
  refine ae_lload_n 0 dX2_multiply_41 rfl ?_
  obtain ⟨r1, s2, hc3, hF4⟩ := ae_bdI hF
  refine ae_cS1 (As := [ae_l v0]) dX2_multiply_42 ww_756 vy_X2_isZero rfl rfl (Nat.le_of_ble_eq_true rfl) (c_X2_isZero (d + 3) hc3) ?_
  refine ae_if_ne 55 dX2_multiply_45 rfl (fun hb5 => ?_) (fun hb5 => ?_)
  · have hF6 := ae_ifF hb5 hF4
    refine ae_pick (lv' := []) [] rfl ?_
    exact t_X2_multiply_55 d s2 hF6
  · have hF6 := ae_ifT hb5 hF4
    refine ae_lload_n 1 dX2_multiply_48 rfl ?_
    obtain ⟨r7, s8, hc9, hF10⟩ := ae_bdI hF6
    refine ae_cS1 (As := [ae_l v2]) dX2_multiply_49 ww_756 vy_X2_isZero rfl rfl (Nat.le_of_ble_eq_true rfl) (c_X2_isZero (d + 3) hc9) ?_
    refine ae_if_eq 61 dX2_multiply_52 rfl (fun hb11 => ?_) (fun hb11 => ?_)
    · have hF12 := ae_ifT hb11 hF10
      refine ae_lload 2 dX2_multiply_61 rfl ?_
      refine ae_ldc2 dX2_multiply_63 ww_744 ?_
      refine ae_lor dX2_multiply_66 ?_
      refine ae_pick (lv' := []) [] rfl ?_
      exact t_X2_multiply_67 d (v4 ||| (9218868437227405312 : Int64)) s8 hF12
    · have hF12 := ae_ifF hb11 hF10
      refine ae_pick (lv' := []) [] rfl ?_
      exact t_X2_multiply_55 d s8 hF12
def F_X2_multiply_82 (v4 : Int64) (s0 : ae_S) : Option (Int64 × ae_S) := some (v4, s0)
set_option maxHeartbeats 4000000 in
set_option maxRecDepth 100000 in
theorem t_X2_multiply_82 {l : Launch} {G : ae_G} (d : Nat) {rr : Int64} {ss : ae_S} (v4 : Int64) (s0 : ae_S) (hF : F_X2_multiply_82 v4 s0 = some (rr, ss)) : ae_T l G (d + 4) mX2_multiply (ae_Po (some (ae_l rr)) ss) 82 [(4, ae_l v4)] [] s0 := by
  unfold F_X2_multiply_82 at hF
  refine ae_lload 0 dX2_multiply_82 rfl ?_
  obtain ⟨rfl, rfl⟩ := ae_retI hF
  exact ae_lret dX2_multiply_84 rfl ⟨rfl, rfl⟩
def F_X2_multiply (v0 : Int64) (v2 : Int64) (s0 : ae_S) : Option (Int64 × ae_S) := ae_bd (F_X2_isNan v0 s0) (fun (r13 : Int32) s14 => if r13 = 0 then (ae_bd (F_X2_isNan v2 s14) (fun (r19 : Int32) s20 => if r19 = 0 then (ae_lt ((v0 ^^^ v2) &&& (-9223372036854775808 : Int64)) (fun x25 => ae_bd (F_X2_isInfinite v0 s20) (fun (r27 : Int32) s28 => if r27 = 0 then (ae_bd (F_X2_isInfinite v2 s28) (fun (r33 : Int32) s34 => if r33 = 0 then (ae_bd (F_X2_isZero v0 s34) (fun (r39 : Int32) s40 => if r39 = 0 then (ae_bd (F_X2_isZero v2 s40) (fun (r45 : Int32) s46 => if r45 = 0 then (ae_bd (F_X2_liftOf v0 s46) (fun (r51 : Int32) s52 => ae_bd (F_X2_liftOf v2 s52) (fun (r55 : Int32) s56 => ae_bd (F_X2_powerOf v0 s56) (fun (r59 : Int32) s60 => ae_bd (F_X2_powerOf v2 s60) (fun (r63 : Int32) s64 => ae_lt (((r59 - r51) + r63) - r55) (fun x67 => ae_bd (F_X2_digitsOf v0 s64) (fun (r69 : Int64) s70 => ae_bd (F_X2_digitsOf v2 s70) (fun (r73 : Int64) s74 => ae_bd (F_X2_product (r69 <<< (r51.toInt64 &&& 63)) (r73 <<< (r55.toInt64 &&& 63)) x67 s74) (fun (r77 : Int64) s78 => some (x25 ||| r77, s78)))))))))) else (F_X2_multiply_82 x25 s46))) else (F_X2_multiply_82 x25 s40))) else (F_X2_multiply_41 v0 v2 x25 s34))) else (F_X2_multiply_41 v0 v2 x25 s28)))) else (F_X2_multiply_14 s20))) else (F_X2_multiply_14 s14))
set_option maxHeartbeats 4000000 in
set_option maxRecDepth 100000 in
theorem c_X2_multiply {l : Launch} {G : ae_G} (d : Nat) {v0 : Int64} {v2 : Int64} {s0 ss : ae_S} {rr : Int64} (hF : F_X2_multiply v0 v2 s0 = some (rr, ss)) : ae_Met l G (d + 4) yX2_multiply mX2_multiply [ae_l v0, ae_l v2] s0 (ae_Po (some (ae_l rr)) ss) := by
  refine ae_enter (by decide) rfl (Nat.le_of_ble_eq_true rfl) ?_
  show ae_T l G (d + 4) mX2_multiply (ae_Po (some (ae_l rr)) ss) 0 [(0, ae_l v0), (2, ae_l v2)] [] s0
  unfold F_X2_multiply at hF
  refine ae_lload_n 0 dX2_multiply_0 rfl ?_
  obtain ⟨r13, s14, hc15, hF16⟩ := ae_bdI hF
  refine ae_cS1 (As := [ae_l v0]) dX2_multiply_1 ww_748 vy_X2_isNan rfl rfl (Nat.le_of_ble_eq_true rfl) (c_X2_isNan (d + 3) hc15) ?_
  refine ae_if_ne 14 dX2_multiply_4 rfl (fun hb17 => ?_) (fun hb17 => ?_)
  · have hF18 := ae_ifF hb17 hF16
    refine ae_pick (lv' := []) [] rfl ?_
    exact t_X2_multiply_14 d s14 hF18
  · have hF18 := ae_ifT hb17 hF16
    refine ae_lload_n 1 dX2_multiply_7 rfl ?_
    obtain ⟨r19, s20, hc21, hF22⟩ := ae_bdI hF18
    refine ae_cS1 (As := [ae_l v2]) dX2_multiply_8 ww_748 vy_X2_isNan rfl rfl (Nat.le_of_ble_eq_true rfl) (c_X2_isNan (d + 3) hc21) ?_
    refine ae_if_eq 18 dX2_multiply_11 rfl (fun hb23 => ?_) (fun hb23 => ?_)
    · have hF24 := ae_ifT hb23 hF22
      refine ae_lload_n 0 dX2_multiply_18 rfl ?_
      refine ae_lload_n 1 dX2_multiply_19 rfl ?_
      refine ae_lxor dX2_multiply_20 ?_
      refine ae_ldc2 dX2_multiply_21 ww_729 ?_
      refine ae_land dX2_multiply_24 ?_
      obtain ⟨x25, hx25, hF26⟩ := ae_ltI hF24
      refine ae_nmL hx25 ?_
      refine ae_lstore (lv' := [(4, ae_l x25), (0, ae_l v0), (2, ae_l v2)]) dX2_multiply_25 (by decide) rfl ?_
      refine ae_lload_n 1 dX2_multiply_27 rfl ?_
      obtain ⟨r27, s28, hc29, hF30⟩ := ae_bdI hF26
      refine ae_cS1 (As := [ae_l v0]) dX2_multiply_28 ww_753 vy_X2_isInfinite rfl rfl (Nat.le_of_ble_eq_true rfl) (c_X2_isInfinite (d + 3) hc29) ?_
      refine ae_if_ne 41 dX2_multiply_31 rfl (fun hb31 => ?_) (fun hb31 => ?_)
      · have hF32 := ae_ifF hb31 hF30
        refine ae_pick (lv' := [(0, ae_l v0), (2, ae_l v2), (4, ae_l x25)]) [1, 2, 0] rfl ?_
        exact t_X2_multiply_41 d v0 v2 x25 s28 hF32
      · have hF32 := ae_ifT hb31 hF30
        refine ae_lload_n 2 dX2_multiply_34 rfl ?_
        obtain ⟨r33, s34, hc35, hF36⟩ := ae_bdI hF32
        refine ae_cS1 (As := [ae_l v2]) dX2_multiply_35 ww_753 vy_X2_isInfinite rfl rfl (Nat.le_of_ble_eq_true rfl) (c_X2_isInfinite (d + 3) hc35) ?_
        refine ae_if_eq 68 dX2_multiply_38 rfl (fun hb37 => ?_) (fun hb37 => ?_)
        · have hF38 := ae_ifT hb37 hF36
          refine ae_lload_n 1 dX2_multiply_68 rfl ?_
          obtain ⟨r39, s40, hc41, hF42⟩ := ae_bdI hF38
          refine ae_cS1 (As := [ae_l v0]) dX2_multiply_69 ww_756 vy_X2_isZero rfl rfl (Nat.le_of_ble_eq_true rfl) (c_X2_isZero (d + 3) hc41) ?_
          refine ae_if_ne 82 dX2_multiply_72 rfl (fun hb43 => ?_) (fun hb43 => ?_)
          · have hF44 := ae_ifF hb43 hF42
            refine ae_pick (lv' := [(4, ae_l x25)]) [0] rfl ?_
            exact t_X2_multiply_82 d x25 s40 hF44
          · have hF44 := ae_ifT hb43 hF42
            refine ae_lload_n 2 dX2_multiply_75 rfl ?_
            obtain ⟨r45, s46, hc47, hF48⟩ := ae_bdI hF44
            refine ae_cS1 (As := [ae_l v2]) dX2_multiply_76 ww_756 vy_X2_isZero rfl rfl (Nat.le_of_ble_eq_true rfl) (c_X2_isZero (d + 3) hc47) ?_
            refine ae_if_eq 85 dX2_multiply_79 rfl (fun hb49 => ?_) (fun hb49 => ?_)
            · have hF50 := ae_ifT hb49 hF48
              refine ae_lload_n 1 dX2_multiply_85 rfl ?_
              obtain ⟨r51, s52, hc53, hF54⟩ := ae_bdI hF50
              refine ae_cS1 (As := [ae_l v0]) dX2_multiply_86 ww_759 vy_X2_liftOf rfl rfl (Nat.le_of_ble_eq_true rfl) (c_X2_liftOf (d + 1) hc53) ?_
              refine ae_istore (lv' := [(6, ae_i r51), (4, ae_l x25), (0, ae_l v0), (2, ae_l v2)]) dX2_multiply_89 (by decide) rfl ?_
              refine ae_lload_n 3 dX2_multiply_91 rfl ?_
              obtain ⟨r55, s56, hc57, hF58⟩ := ae_bdI hF54
              refine ae_cS1 (As := [ae_l v2]) dX2_multiply_92 ww_759 vy_X2_liftOf rfl rfl (Nat.le_of_ble_eq_true rfl) (c_X2_liftOf (d + 1) hc57) ?_
              refine ae_istore (lv' := [(7, ae_i r55), (6, ae_i r51), (4, ae_l x25), (0, ae_l v0), (2, ae_l v2)]) dX2_multiply_95 (by decide) rfl ?_
              refine ae_lload_n 3 dX2_multiply_97 rfl ?_
              obtain ⟨r59, s60, hc61, hF62⟩ := ae_bdI hF58
              refine ae_cS1 (As := [ae_l v0]) dX2_multiply_98 ww_767 vy_X2_powerOf rfl rfl (Nat.le_of_ble_eq_true rfl) (c_X2_powerOf (d + 2) hc61) ?_
              refine ae_iload 1 dX2_multiply_101 rfl ?_
              refine ae_isub dX2_multiply_103 ?_
              refine ae_lload_n 4 dX2_multiply_104 rfl ?_
              obtain ⟨r63, s64, hc65, hF66⟩ := ae_bdI hF62
              refine ae_cS1 (As := [ae_l v2]) dX2_multiply_105 ww_767 vy_X2_powerOf rfl rfl (Nat.le_of_ble_eq_true rfl) (c_X2_powerOf (d + 2) hc65) ?_
              refine ae_iadd dX2_multiply_108 ?_
              refine ae_iload 0 dX2_multiply_109 rfl ?_
              refine ae_isub dX2_multiply_111 ?_
              obtain ⟨x67, hx67, hF68⟩ := ae_ltI hF66
              refine ae_nmI hx67 ?_
              refine ae_istore (lv' := [(8, ae_i x67), (7, ae_i r55), (6, ae_i r51), (4, ae_l x25), (0, ae_l v0), (2, ae_l v2)]) dX2_multiply_112 (by decide) rfl ?_
              refine ae_lload 3 dX2_multiply_114 rfl ?_
              refine ae_lload_n 4 dX2_multiply_116 rfl ?_
              obtain ⟨r69, s70, hc71, hF72⟩ := ae_bdI hF68
              refine ae_cS1 (As := [ae_l v0]) dX2_multiply_117 ww_762 vy_X2_digitsOf rfl rfl (Nat.le_of_ble_eq_true rfl) (c_X2_digitsOf (d + 3) hc71) ?_
              refine ae_iload 2 dX2_multiply_120 rfl ?_
              refine ae_lshl dX2_multiply_122 ?_
              refine ae_lload_n 5 dX2_multiply_123 rfl ?_
              obtain ⟨r73, s74, hc75, hF76⟩ := ae_bdI hF72
              refine ae_cS1 (As := [ae_l v2]) dX2_multiply_124 ww_762 vy_X2_digitsOf rfl rfl (Nat.le_of_ble_eq_true rfl) (c_X2_digitsOf (d + 3) hc75) ?_
              refine ae_iload 1 dX2_multiply_127 rfl ?_
              refine ae_lshl dX2_multiply_129 ?_
              refine ae_iload 0 dX2_multiply_130 rfl ?_
              obtain ⟨r77, s78, hc79, hF80⟩ := ae_bdI hF76
              refine ae_cS1 (As := [ae_l (r69 <<< (r51.toInt64 &&& 63)), ae_l (r73 <<< (r55.toInt64 &&& 63)), ae_i x67]) dX2_multiply_132 ww_992 vy_X2_product rfl rfl (Nat.le_of_ble_eq_true rfl) (c_X2_product d hc79) ?_
              refine ae_lor dX2_multiply_135 ?_
              obtain ⟨rfl, rfl⟩ := ae_retI hF80
              exact ae_lret dX2_multiply_136 rfl ⟨rfl, rfl⟩
            · have hF50 := ae_ifF hb49 hF48
              refine ae_pick (lv' := [(4, ae_l x25)]) [0] rfl ?_
              exact t_X2_multiply_82 d x25 s46 hF50
        · have hF38 := ae_ifF hb37 hF36
          refine ae_pick (lv' := [(0, ae_l v0), (2, ae_l v2), (4, ae_l x25)]) [1, 2, 0] rfl ?_
          exact t_X2_multiply_41 d v0 v2 x25 s34 hF38
    · have hF24 := ae_ifF hb23 hF22
      refine ae_pick (lv' := []) [] rfl ?_
      exact t_X2_multiply_14 d s20 hF24
abbrev mX2_remainder : ae_M := (RX2, cX2_remainder, 10, some .long)
theorem vy_X2_remainder : ae_SY yX2_remainder mX2_remainder 2 := ⟨ww_998, ww_18, ww_999, ⟨by decide, by decide, by decide +kernel⟩, by decide⟩
theorem dX2_remainder_0 : decode cX2_remainder 0 = .ok (.lload_n 0, 1) := by decide +kernel
theorem dX2_remainder_1 : decode cX2_remainder 1 = .ok (.invokestatic 15, 3) := by decide +kernel
theorem dX2_remainder_4 : decode cX2_remainder 4 = .ok (.ifCond .ne 24, 3) := by decide +kernel
theorem dX2_remainder_7 : decode cX2_remainder 7 = .ok (.lload_n 2, 1) := by decide +kernel
theorem dX2_remainder_8 : decode cX2_remainder 8 = .ok (.invokestatic 15, 3) := by decide +kernel
theorem dX2_remainder_11 : decode cX2_remainder 11 = .ok (.ifCond .ne 17, 3) := by decide +kernel
theorem dX2_remainder_14 : decode cX2_remainder 14 = .ok (.lload_n 0, 1) := by decide +kernel
theorem dX2_remainder_15 : decode cX2_remainder 15 = .ok (.invokestatic 65, 3) := by decide +kernel
theorem dX2_remainder_18 : decode cX2_remainder 18 = .ok (.ifCond .ne 10, 3) := by decide +kernel
theorem dX2_remainder_21 : decode cX2_remainder 21 = .ok (.lload_n 2, 1) := by decide +kernel
theorem dX2_remainder_22 : decode cX2_remainder 22 = .ok (.invokestatic 33, 3) := by decide +kernel
theorem dX2_remainder_25 : decode cX2_remainder 25 = .ok (.ifCond .eq 7, 3) := by decide +kernel
theorem dX2_remainder_28 : decode cX2_remainder 28 = .ok (.ldc2_w 19, 3) := by decide +kernel
theorem dX2_remainder_31 : decode cX2_remainder 31 = .ok (.lreturn, 1) := by decide +kernel
theorem dX2_remainder_32 : decode cX2_remainder 32 = .ok (.lload_n 0, 1) := by decide +kernel
theorem dX2_remainder_33 : decode cX2_remainder 33 = .ok (.invokestatic 46, 3) := by decide +kernel
theorem dX2_remainder_36 : decode cX2_remainder 36 = .ok (.lload_n 2, 1) := by decide +kernel
theorem dX2_remainder_37 : decode cX2_remainder 37 = .ok (.invokestatic 46, 3) := by decide +kernel
theorem dX2_remainder_40 : decode cX2_remainder 40 = .ok (.isub, 1) := by decide +kernel
theorem dX2_remainder_41 : decode cX2_remainder 41 = .ok (.istore 4, 2) := by decide +kernel
theorem dX2_remainder_43 : decode cX2_remainder 43 = .ok (.lload_n 2, 1) := by decide +kernel
theorem dX2_remainder_44 : decode cX2_remainder 44 = .ok (.invokestatic 65, 3) := by decide +kernel
theorem dX2_remainder_47 : decode cX2_remainder 47 = .ok (.ifCond .ne 15, 3) := by decide +kernel
theorem dX2_remainder_50 : decode cX2_remainder 50 = .ok (.lload_n 0, 1) := by decide +kernel
theorem dX2_remainder_51 : decode cX2_remainder 51 = .ok (.invokestatic 33, 3) := by decide +kernel
theorem dX2_remainder_54 : decode cX2_remainder 54 = .ok (.ifCond .ne 8, 3) := by decide +kernel
theorem dX2_remainder_57 : decode cX2_remainder 57 = .ok (.iload 4, 2) := by decide +kernel
theorem dX2_remainder_59 : decode cX2_remainder 59 = .ok (.ifCond .ge 5, 3) := by decide +kernel
theorem dX2_remainder_62 : decode cX2_remainder 62 = .ok (.lload_n 0, 1) := by decide +kernel
theorem dX2_remainder_63 : decode cX2_remainder 63 = .ok (.lreturn, 1) := by decide +kernel
theorem dX2_remainder_64 : decode cX2_remainder 64 = .ok (.lload_n 2, 1) := by decide +kernel
theorem dX2_remainder_65 : decode cX2_remainder 65 = .ok (.invokestatic 50, 3) := by decide +kernel
theorem dX2_remainder_68 : decode cX2_remainder 68 = .ok (.lstore 5, 2) := by decide +kernel
theorem dX2_remainder_70 : decode cX2_remainder 70 = .ok (.lload 5, 2) := by decide +kernel
theorem dX2_remainder_72 : decode cX2_remainder 72 = .ok (.lconst 0, 1) := by decide +kernel
theorem dX2_remainder_73 : decode cX2_remainder 73 = .ok (.lcmp, 1) := by decide +kernel
theorem dX2_remainder_74 : decode cX2_remainder 74 = .ok (.ifCond .ne 7, 3) := by decide +kernel
theorem dX2_remainder_77 : decode cX2_remainder 77 = .ok (.ldc2_w 19, 3) := by decide +kernel
theorem dX2_remainder_80 : decode cX2_remainder 80 = .ok (.lreturn, 1) := by decide +kernel
theorem dX2_remainder_81 : decode cX2_remainder 81 = .ok (.lload_n 0, 1) := by decide +kernel
theorem dX2_remainder_82 : decode cX2_remainder 82 = .ok (.invokestatic 50, 3) := by decide +kernel
theorem dX2_remainder_85 : decode cX2_remainder 85 = .ok (.lload 5, 2) := by decide +kernel
theorem dX2_remainder_87 : decode cX2_remainder 87 = .ok (.lrem, 1) := by decide +kernel
theorem dX2_remainder_88 : decode cX2_remainder 88 = .ok (.lstore 7, 2) := by decide +kernel
theorem dX2_remainder_90 : decode cX2_remainder 90 = .ok (.iconst 0, 1) := by decide +kernel
theorem dX2_remainder_91 : decode cX2_remainder 91 = .ok (.istore 9, 2) := by decide +kernel
theorem dX2_remainder_93 : decode cX2_remainder 93 = .ok (.iload 9, 2) := by decide +kernel
theorem dX2_remainder_95 : decode cX2_remainder 95 = .ok (.iload 4, 2) := by decide +kernel
theorem dX2_remainder_97 : decode cX2_remainder 97 = .ok (.if_icmp .ge 38, 3) := by decide +kernel
theorem dX2_remainder_100 : decode cX2_remainder 100 = .ok (.iload 9, 2) := by decide +kernel
theorem dX2_remainder_102 : decode cX2_remainder 102 = .ok (.sipush 2100, 3) := by decide +kernel
theorem dX2_remainder_105 : decode cX2_remainder 105 = .ok (.if_icmp .ge 30, 3) := by decide +kernel
theorem dX2_remainder_108 : decode cX2_remainder 108 = .ok (.lload 7, 2) := by decide +kernel
theorem dX2_remainder_110 : decode cX2_remainder 110 = .ok (.iconst 1, 1) := by decide +kernel
theorem dX2_remainder_111 : decode cX2_remainder 111 = .ok (.lshl, 1) := by decide +kernel
theorem dX2_remainder_112 : decode cX2_remainder 112 = .ok (.lstore 7, 2) := by decide +kernel
theorem dX2_remainder_114 : decode cX2_remainder 114 = .ok (.lload 7, 2) := by decide +kernel
theorem dX2_remainder_116 : decode cX2_remainder 116 = .ok (.lload 5, 2) := by decide +kernel
theorem dX2_remainder_118 : decode cX2_remainder 118 = .ok (.lcmp, 1) := by decide +kernel
theorem dX2_remainder_119 : decode cX2_remainder 119 = .ok (.ifCond .lt 10, 3) := by decide +kernel
theorem dX2_remainder_122 : decode cX2_remainder 122 = .ok (.lload 7, 2) := by decide +kernel
theorem dX2_remainder_124 : decode cX2_remainder 124 = .ok (.lload 5, 2) := by decide +kernel
theorem dX2_remainder_126 : decode cX2_remainder 126 = .ok (.lsub, 1) := by decide +kernel
theorem dX2_remainder_127 : decode cX2_remainder 127 = .ok (.lstore 7, 2) := by decide +kernel
theorem dX2_remainder_129 : decode cX2_remainder 129 = .ok (.iinc 9 1, 3) := by decide +kernel
theorem dX2_remainder_132 : decode cX2_remainder 132 = .ok (.goto (-39), 3) := by decide +kernel
theorem dX2_remainder_135 : decode cX2_remainder 135 = .ok (.lload_n 0, 1) := by decide +kernel
theorem dX2_remainder_136 : decode cX2_remainder 136 = .ok (.ldc2_w 21, 3) := by decide +kernel
theorem dX2_remainder_139 : decode cX2_remainder 139 = .ok (.land, 1) := by decide +kernel
theorem dX2_remainder_140 : decode cX2_remainder 140 = .ok (.lload 7, 2) := by decide +kernel
theorem dX2_remainder_142 : decode cX2_remainder 142 = .ok (.lload_n 2, 1) := by decide +kernel
theorem dX2_remainder_143 : decode cX2_remainder 143 = .ok (.invokestatic 46, 3) := by decide +kernel
theorem dX2_remainder_146 : decode cX2_remainder 146 = .ok (.iconst 0, 1) := by decide +kernel
theorem dX2_remainder_147 : decode cX2_remainder 147 = .ok (.invokestatic 40, 3) := by decide +kernel
theorem dX2_remainder_150 : decode cX2_remainder 150 = .ok (.lor, 1) := by decide +kernel
theorem dX2_remainder_151 : decode cX2_remainder 151 = .ok (.lreturn, 1) := by decide +kernel
def F_X2_remainder_28 (s0 : ae_S) : Option (Int64 × ae_S) := some ((9221120237041090560 : Int64), s0)
set_option maxHeartbeats 4000000 in
set_option maxRecDepth 100000 in
theorem t_X2_remainder_28 {l : Launch} {G : ae_G} (d : Nat) {rr : Int64} {ss : ae_S} (s0 : ae_S) (hF : F_X2_remainder_28 s0 = some (rr, ss)) : ae_T l G (d + 3) mX2_remainder (ae_Po (some (ae_l rr)) ss) 28 [] [] s0 := by
  unfold F_X2_remainder_28 at hF
  refine ae_ldc2 dX2_remainder_28 ww_752 ?_
  obtain ⟨rfl, rfl⟩ := ae_retI hF
  exact ae_lret dX2_remainder_31 rfl ⟨rfl, rfl⟩
def F_X2_remainder_62 (v0 : Int64) (s0 : ae_S) : Option (Int64 × ae_S) := some (v0, s0)
set_option maxHeartbeats 4000000 in
set_option maxRecDepth 100000 in
theorem t_X2_remainder_62 {l : Launch} {G : ae_G} (d : Nat) {rr : Int64} {ss : ae_S} (v0 : Int64) (s0 : ae_S) (hF : F_X2_remainder_62 v0 s0 = some (rr, ss)) : ae_T l G (d + 3) mX2_remainder (ae_Po (some (ae_l rr)) ss) 62 [(0, ae_l v0)] [] s0 := by
  unfold F_X2_remainder_62 at hF
  refine ae_lload_n 0 dX2_remainder_62 rfl ?_
  obtain ⟨rfl, rfl⟩ := ae_retI hF
  exact ae_lret dX2_remainder_63 rfl ⟨rfl, rfl⟩
def F_X2_remainder_135 (v0 : Int64) (v2 : Int64) (v7 : Int64) (s0 : ae_S) : Option (Int64 × ae_S) := ae_bd (F_X2_powerOf v2 s0) (fun (r1 : Int32) s2 => ae_bd (F_X2_rounded v7 r1 (0 : Int32) s2) (fun (r5 : Int64) s6 => some ((v0 &&& (-9223372036854775808 : Int64)) ||| r5, s6)))
set_option maxHeartbeats 4000000 in
set_option maxRecDepth 100000 in
theorem t_X2_remainder_135 {l : Launch} {G : ae_G} (d : Nat) {rr : Int64} {ss : ae_S} (v0 : Int64) (v2 : Int64) (v7 : Int64) (s0 : ae_S) (hF : F_X2_remainder_135 v0 v2 v7 s0 = some (rr, ss)) : ae_T l G (d + 3) mX2_remainder (ae_Po (some (ae_l rr)) ss) 135 [(0, ae_l v0), (2, ae_l v2), (7, ae_l v7)] [] s0 := by
  unfold F_X2_remainder_135 at hF
  refine ae_lload_n 0 dX2_remainder_135 rfl ?_
  refine ae_ldc2 dX2_remainder_136 ww_729 ?_
  refine ae_land dX2_remainder_139 ?_
  refine ae_lload 2 dX2_remainder_140 rfl ?_
  refine ae_lload_n 1 dX2_remainder_142 rfl ?_
  obtain ⟨r1, s2, hc3, hF4⟩ := ae_bdI hF
  refine ae_cS1 (As := [ae_l v2]) dX2_remainder_143 ww_767 vy_X2_powerOf rfl rfl (Nat.le_of_ble_eq_true rfl) (c_X2_powerOf (d + 1) hc3) ?_
  refine ae_iconst (0 : Int32) dX2_remainder_146 (by decide) ?_
  obtain ⟨r5, s6, hc7, hF8⟩ := ae_bdI hF4
  refine ae_cS1 (As := [ae_l v7, ae_i r1, ae_i (0 : Int32)]) dX2_remainder_147 ww_730 vy_X2_rounded rfl rfl (Nat.le_of_ble_eq_true rfl) (c_X2_rounded d hc7) ?_
  refine ae_lor dX2_remainder_150 ?_
  obtain ⟨rfl, rfl⟩ := ae_retI hF8
  exact ae_lret dX2_remainder_151 rfl ⟨rfl, rfl⟩
def F_X2_remainder_129 (k93 : Int64 → Int64 → Int32 → Int64 → Int64 → Int32 → ae_S → Option (Int64 × ae_S)) (v0 : Int64) (v2 : Int64) (v4 : Int32) (v5 : Int64) (v7 : Int64) (v9 : Int32) (s0 : ae_S) : Option (Int64 × ae_S) := ae_lt (v9 + (1 : Int32)) (fun x9 => k93 v0 v2 v4 v5 v7 x9 s0)
set_option maxHeartbeats 4000000 in
set_option maxRecDepth 100000 in
theorem t_X2_remainder_129 {l : Launch} {G : ae_G} (d : Nat) (k93 : Int64 → Int64 → Int32 → Int64 → Int64 → Int32 → ae_S → Option (Int64 × ae_S)) {rr : Int64} {ss : ae_S} (hk93 : ∀ (v0 : Int64) (v2 : Int64) (v4 : Int32) (v5 : Int64) (v7 : Int64) (v9 : Int32) (s0 : ae_S), k93 v0 v2 v4 v5 v7 v9 s0 = some (rr, ss) → ae_T l G (d + 3) mX2_remainder (ae_Po (some (ae_l rr)) ss) 93 [(0, ae_l v0), (2, ae_l v2), (4, ae_i v4), (5, ae_l v5), (7, ae_l v7), (9, ae_i v9)] [] s0) (v0 : Int64) (v2 : Int64) (v4 : Int32) (v5 : Int64) (v7 : Int64) (v9 : Int32) (s0 : ae_S) (hF : F_X2_remainder_129 k93 v0 v2 v4 v5 v7 v9 s0 = some (rr, ss)) : ae_T l G (d + 3) mX2_remainder (ae_Po (some (ae_l rr)) ss) 129 [(0, ae_l v0), (2, ae_l v2), (4, ae_i v4), (5, ae_l v5), (7, ae_l v7), (9, ae_i v9)] [] s0 := by
  unfold F_X2_remainder_129 at hF
  obtain ⟨x9, hx9, hF10⟩ := ae_ltI hF
  refine ae_iinc (lv' := [(9, ae_i x9), (0, ae_l v0), (2, ae_l v2), (4, ae_i v4), (5, ae_l v5), (7, ae_l v7)]) 5 (1 : Int32) dX2_remainder_129 rfl (by decide) (by decide) (by rw [hx9]; rfl) ?_
  refine ae_goto 93 dX2_remainder_132 rfl ?_
  refine ae_pick (lv' := [(0, ae_l v0), (2, ae_l v2), (4, ae_i v4), (5, ae_l v5), (7, ae_l v7), (9, ae_i x9)]) [1, 2, 3, 4, 5, 0] rfl ?_
  exact hk93 v0 v2 v4 v5 v7 x9 s0 hF10
def F_X2_remainder_93 : Nat → Int64 → Int64 → Int32 → Int64 → Int64 → Int32 → ae_S → Option (Int64 × ae_S)
  | 0, _, _, _, _, _, _, _ => none
  | n + 1, v0, v2, v4, v5, v7, v9, s0 => if v4 ≤ v9 then (F_X2_remainder_135 v0 v2 v7 s0) else (if (2100 : Int32) ≤ v9 then (F_X2_remainder_135 v0 v2 v7 s0) else (ae_lt (v7 <<< ((1 : Int32).toInt64 &&& 63)) (fun x15 => if (lg_cmp x15 v5) < 0 then (F_X2_remainder_129 (F_X2_remainder_93 n) v0 v2 v4 v5 x15 v9 s0) else (ae_lt (x15 - v5) (fun x19 => F_X2_remainder_129 (F_X2_remainder_93 n) v0 v2 v4 v5 x19 v9 s0)))))
set_option maxHeartbeats 4000000 in
set_option maxRecDepth 100000 in
theorem t_X2_remainder_93 {l : Launch} {G : ae_G} (d : Nat) {rr : Int64} {ss : ae_S} : ∀ (n : Nat) (v0 : Int64) (v2 : Int64) (v4 : Int32) (v5 : Int64) (v7 : Int64) (v9 : Int32) (s0 : ae_S), F_X2_remainder_93 n v0 v2 v4 v5 v7 v9 s0 = some (rr, ss) → ae_T l G (d + 3) mX2_remainder (ae_Po (some (ae_l rr)) ss) 93 [(0, ae_l v0), (2, ae_l v2), (4, ae_i v4), (5, ae_l v5), (7, ae_l v7), (9, ae_i v9)] [] s0 := by
  intro n
  induction n with
  | zero =>
    intro v0 v2 v4 v5 v7 v9 s0 hF
    exact absurd (show (none : Option (Int64 × ae_S)) = some (rr, ss) from hF) (by simp)
  | succ n ih =>
    intro v0 v2 v4 v5 v7 v9 s0 hF
    unfold F_X2_remainder_93 at hF
    refine ae_iload 5 dX2_remainder_93 rfl ?_
    refine ae_iload 2 dX2_remainder_95 rfl ?_
    refine ae_icmp_ge 135 dX2_remainder_97 rfl (fun hb11 => ?_) (fun hb11 => ?_)
    · have hF12 := ae_ifT hb11 hF
      refine ae_pick (lv' := [(0, ae_l v0), (2, ae_l v2), (7, ae_l v7)]) [0, 1, 4] rfl ?_
      exact t_X2_remainder_135 d v0 v2 v7 s0 hF12
    · have hF12 := ae_ifF hb11 hF
      refine ae_iload 5 dX2_remainder_100 rfl ?_
      refine ae_sipush (2100 : Int32) dX2_remainder_102 (by decide) ?_
      refine ae_icmp_ge 135 dX2_remainder_105 rfl (fun hb13 => ?_) (fun hb13 => ?_)
      · have hF14 := ae_ifT hb13 hF12
        refine ae_pick (lv' := [(0, ae_l v0), (2, ae_l v2), (7, ae_l v7)]) [0, 1, 4] rfl ?_
        exact t_X2_remainder_135 d v0 v2 v7 s0 hF14
      · have hF14 := ae_ifF hb13 hF12
        refine ae_lload 4 dX2_remainder_108 rfl ?_
        refine ae_iconst (1 : Int32) dX2_remainder_110 (by decide) ?_
        refine ae_lshl dX2_remainder_111 ?_
        obtain ⟨x15, hx15, hF16⟩ := ae_ltI hF14
        refine ae_nmL hx15 ?_
        refine ae_lstore (lv' := [(7, ae_l x15), (0, ae_l v0), (2, ae_l v2), (4, ae_i v4), (5, ae_l v5), (9, ae_i v9)]) dX2_remainder_112 (by decide) rfl ?_
        refine ae_lload 0 dX2_remainder_114 rfl ?_
        refine ae_lload 4 dX2_remainder_116 rfl ?_
        refine ae_lcmp dX2_remainder_118 ?_
        refine ae_if_lt 129 dX2_remainder_119 rfl (fun hb17 => ?_) (fun hb17 => ?_)
        · have hF18 := ae_ifT hb17 hF16
          refine ae_pick (lv' := [(0, ae_l v0), (2, ae_l v2), (4, ae_i v4), (5, ae_l v5), (7, ae_l x15), (9, ae_i v9)]) [1, 2, 3, 4, 0, 5] rfl ?_
          exact t_X2_remainder_129 d (F_X2_remainder_93 n) ih v0 v2 v4 v5 x15 v9 s0 hF18
        · have hF18 := ae_ifF hb17 hF16
          refine ae_lload 0 dX2_remainder_122 rfl ?_
          refine ae_lload 4 dX2_remainder_124 rfl ?_
          refine ae_lsub dX2_remainder_126 ?_
          obtain ⟨x19, hx19, hF20⟩ := ae_ltI hF18
          refine ae_nmL hx19 ?_
          refine ae_lstore (lv' := [(7, ae_l x19), (0, ae_l v0), (2, ae_l v2), (4, ae_i v4), (5, ae_l v5), (9, ae_i v9)]) dX2_remainder_127 (by decide) rfl ?_
          refine ae_pick (lv' := [(0, ae_l v0), (2, ae_l v2), (4, ae_i v4), (5, ae_l v5), (7, ae_l x19), (9, ae_i v9)]) [1, 2, 3, 4, 0, 5] rfl ?_
          exact t_X2_remainder_129 d (F_X2_remainder_93 n) ih v0 v2 v4 v5 x19 v9 s0 hF20
def F_X2_remainder (v0 : Int64) (v2 : Int64) (s0 : ae_S) : Option (Int64 × ae_S) := ae_bd (F_X2_isNan v0 s0) (fun (r21 : Int32) s22 => if r21 = 0 then (ae_bd (F_X2_isNan v2 s22) (fun (r27 : Int32) s28 => if r27 = 0 then (ae_bd (F_X2_isInfinite v0 s28) (fun (r33 : Int32) s34 => if r33 = 0 then (ae_bd (F_X2_isZero v2 s34) (fun (r39 : Int32) s40 => if r39 = 0 then (ae_bd (F_X2_powerOf v0 s40) (fun (r45 : Int32) s46 => ae_bd (F_X2_powerOf v2 s46) (fun (r49 : Int32) s50 => ae_lt (r45 - r49) (fun x53 => ae_bd (F_X2_isInfinite v2 s50) (fun (r55 : Int32) s56 => if r55 = 0 then (ae_bd (F_X2_isZero v0 s56) (fun (r61 : Int32) s62 => if r61 = 0 then (if 0 ≤ x53 then (ae_bd (F_X2_digitsOf v2 s62) (fun (r69 : Int64) s70 => if (lg_cmp r69 (0 : Int64)) = 0 then (some ((9221120237041090560 : Int64), s70)) else (ae_bd (F_X2_digitsOf v0 s70) (fun (r75 : Int64) s76 => ae_gd (!(decide (r69 = 0))) (ae_lt (r75 - r75 / r69 * r69) (fun x81 => F_X2_remainder_93 ae_fu v0 v2 x53 r69 x81 (0 : Int32) s76)))))) else (F_X2_remainder_62 v0 s62)) else (F_X2_remainder_62 v0 s62))) else (F_X2_remainder_62 v0 s56)))))) else (F_X2_remainder_28 s40))) else (F_X2_remainder_28 s34))) else (F_X2_remainder_28 s28))) else (F_X2_remainder_28 s22))
set_option maxHeartbeats 4000000 in
set_option maxRecDepth 100000 in
theorem c_X2_remainder {l : Launch} {G : ae_G} (d : Nat) {v0 : Int64} {v2 : Int64} {s0 ss : ae_S} {rr : Int64} (hF : F_X2_remainder v0 v2 s0 = some (rr, ss)) : ae_Met l G (d + 3) yX2_remainder mX2_remainder [ae_l v0, ae_l v2] s0 (ae_Po (some (ae_l rr)) ss) := by
  refine ae_enter (by decide) rfl (Nat.le_of_ble_eq_true rfl) ?_
  show ae_T l G (d + 3) mX2_remainder (ae_Po (some (ae_l rr)) ss) 0 [(0, ae_l v0), (2, ae_l v2)] [] s0
  unfold F_X2_remainder at hF
  refine ae_lload_n 0 dX2_remainder_0 rfl ?_
  obtain ⟨r21, s22, hc23, hF24⟩ := ae_bdI hF
  refine ae_cS1 (As := [ae_l v0]) dX2_remainder_1 ww_748 vy_X2_isNan rfl rfl (Nat.le_of_ble_eq_true rfl) (c_X2_isNan (d + 2) hc23) ?_
  refine ae_if_ne 28 dX2_remainder_4 rfl (fun hb25 => ?_) (fun hb25 => ?_)
  · have hF26 := ae_ifF hb25 hF24
    refine ae_pick (lv' := []) [] rfl ?_
    exact t_X2_remainder_28 d s22 hF26
  · have hF26 := ae_ifT hb25 hF24
    refine ae_lload_n 1 dX2_remainder_7 rfl ?_
    obtain ⟨r27, s28, hc29, hF30⟩ := ae_bdI hF26
    refine ae_cS1 (As := [ae_l v2]) dX2_remainder_8 ww_748 vy_X2_isNan rfl rfl (Nat.le_of_ble_eq_true rfl) (c_X2_isNan (d + 2) hc29) ?_
    refine ae_if_ne 28 dX2_remainder_11 rfl (fun hb31 => ?_) (fun hb31 => ?_)
    · have hF32 := ae_ifF hb31 hF30
      refine ae_pick (lv' := []) [] rfl ?_
      exact t_X2_remainder_28 d s28 hF32
    · have hF32 := ae_ifT hb31 hF30
      refine ae_lload_n 0 dX2_remainder_14 rfl ?_
      obtain ⟨r33, s34, hc35, hF36⟩ := ae_bdI hF32
      refine ae_cS1 (As := [ae_l v0]) dX2_remainder_15 ww_753 vy_X2_isInfinite rfl rfl (Nat.le_of_ble_eq_true rfl) (c_X2_isInfinite (d + 2) hc35) ?_
      refine ae_if_ne 28 dX2_remainder_18 rfl (fun hb37 => ?_) (fun hb37 => ?_)
      · have hF38 := ae_ifF hb37 hF36
        refine ae_pick (lv' := []) [] rfl ?_
        exact t_X2_remainder_28 d s34 hF38
      · have hF38 := ae_ifT hb37 hF36
        refine ae_lload_n 1 dX2_remainder_21 rfl ?_
        obtain ⟨r39, s40, hc41, hF42⟩ := ae_bdI hF38
        refine ae_cS1 (As := [ae_l v2]) dX2_remainder_22 ww_756 vy_X2_isZero rfl rfl (Nat.le_of_ble_eq_true rfl) (c_X2_isZero (d + 2) hc41) ?_
        refine ae_if_eq 32 dX2_remainder_25 rfl (fun hb43 => ?_) (fun hb43 => ?_)
        · have hF44 := ae_ifT hb43 hF42
          refine ae_lload_n 0 dX2_remainder_32 rfl ?_
          obtain ⟨r45, s46, hc47, hF48⟩ := ae_bdI hF44
          refine ae_cS1 (As := [ae_l v0]) dX2_remainder_33 ww_767 vy_X2_powerOf rfl rfl (Nat.le_of_ble_eq_true rfl) (c_X2_powerOf (d + 1) hc47) ?_
          refine ae_lload_n 1 dX2_remainder_36 rfl ?_
          obtain ⟨r49, s50, hc51, hF52⟩ := ae_bdI hF48
          refine ae_cS1 (As := [ae_l v2]) dX2_remainder_37 ww_767 vy_X2_powerOf rfl rfl (Nat.le_of_ble_eq_true rfl) (c_X2_powerOf (d + 1) hc51) ?_
          refine ae_isub dX2_remainder_40 ?_
          obtain ⟨x53, hx53, hF54⟩ := ae_ltI hF52
          refine ae_nmI hx53 ?_
          refine ae_istore (lv' := [(4, ae_i x53), (0, ae_l v0), (2, ae_l v2)]) dX2_remainder_41 (by decide) rfl ?_
          refine ae_lload_n 2 dX2_remainder_43 rfl ?_
          obtain ⟨r55, s56, hc57, hF58⟩ := ae_bdI hF54
          refine ae_cS1 (As := [ae_l v2]) dX2_remainder_44 ww_753 vy_X2_isInfinite rfl rfl (Nat.le_of_ble_eq_true rfl) (c_X2_isInfinite (d + 2) hc57) ?_
          refine ae_if_ne 62 dX2_remainder_47 rfl (fun hb59 => ?_) (fun hb59 => ?_)
          · have hF60 := ae_ifF hb59 hF58
            refine ae_pick (lv' := [(0, ae_l v0)]) [1] rfl ?_
            exact t_X2_remainder_62 d v0 s56 hF60
          · have hF60 := ae_ifT hb59 hF58
            refine ae_lload_n 1 dX2_remainder_50 rfl ?_
            obtain ⟨r61, s62, hc63, hF64⟩ := ae_bdI hF60
            refine ae_cS1 (As := [ae_l v0]) dX2_remainder_51 ww_756 vy_X2_isZero rfl rfl (Nat.le_of_ble_eq_true rfl) (c_X2_isZero (d + 2) hc63) ?_
            refine ae_if_ne 62 dX2_remainder_54 rfl (fun hb65 => ?_) (fun hb65 => ?_)
            · have hF66 := ae_ifF hb65 hF64
              refine ae_pick (lv' := [(0, ae_l v0)]) [1] rfl ?_
              exact t_X2_remainder_62 d v0 s62 hF66
            · have hF66 := ae_ifT hb65 hF64
              refine ae_iload 0 dX2_remainder_57 rfl ?_
              refine ae_if_ge 64 dX2_remainder_59 rfl (fun hb67 => ?_) (fun hb67 => ?_)
              · have hF68 := ae_ifT hb67 hF66
                refine ae_lload_n 2 dX2_remainder_64 rfl ?_
                obtain ⟨r69, s70, hc71, hF72⟩ := ae_bdI hF68
                refine ae_cS1 (As := [ae_l v2]) dX2_remainder_65 ww_762 vy_X2_digitsOf rfl rfl (Nat.le_of_ble_eq_true rfl) (c_X2_digitsOf (d + 2) hc71) ?_
                refine ae_lstore (lv' := [(5, ae_l r69), (4, ae_i x53), (0, ae_l v0), (2, ae_l v2)]) dX2_remainder_68 (by decide) rfl ?_
                refine ae_lload 0 dX2_remainder_70 rfl ?_
                refine ae_lconst (0 : Int64) dX2_remainder_72 (by decide) ?_
                refine ae_lcmp dX2_remainder_73 ?_
                refine ae_if_ne 81 dX2_remainder_74 rfl (fun hb73 => ?_) (fun hb73 => ?_)
                · have hF74 := ae_ifF hb73 hF72
                  refine ae_lload_n 2 dX2_remainder_81 rfl ?_
                  obtain ⟨r75, s76, hc77, hF78⟩ := ae_bdI hF74
                  refine ae_cS1 (As := [ae_l v0]) dX2_remainder_82 ww_762 vy_X2_digitsOf rfl rfl (Nat.le_of_ble_eq_true rfl) (c_X2_digitsOf (d + 2) hc77) ?_
                  refine ae_lload 0 dX2_remainder_85 rfl ?_
                  obtain ⟨hg79, hF80⟩ := ae_gdI hF78
                  refine ae_lrem dX2_remainder_87 (by simpa using hg79) ?_
                  obtain ⟨x81, hx81, hF82⟩ := ae_ltI hF80
                  refine ae_nmL hx81 ?_
                  refine ae_lstore (lv' := [(7, ae_l x81), (5, ae_l r69), (4, ae_i x53), (0, ae_l v0), (2, ae_l v2)]) dX2_remainder_88 (by decide) rfl ?_
                  refine ae_iconst (0 : Int32) dX2_remainder_90 (by decide) ?_
                  refine ae_istore (lv' := [(9, ae_i (0 : Int32)), (7, ae_l x81), (5, ae_l r69), (4, ae_i x53), (0, ae_l v0), (2, ae_l v2)]) dX2_remainder_91 (by decide) rfl ?_
                  refine ae_pick (lv' := [(0, ae_l v0), (2, ae_l v2), (4, ae_i x53), (5, ae_l r69), (7, ae_l x81), (9, ae_i (0 : Int32))]) [4, 5, 3, 2, 1, 0] rfl ?_
                  exact t_X2_remainder_93 d ae_fu v0 v2 x53 r69 x81 (0 : Int32) s76 hF82
                · have hF74 := ae_ifT hb73 hF72
                  refine ae_ldc2 dX2_remainder_77 ww_752 ?_
                  obtain ⟨rfl, rfl⟩ := ae_retI hF74
                  exact ae_lret dX2_remainder_80 rfl ⟨rfl, rfl⟩
              · have hF68 := ae_ifF hb67 hF66
                refine ae_pick (lv' := [(0, ae_l v0)]) [1] rfl ?_
                exact t_X2_remainder_62 d v0 s62 hF68
        · have hF44 := ae_ifF hb43 hF42
          refine ae_pick (lv' := []) [] rfl ?_
          exact t_X2_remainder_28 d s40 hF44
abbrev mX2_orderOf : ae_M := (RX2, cX2_orderOf, 2, some .long)
theorem vy_X2_orderOf : ae_SY yX2_orderOf mX2_orderOf 1 := ⟨ww_1004, ww_18, ww_1005, ⟨by decide, by decide, by decide +kernel⟩, by decide⟩
theorem dX2_orderOf_0 : decode cX2_orderOf 0 = .ok (.lload_n 0, 1) := by decide +kernel
theorem dX2_orderOf_1 : decode cX2_orderOf 1 = .ok (.lconst 0, 1) := by decide +kernel
theorem dX2_orderOf_2 : decode cX2_orderOf 2 = .ok (.lcmp, 1) := by decide +kernel
theorem dX2_orderOf_3 : decode cX2_orderOf 3 = .ok (.ifCond .ge 11, 3) := by decide +kernel
theorem dX2_orderOf_6 : decode cX2_orderOf 6 = .ok (.lload_n 0, 1) := by decide +kernel
theorem dX2_orderOf_7 : decode cX2_orderOf 7 = .ok (.ldc2_w 11, 3) := by decide +kernel
theorem dX2_orderOf_10 : decode cX2_orderOf 10 = .ok (.lxor, 1) := by decide +kernel
theorem dX2_orderOf_11 : decode cX2_orderOf 11 = .ok (.goto 4, 3) := by decide +kernel
theorem dX2_orderOf_14 : decode cX2_orderOf 14 = .ok (.lload_n 0, 1) := by decide +kernel
theorem dX2_orderOf_15 : decode cX2_orderOf 15 = .ok (.lreturn, 1) := by decide +kernel
def F_X2_orderOf_15 (t0 : Int64) (s0 : ae_S) : Option (Int64 × ae_S) := some (t0, s0)
set_option maxHeartbeats 4000000 in
set_option maxRecDepth 100000 in
theorem t_X2_orderOf_15 {l : Launch} {G : ae_G} (d : Nat) {rr : Int64} {ss : ae_S} (t0 : Int64) (s0 : ae_S) (hF : F_X2_orderOf_15 t0 s0 = some (rr, ss)) : ae_T l G d mX2_orderOf (ae_Po (some (ae_l rr)) ss) 15 [] [ae_l t0] s0 := by
  unfold F_X2_orderOf_15 at hF
  obtain ⟨rfl, rfl⟩ := ae_retI hF
  exact ae_lret dX2_orderOf_15 rfl ⟨rfl, rfl⟩
def F_X2_orderOf (v0 : Int64) (s0 : ae_S) : Option (Int64 × ae_S) := if 0 ≤ (lg_cmp v0 (0 : Int64)) then (F_X2_orderOf_15 v0 s0) else (F_X2_orderOf_15 (v0 ^^^ (9223372036854775807 : Int64)) s0)
set_option maxHeartbeats 4000000 in
set_option maxRecDepth 100000 in
theorem c_X2_orderOf {l : Launch} {G : ae_G} (d : Nat) {v0 : Int64} {s0 ss : ae_S} {rr : Int64} (hF : F_X2_orderOf v0 s0 = some (rr, ss)) : ae_Met l G d yX2_orderOf mX2_orderOf [ae_l v0] s0 (ae_Po (some (ae_l rr)) ss) := by
  refine ae_enter (by decide) rfl (Nat.le_of_ble_eq_true rfl) ?_
  show ae_T l G d mX2_orderOf (ae_Po (some (ae_l rr)) ss) 0 [(0, ae_l v0)] [] s0
  unfold F_X2_orderOf at hF
  refine ae_lload_n 0 dX2_orderOf_0 rfl ?_
  refine ae_lconst (0 : Int64) dX2_orderOf_1 (by decide) ?_
  refine ae_lcmp dX2_orderOf_2 ?_
  refine ae_if_ge 14 dX2_orderOf_3 rfl (fun hb1 => ?_) (fun hb1 => ?_)
  · have hF2 := ae_ifT hb1 hF
    refine ae_lload_n 0 dX2_orderOf_14 rfl ?_
    refine ae_pick (lv' := []) [] rfl ?_
    exact t_X2_orderOf_15 d v0 s0 hF2
  · have hF2 := ae_ifF hb1 hF
    refine ae_lload_n 0 dX2_orderOf_6 rfl ?_
    refine ae_ldc2 dX2_orderOf_7 ww_751 ?_
    refine ae_lxor dX2_orderOf_10 ?_
    refine ae_goto 15 dX2_orderOf_11 rfl ?_
    refine ae_pick (lv' := []) [] rfl ?_
    exact t_X2_orderOf_15 d (v0 ^^^ (9223372036854775807 : Int64)) s0 hF2
abbrev mX2_less : ae_M := (RX2, cX2_less, 4, some .boolean)
theorem vy_X2_less : ae_SY yX2_less mX2_less 2 := ⟨ww_1001, ww_18, ww_1002, ⟨by decide, by decide, by decide +kernel⟩, by decide⟩
theorem dX2_less_0 : decode cX2_less 0 = .ok (.lload_n 0, 1) := by decide +kernel
theorem dX2_less_1 : decode cX2_less 1 = .ok (.invokestatic 15, 3) := by decide +kernel
theorem dX2_less_4 : decode cX2_less 4 = .ok (.ifCond .ne 24, 3) := by decide +kernel
theorem dX2_less_7 : decode cX2_less 7 = .ok (.lload_n 2, 1) := by decide +kernel
theorem dX2_less_8 : decode cX2_less 8 = .ok (.invokestatic 15, 3) := by decide +kernel
theorem dX2_less_11 : decode cX2_less 11 = .ok (.ifCond .ne 17, 3) := by decide +kernel
theorem dX2_less_14 : decode cX2_less 14 = .ok (.lload_n 0, 1) := by decide +kernel
theorem dX2_less_15 : decode cX2_less 15 = .ok (.invokestatic 33, 3) := by decide +kernel
theorem dX2_less_18 : decode cX2_less 18 = .ok (.ifCond .eq 12, 3) := by decide +kernel
theorem dX2_less_21 : decode cX2_less 21 = .ok (.lload_n 2, 1) := by decide +kernel
theorem dX2_less_22 : decode cX2_less 22 = .ok (.invokestatic 33, 3) := by decide +kernel
theorem dX2_less_25 : decode cX2_less 25 = .ok (.ifCond .eq 5, 3) := by decide +kernel
theorem dX2_less_28 : decode cX2_less 28 = .ok (.iconst 0, 1) := by decide +kernel
theorem dX2_less_29 : decode cX2_less 29 = .ok (.ireturn, 1) := by decide +kernel
theorem dX2_less_30 : decode cX2_less 30 = .ok (.lload_n 0, 1) := by decide +kernel
theorem dX2_less_31 : decode cX2_less 31 = .ok (.invokestatic 36, 3) := by decide +kernel
theorem dX2_less_34 : decode cX2_less 34 = .ok (.lload_n 2, 1) := by decide +kernel
theorem dX2_less_35 : decode cX2_less 35 = .ok (.invokestatic 36, 3) := by decide +kernel
theorem dX2_less_38 : decode cX2_less 38 = .ok (.lcmp, 1) := by decide +kernel
theorem dX2_less_39 : decode cX2_less 39 = .ok (.ifCond .ge 7, 3) := by decide +kernel
theorem dX2_less_42 : decode cX2_less 42 = .ok (.iconst 1, 1) := by decide +kernel
theorem dX2_less_43 : decode cX2_less 43 = .ok (.goto 4, 3) := by decide +kernel
theorem dX2_less_46 : decode cX2_less 46 = .ok (.iconst 0, 1) := by decide +kernel
theorem dX2_less_47 : decode cX2_less 47 = .ok (.ireturn, 1) := by decide +kernel
def F_X2_less_28 (s0 : ae_S) : Option (Int32 × ae_S) := some ((0 : Int32), s0)
set_option maxHeartbeats 4000000 in
set_option maxRecDepth 100000 in
theorem t_X2_less_28 {l : Launch} {G : ae_G} (d : Nat) {rr : Int32} {ss : ae_S} (s0 : ae_S) (hF : F_X2_less_28 s0 = some (rr, ss)) : ae_T l G (d + 1) mX2_less (ae_Po (some (ae_i rr)) ss) 28 [] [] s0 := by
  unfold F_X2_less_28 at hF
  refine ae_iconst (0 : Int32) dX2_less_28 (by decide) ?_
  obtain ⟨rfl, rfl⟩ := ae_retI hF
  exact ae_iret dX2_less_29 rfl (by decide) ⟨rfl, rfl⟩
def F_X2_less_47 (t0 : Int32) (s0 : ae_S) : Option (Int32 × ae_S) := ae_gd (ae_zz t0) (some (t0, s0))
set_option maxHeartbeats 4000000 in
set_option maxRecDepth 100000 in
theorem t_X2_less_47 {l : Launch} {G : ae_G} (d : Nat) {rr : Int32} {ss : ae_S} (t0 : Int32) (s0 : ae_S) (hF : F_X2_less_47 t0 s0 = some (rr, ss)) : ae_T l G (d + 1) mX2_less (ae_Po (some (ae_i rr)) ss) 47 [] [ae_i t0] s0 := by
  unfold F_X2_less_47 at hF
  obtain ⟨hg1, hF2⟩ := ae_gdI hF
  obtain ⟨rfl, rfl⟩ := ae_retI hF2
  exact ae_iret dX2_less_47 rfl (ae_zzN (ae_zzI hg1)) ⟨rfl, rfl⟩
def F_X2_less_30 (v0 : Int64) (v2 : Int64) (s0 : ae_S) : Option (Int32 × ae_S) := ae_bd (F_X2_orderOf v0 s0) (fun (r3 : Int64) s4 => ae_bd (F_X2_orderOf v2 s4) (fun (r7 : Int64) s8 => if 0 ≤ (lg_cmp r3 r7) then (F_X2_less_47 (0 : Int32) s8) else (F_X2_less_47 (1 : Int32) s8)))
set_option maxHeartbeats 4000000 in
set_option maxRecDepth 100000 in
theorem t_X2_less_30 {l : Launch} {G : ae_G} (d : Nat) {rr : Int32} {ss : ae_S} (v0 : Int64) (v2 : Int64) (s0 : ae_S) (hF : F_X2_less_30 v0 v2 s0 = some (rr, ss)) : ae_T l G (d + 1) mX2_less (ae_Po (some (ae_i rr)) ss) 30 [(0, ae_l v0), (2, ae_l v2)] [] s0 := by
  unfold F_X2_less_30 at hF
  refine ae_lload_n 0 dX2_less_30 rfl ?_
  obtain ⟨r3, s4, hc5, hF6⟩ := ae_bdI hF
  refine ae_cS1 (As := [ae_l v0]) dX2_less_31 ww_1003 vy_X2_orderOf rfl rfl (Nat.le_of_ble_eq_true rfl) (c_X2_orderOf d hc5) ?_
  refine ae_lload_n 1 dX2_less_34 rfl ?_
  obtain ⟨r7, s8, hc9, hF10⟩ := ae_bdI hF6
  refine ae_cS1 (As := [ae_l v2]) dX2_less_35 ww_1003 vy_X2_orderOf rfl rfl (Nat.le_of_ble_eq_true rfl) (c_X2_orderOf d hc9) ?_
  refine ae_lcmp dX2_less_38 ?_
  refine ae_if_ge 46 dX2_less_39 rfl (fun hb11 => ?_) (fun hb11 => ?_)
  · have hF12 := ae_ifT hb11 hF10
    refine ae_iconst (0 : Int32) dX2_less_46 (by decide) ?_
    refine ae_pick (lv' := []) [] rfl ?_
    exact t_X2_less_47 d (0 : Int32) s8 hF12
  · have hF12 := ae_ifF hb11 hF10
    refine ae_iconst (1 : Int32) dX2_less_42 (by decide) ?_
    refine ae_goto 47 dX2_less_43 rfl ?_
    refine ae_pick (lv' := []) [] rfl ?_
    exact t_X2_less_47 d (1 : Int32) s8 hF12
def F_X2_less (v0 : Int64) (v2 : Int64) (s0 : ae_S) : Option (Int32 × ae_S) := ae_bd (F_X2_isNan v0 s0) (fun (r13 : Int32) s14 => if r13 = 0 then (ae_bd (F_X2_isNan v2 s14) (fun (r19 : Int32) s20 => if r19 = 0 then (ae_bd (F_X2_isZero v0 s20) (fun (r25 : Int32) s26 => if r25 = 0 then (F_X2_less_30 v0 v2 s26) else (ae_bd (F_X2_isZero v2 s26) (fun (r31 : Int32) s32 => if r31 = 0 then (F_X2_less_30 v0 v2 s32) else (F_X2_less_28 s32))))) else (F_X2_less_28 s20))) else (F_X2_less_28 s14))
set_option maxHeartbeats 4000000 in
set_option maxRecDepth 100000 in
theorem c_X2_less {l : Launch} {G : ae_G} (d : Nat) {v0 : Int64} {v2 : Int64} {s0 ss : ae_S} {rr : Int32} (hF : F_X2_less v0 v2 s0 = some (rr, ss)) : ae_Met l G (d + 1) yX2_less mX2_less [ae_l v0, ae_l v2] s0 (ae_Po (some (ae_i rr)) ss) := by
  refine ae_enter (by decide) rfl (Nat.le_of_ble_eq_true rfl) ?_
  show ae_T l G (d + 1) mX2_less (ae_Po (some (ae_i rr)) ss) 0 [(0, ae_l v0), (2, ae_l v2)] [] s0
  unfold F_X2_less at hF
  refine ae_lload_n 0 dX2_less_0 rfl ?_
  obtain ⟨r13, s14, hc15, hF16⟩ := ae_bdI hF
  refine ae_cS1 (As := [ae_l v0]) dX2_less_1 ww_748 vy_X2_isNan rfl rfl (Nat.le_of_ble_eq_true rfl) (c_X2_isNan d hc15) ?_
  refine ae_if_ne 28 dX2_less_4 rfl (fun hb17 => ?_) (fun hb17 => ?_)
  · have hF18 := ae_ifF hb17 hF16
    refine ae_pick (lv' := []) [] rfl ?_
    exact t_X2_less_28 d s14 hF18
  · have hF18 := ae_ifT hb17 hF16
    refine ae_lload_n 1 dX2_less_7 rfl ?_
    obtain ⟨r19, s20, hc21, hF22⟩ := ae_bdI hF18
    refine ae_cS1 (As := [ae_l v2]) dX2_less_8 ww_748 vy_X2_isNan rfl rfl (Nat.le_of_ble_eq_true rfl) (c_X2_isNan d hc21) ?_
    refine ae_if_ne 28 dX2_less_11 rfl (fun hb23 => ?_) (fun hb23 => ?_)
    · have hF24 := ae_ifF hb23 hF22
      refine ae_pick (lv' := []) [] rfl ?_
      exact t_X2_less_28 d s20 hF24
    · have hF24 := ae_ifT hb23 hF22
      refine ae_lload_n 0 dX2_less_14 rfl ?_
      obtain ⟨r25, s26, hc27, hF28⟩ := ae_bdI hF24
      refine ae_cS1 (As := [ae_l v0]) dX2_less_15 ww_756 vy_X2_isZero rfl rfl (Nat.le_of_ble_eq_true rfl) (c_X2_isZero d hc27) ?_
      refine ae_if_eq 30 dX2_less_18 rfl (fun hb29 => ?_) (fun hb29 => ?_)
      · have hF30 := ae_ifT hb29 hF28
        refine ae_pick (lv' := [(0, ae_l v0), (2, ae_l v2)]) [0, 1] rfl ?_
        exact t_X2_less_30 d v0 v2 s26 hF30
      · have hF30 := ae_ifF hb29 hF28
        refine ae_lload_n 1 dX2_less_21 rfl ?_
        obtain ⟨r31, s32, hc33, hF34⟩ := ae_bdI hF30
        refine ae_cS1 (As := [ae_l v2]) dX2_less_22 ww_756 vy_X2_isZero rfl rfl (Nat.le_of_ble_eq_true rfl) (c_X2_isZero d hc33) ?_
        refine ae_if_eq 30 dX2_less_25 rfl (fun hb35 => ?_) (fun hb35 => ?_)
        · have hF36 := ae_ifT hb35 hF34
          refine ae_pick (lv' := [(0, ae_l v0), (2, ae_l v2)]) [0, 1] rfl ?_
          exact t_X2_less_30 d v0 v2 s32 hF36
        · have hF36 := ae_ifF hb35 hF34
          refine ae_pick (lv' := []) [] rfl ?_
          exact t_X2_less_28 d s32 hF36
abbrev mX2_alike : ae_M := (RX2, cX2_alike, 4, some .boolean)
theorem vy_X2_alike : ae_SY yX2_alike mX2_alike 2 := ⟨ww_1011, ww_18, ww_1012, ⟨by decide, by decide, by decide +kernel⟩, by decide⟩
theorem dX2_alike_0 : decode cX2_alike 0 = .ok (.lload_n 0, 1) := by decide +kernel
theorem dX2_alike_1 : decode cX2_alike 1 = .ok (.invokestatic 15, 3) := by decide +kernel
theorem dX2_alike_4 : decode cX2_alike 4 = .ok (.ifCond .ne 10, 3) := by decide +kernel
theorem dX2_alike_7 : decode cX2_alike 7 = .ok (.lload_n 2, 1) := by decide +kernel
theorem dX2_alike_8 : decode cX2_alike 8 = .ok (.invokestatic 15, 3) := by decide +kernel
theorem dX2_alike_11 : decode cX2_alike 11 = .ok (.ifCond .eq 5, 3) := by decide +kernel
theorem dX2_alike_14 : decode cX2_alike 14 = .ok (.iconst 0, 1) := by decide +kernel
theorem dX2_alike_15 : decode cX2_alike 15 = .ok (.ireturn, 1) := by decide +kernel
theorem dX2_alike_16 : decode cX2_alike 16 = .ok (.lload_n 0, 1) := by decide +kernel
theorem dX2_alike_17 : decode cX2_alike 17 = .ok (.lload_n 2, 1) := by decide +kernel
theorem dX2_alike_18 : decode cX2_alike 18 = .ok (.lcmp, 1) := by decide +kernel
theorem dX2_alike_19 : decode cX2_alike 19 = .ok (.ifCond .eq 17, 3) := by decide +kernel
theorem dX2_alike_22 : decode cX2_alike 22 = .ok (.lload_n 0, 1) := by decide +kernel
theorem dX2_alike_23 : decode cX2_alike 23 = .ok (.invokestatic 33, 3) := by decide +kernel
theorem dX2_alike_26 : decode cX2_alike 26 = .ok (.ifCond .eq 14, 3) := by decide +kernel
theorem dX2_alike_29 : decode cX2_alike 29 = .ok (.lload_n 2, 1) := by decide +kernel
theorem dX2_alike_30 : decode cX2_alike 30 = .ok (.invokestatic 33, 3) := by decide +kernel
theorem dX2_alike_33 : decode cX2_alike 33 = .ok (.ifCond .eq 7, 3) := by decide +kernel
theorem dX2_alike_36 : decode cX2_alike 36 = .ok (.iconst 1, 1) := by decide +kernel
theorem dX2_alike_37 : decode cX2_alike 37 = .ok (.goto 4, 3) := by decide +kernel
theorem dX2_alike_40 : decode cX2_alike 40 = .ok (.iconst 0, 1) := by decide +kernel
theorem dX2_alike_41 : decode cX2_alike 41 = .ok (.ireturn, 1) := by decide +kernel
def F_X2_alike_14 (s0 : ae_S) : Option (Int32 × ae_S) := some ((0 : Int32), s0)
set_option maxHeartbeats 4000000 in
set_option maxRecDepth 100000 in
theorem t_X2_alike_14 {l : Launch} {G : ae_G} (d : Nat) {rr : Int32} {ss : ae_S} (s0 : ae_S) (hF : F_X2_alike_14 s0 = some (rr, ss)) : ae_T l G (d + 1) mX2_alike (ae_Po (some (ae_i rr)) ss) 14 [] [] s0 := by
  unfold F_X2_alike_14 at hF
  refine ae_iconst (0 : Int32) dX2_alike_14 (by decide) ?_
  obtain ⟨rfl, rfl⟩ := ae_retI hF
  exact ae_iret dX2_alike_15 rfl (by decide) ⟨rfl, rfl⟩
def F_X2_alike_41 (t0 : Int32) (s0 : ae_S) : Option (Int32 × ae_S) := ae_gd (ae_zz t0) (some (t0, s0))
set_option maxHeartbeats 4000000 in
set_option maxRecDepth 100000 in
theorem t_X2_alike_41 {l : Launch} {G : ae_G} (d : Nat) {rr : Int32} {ss : ae_S} (t0 : Int32) (s0 : ae_S) (hF : F_X2_alike_41 t0 s0 = some (rr, ss)) : ae_T l G (d + 1) mX2_alike (ae_Po (some (ae_i rr)) ss) 41 [] [ae_i t0] s0 := by
  unfold F_X2_alike_41 at hF
  obtain ⟨hg1, hF2⟩ := ae_gdI hF
  obtain ⟨rfl, rfl⟩ := ae_retI hF2
  exact ae_iret dX2_alike_41 rfl (ae_zzN (ae_zzI hg1)) ⟨rfl, rfl⟩
def F_X2_alike_36 (s0 : ae_S) : Option (Int32 × ae_S) := F_X2_alike_41 (1 : Int32) s0
set_option maxHeartbeats 4000000 in
set_option maxRecDepth 100000 in
theorem t_X2_alike_36 {l : Launch} {G : ae_G} (d : Nat) {rr : Int32} {ss : ae_S} (s0 : ae_S) (hF : F_X2_alike_36 s0 = some (rr, ss)) : ae_T l G (d + 1) mX2_alike (ae_Po (some (ae_i rr)) ss) 36 [] [] s0 := by
  unfold F_X2_alike_36 at hF
  refine ae_iconst (1 : Int32) dX2_alike_36 (by decide) ?_
  refine ae_goto 41 dX2_alike_37 rfl ?_
  refine ae_pick (lv' := []) [] rfl ?_
  exact t_X2_alike_41 d (1 : Int32) s0 hF
def F_X2_alike_40 (s0 : ae_S) : Option (Int32 × ae_S) := F_X2_alike_41 (0 : Int32) s0
set_option maxHeartbeats 4000000 in
set_option maxRecDepth 100000 in
theorem t_X2_alike_40 {l : Launch} {G : ae_G} (d : Nat) {rr : Int32} {ss : ae_S} (s0 : ae_S) (hF : F_X2_alike_40 s0 = some (rr, ss)) : ae_T l G (d + 1) mX2_alike (ae_Po (some (ae_i rr)) ss) 40 [] [] s0 := by
  unfold F_X2_alike_40 at hF
  refine ae_iconst (0 : Int32) dX2_alike_40 (by decide) ?_
  refine ae_pick (lv' := []) [] rfl ?_
  exact t_X2_alike_41 d (0 : Int32) s0 hF
def F_X2_alike (v0 : Int64) (v2 : Int64) (s0 : ae_S) : Option (Int32 × ae_S) := ae_bd (F_X2_isNan v0 s0) (fun (r3 : Int32) s4 => if r3 = 0 then (ae_bd (F_X2_isNan v2 s4) (fun (r9 : Int32) s10 => if r9 = 0 then (if (lg_cmp v0 v2) = 0 then (F_X2_alike_36 s10) else (ae_bd (F_X2_isZero v0 s10) (fun (r17 : Int32) s18 => if r17 = 0 then (F_X2_alike_40 s18) else (ae_bd (F_X2_isZero v2 s18) (fun (r23 : Int32) s24 => if r23 = 0 then (F_X2_alike_40 s24) else (F_X2_alike_36 s24)))))) else (F_X2_alike_14 s10))) else (F_X2_alike_14 s4))
set_option maxHeartbeats 4000000 in
set_option maxRecDepth 100000 in
theorem c_X2_alike {l : Launch} {G : ae_G} (d : Nat) {v0 : Int64} {v2 : Int64} {s0 ss : ae_S} {rr : Int32} (hF : F_X2_alike v0 v2 s0 = some (rr, ss)) : ae_Met l G (d + 1) yX2_alike mX2_alike [ae_l v0, ae_l v2] s0 (ae_Po (some (ae_i rr)) ss) := by
  refine ae_enter (by decide) rfl (Nat.le_of_ble_eq_true rfl) ?_
  show ae_T l G (d + 1) mX2_alike (ae_Po (some (ae_i rr)) ss) 0 [(0, ae_l v0), (2, ae_l v2)] [] s0
  unfold F_X2_alike at hF
  refine ae_lload_n 0 dX2_alike_0 rfl ?_
  obtain ⟨r3, s4, hc5, hF6⟩ := ae_bdI hF
  refine ae_cS1 (As := [ae_l v0]) dX2_alike_1 ww_748 vy_X2_isNan rfl rfl (Nat.le_of_ble_eq_true rfl) (c_X2_isNan d hc5) ?_
  refine ae_if_ne 14 dX2_alike_4 rfl (fun hb7 => ?_) (fun hb7 => ?_)
  · have hF8 := ae_ifF hb7 hF6
    refine ae_pick (lv' := []) [] rfl ?_
    exact t_X2_alike_14 d s4 hF8
  · have hF8 := ae_ifT hb7 hF6
    refine ae_lload_n 1 dX2_alike_7 rfl ?_
    obtain ⟨r9, s10, hc11, hF12⟩ := ae_bdI hF8
    refine ae_cS1 (As := [ae_l v2]) dX2_alike_8 ww_748 vy_X2_isNan rfl rfl (Nat.le_of_ble_eq_true rfl) (c_X2_isNan d hc11) ?_
    refine ae_if_eq 16 dX2_alike_11 rfl (fun hb13 => ?_) (fun hb13 => ?_)
    · have hF14 := ae_ifT hb13 hF12
      refine ae_lload_n 0 dX2_alike_16 rfl ?_
      refine ae_lload_n 1 dX2_alike_17 rfl ?_
      refine ae_lcmp dX2_alike_18 ?_
      refine ae_if_eq 36 dX2_alike_19 rfl (fun hb15 => ?_) (fun hb15 => ?_)
      · have hF16 := ae_ifT hb15 hF14
        refine ae_pick (lv' := []) [] rfl ?_
        exact t_X2_alike_36 d s10 hF16
      · have hF16 := ae_ifF hb15 hF14
        refine ae_lload_n 0 dX2_alike_22 rfl ?_
        obtain ⟨r17, s18, hc19, hF20⟩ := ae_bdI hF16
        refine ae_cS1 (As := [ae_l v0]) dX2_alike_23 ww_756 vy_X2_isZero rfl rfl (Nat.le_of_ble_eq_true rfl) (c_X2_isZero d hc19) ?_
        refine ae_if_eq 40 dX2_alike_26 rfl (fun hb21 => ?_) (fun hb21 => ?_)
        · have hF22 := ae_ifT hb21 hF20
          refine ae_pick (lv' := []) [] rfl ?_
          exact t_X2_alike_40 d s18 hF22
        · have hF22 := ae_ifF hb21 hF20
          refine ae_lload_n 1 dX2_alike_29 rfl ?_
          obtain ⟨r23, s24, hc25, hF26⟩ := ae_bdI hF22
          refine ae_cS1 (As := [ae_l v2]) dX2_alike_30 ww_756 vy_X2_isZero rfl rfl (Nat.le_of_ble_eq_true rfl) (c_X2_isZero d hc25) ?_
          refine ae_if_eq 40 dX2_alike_33 rfl (fun hb27 => ?_) (fun hb27 => ?_)
          · have hF28 := ae_ifT hb27 hF26
            refine ae_pick (lv' := []) [] rfl ?_
            exact t_X2_alike_40 d s24 hF28
          · have hF28 := ae_ifF hb27 hF26
            refine ae_pick (lv' := []) [] rfl ?_
            exact t_X2_alike_36 d s24 hF28
    · have hF14 := ae_ifF hb13 hF12
      refine ae_pick (lv' := []) [] rfl ?_
      exact t_X2_alike_14 d s10 hF14
