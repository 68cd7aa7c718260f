/-! methods as functions: X12_canLay X12_takesAll X12_turn X12_roll Jxe99ae_compare_56a58 X12_sort X12_fill X12_saysByte X12_says X12_saysNumber X12_saysKind X12_saysName X12_show X12_out X12_find X12_sum X12_rest X12_look -/
theorem fl_RX12_91 : ae_FL RX12 91 10 48 (.array .long) true := ⟨_, _, _, rfl, by decide, ww_1346, rfl, rfl, rfl⟩
theorem fl_RX12_94 : ae_FL RX12 94 10 49 (.array .double) true := ⟨_, _, _, rfl, by decide, ww_1347, rfl, rfl, rfl⟩
theorem fl_RX12_97 : ae_FL RX12 97 10 50 (.array .int) true := ⟨_, _, _, rfl, by decide, ww_1348, rfl, rfl, rfl⟩
theorem fl_RX12_494 : ae_FL RX12 494 10 51 (.int) false := ⟨_, _, _, rfl, by decide, ww_1349, rfl, rfl, rfl⟩
abbrev mX12_canLay : ae_M := (RX12, cX12_canLay, 2, some .boolean)
theorem vy_X12_canLay : ae_VY yX12_canLay mX12_canLay 1 := ⟨ww_1863, wq_111, ww_13, ww_1864, ⟨by decide, by decide, by decide +kernel⟩, by decide⟩
theorem dX12_canLay_0 : decode cX12_canLay 0 = .ok (.aload_n 0, 1) := by decide +kernel
theorem dX12_canLay_1 : decode cX12_canLay 1 = .ok (.iload_n 1, 1) := by decide +kernel
theorem dX12_canLay_2 : decode cX12_canLay 2 = .ok (.invokevirtual 122, 3) := by decide +kernel
theorem dX12_canLay_5 : decode cX12_canLay 5 = .ok (.ifCond .eq 17, 3) := by decide +kernel
theorem dX12_canLay_8 : decode cX12_canLay 8 = .ok (.aload_n 0, 1) := by decide +kernel
theorem dX12_canLay_9 : decode cX12_canLay 9 = .ok (.getfield 44, 3) := by decide +kernel
theorem dX12_canLay_12 : decode cX12_canLay 12 = .ok (.iload_n 1, 1) := by decide +kernel
theorem dX12_canLay_13 : decode cX12_canLay 13 = .ok (.iaload, 1) := by decide +kernel
theorem dX12_canLay_14 : decode cX12_canLay 14 = .ok (.iconst 1, 1) := by decide +kernel
theorem dX12_canLay_15 : decode cX12_canLay 15 = .ok (.if_icmp .eq 7, 3) := by decide +kernel
theorem dX12_canLay_18 : decode cX12_canLay 18 = .ok (.iconst 1, 1) := by decide +kernel
theorem dX12_canLay_19 : decode cX12_canLay 19 = .ok (.goto 4, 3) := by decide +kernel
theorem dX12_canLay_22 : decode cX12_canLay 22 = .ok (.iconst 0, 1) := by decide +kernel
theorem dX12_canLay_23 : decode cX12_canLay 23 = .ok (.ireturn, 1) := by decide +kernel
def F_X12_canLay_23 (t0 : Int32) (s0 : ae_S) : Option (Int32 × ae_S) := ae_gd (ae_zz t0) (some (t0, s0))
set_option maxHeartbeats 4000000 in
set_option maxRecDepth 100000 in
theorem t_X12_canLay_23 {l : Launch} {G : ae_G} (d : Nat) {rr : Int32} {ss : ae_S} (t0 : Int32) (s0 : ae_S) (hF : F_X12_canLay_23 t0 s0 = some (rr, ss)) : ae_T l G (d + 2) mX12_canLay (ae_Po (some (ae_i rr)) ss) 23 [] [ae_i t0] s0 := by
  unfold F_X12_canLay_23 at hF
  obtain ⟨hg1, hF2⟩ := ae_gdI hF
  obtain ⟨rfl, rfl⟩ := ae_retI hF2
  exact ae_iret dX12_canLay_23 rfl (ae_zzN (ae_zzI hg1)) ⟨rfl, rfl⟩
def F_X12_canLay_22 (s0 : ae_S) : Option (Int32 × ae_S) := F_X12_canLay_23 (0 : Int32) s0
set_option maxHeartbeats 4000000 in
set_option maxRecDepth 100000 in
theorem t_X12_canLay_22 {l : Launch} {G : ae_G} (d : Nat) {rr : Int32} {ss : ae_S} (s0 : ae_S) (hF : F_X12_canLay_22 s0 = some (rr, ss)) : ae_T l G (d + 2) mX12_canLay (ae_Po (some (ae_i rr)) ss) 22 [] [] s0 := by
  unfold F_X12_canLay_22 at hF
  refine ae_iconst (0 : Int32) dX12_canLay_22 (by decide) ?_
  refine ae_pick (lv' := []) [] rfl ?_
  exact t_X12_canLay_23 d (0 : Int32) s0 hF
def F_X12_canLay (v1 : Int32) (s0 : ae_S) : Option (Int32 × ae_S) := ae_bd (F_X12_isView v1 s0) (fun (r3 : Int32) s4 => if r3 = 0 then (F_X12_canLay_22 s4) else (ae_gd (ae_ib v1 32) (if (s4.1 41 0 v1.toNatClampNeg) = (1 : Int32) then (F_X12_canLay_22 s4) else (F_X12_canLay_23 (1 : Int32) s4))))
set_option maxHeartbeats 4000000 in
set_option maxRecDepth 100000 in
theorem c_X12_canLay {l : Launch} {G : ae_G} (d : Nat) {v1 : Int32} {s0 ss : ae_S} {rr : Int32} (hF : F_X12_canLay v1 s0 = some (rr, ss)) : ae_Met l G (d + 2) yX12_canLay mX12_canLay [ae_r (some (30, 0)), ae_i v1] s0 (ae_Po (some (ae_i rr)) ss) := by
  refine ae_enter (by decide) rfl (Nat.le_of_ble_eq_true rfl) ?_
  show ae_T l G (d + 2) mX12_canLay (ae_Po (some (ae_i rr)) ss) 0 [(0, ae_r (some (30, 0))), (1, ae_i v1)] [] s0
  unfold F_X12_canLay at hF
  refine ae_aload_n 0 dX12_canLay_0 rfl ?_
  refine ae_iload_n 1 dX12_canLay_1 rfl ?_
  obtain ⟨r3, s4, hc5, hF6⟩ := ae_bdI hF
  refine ae_cV1 (q := (30, 0)) (As := [ae_i v1]) dX12_canLay_2 ww_1635 vy_X12_isView rfl rfl rfl rfl rfl (Nat.le_of_ble_eq_true rfl) (c_X12_isView d hc5) ?_
  refine ae_if_eq 22 dX12_canLay_5 rfl (fun hb7 => ?_) (fun hb7 => ?_)
  · have hF8 := ae_ifT hb7 hF6
    refine ae_pick (lv' := []) [] rfl ?_
    exact t_X12_canLay_22 d s4 hF8
  · have hF8 := ae_ifF hb7 hF6
    refine ae_aload_n 0 dX12_canLay_8 rfl ?_
    refine ae_getA (q := (30, 0)) (some (41, 0)) dX12_canLay_9 fl_RX12_44 rfl rfl rfl ?_
    refine ae_iload_n 1 dX12_canLay_12 rfl ?_
    obtain ⟨hg9, hF10⟩ := ae_gdI hF8
    refine ae_iald (q := (41, 0)) dX12_canLay_13 rfl rfl (ae_ibI hg9) ?_
    refine ae_iconst (1 : Int32) dX12_canLay_14 (by decide) ?_
    refine ae_icmp_eq 22 dX12_canLay_15 rfl (fun hb11 => ?_) (fun hb11 => ?_)
    · have hF12 := ae_ifT hb11 hF10
      refine ae_pick (lv' := []) [] rfl ?_
      exact t_X12_canLay_22 d s4 hF12
    · have hF12 := ae_ifF hb11 hF10
      refine ae_iconst (1 : Int32) dX12_canLay_18 (by decide) ?_
      refine ae_goto 23 dX12_canLay_19 rfl ?_
      refine ae_pick (lv' := []) [] rfl ?_
      exact t_X12_canLay_23 d (1 : Int32) s4 hF12
abbrev mX12_takesAll : ae_M := (RX12, cX12_takesAll, 3, none)
theorem vy_X12_takesAll : ae_VY yX12_takesAll mX12_takesAll 1 := ⟨ww_1867, wq_112, ww_13, ww_1868, ⟨by decide, by decide, by decide +kernel⟩, by decide⟩
theorem dX12_takesAll_0 : decode cX12_takesAll 0 = .ok (.iconst 0, 1) := by decide +kernel
theorem dX12_takesAll_1 : decode cX12_takesAll 1 = .ok (.istore_n 2, 1) := by decide +kernel
theorem dX12_takesAll_2 : decode cX12_takesAll 2 = .ok (.iload_n 2, 1) := by decide +kernel
theorem dX12_takesAll_3 : decode cX12_takesAll 3 = .ok (.aload_n 0, 1) := by decide +kernel
theorem dX12_takesAll_4 : decode cX12_takesAll 4 = .ok (.getfield 38, 3) := by decide +kernel
theorem dX12_takesAll_7 : decode cX12_takesAll 7 = .ok (.iload_n 1, 1) := by decide +kernel
theorem dX12_takesAll_8 : decode cX12_takesAll 8 = .ok (.iaload, 1) := by decide +kernel
theorem dX12_takesAll_9 : decode cX12_takesAll 9 = .ok (.if_icmp .ge 21, 3) := by decide +kernel
theorem dX12_takesAll_12 : decode cX12_takesAll 12 = .ok (.aload_n 0, 1) := by decide +kernel
theorem dX12_takesAll_13 : decode cX12_takesAll 13 = .ok (.getfield 91, 3) := by decide +kernel
theorem dX12_takesAll_16 : decode cX12_takesAll 16 = .ok (.iload_n 2, 1) := by decide +kernel
theorem dX12_takesAll_17 : decode cX12_takesAll 17 = .ok (.aload_n 0, 1) := by decide +kernel
theorem dX12_takesAll_18 : decode cX12_takesAll 18 = .ok (.iload_n 1, 1) := by decide +kernel
theorem dX12_takesAll_19 : decode cX12_takesAll 19 = .ok (.iload_n 2, 1) := by decide +kernel
theorem dX12_takesAll_20 : decode cX12_takesAll 20 = .ok (.invokevirtual 300, 3) := by decide +kernel
theorem dX12_takesAll_23 : decode cX12_takesAll 23 = .ok (.lastore, 1) := by decide +kernel
theorem dX12_takesAll_24 : decode cX12_takesAll 24 = .ok (.iinc 2 1, 3) := by decide +kernel
theorem dX12_takesAll_27 : decode cX12_takesAll 27 = .ok (.goto (-25), 3) := by decide +kernel
theorem dX12_takesAll_30 : decode cX12_takesAll 30 = .ok (.return_, 1) := by decide +kernel
def F_X12_takesAll_2 : Nat → Int32 → Int32 → ae_S → Option (Unit × ae_S)
  | 0, _, _, _ => none
  | n + 1, v1, v2, s0 => ae_gd (ae_ib v1 32) (if (s0.1 39 0 v1.toNatClampNeg) ≤ v2 then (some ((), s0)) else (ae_bd (F_X12_bitsOf v1 v2 s0) (fun (r5 : Int64) s6 => ae_gd (ae_ib v2 64) (ae_lt (ae_wL s6 55 0 v2.toNatClampNeg r5) (fun s11 => ae_lt (v2 + (1 : Int32)) (fun x13 => F_X12_takesAll_2 n v1 x13 s11))))))
set_option maxHeartbeats 4000000 in
set_option maxRecDepth 100000 in
theorem t_X12_takesAll_2 {l : Launch} {G : ae_G} (d : Nat) {rr : Unit} {ss : ae_S} : ∀ (n : Nat) (v1 : Int32) (v2 : Int32) (s0 : ae_S), F_X12_takesAll_2 n v1 v2 s0 = some (rr, ss) → ae_T l G (d + 2) mX12_takesAll (ae_Po none ss) 2 [(0, ae_r (some (30, 0))), (1, ae_i v1), (2, ae_i v2)] [] s0 := by
  intro n
  induction n with
  | zero =>
    intro v1 v2 s0 hF
    exact absurd (show (none : Option (Unit × ae_S)) = some (rr, ss) from hF) (by simp)
  | succ n ih =>
    intro v1 v2 s0 hF
    unfold F_X12_takesAll_2 at hF
    refine ae_iload_n 2 dX12_takesAll_2 rfl ?_
    refine ae_aload_n 0 dX12_takesAll_3 rfl ?_
    refine ae_getA (q := (30, 0)) (some (39, 0)) dX12_takesAll_4 fl_RX12_38 rfl rfl rfl ?_
    refine ae_iload_n 1 dX12_takesAll_7 rfl ?_
    obtain ⟨hg1, hF2⟩ := ae_gdI hF
    refine ae_iald (q := (39, 0)) dX12_takesAll_8 rfl rfl (ae_ibI hg1) ?_
    refine ae_icmp_ge 30 dX12_takesAll_9 rfl (fun hb3 => ?_) (fun hb3 => ?_)
    · have hF4 := ae_ifT hb3 hF2
      obtain ⟨rfl, rfl⟩ := ae_retI hF4
      exact ae_vret dX12_takesAll_30 rfl ⟨rfl, rfl⟩
    · have hF4 := ae_ifF hb3 hF2
      refine ae_aload_n 0 dX12_takesAll_12 rfl ?_
      refine ae_getA (q := (30, 0)) (some (55, 0)) dX12_takesAll_13 fl_RX12_91 rfl rfl rfl ?_
      refine ae_iload_n 2 dX12_takesAll_16 rfl ?_
      refine ae_aload_n 0 dX12_takesAll_17 rfl ?_
      refine ae_iload_n 1 dX12_takesAll_18 rfl ?_
      refine ae_iload_n 2 dX12_takesAll_19 rfl ?_
      obtain ⟨r5, s6, hc7, hF8⟩ := ae_bdI hF4
      refine ae_cV1 (q := (30, 0)) (As := [ae_i v1, ae_i v2]) dX12_takesAll_20 ww_1652 vy_X12_bitsOf rfl rfl rfl rfl rfl (Nat.le_of_ble_eq_true rfl) (c_X12_bitsOf d hc7) ?_
      obtain ⟨hg9, hF10⟩ := ae_gdI hF8
      obtain ⟨s11, hs11, hF12⟩ := ae_ltI hF10
      refine ae_last (q := (55, 0)) dX12_takesAll_23 rfl rfl (ae_ibI hg9) (ae_nmS hs11 ?_)
      obtain ⟨x13, hx13, hF14⟩ := ae_ltI hF12
      refine ae_iinc (lv' := [(2, ae_i x13), (0, ae_r (some (30, 0))), (1, ae_i v1)]) 2 (1 : Int32) dX12_takesAll_24 rfl (by decide) (by decide) (by rw [hx13]; rfl) ?_
      refine ae_goto 2 dX12_takesAll_27 rfl ?_
      refine ae_pick (lv' := [(0, ae_r (some (30, 0))), (1, ae_i v1), (2, ae_i x13)]) [1, 2, 0] rfl ?_
      exact ih v1 x13 s11 hF14
def F_X12_takesAll (v1 : Int32) (s0 : ae_S) : Option (Unit × ae_S) := F_X12_takesAll_2 ae_fu v1 (0 : Int32) s0
set_option maxHeartbeats 4000000 in
set_option maxRecDepth 100000 in
theorem c_X12_takesAll {l : Launch} {G : ae_G} (d : Nat) {v1 : Int32} {s0 ss : ae_S} {rr : Unit} (hF : F_X12_takesAll v1 s0 = some (rr, ss)) : ae_Met l G (d + 2) yX12_takesAll mX12_takesAll [ae_r (some (30, 0)), ae_i v1] s0 (ae_Po none ss) := by
  refine ae_enter (by decide) rfl (Nat.le_of_ble_eq_true rfl) ?_
  show ae_T l G (d + 2) mX12_takesAll (ae_Po none ss) 0 [(0, ae_r (some (30, 0))), (1, ae_i v1)] [] s0
  unfold F_X12_takesAll at hF
  refine ae_iconst (0 : Int32) dX12_takesAll_0 (by decide) ?_
  refine ae_istore_n (lv' := [(2, ae_i (0 : Int32)), (0, ae_r (some (30, 0))), (1, ae_i v1)]) dX12_takesAll_1 (by decide) rfl ?_
  refine ae_pick (lv' := [(0, ae_r (some (30, 0))), (1, ae_i v1), (2, ae_i (0 : Int32))]) [1, 2, 0] rfl ?_
  exact t_X12_takesAll_2 d ae_fu v1 (0 : Int32) s0 hF
abbrev mX12_turn : ae_M := (RX12, cX12_turn, 3, some .boolean)
theorem vy_X12_turn : ae_VY yX12_turn mX12_turn 1 := ⟨ww_1858, ww_1859, ww_13, ww_1860, ⟨by decide, by decide, by decide +kernel⟩, by decide⟩
theorem dX12_turn_0 : decode cX12_turn 0 = .ok (.aload_n 0, 1) := by decide +kernel
theorem dX12_turn_1 : decode cX12_turn 1 = .ok (.iload_n 1, 1) := by decide +kernel
theorem dX12_turn_2 : decode cX12_turn 2 = .ok (.invokevirtual 481, 3) := by decide +kernel
theorem dX12_turn_5 : decode cX12_turn 5 = .ok (.ifCond .ne 5, 3) := by decide +kernel
theorem dX12_turn_8 : decode cX12_turn 8 = .ok (.iconst 0, 1) := by decide +kernel
theorem dX12_turn_9 : decode cX12_turn 9 = .ok (.ireturn, 1) := by decide +kernel
theorem dX12_turn_10 : decode cX12_turn 10 = .ok (.aload_n 0, 1) := by decide +kernel
theorem dX12_turn_11 : decode cX12_turn 11 = .ok (.invokevirtual 115, 3) := by decide +kernel
theorem dX12_turn_14 : decode cX12_turn 14 = .ok (.aload_n 0, 1) := by decide +kernel
theorem dX12_turn_15 : decode cX12_turn 15 = .ok (.iload_n 1, 1) := by decide +kernel
theorem dX12_turn_16 : decode cX12_turn 16 = .ok (.invokevirtual 484, 3) := by decide +kernel
theorem dX12_turn_19 : decode cX12_turn 19 = .ok (.aload_n 0, 1) := by decide +kernel
theorem dX12_turn_20 : decode cX12_turn 20 = .ok (.getfield 32, 3) := by decide +kernel
theorem dX12_turn_23 : decode cX12_turn 23 = .ok (.iload_n 1, 1) := by decide +kernel
theorem dX12_turn_24 : decode cX12_turn 24 = .ok (.iconst 1, 1) := by decide +kernel
theorem dX12_turn_25 : decode cX12_turn 25 = .ok (.aload_n 0, 1) := by decide +kernel
theorem dX12_turn_26 : decode cX12_turn 26 = .ok (.getfield 32, 3) := by decide +kernel
theorem dX12_turn_29 : decode cX12_turn 29 = .ok (.iload_n 1, 1) := by decide +kernel
theorem dX12_turn_30 : decode cX12_turn 30 = .ok (.iaload, 1) := by decide +kernel
theorem dX12_turn_31 : decode cX12_turn 31 = .ok (.isub, 1) := by decide +kernel
theorem dX12_turn_32 : decode cX12_turn 32 = .ok (.iastore, 1) := by decide +kernel
theorem dX12_turn_33 : decode cX12_turn 33 = .ok (.iconst 0, 1) := by decide +kernel
theorem dX12_turn_34 : decode cX12_turn 34 = .ok (.istore_n 2, 1) := by decide +kernel
theorem dX12_turn_35 : decode cX12_turn 35 = .ok (.iload_n 2, 1) := by decide +kernel
theorem dX12_turn_36 : decode cX12_turn 36 = .ok (.aload_n 0, 1) := by decide +kernel
theorem dX12_turn_37 : decode cX12_turn 37 = .ok (.getfield 38, 3) := by decide +kernel
theorem dX12_turn_40 : decode cX12_turn 40 = .ok (.iload_n 1, 1) := by decide +kernel
theorem dX12_turn_41 : decode cX12_turn 41 = .ok (.iaload, 1) := by decide +kernel
theorem dX12_turn_42 : decode cX12_turn 42 = .ok (.if_icmp .ge 21, 3) := by decide +kernel
theorem dX12_turn_45 : decode cX12_turn 45 = .ok (.aload_n 0, 1) := by decide +kernel
theorem dX12_turn_46 : decode cX12_turn 46 = .ok (.iload_n 1, 1) := by decide +kernel
theorem dX12_turn_47 : decode cX12_turn 47 = .ok (.iload_n 2, 1) := by decide +kernel
theorem dX12_turn_48 : decode cX12_turn 48 = .ok (.aload_n 0, 1) := by decide +kernel
theorem dX12_turn_49 : decode cX12_turn 49 = .ok (.getfield 91, 3) := by decide +kernel
theorem dX12_turn_52 : decode cX12_turn 52 = .ok (.iload_n 2, 1) := by decide +kernel
theorem dX12_turn_53 : decode cX12_turn 53 = .ok (.laload, 1) := by decide +kernel
theorem dX12_turn_54 : decode cX12_turn 54 = .ok (.invokevirtual 336, 3) := by decide +kernel
theorem dX12_turn_57 : decode cX12_turn 57 = .ok (.iinc 2 1, 3) := by decide +kernel
theorem dX12_turn_60 : decode cX12_turn 60 = .ok (.goto (-25), 3) := by decide +kernel
theorem dX12_turn_63 : decode cX12_turn 63 = .ok (.aload_n 0, 1) := by decide +kernel
theorem dX12_turn_64 : decode cX12_turn 64 = .ok (.iconst 1, 1) := by decide +kernel
theorem dX12_turn_65 : decode cX12_turn 65 = .ok (.invokevirtual 118, 3) := by decide +kernel
theorem dX12_turn_68 : decode cX12_turn 68 = .ok (.iconst 1, 1) := by decide +kernel
theorem dX12_turn_69 : decode cX12_turn 69 = .ok (.ireturn, 1) := by decide +kernel
def F_X12_turn_35 : Nat → Int32 → Int32 → ae_S → Option (Int32 × ae_S)
  | 0, _, _, _ => none
  | n + 1, v1, v2, s0 => ae_gd (ae_ib v1 32) (if (s0.1 39 0 v1.toNatClampNeg) ≤ v2 then (ae_bd (F_X12_ends (1 : Int32) s0) (fun (r5 : Unit) s6 => some ((1 : Int32), s6))) else (ae_gd (ae_ib v2 64) (ae_bd (F_X12_lays v1 v2 (s0.2.1 55 0 v2.toNatClampNeg) s0) (fun (r11 : Unit) s12 => ae_lt (v2 + (1 : Int32)) (fun x15 => F_X12_turn_35 n v1 x15 s12)))))
set_option maxHeartbeats 4000000 in
set_option maxRecDepth 100000 in
theorem t_X12_turn_35 {l : Launch} {G : ae_G} (d : Nat) {rr : Int32} {ss : ae_S} : ∀ (n : Nat) (v1 : Int32) (v2 : Int32) (s0 : ae_S), F_X12_turn_35 n v1 v2 s0 = some (rr, ss) → ae_T l G (d + 3) mX12_turn (ae_Po (some (ae_i rr)) ss) 35 [(0, ae_r (some (30, 0))), (1, ae_i v1), (2, ae_i v2)] [] s0 := by
  intro n
  induction n with
  | zero =>
    intro v1 v2 s0 hF
    exact absurd (show (none : Option (Int32 × ae_S)) = some (rr, ss) from hF) (by simp)
  | succ n ih =>
    intro v1 v2 s0 hF
    unfold F_X12_turn_35 at hF
    refine ae_iload_n 2 dX12_turn_35 rfl ?_
    refine ae_aload_n 0 dX12_turn_36 rfl ?_
    refine ae_getA (q := (30, 0)) (some (39, 0)) dX12_turn_37 fl_RX12_38 rfl rfl rfl ?_
    refine ae_iload_n 1 dX12_turn_40 rfl ?_
    obtain ⟨hg1, hF2⟩ := ae_gdI hF
    refine ae_iald (q := (39, 0)) dX12_turn_41 rfl rfl (ae_ibI hg1) ?_
    refine ae_icmp_ge 63 dX12_turn_42 rfl (fun hb3 => ?_) (fun hb3 => ?_)
    · have hF4 := ae_ifT hb3 hF2
      refine ae_aload_n 0 dX12_turn_63 rfl ?_
      refine ae_iconst (1 : Int32) dX12_turn_64 (by decide) ?_
      obtain ⟨r5, s6, hc7, hF8⟩ := ae_bdI hF4
      refine ae_cV0 (q := (30, 0)) (As := [ae_i (1 : Int32)]) dX12_turn_65 ww_1472 vy_X12_ends rfl rfl rfl rfl rfl (Nat.le_of_ble_eq_true rfl) (c_X12_ends (d + 2) hc7) ?_
      refine ae_iconst (1 : Int32) dX12_turn_68 (by decide) ?_
      obtain ⟨rfl, rfl⟩ := ae_retI hF8
      exact ae_iret dX12_turn_69 rfl (by decide) ⟨rfl, rfl⟩
    · have hF4 := ae_ifF hb3 hF2
      refine ae_aload_n 0 dX12_turn_45 rfl ?_
      refine ae_iload_n 1 dX12_turn_46 rfl ?_
      refine ae_iload_n 2 dX12_turn_47 rfl ?_
      refine ae_aload_n 0 dX12_turn_48 rfl ?_
      refine ae_getA (q := (30, 0)) (some (55, 0)) dX12_turn_49 fl_RX12_91 rfl rfl rfl ?_
      refine ae_iload_n 2 dX12_turn_52 rfl ?_
      obtain ⟨hg9, hF10⟩ := ae_gdI hF4
      refine ae_lald (q := (55, 0)) dX12_turn_53 rfl rfl (ae_ibI hg9) ?_
      obtain ⟨r11, s12, hc13, hF14⟩ := ae_bdI hF10
      refine ae_cV0 (q := (30, 0)) (As := [ae_i v1, ae_i v2, ae_l (s0.2.1 55 0 v2.toNatClampNeg)]) dX12_turn_54 ww_1686 vy_X12_lays rfl rfl rfl rfl rfl (Nat.le_of_ble_eq_true rfl) (c_X12_lays (d + 1) hc13) ?_
      obtain ⟨x15, hx15, hF16⟩ := ae_ltI hF14
      refine ae_iinc (lv' := [(2, ae_i x15), (0, ae_r (some (30, 0))), (1, ae_i v1)]) 2 (1 : Int32) dX12_turn_57 rfl (by decide) (by decide) (by rw [hx15]; rfl) ?_
      refine ae_goto 35 dX12_turn_60 rfl ?_
      refine ae_pick (lv' := [(0, ae_r (some (30, 0))), (1, ae_i v1), (2, ae_i x15)]) [1, 2, 0] rfl ?_
      exact ih v1 x15 s12 hF16
def F_X12_turn (v1 : Int32) (s0 : ae_S) : Option (Int32 × ae_S) := ae_bd (F_X12_canLay v1 s0) (fun (r17 : Int32) s18 => if r17 = 0 then (some ((0 : Int32), s18)) else (ae_bd (F_X12_begins s18) (fun (r23 : Unit) s24 => ae_bd (F_X12_takesAll v1 s24) (fun (r27 : Unit) s28 => ae_gd (ae_ib v1 32) (ae_gd (ae_ib v1 32) (ae_lt (ae_wI s28 37 0 v1.toNatClampNeg ((1 : Int32) - (s28.1 37 0 v1.toNatClampNeg))) (fun s35 => F_X12_turn_35 ae_fu v1 (0 : Int32) s35)))))))
set_option maxHeartbeats 4000000 in
set_option maxRecDepth 100000 in
theorem c_X12_turn {l : Launch} {G : ae_G} (d : Nat) {v1 : Int32} {s0 ss : ae_S} {rr : Int32} (hF : F_X12_turn v1 s0 = some (rr, ss)) : ae_Met l G (d + 3) yX12_turn mX12_turn [ae_r (some (30, 0)), ae_i v1] s0 (ae_Po (some (ae_i rr)) ss) := by
  refine ae_enter (by decide) rfl (Nat.le_of_ble_eq_true rfl) ?_
  show ae_T l G (d + 3) mX12_turn (ae_Po (some (ae_i rr)) ss) 0 [(0, ae_r (some (30, 0))), (1, ae_i v1)] [] s0
  unfold F_X12_turn at hF
  refine ae_aload_n 0 dX12_turn_0 rfl ?_
  refine ae_iload_n 1 dX12_turn_1 rfl ?_
  obtain ⟨r17, s18, hc19, hF20⟩ := ae_bdI hF
  refine ae_cV1 (q := (30, 0)) (As := [ae_i v1]) dX12_turn_2 ww_1861 vy_X12_canLay rfl rfl rfl rfl rfl (Nat.le_of_ble_eq_true rfl) (c_X12_canLay d hc19) ?_
  refine ae_if_ne 10 dX12_turn_5 rfl (fun hb21 => ?_) (fun hb21 => ?_)
  · have hF22 := ae_ifF hb21 hF20
    refine ae_aload_n 0 dX12_turn_10 rfl ?_
    obtain ⟨r23, s24, hc25, hF26⟩ := ae_bdI hF22
    refine ae_cV0 (q := (30, 0)) (As := []) dX12_turn_11 ww_1468 vy_X12_begins rfl rfl rfl rfl rfl (Nat.le_of_ble_eq_true rfl) (c_X12_begins (d + 2) hc25) ?_
    refine ae_aload_n 0 dX12_turn_14 rfl ?_
    refine ae_iload_n 1 dX12_turn_15 rfl ?_
    obtain ⟨r27, s28, hc29, hF30⟩ := ae_bdI hF26
    refine ae_cV0 (q := (30, 0)) (As := [ae_i v1]) dX12_turn_16 ww_1865 vy_X12_takesAll rfl rfl rfl rfl rfl (Nat.le_of_ble_eq_true rfl) (c_X12_takesAll d hc29) ?_
    refine ae_aload_n 0 dX12_turn_19 rfl ?_
    refine ae_getA (q := (30, 0)) (some (37, 0)) dX12_turn_20 fl_RX12_32 rfl rfl rfl ?_
    refine ae_iload_n 1 dX12_turn_23 rfl ?_
    refine ae_iconst (1 : Int32) dX12_turn_24 (by decide) ?_
    refine ae_aload_n 0 dX12_turn_25 rfl ?_
    refine ae_getA (q := (30, 0)) (some (37, 0)) dX12_turn_26 fl_RX12_32 rfl rfl rfl ?_
    refine ae_iload_n 1 dX12_turn_29 rfl ?_
    obtain ⟨hg31, hF32⟩ := ae_gdI hF30
    refine ae_iald (q := (37, 0)) dX12_turn_30 rfl rfl (ae_ibI hg31) ?_
    refine ae_isub dX12_turn_31 ?_
    obtain ⟨hg33, hF34⟩ := ae_gdI hF32
    obtain ⟨s35, hs35, hF36⟩ := ae_ltI hF34
    refine ae_iast (q := (37, 0)) dX12_turn_32 rfl rfl (ae_ibI hg33) (ae_nmS hs35 ?_)
    refine ae_iconst (0 : Int32) dX12_turn_33 (by decide) ?_
    refine ae_istore_n (lv' := [(2, ae_i (0 : Int32)), (0, ae_r (some (30, 0))), (1, ae_i v1)]) dX12_turn_34 (by decide) rfl ?_
    refine ae_pick (lv' := [(0, ae_r (some (30, 0))), (1, ae_i v1), (2, ae_i (0 : Int32))]) [1, 2, 0] rfl ?_
    exact t_X12_turn_35 d ae_fu v1 (0 : Int32) s35 hF36
  · have hF22 := ae_ifT hb21 hF20
    refine ae_iconst (0 : Int32) dX12_turn_8 (by decide) ?_
    obtain ⟨rfl, rfl⟩ := ae_retI hF22
    exact ae_iret dX12_turn_9 rfl (by decide) ⟨rfl, rfl⟩
abbrev mX12_roll : ae_M := (RX12, cX12_roll, 4, some .boolean)
theorem vy_X12_roll : ae_VY yX12_roll mX12_roll 2 := ⟨ww_1870, ww_1871, ww_13, ww_1872, ⟨by decide, by decide, by decide +kernel⟩, by decide⟩
theorem dX12_roll_0 : decode cX12_roll 0 = .ok (.aload_n 0, 1) := by decide +kernel
theorem dX12_roll_1 : decode cX12_roll 1 = .ok (.iload_n 1, 1) := by decide +kernel
theorem dX12_roll_2 : decode cX12_roll 2 = .ok (.invokevirtual 481, 3) := by decide +kernel
theorem dX12_roll_5 : decode cX12_roll 5 = .ok (.ifCond .eq 15, 3) := by decide +kernel
theorem dX12_roll_8 : decode cX12_roll 8 = .ok (.iload_n 2, 1) := by decide +kernel
theorem dX12_roll_9 : decode cX12_roll 9 = .ok (.i2l, 1) := by decide +kernel
theorem dX12_roll_10 : decode cX12_roll 10 = .ok (.lconst 0, 1) := by decide +kernel
theorem dX12_roll_11 : decode cX12_roll 11 = .ok (.ldc2_w 279, 3) := by decide +kernel
theorem dX12_roll_14 : decode cX12_roll 14 = .ok (.invokestatic 105, 3) := by decide +kernel
theorem dX12_roll_17 : decode cX12_roll 17 = .ok (.ifCond .ne 5, 3) := by decide +kernel
theorem dX12_roll_20 : decode cX12_roll 20 = .ok (.iconst 0, 1) := by decide +kernel
theorem dX12_roll_21 : decode cX12_roll 21 = .ok (.ireturn, 1) := by decide +kernel
theorem dX12_roll_22 : decode cX12_roll 22 = .ok (.aload_n 0, 1) := by decide +kernel
theorem dX12_roll_23 : decode cX12_roll 23 = .ok (.invokevirtual 115, 3) := by decide +kernel
theorem dX12_roll_26 : decode cX12_roll 26 = .ok (.aload_n 0, 1) := by decide +kernel
theorem dX12_roll_27 : decode cX12_roll 27 = .ok (.iload_n 1, 1) := by decide +kernel
theorem dX12_roll_28 : decode cX12_roll 28 = .ok (.invokevirtual 484, 3) := by decide +kernel
theorem dX12_roll_31 : decode cX12_roll 31 = .ok (.iconst 0, 1) := by decide +kernel
theorem dX12_roll_32 : decode cX12_roll 32 = .ok (.istore_n 3, 1) := by decide +kernel
theorem dX12_roll_33 : decode cX12_roll 33 = .ok (.iload_n 3, 1) := by decide +kernel
theorem dX12_roll_34 : decode cX12_roll 34 = .ok (.aload_n 0, 1) := by decide +kernel
theorem dX12_roll_35 : decode cX12_roll 35 = .ok (.getfield 38, 3) := by decide +kernel
theorem dX12_roll_38 : decode cX12_roll 38 = .ok (.iload_n 1, 1) := by decide +kernel
theorem dX12_roll_39 : decode cX12_roll 39 = .ok (.iaload, 1) := by decide +kernel
theorem dX12_roll_40 : decode cX12_roll 40 = .ok (.if_icmp .ge 30, 3) := by decide +kernel
theorem dX12_roll_43 : decode cX12_roll 43 = .ok (.aload_n 0, 1) := by decide +kernel
theorem dX12_roll_44 : decode cX12_roll 44 = .ok (.iload_n 1, 1) := by decide +kernel
theorem dX12_roll_45 : decode cX12_roll 45 = .ok (.iload_n 3, 1) := by decide +kernel
theorem dX12_roll_46 : decode cX12_roll 46 = .ok (.aload_n 0, 1) := by decide +kernel
theorem dX12_roll_47 : decode cX12_roll 47 = .ok (.getfield 91, 3) := by decide +kernel
theorem dX12_roll_50 : decode cX12_roll 50 = .ok (.iload_n 3, 1) := by decide +kernel
theorem dX12_roll_51 : decode cX12_roll 51 = .ok (.iload_n 2, 1) := by decide +kernel
theorem dX12_roll_52 : decode cX12_roll 52 = .ok (.iadd, 1) := by decide +kernel
theorem dX12_roll_53 : decode cX12_roll 53 = .ok (.aload_n 0, 1) := by decide +kernel
theorem dX12_roll_54 : decode cX12_roll 54 = .ok (.getfield 38, 3) := by decide +kernel
theorem dX12_roll_57 : decode cX12_roll 57 = .ok (.iload_n 1, 1) := by decide +kernel
theorem dX12_roll_58 : decode cX12_roll 58 = .ok (.iaload, 1) := by decide +kernel
theorem dX12_roll_59 : decode cX12_roll 59 = .ok (.irem, 1) := by decide +kernel
theorem dX12_roll_60 : decode cX12_roll 60 = .ok (.laload, 1) := by decide +kernel
theorem dX12_roll_61 : decode cX12_roll 61 = .ok (.invokevirtual 336, 3) := by decide +kernel
theorem dX12_roll_64 : decode cX12_roll 64 = .ok (.iinc 3 1, 3) := by decide +kernel
theorem dX12_roll_67 : decode cX12_roll 67 = .ok (.goto (-34), 3) := by decide +kernel
theorem dX12_roll_70 : decode cX12_roll 70 = .ok (.aload_n 0, 1) := by decide +kernel
theorem dX12_roll_71 : decode cX12_roll 71 = .ok (.iconst 1, 1) := by decide +kernel
theorem dX12_roll_72 : decode cX12_roll 72 = .ok (.invokevirtual 118, 3) := by decide +kernel
theorem dX12_roll_75 : decode cX12_roll 75 = .ok (.iconst 1, 1) := by decide +kernel
theorem dX12_roll_76 : decode cX12_roll 76 = .ok (.ireturn, 1) := by decide +kernel
def F_X12_roll_20 (s0 : ae_S) : Option (Int32 × ae_S) := some ((0 : Int32), s0)
set_option maxHeartbeats 4000000 in
set_option maxRecDepth 100000 in
theorem t_X12_roll_20 {l : Launch} {G : ae_G} (d : Nat) {rr : Int32} {ss : ae_S} (s0 : ae_S) (hF : F_X12_roll_20 s0 = some (rr, ss)) : ae_T l G (d + 3) mX12_roll (ae_Po (some (ae_i rr)) ss) 20 [] [] s0 := by
  unfold F_X12_roll_20 at hF
  refine ae_iconst (0 : Int32) dX12_roll_20 (by decide) ?_
  obtain ⟨rfl, rfl⟩ := ae_retI hF
  exact ae_iret dX12_roll_21 rfl (by decide) ⟨rfl, rfl⟩
def F_X12_roll_33 : Nat → Int32 → Int32 → Int32 → ae_S → Option (Int32 × ae_S)
  | 0, _, _, _, _ => none
  | n + 1, v1, v2, v3, s0 => ae_gd (ae_ib v1 32) (if (s0.1 39 0 v1.toNatClampNeg) ≤ v3 then (ae_bd (F_X12_ends (1 : Int32) s0) (fun (r5 : Unit) s6 => some ((1 : Int32), s6))) else (ae_gd (ae_ib v1 32) (ae_gd (!(decide ((s0.1 39 0 v1.toNatClampNeg) = 0))) (ae_gd (ae_ib ((v3 + v2) - (v3 + v2) / (s0.1 39 0 v1.toNatClampNeg) * (s0.1 39 0 v1.toNatClampNeg)) 64) (ae_bd (F_X12_lays v1 v3 (s0.2.1 55 0 ((v3 + v2) - (v3 + v2) / (s0.1 39 0 v1.toNatClampNeg) * (s0.1 39 0 v1.toNatClampNeg)).toNatClampNeg) s0) (fun (r15 : Unit) s16 => ae_lt (v3 + (1 : Int32)) (fun x19 => F_X12_roll_33 n v1 v2 x19 s16)))))))
set_option maxHeartbeats 4000000 in
set_option maxRecDepth 100000 in
theorem t_X12_roll_33 {l : Launch} {G : ae_G} (d : Nat) {rr : Int32} {ss : ae_S} : ∀ (n : Nat) (v1 : Int32) (v2 : Int32) (v3 : Int32) (s0 : ae_S), F_X12_roll_33 n v1 v2 v3 s0 = some (rr, ss) → ae_T l G (d + 3) mX12_roll (ae_Po (some (ae_i rr)) ss) 33 [(0, ae_r (some (30, 0))), (1, ae_i v1), (2, ae_i v2), (3, ae_i v3)] [] s0 := by
  intro n
  induction n with
  | zero =>
    intro v1 v2 v3 s0 hF
    exact absurd (show (none : Option (Int32 × ae_S)) = some (rr, ss) from hF) (by simp)
  | succ n ih =>
    intro v1 v2 v3 s0 hF
    unfold F_X12_roll_33 at hF
    refine ae_iload_n 3 dX12_roll_33 rfl ?_
    refine ae_aload_n 0 dX12_roll_34 rfl ?_
    refine ae_getA (q := (30, 0)) (some (39, 0)) dX12_roll_35 fl_RX12_38 rfl rfl rfl ?_
    refine ae_iload_n 1 dX12_roll_38 rfl ?_
    obtain ⟨hg1, hF2⟩ := ae_gdI hF
    refine ae_iald (q := (39, 0)) dX12_roll_39 rfl rfl (ae_ibI hg1) ?_
    refine ae_icmp_ge 70 dX12_roll_40 rfl (fun hb3 => ?_) (fun hb3 => ?_)
    · have hF4 := ae_ifT hb3 hF2
      refine ae_aload_n 0 dX12_roll_70 rfl ?_
      refine ae_iconst (1 : Int32) dX12_roll_71 (by decide) ?_
      obtain ⟨r5, s6, hc7, hF8⟩ := ae_bdI hF4
      refine ae_cV0 (q := (30, 0)) (As := [ae_i (1 : Int32)]) dX12_roll_72 ww_1472 vy_X12_ends rfl rfl rfl rfl rfl (Nat.le_of_ble_eq_true rfl) (c_X12_ends (d + 2) hc7) ?_
      refine ae_iconst (1 : Int32) dX12_roll_75 (by decide) ?_
      obtain ⟨rfl, rfl⟩ := ae_retI hF8
      exact ae_iret dX12_roll_76 rfl (by decide) ⟨rfl, rfl⟩
    · have hF4 := ae_ifF hb3 hF2
      refine ae_aload_n 0 dX12_roll_43 rfl ?_
      refine ae_iload_n 1 dX12_roll_44 rfl ?_
      refine ae_iload_n 3 dX12_roll_45 rfl ?_
      refine ae_aload_n 0 dX12_roll_46 rfl ?_
      refine ae_getA (q := (30, 0)) (some (55, 0)) dX12_roll_47 fl_RX12_91 rfl rfl rfl ?_
      refine ae_iload_n 3 dX12_roll_50 rfl ?_
      refine ae_iload_n 2 dX12_roll_51 rfl ?_
      refine ae_iadd dX12_roll_52 ?_
      refine ae_aload_n 0 dX12_roll_53 rfl ?_
      refine ae_getA (q := (30, 0)) (some (39, 0)) dX12_roll_54 fl_RX12_38 rfl rfl rfl ?_
      refine ae_iload_n 1 dX12_roll_57 rfl ?_
      obtain ⟨hg9, hF10⟩ := ae_gdI hF4
      refine ae_iald (q := (39, 0)) dX12_roll_58 rfl rfl (ae_ibI hg9) ?_
      obtain ⟨hg11, hF12⟩ := ae_gdI hF10
      refine ae_irem dX12_roll_59 (by simpa using hg11) ?_
      obtain ⟨hg13, hF14⟩ := ae_gdI hF12
      refine ae_lald (q := (55, 0)) dX12_roll_60 rfl rfl (ae_ibI hg13) ?_
      obtain ⟨r15, s16, hc17, hF18⟩ := ae_bdI hF14
      refine ae_cV0 (q := (30, 0)) (As := [ae_i v1, ae_i v3, ae_l (s0.2.1 55 0 ((v3 + v2) - (v3 + v2) / (s0.1 39 0 v1.toNatClampNeg) * (s0.1 39 0 v1.toNatClampNeg)).toNatClampNeg)]) dX12_roll_61 ww_1686 vy_X12_lays rfl rfl rfl rfl rfl (Nat.le_of_ble_eq_true rfl) (c_X12_lays (d + 1) hc17) ?_
      obtain ⟨x19, hx19, hF20⟩ := ae_ltI hF18
      refine ae_iinc (lv' := [(3, ae_i x19), (0, ae_r (some (30, 0))), (1, ae_i v1), (2, ae_i v2)]) 3 (1 : Int32) dX12_roll_64 rfl (by decide) (by decide) (by rw [hx19]; rfl) ?_
      refine ae_goto 33 dX12_roll_67 rfl ?_
      refine ae_pick (lv' := [(0, ae_r (some (30, 0))), (1, ae_i v1), (2, ae_i v2), (3, ae_i x19)]) [1, 2, 3, 0] rfl ?_
      exact ih v1 v2 x19 s16 hF20
def F_X12_roll (v1 : Int32) (v2 : Int32) (s0 : ae_S) : Option (Int32 × ae_S) := ae_bd (F_X12_canLay v1 s0) (fun (r21 : Int32) s22 => if r21 = 0 then (F_X12_roll_20 s22) else (ae_bd (F_X12_isIn v2.toInt64 (0 : Int64) (64 : Int64) s22) (fun (r27 : Int32) s28 => if r27 = 0 then (F_X12_roll_20 s28) else (ae_bd (F_X12_begins s28) (fun (r33 : Unit) s34 => ae_bd (F_X12_takesAll v1 s34) (fun (r37 : Unit) s38 => F_X12_roll_33 ae_fu v1 v2 (0 : Int32) s38))))))
set_option maxHeartbeats 4000000 in
set_option maxRecDepth 100000 in
theorem c_X12_roll {l : Launch} {G : ae_G} (d : Nat) {v1 : Int32} {v2 : Int32} {s0 ss : ae_S} {rr : Int32} (hF : F_X12_roll v1 v2 s0 = some (rr, ss)) : ae_Met l G (d + 3) yX12_roll mX12_roll [ae_r (some (30, 0)), ae_i v1, ae_i v2] s0 (ae_Po (some (ae_i rr)) ss) := by
  refine ae_enter (by decide) rfl (Nat.le_of_ble_eq_true rfl) ?_
  show ae_T l G (d + 3) mX12_roll (ae_Po (some (ae_i rr)) ss) 0 [(0, ae_r (some (30, 0))), (1, ae_i v1), (2, ae_i v2)] [] s0
  unfold F_X12_roll at hF
  refine ae_aload_n 0 dX12_roll_0 rfl ?_
  refine ae_iload_n 1 dX12_roll_1 rfl ?_
  obtain ⟨r21, s22, hc23, hF24⟩ := ae_bdI hF
  refine ae_cV1 (q := (30, 0)) (As := [ae_i v1]) dX12_roll_2 ww_1861 vy_X12_canLay rfl rfl rfl rfl rfl (Nat.le_of_ble_eq_true rfl) (c_X12_canLay d hc23) ?_
  refine ae_if_eq 20 dX12_roll_5 rfl (fun hb25 => ?_) (fun hb25 => ?_)
  · have hF26 := ae_ifT hb25 hF24
    refine ae_pick (lv' := []) [] rfl ?_
    exact t_X12_roll_20 d s22 hF26
  · have hF26 := ae_ifF hb25 hF24
    refine ae_iload_n 2 dX12_roll_8 rfl ?_
    refine ae_i2l dX12_roll_9 ?_
    refine ae_lconst (0 : Int64) dX12_roll_10 (by decide) ?_
    refine ae_ldc2 dX12_roll_11 ww_1597 ?_
    obtain ⟨r27, s28, hc29, hF30⟩ := ae_bdI hF26
    refine ae_cS1 (As := [ae_l v2.toInt64, ae_l (0 : Int64), ae_l (64 : Int64)]) dX12_roll_14 ww_1461 vy_X12_isIn rfl rfl (Nat.le_of_ble_eq_true rfl) (c_X12_isIn (d + 2) hc29) ?_
    refine ae_if_ne 22 dX12_roll_17 rfl (fun hb31 => ?_) (fun hb31 => ?_)
    · have hF32 := ae_ifF hb31 hF30
      refine ae_aload_n 0 dX12_roll_22 rfl ?_
      obtain ⟨r33, s34, hc35, hF36⟩ := ae_bdI hF32
      refine ae_cV0 (q := (30, 0)) (As := []) dX12_roll_23 ww_1468 vy_X12_begins rfl rfl rfl rfl rfl (Nat.le_of_ble_eq_true rfl) (c_X12_begins (d + 2) hc35) ?_
      refine ae_aload_n 0 dX12_roll_26 rfl ?_
      refine ae_iload_n 1 dX12_roll_27 rfl ?_
      obtain ⟨r37, s38, hc39, hF40⟩ := ae_bdI hF36
      refine ae_cV0 (q := (30, 0)) (As := [ae_i v1]) dX12_roll_28 ww_1865 vy_X12_takesAll rfl rfl rfl rfl rfl (Nat.le_of_ble_eq_true rfl) (c_X12_takesAll d hc39) ?_
      refine ae_iconst (0 : Int32) dX12_roll_31 (by decide) ?_
      refine ae_istore_n (lv' := [(3, ae_i (0 : Int32)), (0, ae_r (some (30, 0))), (1, ae_i v1), (2, ae_i v2)]) dX12_roll_32 (by decide) rfl ?_
      refine ae_pick (lv' := [(0, ae_r (some (30, 0))), (1, ae_i v1), (2, ae_i v2), (3, ae_i (0 : Int32))]) [1, 2, 3, 0] rfl ?_
      exact t_X12_roll_33 d ae_fu v1 v2 (0 : Int32) s38 hF40
    · have hF32 := ae_ifT hb31 hF30
      refine ae_pick (lv' := []) [] rfl ?_
      exact t_X12_roll_20 d s28 hF32
abbrev mJxe99ae_compare_56a58 : ae_M := (RJxe99ae, cJxe99ae_compare_56a58, 8, some .int)
theorem vy_Jxe99ae_compare_56a58 : ae_SY yJxe99ae_compare_56a58 mJxe99ae_compare_56a58 2 := ⟨ww_1878, ww_24, ww_1879, ⟨by decide, by decide, by decide +kernel⟩, by decide⟩
theorem dJxe99ae_compare_56a58_0 : decode cJxe99ae_compare_56a58 0 = .ok (.dload_n 0, 1) := by decide +kernel
theorem dJxe99ae_compare_56a58_1 : decode cJxe99ae_compare_56a58 1 = .ok (.dload_n 2, 1) := by decide +kernel
theorem dJxe99ae_compare_56a58_2 : decode cJxe99ae_compare_56a58 2 = .ok (.dcmp .g, 1) := by decide +kernel
theorem dJxe99ae_compare_56a58_3 : decode cJxe99ae_compare_56a58 3 = .ok (.ifCond .ge 5, 3) := by decide +kernel
theorem dJxe99ae_compare_56a58_6 : decode cJxe99ae_compare_56a58 6 = .ok (.iconst (-1), 1) := by decide +kernel
theorem dJxe99ae_compare_56a58_7 : decode cJxe99ae_compare_56a58 7 = .ok (.ireturn, 1) := by decide +kernel
theorem dJxe99ae_compare_56a58_8 : decode cJxe99ae_compare_56a58 8 = .ok (.dload_n 0, 1) := by decide +kernel
theorem dJxe99ae_compare_56a58_9 : decode cJxe99ae_compare_56a58 9 = .ok (.dload_n 2, 1) := by decide +kernel
theorem dJxe99ae_compare_56a58_10 : decode cJxe99ae_compare_56a58 10 = .ok (.dcmp .l, 1) := by decide +kernel
theorem dJxe99ae_compare_56a58_11 : decode cJxe99ae_compare_56a58 11 = .ok (.ifCond .le 5, 3) := by decide +kernel
theorem dJxe99ae_compare_56a58_14 : decode cJxe99ae_compare_56a58 14 = .ok (.iconst 1, 1) := by decide +kernel
theorem dJxe99ae_compare_56a58_15 : decode cJxe99ae_compare_56a58 15 = .ok (.ireturn, 1) := by decide +kernel
theorem dJxe99ae_compare_56a58_16 : decode cJxe99ae_compare_56a58 16 = .ok (.dload_n 0, 1) := by decide +kernel
theorem dJxe99ae_compare_56a58_17 : decode cJxe99ae_compare_56a58 17 = .ok (.invokestatic 46, 3) := by decide +kernel
theorem dJxe99ae_compare_56a58_20 : decode cJxe99ae_compare_56a58 20 = .ok (.lstore 4, 2) := by decide +kernel
theorem dJxe99ae_compare_56a58_22 : decode cJxe99ae_compare_56a58 22 = .ok (.dload_n 2, 1) := by decide +kernel
theorem dJxe99ae_compare_56a58_23 : decode cJxe99ae_compare_56a58 23 = .ok (.invokestatic 46, 3) := by decide +kernel
theorem dJxe99ae_compare_56a58_26 : decode cJxe99ae_compare_56a58 26 = .ok (.lstore 6, 2) := by decide +kernel
theorem dJxe99ae_compare_56a58_28 : decode cJxe99ae_compare_56a58 28 = .ok (.lload 4, 2) := by decide +kernel
theorem dJxe99ae_compare_56a58_30 : decode cJxe99ae_compare_56a58 30 = .ok (.lload 6, 2) := by decide +kernel
theorem dJxe99ae_compare_56a58_32 : decode cJxe99ae_compare_56a58 32 = .ok (.lcmp, 1) := by decide +kernel
theorem dJxe99ae_compare_56a58_33 : decode cJxe99ae_compare_56a58 33 = .ok (.ifCond .ne 7, 3) := by decide +kernel
theorem dJxe99ae_compare_56a58_36 : decode cJxe99ae_compare_56a58 36 = .ok (.iconst 0, 1) := by decide +kernel
theorem dJxe99ae_compare_56a58_37 : decode cJxe99ae_compare_56a58 37 = .ok (.goto 16, 3) := by decide +kernel
theorem dJxe99ae_compare_56a58_40 : decode cJxe99ae_compare_56a58 40 = .ok (.lload 4, 2) := by decide +kernel
theorem dJxe99ae_compare_56a58_42 : decode cJxe99ae_compare_56a58 42 = .ok (.lload 6, 2) := by decide +kernel
theorem dJxe99ae_compare_56a58_44 : decode cJxe99ae_compare_56a58 44 = .ok (.lcmp, 1) := by decide +kernel
theorem dJxe99ae_compare_56a58_45 : decode cJxe99ae_compare_56a58 45 = .ok (.ifCond .ge 7, 3) := by decide +kernel
theorem dJxe99ae_compare_56a58_48 : decode cJxe99ae_compare_56a58 48 = .ok (.iconst (-1), 1) := by decide +kernel
theorem dJxe99ae_compare_56a58_49 : decode cJxe99ae_compare_56a58 49 = .ok (.goto 4, 3) := by decide +kernel
theorem dJxe99ae_compare_56a58_52 : decode cJxe99ae_compare_56a58 52 = .ok (.iconst 1, 1) := by decide +kernel
theorem dJxe99ae_compare_56a58_53 : decode cJxe99ae_compare_56a58 53 = .ok (.ireturn, 1) := by decide +kernel
def F_Jxe99ae_compare_56a58_53 (t0 : Int32) (s0 : ae_S) : Option (Int32 × ae_S) := some (t0, s0)
set_option maxHeartbeats 4000000 in
set_option maxRecDepth 100000 in
theorem t_Jxe99ae_compare_56a58_53 {l : Launch} {G : ae_G} (d : Nat) {rr : Int32} {ss : ae_S} (t0 : Int32) (s0 : ae_S) (hF : F_Jxe99ae_compare_56a58_53 t0 s0 = some (rr, ss)) : ae_T l G (d + 2) mJxe99ae_compare_56a58 (ae_Po (some (ae_i rr)) ss) 53 [] [ae_i t0] s0 := by
  unfold F_Jxe99ae_compare_56a58_53 at hF
  obtain ⟨rfl, rfl⟩ := ae_retI hF
  exact ae_iret dJxe99ae_compare_56a58_53 rfl rfl ⟨rfl, rfl⟩
def F_Jxe99ae_compare_56a58 (v0 : UInt64) (v2 : UInt64) (s0 : ae_S) : Option (Int32 × ae_S) := if 0 ≤ (Op.cmpValue (FP.dcmp v0 v2) CmpOp.g) then (if (Op.cmpValue (FP.dcmp v0 v2) CmpOp.l) ≤ 0 then (ae_lt (ae_db v0) (fun x5 => ae_lt (ae_db v2) (fun x7 => if (lg_cmp x5 x7) = 0 then (F_Jxe99ae_compare_56a58_53 (0 : Int32) s0) else (if 0 ≤ (lg_cmp x5 x7) then (F_Jxe99ae_compare_56a58_53 (1 : Int32) s0) else (F_Jxe99ae_compare_56a58_53 (-1 : Int32) s0))))) else (some ((1 : Int32), s0))) else (some ((-1 : Int32), s0))
set_option maxHeartbeats 4000000 in
set_option maxRecDepth 100000 in
theorem c_Jxe99ae_compare_56a58 {l : Launch} {G : ae_G} (d : Nat) {v0 : UInt64} {v2 : UInt64} {s0 ss : ae_S} {rr : Int32} (hF : F_Jxe99ae_compare_56a58 v0 v2 s0 = some (rr, ss)) : ae_Met l G (d + 2) yJxe99ae_compare_56a58 mJxe99ae_compare_56a58 [ae_d v0, ae_d v2] s0 (ae_Po (some (ae_i rr)) ss) := by
  refine ae_enter (by decide) rfl (Nat.le_of_ble_eq_true rfl) ?_
  show ae_T l G (d + 2) mJxe99ae_compare_56a58 (ae_Po (some (ae_i rr)) ss) 0 [(0, ae_d v0), (2, ae_d v2)] [] s0
  unfold F_Jxe99ae_compare_56a58 at hF
  refine ae_dload_n 0 dJxe99ae_compare_56a58_0 rfl ?_
  refine ae_dload_n 1 dJxe99ae_compare_56a58_1 rfl ?_
  refine ae_dcmp dJxe99ae_compare_56a58_2 ?_
  refine ae_if_ge 8 dJxe99ae_compare_56a58_3 rfl (fun hb1 => ?_) (fun hb1 => ?_)
  · have hF2 := ae_ifT hb1 hF
    refine ae_dload_n 0 dJxe99ae_compare_56a58_8 rfl ?_
    refine ae_dload_n 1 dJxe99ae_compare_56a58_9 rfl ?_
    refine ae_dcmp dJxe99ae_compare_56a58_10 ?_
    refine ae_if_le 16 dJxe99ae_compare_56a58_11 rfl (fun hb3 => ?_) (fun hb3 => ?_)
    · have hF4 := ae_ifT hb3 hF2
      refine ae_dload_n 0 dJxe99ae_compare_56a58_16 rfl ?_
      refine ae_dtl dJxe99ae_compare_56a58_17 ww_1880 (Nat.le_of_ble_eq_true rfl) ?_
      obtain ⟨x5, hx5, hF6⟩ := ae_ltI hF4
      refine ae_nmL hx5 ?_
      refine ae_lstore (lv' := [(4, ae_l x5), (0, ae_d v0), (2, ae_d v2)]) dJxe99ae_compare_56a58_20 (by decide) rfl ?_
      refine ae_dload_n 2 dJxe99ae_compare_56a58_22 rfl ?_
      refine ae_dtl dJxe99ae_compare_56a58_23 ww_1880 (Nat.le_of_ble_eq_true rfl) ?_
      obtain ⟨x7, hx7, hF8⟩ := ae_ltI hF6
      refine ae_nmL hx7 ?_
      refine ae_lstore (lv' := [(6, ae_l x7), (4, ae_l x5), (0, ae_d v0), (2, ae_d v2)]) dJxe99ae_compare_56a58_26 (by decide) rfl ?_
      refine ae_lload 1 dJxe99ae_compare_56a58_28 rfl ?_
      refine ae_lload 0 dJxe99ae_compare_56a58_30 rfl ?_
      refine ae_lcmp dJxe99ae_compare_56a58_32 ?_
      refine ae_if_ne 40 dJxe99ae_compare_56a58_33 rfl (fun hb9 => ?_) (fun hb9 => ?_)
      · have hF10 := ae_ifF hb9 hF8
        refine ae_lload 1 dJxe99ae_compare_56a58_40 rfl ?_
        refine ae_lload 0 dJxe99ae_compare_56a58_42 rfl ?_
        refine ae_lcmp dJxe99ae_compare_56a58_44 ?_
        refine ae_if_ge 52 dJxe99ae_compare_56a58_45 rfl (fun hb11 => ?_) (fun hb11 => ?_)
        · have hF12 := ae_ifT hb11 hF10
          refine ae_iconst (1 : Int32) dJxe99ae_compare_56a58_52 (by decide) ?_
          refine ae_pick (lv' := []) [] rfl ?_
          exact t_Jxe99ae_compare_56a58_53 d (1 : Int32) s0 hF12
        · have hF12 := ae_ifF hb11 hF10
          refine ae_iconst (-1 : Int32) dJxe99ae_compare_56a58_48 (by decide) ?_
          refine ae_goto 53 dJxe99ae_compare_56a58_49 rfl ?_
          refine ae_pick (lv' := []) [] rfl ?_
          exact t_Jxe99ae_compare_56a58_53 d (-1 : Int32) s0 hF12
      · have hF10 := ae_ifT hb9 hF8
        refine ae_iconst (0 : Int32) dJxe99ae_compare_56a58_36 (by decide) ?_
        refine ae_goto 53 dJxe99ae_compare_56a58_37 rfl ?_
        refine ae_pick (lv' := []) [] rfl ?_
        exact t_Jxe99ae_compare_56a58_53 d (0 : Int32) s0 hF10
    · have hF4 := ae_ifF hb3 hF2
      refine ae_iconst (1 : Int32) dJxe99ae_compare_56a58_14 (by decide) ?_
      obtain ⟨rfl, rfl⟩ := ae_retI hF4
      exact ae_iret dJxe99ae_compare_56a58_15 rfl rfl ⟨rfl, rfl⟩
  · have hF2 := ae_ifF hb1 hF
    refine ae_iconst (-1 : Int32) dJxe99ae_compare_56a58_6 (by decide) ?_
    obtain ⟨rfl, rfl⟩ := ae_retI hF2
    exact ae_iret dJxe99ae_compare_56a58_7 rfl rfl ⟨rfl, rfl⟩
abbrev mX12_sort : ae_M := (RX12, cX12_sort, 6, some .boolean)
theorem vy_X12_sort : ae_VY yX12_sort mX12_sort 1 := ⟨ww_1874, ww_1875, ww_13, ww_1876, ⟨by decide, by decide, by decide +kernel⟩, by decide⟩
theorem dX12_sort_0 : decode cX12_sort 0 = .ok (.aload_n 0, 1) := by decide +kernel
theorem dX12_sort_1 : decode cX12_sort 1 = .ok (.iload_n 1, 1) := by decide +kernel
theorem dX12_sort_2 : decode cX12_sort 2 = .ok (.invokevirtual 122, 3) := by decide +kernel
theorem dX12_sort_5 : decode cX12_sort 5 = .ok (.ifCond .eq 30, 3) := by decide +kernel
theorem dX12_sort_8 : decode cX12_sort 8 = .ok (.aload_n 0, 1) := by decide +kernel
theorem dX12_sort_9 : decode cX12_sort 9 = .ok (.getfield 44, 3) := by decide +kernel
theorem dX12_sort_12 : decode cX12_sort 12 = .ok (.iload_n 1, 1) := by decide +kernel
theorem dX12_sort_13 : decode cX12_sort 13 = .ok (.iaload, 1) := by decide +kernel
theorem dX12_sort_14 : decode cX12_sort 14 = .ok (.ifCond .ne 21, 3) := by decide +kernel
theorem dX12_sort_17 : decode cX12_sort 17 = .ok (.aload_n 0, 1) := by decide +kernel
theorem dX12_sort_18 : decode cX12_sort 18 = .ok (.getfield 41, 3) := by decide +kernel
theorem dX12_sort_21 : decode cX12_sort 21 = .ok (.iload_n 1, 1) := by decide +kernel
theorem dX12_sort_22 : decode cX12_sort 22 = .ok (.iaload, 1) := by decide +kernel
theorem dX12_sort_23 : decode cX12_sort 23 = .ok (.aload_n 0, 1) := by decide +kernel
theorem dX12_sort_24 : decode cX12_sort 24 = .ok (.getfield 29, 3) := by decide +kernel
theorem dX12_sort_27 : decode cX12_sort 27 = .ok (.iload_n 1, 1) := by decide +kernel
theorem dX12_sort_28 : decode cX12_sort 28 = .ok (.iaload, 1) := by decide +kernel
theorem dX12_sort_29 : decode cX12_sort 29 = .ok (.invokestatic 267, 3) := by decide +kernel
theorem dX12_sort_32 : decode cX12_sort 32 = .ok (.if_icmp .ge 5, 3) := by decide +kernel
theorem dX12_sort_35 : decode cX12_sort 35 = .ok (.iconst 0, 1) := by decide +kernel
theorem dX12_sort_36 : decode cX12_sort 36 = .ok (.ireturn, 1) := by decide +kernel
theorem dX12_sort_37 : decode cX12_sort 37 = .ok (.aload_n 0, 1) := by decide +kernel
theorem dX12_sort_38 : decode cX12_sort 38 = .ok (.invokevirtual 115, 3) := by decide +kernel
theorem dX12_sort_41 : decode cX12_sort 41 = .ok (.iconst 0, 1) := by decide +kernel
theorem dX12_sort_42 : decode cX12_sort 42 = .ok (.istore_n 2, 1) := by decide +kernel
theorem dX12_sort_43 : decode cX12_sort 43 = .ok (.iload_n 2, 1) := by decide +kernel
theorem dX12_sort_44 : decode cX12_sort 44 = .ok (.aload_n 0, 1) := by decide +kernel
theorem dX12_sort_45 : decode cX12_sort 45 = .ok (.getfield 38, 3) := by decide +kernel
theorem dX12_sort_48 : decode cX12_sort 48 = .ok (.iload_n 1, 1) := by decide +kernel
theorem dX12_sort_49 : decode cX12_sort 49 = .ok (.iaload, 1) := by decide +kernel
theorem dX12_sort_50 : decode cX12_sort 50 = .ok (.if_icmp .ge 132, 3) := by decide +kernel
theorem dX12_sort_53 : decode cX12_sort 53 = .ok (.iload_n 2, 1) := by decide +kernel
theorem dX12_sort_54 : decode cX12_sort 54 = .ok (.istore_n 3, 1) := by decide +kernel
theorem dX12_sort_55 : decode cX12_sort 55 = .ok (.aload_n 0, 1) := by decide +kernel
theorem dX12_sort_56 : decode cX12_sort 56 = .ok (.iload_n 1, 1) := by decide +kernel
theorem dX12_sort_57 : decode cX12_sort 57 = .ok (.invokevirtual 316, 3) := by decide +kernel
theorem dX12_sort_60 : decode cX12_sort 60 = .ok (.ifCond .eq 62, 3) := by decide +kernel
theorem dX12_sort_63 : decode cX12_sort 63 = .ok (.aload_n 0, 1) := by decide +kernel
theorem dX12_sort_64 : decode cX12_sort 64 = .ok (.iload_n 1, 1) := by decide +kernel
theorem dX12_sort_65 : decode cX12_sort 65 = .ok (.iload_n 2, 1) := by decide +kernel
theorem dX12_sort_66 : decode cX12_sort 66 = .ok (.invokevirtual 322, 3) := by decide +kernel
theorem dX12_sort_69 : decode cX12_sort 69 = .ok (.dstore 4, 2) := by decide +kernel
theorem dX12_sort_71 : decode cX12_sort 71 = .ok (.iload_n 3, 1) := by decide +kernel
theorem dX12_sort_72 : decode cX12_sort 72 = .ok (.ifCond .le 39, 3) := by decide +kernel
theorem dX12_sort_75 : decode cX12_sort 75 = .ok (.aload_n 0, 1) := by decide +kernel
theorem dX12_sort_76 : decode cX12_sort 76 = .ok (.getfield 94, 3) := by decide +kernel
theorem dX12_sort_79 : decode cX12_sort 79 = .ok (.iload_n 3, 1) := by decide +kernel
theorem dX12_sort_80 : decode cX12_sort 80 = .ok (.iconst 1, 1) := by decide +kernel
theorem dX12_sort_81 : decode cX12_sort 81 = .ok (.isub, 1) := by decide +kernel
theorem dX12_sort_82 : decode cX12_sort 82 = .ok (.daload, 1) := by decide +kernel
theorem dX12_sort_83 : decode cX12_sort 83 = .ok (.dload 4, 2) := by decide +kernel
theorem dX12_sort_85 : decode cX12_sort 85 = .ok (.invokestatic 487, 3) := by decide +kernel
theorem dX12_sort_88 : decode cX12_sort 88 = .ok (.ifCond .le 23, 3) := by decide +kernel
theorem dX12_sort_91 : decode cX12_sort 91 = .ok (.aload_n 0, 1) := by decide +kernel
theorem dX12_sort_92 : decode cX12_sort 92 = .ok (.getfield 94, 3) := by decide +kernel
theorem dX12_sort_95 : decode cX12_sort 95 = .ok (.iload_n 3, 1) := by decide +kernel
theorem dX12_sort_96 : decode cX12_sort 96 = .ok (.aload_n 0, 1) := by decide +kernel
theorem dX12_sort_97 : decode cX12_sort 97 = .ok (.getfield 94, 3) := by decide +kernel
theorem dX12_sort_100 : decode cX12_sort 100 = .ok (.iload_n 3, 1) := by decide +kernel
theorem dX12_sort_101 : decode cX12_sort 101 = .ok (.iconst 1, 1) := by decide +kernel
theorem dX12_sort_102 : decode cX12_sort 102 = .ok (.isub, 1) := by decide +kernel
theorem dX12_sort_103 : decode cX12_sort 103 = .ok (.daload, 1) := by decide +kernel
theorem dX12_sort_104 : decode cX12_sort 104 = .ok (.dastore, 1) := by decide +kernel
theorem dX12_sort_105 : decode cX12_sort 105 = .ok (.iinc 3 (-1), 3) := by decide +kernel
theorem dX12_sort_108 : decode cX12_sort 108 = .ok (.goto (-37), 3) := by decide +kernel
theorem dX12_sort_111 : decode cX12_sort 111 = .ok (.aload_n 0, 1) := by decide +kernel
theorem dX12_sort_112 : decode cX12_sort 112 = .ok (.getfield 94, 3) := by decide +kernel
theorem dX12_sort_115 : decode cX12_sort 115 = .ok (.iload_n 3, 1) := by decide +kernel
theorem dX12_sort_116 : decode cX12_sort 116 = .ok (.dload 4, 2) := by decide +kernel
theorem dX12_sort_118 : decode cX12_sort 118 = .ok (.dastore, 1) := by decide +kernel
theorem dX12_sort_119 : decode cX12_sort 119 = .ok (.goto 57, 3) := by decide +kernel
theorem dX12_sort_122 : decode cX12_sort 122 = .ok (.aload_n 0, 1) := by decide +kernel
theorem dX12_sort_123 : decode cX12_sort 123 = .ok (.iload_n 1, 1) := by decide +kernel
theorem dX12_sort_124 : decode cX12_sort 124 = .ok (.iload_n 2, 1) := by decide +kernel
theorem dX12_sort_125 : decode cX12_sort 125 = .ok (.invokevirtual 319, 3) := by decide +kernel
theorem dX12_sort_128 : decode cX12_sort 128 = .ok (.lstore 4, 2) := by decide +kernel
theorem dX12_sort_130 : decode cX12_sort 130 = .ok (.iload_n 3, 1) := by decide +kernel
theorem dX12_sort_131 : decode cX12_sort 131 = .ok (.ifCond .le 37, 3) := by decide +kernel
theorem dX12_sort_134 : decode cX12_sort 134 = .ok (.aload_n 0, 1) := by decide +kernel
theorem dX12_sort_135 : decode cX12_sort 135 = .ok (.getfield 91, 3) := by decide +kernel
theorem dX12_sort_138 : decode cX12_sort 138 = .ok (.iload_n 3, 1) := by decide +kernel
theorem dX12_sort_139 : decode cX12_sort 139 = .ok (.iconst 1, 1) := by decide +kernel
theorem dX12_sort_140 : decode cX12_sort 140 = .ok (.isub, 1) := by decide +kernel
theorem dX12_sort_141 : decode cX12_sort 141 = .ok (.laload, 1) := by decide +kernel
theorem dX12_sort_142 : decode cX12_sort 142 = .ok (.lload 4, 2) := by decide +kernel
theorem dX12_sort_144 : decode cX12_sort 144 = .ok (.lcmp, 1) := by decide +kernel
theorem dX12_sort_145 : decode cX12_sort 145 = .ok (.ifCond .le 23, 3) := by decide +kernel
theorem dX12_sort_148 : decode cX12_sort 148 = .ok (.aload_n 0, 1) := by decide +kernel
theorem dX12_sort_149 : decode cX12_sort 149 = .ok (.getfield 91, 3) := by decide +kernel
theorem dX12_sort_152 : decode cX12_sort 152 = .ok (.iload_n 3, 1) := by decide +kernel
theorem dX12_sort_153 : decode cX12_sort 153 = .ok (.aload_n 0, 1) := by decide +kernel
theorem dX12_sort_154 : decode cX12_sort 154 = .ok (.getfield 91, 3) := by decide +kernel
theorem dX12_sort_157 : decode cX12_sort 157 = .ok (.iload_n 3, 1) := by decide +kernel
theorem dX12_sort_158 : decode cX12_sort 158 = .ok (.iconst 1, 1) := by decide +kernel
theorem dX12_sort_159 : decode cX12_sort 159 = .ok (.isub, 1) := by decide +kernel
theorem dX12_sort_160 : decode cX12_sort 160 = .ok (.laload, 1) := by decide +kernel
theorem dX12_sort_161 : decode cX12_sort 161 = .ok (.lastore, 1) := by decide +kernel
theorem dX12_sort_162 : decode cX12_sort 162 = .ok (.iinc 3 (-1), 3) := by decide +kernel
theorem dX12_sort_165 : decode cX12_sort 165 = .ok (.goto (-35), 3) := by decide +kernel
theorem dX12_sort_168 : decode cX12_sort 168 = .ok (.aload_n 0, 1) := by decide +kernel
theorem dX12_sort_169 : decode cX12_sort 169 = .ok (.getfield 91, 3) := by decide +kernel
theorem dX12_sort_172 : decode cX12_sort 172 = .ok (.iload_n 3, 1) := by decide +kernel
theorem dX12_sort_173 : decode cX12_sort 173 = .ok (.lload 4, 2) := by decide +kernel
theorem dX12_sort_175 : decode cX12_sort 175 = .ok (.lastore, 1) := by decide +kernel
theorem dX12_sort_176 : decode cX12_sort 176 = .ok (.iinc 2 1, 3) := by decide +kernel
theorem dX12_sort_179 : decode cX12_sort 179 = .ok (.goto (-136), 3) := by decide +kernel
theorem dX12_sort_182 : decode cX12_sort 182 = .ok (.iconst 0, 1) := by decide +kernel
theorem dX12_sort_183 : decode cX12_sort 183 = .ok (.istore_n 2, 1) := by decide +kernel
theorem dX12_sort_184 : decode cX12_sort 184 = .ok (.iload_n 2, 1) := by decide +kernel
theorem dX12_sort_185 : decode cX12_sort 185 = .ok (.aload_n 0, 1) := by decide +kernel
theorem dX12_sort_186 : decode cX12_sort 186 = .ok (.getfield 38, 3) := by decide +kernel
theorem dX12_sort_189 : decode cX12_sort 189 = .ok (.iload_n 1, 1) := by decide +kernel
theorem dX12_sort_190 : decode cX12_sort 190 = .ok (.iaload, 1) := by decide +kernel
theorem dX12_sort_191 : decode cX12_sort 191 = .ok (.if_icmp .ge 37, 3) := by decide +kernel
theorem dX12_sort_194 : decode cX12_sort 194 = .ok (.aload_n 0, 1) := by decide +kernel
theorem dX12_sort_195 : decode cX12_sort 195 = .ok (.iload_n 1, 1) := by decide +kernel
theorem dX12_sort_196 : decode cX12_sort 196 = .ok (.iload_n 2, 1) := by decide +kernel
theorem dX12_sort_197 : decode cX12_sort 197 = .ok (.aload_n 0, 1) := by decide +kernel
theorem dX12_sort_198 : decode cX12_sort 198 = .ok (.iload_n 1, 1) := by decide +kernel
theorem dX12_sort_199 : decode cX12_sort 199 = .ok (.aload_n 0, 1) := by decide +kernel
theorem dX12_sort_200 : decode cX12_sort 200 = .ok (.iload_n 1, 1) := by decide +kernel
theorem dX12_sort_201 : decode cX12_sort 201 = .ok (.invokevirtual 316, 3) := by decide +kernel
theorem dX12_sort_204 : decode cX12_sort 204 = .ok (.aload_n 0, 1) := by decide +kernel
theorem dX12_sort_205 : decode cX12_sort 205 = .ok (.getfield 91, 3) := by decide +kernel
theorem dX12_sort_208 : decode cX12_sort 208 = .ok (.iload_n 2, 1) := by decide +kernel
theorem dX12_sort_209 : decode cX12_sort 209 = .ok (.laload, 1) := by decide +kernel
theorem dX12_sort_210 : decode cX12_sort 210 = .ok (.aload_n 0, 1) := by decide +kernel
theorem dX12_sort_211 : decode cX12_sort 211 = .ok (.getfield 94, 3) := by decide +kernel
theorem dX12_sort_214 : decode cX12_sort 214 = .ok (.iload_n 2, 1) := by decide +kernel
theorem dX12_sort_215 : decode cX12_sort 215 = .ok (.daload, 1) := by decide +kernel
theorem dX12_sort_216 : decode cX12_sort 216 = .ok (.invokevirtual 356, 3) := by decide +kernel
theorem dX12_sort_219 : decode cX12_sort 219 = .ok (.invokevirtual 360, 3) := by decide +kernel
theorem dX12_sort_222 : decode cX12_sort 222 = .ok (.iinc 2 1, 3) := by decide +kernel
theorem dX12_sort_225 : decode cX12_sort 225 = .ok (.goto (-41), 3) := by decide +kernel
theorem dX12_sort_228 : decode cX12_sort 228 = .ok (.aload_n 0, 1) := by decide +kernel
theorem dX12_sort_229 : decode cX12_sort 229 = .ok (.iconst 1, 1) := by decide +kernel
theorem dX12_sort_230 : decode cX12_sort 230 = .ok (.invokevirtual 118, 3) := by decide +kernel
theorem dX12_sort_233 : decode cX12_sort 233 = .ok (.iconst 1, 1) := by decide +kernel
theorem dX12_sort_234 : decode cX12_sort 234 = .ok (.ireturn, 1) := by decide +kernel
def F_X12_sort_35 (s0 : ae_S) : Option (Int32 × ae_S) := some ((0 : Int32), s0)
set_option maxHeartbeats 4000000 in
set_option maxRecDepth 100000 in
theorem t_X12_sort_35 {l : Launch} {G : ae_G} (d : Nat) {rr : Int32} {ss : ae_S} (s0 : ae_S) (hF : F_X12_sort_35 s0 = some (rr, ss)) : ae_T l G (d + 3) mX12_sort (ae_Po (some (ae_i rr)) ss) 35 [] [] s0 := by
  unfold F_X12_sort_35 at hF
  refine ae_iconst (0 : Int32) dX12_sort_35 (by decide) ?_
  obtain ⟨rfl, rfl⟩ := ae_retI hF
  exact ae_iret dX12_sort_36 rfl (by decide) ⟨rfl, rfl⟩
def F_X12_sort_184 : Nat → Int32 → Int32 → ae_S → Option (Int32 × ae_S)
  | 0, _, _, _ => none
  | n + 1, v1, v2, s0 => ae_gd (ae_ib v1 32) (if (s0.1 39 0 v1.toNatClampNeg) ≤ v2 then (ae_bd (F_X12_ends (1 : Int32) s0) (fun (r5 : Unit) s6 => some ((1 : Int32), s6))) else (ae_bd (F_X12_isFloating v1 s0) (fun (r9 : Int32) s10 => ae_gd (ae_ib v2 64) (ae_gd (ae_ib v2 64) (ae_bd (F_X12_bitsBy v1 r9 (s10.2.1 55 0 v2.toNatClampNeg) (s10.2.2.1 56 0 v2.toNatClampNeg) s10) (fun (r17 : Int64) s18 => ae_bd (F_X12_writes v1 v2 r17 s18) (fun (r21 : Unit) s22 => ae_lt (v2 + (1 : Int32)) (fun x25 => F_X12_sort_184 n v1 x25 s22))))))))
set_option maxHeartbeats 4000000 in
set_option maxRecDepth 100000 in
theorem t_X12_sort_184 {l : Launch} {G : ae_G} (d : Nat) {rr : Int32} {ss : ae_S} : ∀ (n : Nat) (v1 : Int32) (v2 : Int32) (s0 : ae_S), F_X12_sort_184 n v1 v2 s0 = some (rr, ss) → ae_T l G (d + 3) mX12_sort (ae_Po (some (ae_i rr)) ss) 184 [(0, ae_r (some (30, 0))), (1, ae_i v1), (2, ae_i v2)] [] s0 := by
  intro n
  induction n with
  | zero =>
    intro v1 v2 s0 hF
    exact absurd (show (none : Option (Int32 × ae_S)) = some (rr, ss) from hF) (by simp)
  | succ n ih =>
    intro v1 v2 s0 hF
    unfold F_X12_sort_184 at hF
    refine ae_iload_n 2 dX12_sort_184 rfl ?_
    refine ae_aload_n 0 dX12_sort_185 rfl ?_
    refine ae_getA (q := (30, 0)) (some (39, 0)) dX12_sort_186 fl_RX12_38 rfl rfl rfl ?_
    refine ae_iload_n 1 dX12_sort_189 rfl ?_
    obtain ⟨hg1, hF2⟩ := ae_gdI hF
    refine ae_iald (q := (39, 0)) dX12_sort_190 rfl rfl (ae_ibI hg1) ?_
    refine ae_icmp_ge 228 dX12_sort_191 rfl (fun hb3 => ?_) (fun hb3 => ?_)
    · have hF4 := ae_ifT hb3 hF2
      refine ae_aload_n 0 dX12_sort_228 rfl ?_
      refine ae_iconst (1 : Int32) dX12_sort_229 (by decide) ?_
      obtain ⟨r5, s6, hc7, hF8⟩ := ae_bdI hF4
      refine ae_cV0 (q := (30, 0)) (As := [ae_i (1 : Int32)]) dX12_sort_230 ww_1472 vy_X12_ends rfl rfl rfl rfl rfl (Nat.le_of_ble_eq_true rfl) (c_X12_ends (d + 2) hc7) ?_
      refine ae_iconst (1 : Int32) dX12_sort_233 (by decide) ?_
      obtain ⟨rfl, rfl⟩ := ae_retI hF8
      exact ae_iret dX12_sort_234 rfl (by decide) ⟨rfl, rfl⟩
    · have hF4 := ae_ifF hb3 hF2
      refine ae_aload_n 0 dX12_sort_194 rfl ?_
      refine ae_iload_n 1 dX12_sort_195 rfl ?_
      refine ae_iload_n 2 dX12_sort_196 rfl ?_
      refine ae_aload_n 0 dX12_sort_197 rfl ?_
      refine ae_iload_n 1 dX12_sort_198 rfl ?_
      refine ae_aload_n 0 dX12_sort_199 rfl ?_
      refine ae_iload_n 1 dX12_sort_200 rfl ?_
      obtain ⟨r9, s10, hc11, hF12⟩ := ae_bdI hF4
      refine ae_cV1 (q := (30, 0)) (As := [ae_i v1]) dX12_sort_201 ww_1644 vy_X12_isFloating rfl rfl rfl rfl rfl (Nat.le_of_ble_eq_true rfl) (c_X12_isFloating (d + 2) hc11) ?_
      refine ae_aload_n 0 dX12_sort_204 rfl ?_
      refine ae_getA (q := (30, 0)) (some (55, 0)) dX12_sort_205 fl_RX12_91 rfl rfl rfl ?_
      refine ae_iload_n 2 dX12_sort_208 rfl ?_
      obtain ⟨hg13, hF14⟩ := ae_gdI hF12
      refine ae_lald (q := (55, 0)) dX12_sort_209 rfl rfl (ae_ibI hg13) ?_
      refine ae_aload_n 0 dX12_sort_210 rfl ?_
      refine ae_getA (q := (30, 0)) (some (56, 0)) dX12_sort_211 fl_RX12_94 rfl rfl rfl ?_
      refine ae_iload_n 2 dX12_sort_214 rfl ?_
      obtain ⟨hg15, hF16⟩ := ae_gdI hF14
      refine ae_dald (q := (56, 0)) dX12_sort_215 rfl rfl (ae_ibI hg15) ?_
      obtain ⟨r17, s18, hc19, hF20⟩ := ae_bdI hF16
      refine ae_cV1 (q := (30, 0)) (As := [ae_i v1, ae_i r9, ae_l (s10.2.1 55 0 v2.toNatClampNeg), ae_d (s10.2.2.1 56 0 v2.toNatClampNeg)]) dX12_sort_216 ww_1711 vy_X12_bitsBy rfl rfl rfl rfl rfl (Nat.le_of_ble_eq_true rfl) (c_X12_bitsBy d hc19) ?_
      obtain ⟨r21, s22, hc23, hF24⟩ := ae_bdI hF20
      refine ae_cV0 (q := (30, 0)) (As := [ae_i v1, ae_i v2, ae_l r17]) dX12_sort_219 ww_1715 vy_X12_writes rfl rfl rfl rfl rfl (Nat.le_of_ble_eq_true rfl) (c_X12_writes d hc23) ?_
      obtain ⟨x25, hx25, hF26⟩ := ae_ltI hF24
      refine ae_iinc (lv' := [(2, ae_i x25), (0, ae_r (some (30, 0))), (1, ae_i v1)]) 2 (1 : Int32) dX12_sort_222 rfl (by decide) (by decide) (by rw [hx25]; rfl) ?_
      refine ae_goto 184 dX12_sort_225 rfl ?_
      refine ae_pick (lv' := [(0, ae_r (some (30, 0))), (1, ae_i v1), (2, ae_i x25)]) [1, 2, 0] rfl ?_
      exact ih v1 x25 s22 hF26
def F_X12_sort_176 (k43 : Int32 → Int32 → ae_S → Option (Int32 × ae_S)) (v1 : Int32) (v2 : Int32) (s0 : ae_S) : Option (Int32 × ae_S) := ae_lt (v2 + (1 : Int32)) (fun x27 => k43 v1 x27 s0)
set_option maxHeartbeats 4000000 in
set_option maxRecDepth 100000 in
theorem t_X12_sort_176 {l : Launch} {G : ae_G} (d : Nat) (k43 : Int32 → Int32 → ae_S → Option (Int32 × ae_S)) {rr : Int32} {ss : ae_S} (hk43 : ∀ (v1 : Int32) (v2 : Int32) (s0 : ae_S), k43 v1 v2 s0 = some (rr, ss) → ae_T l G (d + 3) mX12_sort (ae_Po (some (ae_i rr)) ss) 43 [(0, ae_r (some (30, 0))), (1, ae_i v1), (2, ae_i v2)] [] s0) (v1 : Int32) (v2 : Int32) (s0 : ae_S) (hF : F_X12_sort_176 k43 v1 v2 s0 = some (rr, ss)) : ae_T l G (d + 3) mX12_sort (ae_Po (some (ae_i rr)) ss) 176 [(0, ae_r (some (30, 0))), (1, ae_i v1), (2, ae_i v2)] [] s0 := by
  unfold F_X12_sort_176 at hF
  obtain ⟨x27, hx27, hF28⟩ := ae_ltI hF
  refine ae_iinc (lv' := [(2, ae_i x27), (0, ae_r (some (30, 0))), (1, ae_i v1)]) 2 (1 : Int32) dX12_sort_176 rfl (by decide) (by decide) (by rw [hx27]; rfl) ?_
  refine ae_goto 43 dX12_sort_179 rfl ?_
  refine ae_pick (lv' := [(0, ae_r (some (30, 0))), (1, ae_i v1), (2, ae_i x27)]) [1, 2, 0] rfl ?_
  exact hk43 v1 x27 s0 hF28
def F_X12_sort_168 (k43 : Int32 → Int32 → ae_S → Option (Int32 × ae_S)) (v1 : Int32) (v2 : Int32) (v3 : Int32) (v4 : Int64) (s0 : ae_S) : Option (Int32 × ae_S) := ae_gd (ae_ib v3 64) (ae_lt (ae_wL s0 55 0 v3.toNatClampNeg v4) (fun s31 => F_X12_sort_176 k43 v1 v2 s31))
set_option maxHeartbeats 4000000 in
set_option maxRecDepth 100000 in
theorem t_X12_sort_168 {l : Launch} {G : ae_G} (d : Nat) (k43 : Int32 → Int32 → ae_S → Option (Int32 × ae_S)) {rr : Int32} {ss : ae_S} (hk43 : ∀ (v1 : Int32) (v2 : Int32) (s0 : ae_S), k43 v1 v2 s0 = some (rr, ss) → ae_T l G (d + 3) mX12_sort (ae_Po (some (ae_i rr)) ss) 43 [(0, ae_r (some (30, 0))), (1, ae_i v1), (2, ae_i v2)] [] s0) (v1 : Int32) (v2 : Int32) (v3 : Int32) (v4 : Int64) (s0 : ae_S) (hF : F_X12_sort_168 k43 v1 v2 v3 v4 s0 = some (rr, ss)) : ae_T l G (d + 3) mX12_sort (ae_Po (some (ae_i rr)) ss) 168 [(0, ae_r (some (30, 0))), (1, ae_i v1), (2, ae_i v2), (3, ae_i v3), (4, ae_l v4)] [] s0 := by
  unfold F_X12_sort_168 at hF
  refine ae_aload_n 0 dX12_sort_168 rfl ?_
  refine ae_getA (q := (30, 0)) (some (55, 0)) dX12_sort_169 fl_RX12_91 rfl rfl rfl ?_
  refine ae_iload_n 3 dX12_sort_172 rfl ?_
  refine ae_lload 4 dX12_sort_173 rfl ?_
  obtain ⟨hg29, hF30⟩ := ae_gdI hF
  obtain ⟨s31, hs31, hF32⟩ := ae_ltI hF30
  refine ae_last (q := (55, 0)) dX12_sort_175 rfl rfl (ae_ibI hg29) (ae_nmS hs31 ?_)
  refine ae_pick (lv' := [(0, ae_r (some (30, 0))), (1, ae_i v1), (2, ae_i v2)]) [0, 1, 2] rfl ?_
  exact t_X12_sort_176 d k43 hk43 v1 v2 s31 hF32
def F_X12_sort_130 (k43 : Int32 → Int32 → ae_S → Option (Int32 × ae_S)) : Nat → Int32 → Int32 → Int32 → Int64 → ae_S → Option (Int32 × ae_S)
  | 0, _, _, _, _, _ => none
  | n + 1, v1, v2, v3, v4, s0 => if v3 ≤ 0 then (F_X12_sort_168 k43 v1 v2 v3 v4 s0) else (ae_gd (ae_ib (v3 - (1 : Int32)) 64) (if (lg_cmp (s0.2.1 55 0 (v3 - (1 : Int32)).toNatClampNeg) v4) ≤ 0 then (F_X12_sort_168 k43 v1 v2 v3 v4 s0) else (ae_gd (ae_ib (v3 - (1 : Int32)) 64) (ae_gd (ae_ib v3 64) (ae_lt (ae_wL s0 55 0 v3.toNatClampNeg (s0.2.1 55 0 (v3 - (1 : Int32)).toNatClampNeg)) (fun s43 => ae_lt (v3 + (-1 : Int32)) (fun x45 => F_X12_sort_130 k43 n v1 v2 x45 v4 s43)))))))
set_option maxHeartbeats 4000000 in
set_option maxRecDepth 100000 in
theorem t_X12_sort_130 {l : Launch} {G : ae_G} (d : Nat) (k43 : Int32 → Int32 → ae_S → Option (Int32 × ae_S)) {rr : Int32} {ss : ae_S} (hk43 : ∀ (v1 : Int32) (v2 : Int32) (s0 : ae_S), k43 v1 v2 s0 = some (rr, ss) → ae_T l G (d + 3) mX12_sort (ae_Po (some (ae_i rr)) ss) 43 [(0, ae_r (some (30, 0))), (1, ae_i v1), (2, ae_i v2)] [] s0) : ∀ (n : Nat) (v1 : Int32) (v2 : Int32) (v3 : Int32) (v4 : Int64) (s0 : ae_S), F_X12_sort_130 k43 n v1 v2 v3 v4 s0 = some (rr, ss) → ae_T l G (d + 3) mX12_sort (ae_Po (some (ae_i rr)) ss) 130 [(0, ae_r (some (30, 0))), (1, ae_i v1), (2, ae_i v2), (3, ae_i v3), (4, ae_l v4)] [] s0 := by
  intro n
  induction n with
  | zero =>
    intro v1 v2 v3 v4 s0 hF
    exact absurd (show (none : Option (Int32 × ae_S)) = some (rr, ss) from hF) (by simp)
  | succ n ih =>
    intro v1 v2 v3 v4 s0 hF
    unfold F_X12_sort_130 at hF
    refine ae_iload_n 3 dX12_sort_130 rfl ?_
    refine ae_if_le 168 dX12_sort_131 rfl (fun hb33 => ?_) (fun hb33 => ?_)
    · have hF34 := ae_ifT hb33 hF
      refine ae_pick (lv' := [(0, ae_r (some (30, 0))), (1, ae_i v1), (2, ae_i v2), (3, ae_i v3), (4, ae_l v4)]) [0, 1, 2, 3, 4] rfl ?_
      exact t_X12_sort_168 d k43 hk43 v1 v2 v3 v4 s0 hF34
    · have hF34 := ae_ifF hb33 hF
      refine ae_aload_n 0 dX12_sort_134 rfl ?_
      refine ae_getA (q := (30, 0)) (some (55, 0)) dX12_sort_135 fl_RX12_91 rfl rfl rfl ?_
      refine ae_iload_n 3 dX12_sort_138 rfl ?_
      refine ae_iconst (1 : Int32) dX12_sort_139 (by decide) ?_
      refine ae_isub dX12_sort_140 ?_
      obtain ⟨hg35, hF36⟩ := ae_gdI hF34
      refine ae_lald (q := (55, 0)) dX12_sort_141 rfl rfl (ae_ibI hg35) ?_
      refine ae_lload 4 dX12_sort_142 rfl ?_
      refine ae_lcmp dX12_sort_144 ?_
      refine ae_if_le 168 dX12_sort_145 rfl (fun hb37 => ?_) (fun hb37 => ?_)
      · have hF38 := ae_ifT hb37 hF36
        refine ae_pick (lv' := [(0, ae_r (some (30, 0))), (1, ae_i v1), (2, ae_i v2), (3, ae_i v3), (4, ae_l v4)]) [0, 1, 2, 3, 4] rfl ?_
        exact t_X12_sort_168 d k43 hk43 v1 v2 v3 v4 s0 hF38
      · have hF38 := ae_ifF hb37 hF36
        refine ae_aload_n 0 dX12_sort_148 rfl ?_
        refine ae_getA (q := (30, 0)) (some (55, 0)) dX12_sort_149 fl_RX12_91 rfl rfl rfl ?_
        refine ae_iload_n 3 dX12_sort_152 rfl ?_
        refine ae_aload_n 0 dX12_sort_153 rfl ?_
        refine ae_getA (q := (30, 0)) (some (55, 0)) dX12_sort_154 fl_RX12_91 rfl rfl rfl ?_
        refine ae_iload_n 3 dX12_sort_157 rfl ?_
        refine ae_iconst (1 : Int32) dX12_sort_158 (by decide) ?_
        refine ae_isub dX12_sort_159 ?_
        obtain ⟨hg39, hF40⟩ := ae_gdI hF38
        refine ae_lald (q := (55, 0)) dX12_sort_160 rfl rfl (ae_ibI hg39) ?_
        obtain ⟨hg41, hF42⟩ := ae_gdI hF40
        obtain ⟨s43, hs43, hF44⟩ := ae_ltI hF42
        refine ae_last (q := (55, 0)) dX12_sort_161 rfl rfl (ae_ibI hg41) (ae_nmS hs43 ?_)
        obtain ⟨x45, hx45, hF46⟩ := ae_ltI hF44
        refine ae_iinc (lv' := [(3, ae_i x45), (0, ae_r (some (30, 0))), (1, ae_i v1), (2, ae_i v2), (4, ae_l v4)]) 3 (-1 : Int32) dX12_sort_162 rfl (by decide) (by decide) (by rw [hx45]; rfl) ?_
        refine ae_goto 130 dX12_sort_165 rfl ?_
        refine ae_pick (lv' := [(0, ae_r (some (30, 0))), (1, ae_i v1), (2, ae_i v2), (3, ae_i x45), (4, ae_l v4)]) [1, 2, 3, 0, 4] rfl ?_
        exact ih v1 v2 x45 v4 s43 hF46
def F_X12_sort_111 (k43 : Int32 → Int32 → ae_S → Option (Int32 × ae_S)) (v1 : Int32) (v2 : Int32) (v3 : Int32) (v4 : UInt64) (s0 : ae_S) : Option (Int32 × ae_S) := ae_gd (ae_ib v3 64) (ae_lt (ae_wD s0 56 0 v3.toNatClampNeg v4) (fun s49 => F_X12_sort_176 k43 v1 v2 s49))
set_option maxHeartbeats 4000000 in
set_option maxRecDepth 100000 in
theorem t_X12_sort_111 {l : Launch} {G : ae_G} (d : Nat) (k43 : Int32 → Int32 → ae_S → Option (Int32 × ae_S)) {rr : Int32} {ss : ae_S} (hk43 : ∀ (v1 : Int32) (v2 : Int32) (s0 : ae_S), k43 v1 v2 s0 = some (rr, ss) → ae_T l G (d + 3) mX12_sort (ae_Po (some (ae_i rr)) ss) 43 [(0, ae_r (some (30, 0))), (1, ae_i v1), (2, ae_i v2)] [] s0) (v1 : Int32) (v2 : Int32) (v3 : Int32) (v4 : UInt64) (s0 : ae_S) (hF : F_X12_sort_111 k43 v1 v2 v3 v4 s0 = some (rr, ss)) : ae_T l G (d + 3) mX12_sort (ae_Po (some (ae_i rr)) ss) 111 [(0, ae_r (some (30, 0))), (1, ae_i v1), (2, ae_i v2), (3, ae_i v3), (4, ae_d v4)] [] s0 := by
  unfold F_X12_sort_111 at hF
  refine ae_aload_n 0 dX12_sort_111 rfl ?_
  refine ae_getA (q := (30, 0)) (some (56, 0)) dX12_sort_112 fl_RX12_94 rfl rfl rfl ?_
  refine ae_iload_n 3 dX12_sort_115 rfl ?_
  refine ae_dload 4 dX12_sort_116 rfl ?_
  obtain ⟨hg47, hF48⟩ := ae_gdI hF
  obtain ⟨s49, hs49, hF50⟩ := ae_ltI hF48
  refine ae_dast (q := (56, 0)) dX12_sort_118 rfl rfl (ae_ibI hg47) (ae_nmS hs49 ?_)
  refine ae_goto 176 dX12_sort_119 rfl ?_
  refine ae_pick (lv' := [(0, ae_r (some (30, 0))), (1, ae_i v1), (2, ae_i v2)]) [0, 1, 2] rfl ?_
  exact t_X12_sort_176 d k43 hk43 v1 v2 s49 hF50
def F_X12_sort_71 (k43 : Int32 → Int32 → ae_S → Option (Int32 × ae_S)) : Nat → Int32 → Int32 → Int32 → UInt64 → ae_S → Option (Int32 × ae_S)
  | 0, _, _, _, _, _ => none
  | n + 1, v1, v2, v3, v4, s0 => if v3 ≤ 0 then (F_X12_sort_111 k43 v1 v2 v3 v4 s0) else (ae_gd (ae_ib (v3 - (1 : Int32)) 64) (ae_bd (F_Jxe99ae_compare_56a58 (s0.2.2.1 56 0 (v3 - (1 : Int32)).toNatClampNeg) v4 s0) (fun (r55 : Int32) s56 => if r55 ≤ 0 then (F_X12_sort_111 k43 v1 v2 v3 v4 s56) else (ae_gd (ae_ib (v3 - (1 : Int32)) 64) (ae_gd (ae_ib v3 64) (ae_lt (ae_wD s56 56 0 v3.toNatClampNeg (s56.2.2.1 56 0 (v3 - (1 : Int32)).toNatClampNeg)) (fun s65 => ae_lt (v3 + (-1 : Int32)) (fun x67 => F_X12_sort_71 k43 n v1 v2 x67 v4 s65))))))))
set_option maxHeartbeats 4000000 in
set_option maxRecDepth 100000 in
theorem t_X12_sort_71 {l : Launch} {G : ae_G} (d : Nat) (k43 : Int32 → Int32 → ae_S → Option (Int32 × ae_S)) {rr : Int32} {ss : ae_S} (hk43 : ∀ (v1 : Int32) (v2 : Int32) (s0 : ae_S), k43 v1 v2 s0 = some (rr, ss) → ae_T l G (d + 3) mX12_sort (ae_Po (some (ae_i rr)) ss) 43 [(0, ae_r (some (30, 0))), (1, ae_i v1), (2, ae_i v2)] [] s0) : ∀ (n : Nat) (v1 : Int32) (v2 : Int32) (v3 : Int32) (v4 : UInt64) (s0 : ae_S), F_X12_sort_71 k43 n v1 v2 v3 v4 s0 = some (rr, ss) → ae_T l G (d + 3) mX12_sort (ae_Po (some (ae_i rr)) ss) 71 [(0, ae_r (some (30, 0))), (1, ae_i v1), (2, ae_i v2), (3, ae_i v3), (4, ae_d v4)] [] s0 := by
  intro n
  induction n with
  | zero =>
    intro v1 v2 v3 v4 s0 hF
    exact absurd (show (none : Option (Int32 × ae_S)) = some (rr, ss) from hF) (by simp)
  | succ n ih =>
    intro v1 v2 v3 v4 s0 hF
    unfold F_X12_sort_71 at hF
    refine ae_iload_n 3 dX12_sort_71 rfl ?_
    refine ae_if_le 111 dX12_sort_72 rfl (fun hb51 => ?_) (fun hb51 => ?_)
    · have hF52 := ae_ifT hb51 hF
      refine ae_pick (lv' := [(0, ae_r (some (30, 0))), (1, ae_i v1), (2, ae_i v2), (3, ae_i v3), (4, ae_d v4)]) [0, 1, 2, 3, 4] rfl ?_
      exact t_X12_sort_111 d k43 hk43 v1 v2 v3 v4 s0 hF52
    · have hF52 := ae_ifF hb51 hF
      refine ae_aload_n 0 dX12_sort_75 rfl ?_
      refine ae_getA (q := (30, 0)) (some (56, 0)) dX12_sort_76 fl_RX12_94 rfl rfl rfl ?_
      refine ae_iload_n 3 dX12_sort_79 rfl ?_
      refine ae_iconst (1 : Int32) dX12_sort_80 (by decide) ?_
      refine ae_isub dX12_sort_81 ?_
      obtain ⟨hg53, hF54⟩ := ae_gdI hF52
      refine ae_dald (q := (56, 0)) dX12_sort_82 rfl rfl (ae_ibI hg53) ?_
      refine ae_dload 4 dX12_sort_83 rfl ?_
      obtain ⟨r55, s56, hc57, hF58⟩ := ae_bdI hF54
      refine ae_cS1 (As := [ae_d (s0.2.2.1 56 0 (v3 - (1 : Int32)).toNatClampNeg), ae_d v4]) dX12_sort_85 ww_1877 vy_Jxe99ae_compare_56a58 rfl rfl (Nat.le_of_ble_eq_true rfl) (c_Jxe99ae_compare_56a58 d hc57) ?_
      refine ae_if_le 111 dX12_sort_88 rfl (fun hb59 => ?_) (fun hb59 => ?_)
      · have hF60 := ae_ifT hb59 hF58
        refine ae_pick (lv' := [(0, ae_r (some (30, 0))), (1, ae_i v1), (2, ae_i v2), (3, ae_i v3), (4, ae_d v4)]) [0, 1, 2, 3, 4] rfl ?_
        exact t_X12_sort_111 d k43 hk43 v1 v2 v3 v4 s56 hF60
      · have hF60 := ae_ifF hb59 hF58
        refine ae_aload_n 0 dX12_sort_91 rfl ?_
        refine ae_getA (q := (30, 0)) (some (56, 0)) dX12_sort_92 fl_RX12_94 rfl rfl rfl ?_
        refine ae_iload_n 3 dX12_sort_95 rfl ?_
        refine ae_aload_n 0 dX12_sort_96 rfl ?_
        refine ae_getA (q := (30, 0)) (some (56, 0)) dX12_sort_97 fl_RX12_94 rfl rfl rfl ?_
        refine ae_iload_n 3 dX12_sort_100 rfl ?_
        refine ae_iconst (1 : Int32) dX12_sort_101 (by decide) ?_
        refine ae_isub dX12_sort_102 ?_
        obtain ⟨hg61, hF62⟩ := ae_gdI hF60
        refine ae_dald (q := (56, 0)) dX12_sort_103 rfl rfl (ae_ibI hg61) ?_
        obtain ⟨hg63, hF64⟩ := ae_gdI hF62
        obtain ⟨s65, hs65, hF66⟩ := ae_ltI hF64
        refine ae_dast (q := (56, 0)) dX12_sort_104 rfl rfl (ae_ibI hg63) (ae_nmS hs65 ?_)
        obtain ⟨x67, hx67, hF68⟩ := ae_ltI hF66
        refine ae_iinc (lv' := [(3, ae_i x67), (0, ae_r (some (30, 0))), (1, ae_i v1), (2, ae_i v2), (4, ae_d v4)]) 3 (-1 : Int32) dX12_sort_105 rfl (by decide) (by decide) (by rw [hx67]; rfl) ?_
        refine ae_goto 71 dX12_sort_108 rfl ?_
        refine ae_pick (lv' := [(0, ae_r (some (30, 0))), (1, ae_i v1), (2, ae_i v2), (3, ae_i x67), (4, ae_d v4)]) [1, 2, 3, 0, 4] rfl ?_
        exact ih v1 v2 x67 v4 s65 hF68
def F_X12_sort_43 : Nat → Int32 → Int32 → ae_S → Option (Int32 × ae_S)
  | 0, _, _, _ => none
  | n + 1, v1, v2, s0 => ae_gd (ae_ib v1 32) (if (s0.1 39 0 v1.toNatClampNeg) ≤ v2 then (F_X12_sort_184 ae_fu v1 (0 : Int32) s0) else (ae_bd (F_X12_isFloating v1 s0) (fun (r73 : Int32) s74 => if r73 = 0 then (ae_bd (F_X12_wholeOf v1 v2 s74) (fun (r79 : Int64) s80 => F_X12_sort_130 (F_X12_sort_43 n) ae_fu v1 v2 v2 r79 s80)) else (ae_bd (F_X12_floatOf v1 v2 s74) (fun (r83 : UInt64) s84 => F_X12_sort_71 (F_X12_sort_43 n) ae_fu v1 v2 v2 r83 s84)))))
set_option maxHeartbeats 4000000 in
set_option maxRecDepth 100000 in
theorem t_X12_sort_43 {l : Launch} {G : ae_G} (d : Nat) {rr : Int32} {ss : ae_S} : ∀ (n : Nat) (v1 : Int32) (v2 : Int32) (s0 : ae_S), F_X12_sort_43 n v1 v2 s0 = some (rr, ss) → ae_T l G (d + 3) mX12_sort (ae_Po (some (ae_i rr)) ss) 43 [(0, ae_r (some (30, 0))), (1, ae_i v1), (2, ae_i v2)] [] s0 := by
  intro n
  induction n with
  | zero =>
    intro v1 v2 s0 hF
    exact absurd (show (none : Option (Int32 × ae_S)) = some (rr, ss) from hF) (by simp)
  | succ n ih =>
    intro v1 v2 s0 hF
    unfold F_X12_sort_43 at hF
    refine ae_iload_n 2 dX12_sort_43 rfl ?_
    refine ae_aload_n 0 dX12_sort_44 rfl ?_
    refine ae_getA (q := (30, 0)) (some (39, 0)) dX12_sort_45 fl_RX12_38 rfl rfl rfl ?_
    refine ae_iload_n 1 dX12_sort_48 rfl ?_
    obtain ⟨hg69, hF70⟩ := ae_gdI hF
    refine ae_iald (q := (39, 0)) dX12_sort_49 rfl rfl (ae_ibI hg69) ?_
    refine ae_icmp_ge 182 dX12_sort_50 rfl (fun hb71 => ?_) (fun hb71 => ?_)
    · have hF72 := ae_ifT hb71 hF70
      refine ae_iconst (0 : Int32) dX12_sort_182 (by decide) ?_
      refine ae_istore_n (lv' := [(2, ae_i (0 : Int32)), (0, ae_r (some (30, 0))), (1, ae_i v1)]) dX12_sort_183 (by decide) rfl ?_
      refine ae_pick (lv' := [(0, ae_r (some (30, 0))), (1, ae_i v1), (2, ae_i (0 : Int32))]) [1, 2, 0] rfl ?_
      exact t_X12_sort_184 d ae_fu v1 (0 : Int32) s0 hF72
    · have hF72 := ae_ifF hb71 hF70
      refine ae_iload_n 2 dX12_sort_53 rfl ?_
      refine ae_istore_n (lv' := [(3, ae_i v2), (0, ae_r (some (30, 0))), (1, ae_i v1), (2, ae_i v2)]) dX12_sort_54 (by decide) rfl ?_
      refine ae_aload_n 1 dX12_sort_55 rfl ?_
      refine ae_iload_n 2 dX12_sort_56 rfl ?_
      obtain ⟨r73, s74, hc75, hF76⟩ := ae_bdI hF72
      refine ae_cV1 (q := (30, 0)) (As := [ae_i v1]) dX12_sort_57 ww_1644 vy_X12_isFloating rfl rfl rfl rfl rfl (Nat.le_of_ble_eq_true rfl) (c_X12_isFloating (d + 2) hc75) ?_
      refine ae_if_eq 122 dX12_sort_60 rfl (fun hb77 => ?_) (fun hb77 => ?_)
      · have hF78 := ae_ifT hb77 hF76
        refine ae_aload_n 1 dX12_sort_122 rfl ?_
        refine ae_iload_n 2 dX12_sort_123 rfl ?_
        refine ae_iload_n 3 dX12_sort_124 rfl ?_
        obtain ⟨r79, s80, hc81, hF82⟩ := ae_bdI hF78
        refine ae_cV1 (q := (30, 0)) (As := [ae_i v1, ae_i v2]) dX12_sort_125 ww_1648 vy_X12_wholeOf rfl rfl rfl rfl rfl (Nat.le_of_ble_eq_true rfl) (c_X12_wholeOf d hc81) ?_
        refine ae_lstore (lv' := [(4, ae_l r79), (3, ae_i v2), (0, ae_r (some (30, 0))), (1, ae_i v1), (2, ae_i v2)]) dX12_sort_128 (by decide) rfl ?_
        refine ae_pick (lv' := [(0, ae_r (some (30, 0))), (1, ae_i v1), (2, ae_i v2), (3, ae_i v2), (4, ae_l r79)]) [2, 3, 4, 1, 0] rfl ?_
        exact t_X12_sort_130 d (F_X12_sort_43 n) ih ae_fu v1 v2 v2 r79 s80 hF82
      · have hF78 := ae_ifF hb77 hF76
        refine ae_aload_n 1 dX12_sort_63 rfl ?_
        refine ae_iload_n 2 dX12_sort_64 rfl ?_
        refine ae_iload_n 3 dX12_sort_65 rfl ?_
        obtain ⟨r83, s84, hc85, hF86⟩ := ae_bdI hF78
        refine ae_cV1 (q := (30, 0)) (As := [ae_i v1, ae_i v2]) dX12_sort_66 ww_1656 vy_X12_floatOf rfl rfl rfl rfl rfl (Nat.le_of_ble_eq_true rfl) (c_X12_floatOf d hc85) ?_
        refine ae_dstore (lv' := [(4, ae_d r83), (3, ae_i v2), (0, ae_r (some (30, 0))), (1, ae_i v1), (2, ae_i v2)]) dX12_sort_69 (by decide) rfl ?_
        refine ae_pick (lv' := [(0, ae_r (some (30, 0))), (1, ae_i v1), (2, ae_i v2), (3, ae_i v2), (4, ae_d r83)]) [2, 3, 4, 1, 0] rfl ?_
        exact t_X12_sort_71 d (F_X12_sort_43 n) ih ae_fu v1 v2 v2 r83 s84 hF86
def F_X12_sort (v1 : Int32) (s0 : ae_S) : Option (Int32 × ae_S) := ae_bd (F_X12_isView v1 s0) (fun (r87 : Int32) s88 => if r87 = 0 then (F_X12_sort_35 s88) else (ae_gd (ae_ib v1 32) (if (s88.1 41 0 v1.toNatClampNeg) = 0 then (ae_gd (ae_ib v1 32) (ae_gd (ae_ib v1 32) (ae_bd (F_X12_bytesOf (s88.1 36 0 v1.toNatClampNeg) s88) (fun (r101 : Int32) s102 => if r101 ≤ (s88.1 40 0 v1.toNatClampNeg) then (ae_bd (F_X12_begins s102) (fun (r107 : Unit) s108 => F_X12_sort_43 ae_fu v1 (0 : Int32) s108)) else (F_X12_sort_35 s102))))) else (F_X12_sort_35 s88))))
set_option maxHeartbeats 4000000 in
set_option maxRecDepth 100000 in
theorem c_X12_sort {l : Launch} {G : ae_G} (d : Nat) {v1 : Int32} {s0 ss : ae_S} {rr : Int32} (hF : F_X12_sort v1 s0 = some (rr, ss)) : ae_Met l G (d + 3) yX12_sort mX12_sort [ae_r (some (30, 0)), ae_i v1] s0 (ae_Po (some (ae_i rr)) ss) := by
  refine ae_enter (by decide) rfl (Nat.le_of_ble_eq_true rfl) ?_
  show ae_T l G (d + 3) mX12_sort (ae_Po (some (ae_i rr)) ss) 0 [(0, ae_r (some (30, 0))), (1, ae_i v1)] [] s0
  unfold F_X12_sort at hF
  refine ae_aload_n 0 dX12_sort_0 rfl ?_
  refine ae_iload_n 1 dX12_sort_1 rfl ?_
  obtain ⟨r87, s88, hc89, hF90⟩ := ae_bdI hF
  refine ae_cV1 (q := (30, 0)) (As := [ae_i v1]) dX12_sort_2 ww_1635 vy_X12_isView rfl rfl rfl rfl rfl (Nat.le_of_ble_eq_true rfl) (c_X12_isView (d + 1) hc89) ?_
  refine ae_if_eq 35 dX12_sort_5 rfl (fun hb91 => ?_) (fun hb91 => ?_)
  · have hF92 := ae_ifT hb91 hF90
    refine ae_pick (lv' := []) [] rfl ?_
    exact t_X12_sort_35 d s88 hF92
  · have hF92 := ae_ifF hb91 hF90
    refine ae_aload_n 0 dX12_sort_8 rfl ?_
    refine ae_getA (q := (30, 0)) (some (41, 0)) dX12_sort_9 fl_RX12_44 rfl rfl rfl ?_
    refine ae_iload_n 1 dX12_sort_12 rfl ?_
    obtain ⟨hg93, hF94⟩ := ae_gdI hF92
    refine ae_iald (q := (41, 0)) dX12_sort_13 rfl rfl (ae_ibI hg93) ?_
    refine ae_if_ne 35 dX12_sort_14 rfl (fun hb95 => ?_) (fun hb95 => ?_)
    · have hF96 := ae_ifF hb95 hF94
      refine ae_pick (lv' := []) [] rfl ?_
      exact t_X12_sort_35 d s88 hF96
    · have hF96 := ae_ifT hb95 hF94
      refine ae_aload_n 0 dX12_sort_17 rfl ?_
      refine ae_getA (q := (30, 0)) (some (40, 0)) dX12_sort_18 fl_RX12_41 rfl rfl rfl ?_
      refine ae_iload_n 1 dX12_sort_21 rfl ?_
      obtain ⟨hg97, hF98⟩ := ae_gdI hF96
      refine ae_iald (q := (40, 0)) dX12_sort_22 rfl rfl (ae_ibI hg97) ?_
      refine ae_aload_n 0 dX12_sort_23 rfl ?_
      refine ae_getA (q := (30, 0)) (some (36, 0)) dX12_sort_24 fl_RX12_29 rfl rfl rfl ?_
      refine ae_iload_n 1 dX12_sort_27 rfl ?_
      obtain ⟨hg99, hF100⟩ := ae_gdI hF98
      refine ae_iald (q := (36, 0)) dX12_sort_28 rfl rfl (ae_ibI hg99) ?_
      obtain ⟨r101, s102, hc103, hF104⟩ := ae_bdI hF100
      refine ae_cS1 (As := [ae_i (s88.1 36 0 v1.toNatClampNeg)]) dX12_sort_29 ww_1590 vy_X12_bytesOf rfl rfl (Nat.le_of_ble_eq_true rfl) (c_X12_bytesOf (d + 2) hc103) ?_
      refine ae_icmp_ge 37 dX12_sort_32 rfl (fun hb105 => ?_) (fun hb105 => ?_)
      · have hF106 := ae_ifT hb105 hF104
        refine ae_aload_n 0 dX12_sort_37 rfl ?_
        obtain ⟨r107, s108, hc109, hF110⟩ := ae_bdI hF106
        refine ae_cV0 (q := (30, 0)) (As := []) dX12_sort_38 ww_1468 vy_X12_begins rfl rfl rfl rfl rfl (Nat.le_of_ble_eq_true rfl) (c_X12_begins (d + 2) hc109) ?_
        refine ae_iconst (0 : Int32) dX12_sort_41 (by decide) ?_
        refine ae_istore_n (lv' := [(2, ae_i (0 : Int32)), (0, ae_r (some (30, 0))), (1, ae_i v1)]) dX12_sort_42 (by decide) rfl ?_
        refine ae_pick (lv' := [(0, ae_r (some (30, 0))), (1, ae_i v1), (2, ae_i (0 : Int32))]) [1, 2, 0] rfl ?_
        exact t_X12_sort_43 d ae_fu v1 (0 : Int32) s108 hF110
      · have hF106 := ae_ifF hb105 hF104
        refine ae_pick (lv' := []) [] rfl ?_
        exact t_X12_sort_35 d s102 hF106
abbrev mX12_fill : ae_M := (RX12, cX12_fill, 5, some .int)
theorem vy_X12_fill : ae_VY yX12_fill mX12_fill 2 := ⟨ww_1882, ww_1883, ww_13, ww_1884, ⟨by decide, by decide, by decide +kernel⟩, by decide⟩
theorem dX12_fill_0 : decode cX12_fill 0 = .ok (.aload_n 0, 1) := by decide +kernel
theorem dX12_fill_1 : decode cX12_fill 1 = .ok (.iload_n 1, 1) := by decide +kernel
theorem dX12_fill_2 : decode cX12_fill 2 = .ok (.invokevirtual 481, 3) := by decide +kernel
theorem dX12_fill_5 : decode cX12_fill 5 = .ok (.ifCond .ne 5, 3) := by decide +kernel
theorem dX12_fill_8 : decode cX12_fill 8 = .ok (.iconst (-1), 1) := by decide +kernel
theorem dX12_fill_9 : decode cX12_fill 9 = .ok (.ireturn, 1) := by decide +kernel
theorem dX12_fill_10 : decode cX12_fill 10 = .ok (.aload_n 0, 1) := by decide +kernel
theorem dX12_fill_11 : decode cX12_fill 11 = .ok (.invokevirtual 115, 3) := by decide +kernel
theorem dX12_fill_14 : decode cX12_fill 14 = .ok (.iconst 0, 1) := by decide +kernel
theorem dX12_fill_15 : decode cX12_fill 15 = .ok (.istore 4, 2) := by decide +kernel
theorem dX12_fill_17 : decode cX12_fill 17 = .ok (.iload 4, 2) := by decide +kernel
theorem dX12_fill_19 : decode cX12_fill 19 = .ok (.aload_n 0, 1) := by decide +kernel
theorem dX12_fill_20 : decode cX12_fill 20 = .ok (.getfield 38, 3) := by decide +kernel
theorem dX12_fill_23 : decode cX12_fill 23 = .ok (.iload_n 1, 1) := by decide +kernel
theorem dX12_fill_24 : decode cX12_fill 24 = .ok (.iaload, 1) := by decide +kernel
theorem dX12_fill_25 : decode cX12_fill 25 = .ok (.if_icmp .ge 24, 3) := by decide +kernel
theorem dX12_fill_28 : decode cX12_fill 28 = .ok (.aload_n 0, 1) := by decide +kernel
theorem dX12_fill_29 : decode cX12_fill 29 = .ok (.iload_n 1, 1) := by decide +kernel
theorem dX12_fill_30 : decode cX12_fill 30 = .ok (.iload 4, 2) := by decide +kernel
theorem dX12_fill_32 : decode cX12_fill 32 = .ok (.aload_n 0, 1) := by decide +kernel
theorem dX12_fill_33 : decode cX12_fill 33 = .ok (.iload_n 1, 1) := by decide +kernel
theorem dX12_fill_34 : decode cX12_fill 34 = .ok (.iconst 0, 1) := by decide +kernel
theorem dX12_fill_35 : decode cX12_fill 35 = .ok (.lload_n 2, 1) := by decide +kernel
theorem dX12_fill_36 : decode cX12_fill 36 = .ok (.dconst 0, 1) := by decide +kernel
theorem dX12_fill_37 : decode cX12_fill 37 = .ok (.invokevirtual 356, 3) := by decide +kernel
theorem dX12_fill_40 : decode cX12_fill 40 = .ok (.invokevirtual 360, 3) := by decide +kernel
theorem dX12_fill_43 : decode cX12_fill 43 = .ok (.iinc 4 1, 3) := by decide +kernel
theorem dX12_fill_46 : decode cX12_fill 46 = .ok (.goto (-29), 3) := by decide +kernel
theorem dX12_fill_49 : decode cX12_fill 49 = .ok (.aload_n 0, 1) := by decide +kernel
theorem dX12_fill_50 : decode cX12_fill 50 = .ok (.iconst 1, 1) := by decide +kernel
theorem dX12_fill_51 : decode cX12_fill 51 = .ok (.invokevirtual 118, 3) := by decide +kernel
theorem dX12_fill_54 : decode cX12_fill 54 = .ok (.aload_n 0, 1) := by decide +kernel
theorem dX12_fill_55 : decode cX12_fill 55 = .ok (.getfield 38, 3) := by decide +kernel
theorem dX12_fill_58 : decode cX12_fill 58 = .ok (.iload_n 1, 1) := by decide +kernel
theorem dX12_fill_59 : decode cX12_fill 59 = .ok (.iaload, 1) := by decide +kernel
theorem dX12_fill_60 : decode cX12_fill 60 = .ok (.ireturn, 1) := by decide +kernel
def F_X12_fill_17 : Nat → Int32 → Int64 → Int32 → ae_S → Option (Int32 × ae_S)
  | 0, _, _, _, _ => none
  | n + 1, v1, v2, v4, s0 => ae_gd (ae_ib v1 32) (if (s0.1 39 0 v1.toNatClampNeg) ≤ v4 then (ae_bd (F_X12_ends (1 : Int32) s0) (fun (r5 : Unit) s6 => ae_gd (ae_ib v1 32) (some (s6.1 39 0 v1.toNatClampNeg, s6)))) else (ae_bd (F_X12_bitsBy v1 (0 : Int32) v2 FP.dconst0 s0) (fun (r11 : Int64) s12 => ae_bd (F_X12_writes v1 v4 r11 s12) (fun (r15 : Unit) s16 => ae_lt (v4 + (1 : Int32)) (fun x19 => F_X12_fill_17 n v1 v2 x19 s16)))))
set_option maxHeartbeats 4000000 in
set_option maxRecDepth 100000 in
theorem t_X12_fill_17 {l : Launch} {G : ae_G} (d : Nat) {rr : Int32} {ss : ae_S} : ∀ (n : Nat) (v1 : Int32) (v2 : Int64) (v4 : Int32) (s0 : ae_S), F_X12_fill_17 n v1 v2 v4 s0 = some (rr, ss) → ae_T l G (d + 3) mX12_fill (ae_Po (some (ae_i rr)) ss) 17 [(0, ae_r (some (30, 0))), (1, ae_i v1), (2, ae_l v2), (4, ae_i v4)] [] s0 := by
  intro n
  induction n with
  | zero =>
    intro v1 v2 v4 s0 hF
    exact absurd (show (none : Option (Int32 × ae_S)) = some (rr, ss) from hF) (by simp)
  | succ n ih =>
    intro v1 v2 v4 s0 hF
    unfold F_X12_fill_17 at hF
    refine ae_iload 3 dX12_fill_17 rfl ?_
    refine ae_aload_n 0 dX12_fill_19 rfl ?_
    refine ae_getA (q := (30, 0)) (some (39, 0)) dX12_fill_20 fl_RX12_38 rfl rfl rfl ?_
    refine ae_iload_n 1 dX12_fill_23 rfl ?_
    obtain ⟨hg1, hF2⟩ := ae_gdI hF
    refine ae_iald (q := (39, 0)) dX12_fill_24 rfl rfl (ae_ibI hg1) ?_
    refine ae_icmp_ge 49 dX12_fill_25 rfl (fun hb3 => ?_) (fun hb3 => ?_)
    · have hF4 := ae_ifT hb3 hF2
      refine ae_aload_n 0 dX12_fill_49 rfl ?_
      refine ae_iconst (1 : Int32) dX12_fill_50 (by decide) ?_
      obtain ⟨r5, s6, hc7, hF8⟩ := ae_bdI hF4
      refine ae_cV0 (q := (30, 0)) (As := [ae_i (1 : Int32)]) dX12_fill_51 ww_1472 vy_X12_ends rfl rfl rfl rfl rfl (Nat.le_of_ble_eq_true rfl) (c_X12_ends (d + 2) hc7) ?_
      refine ae_aload_n 0 dX12_fill_54 rfl ?_
      refine ae_getA (q := (30, 0)) (some (39, 0)) dX12_fill_55 fl_RX12_38 rfl rfl rfl ?_
      refine ae_iload_n 1 dX12_fill_58 rfl ?_
      obtain ⟨hg9, hF10⟩ := ae_gdI hF8
      refine ae_iald (q := (39, 0)) dX12_fill_59 rfl rfl (ae_ibI hg9) ?_
      obtain ⟨rfl, rfl⟩ := ae_retI hF10
      exact ae_iret dX12_fill_60 rfl rfl ⟨rfl, rfl⟩
    · have hF4 := ae_ifF hb3 hF2
      refine ae_aload_n 0 dX12_fill_28 rfl ?_
      refine ae_iload_n 1 dX12_fill_29 rfl ?_
      refine ae_iload 3 dX12_fill_30 rfl ?_
      refine ae_aload_n 0 dX12_fill_32 rfl ?_
      refine ae_iload_n 1 dX12_fill_33 rfl ?_
      refine ae_iconst (0 : Int32) dX12_fill_34 (by decide) ?_
      refine ae_lload_n 2 dX12_fill_35 rfl ?_
      refine ae_dconst0 dX12_fill_36 ?_
      obtain ⟨r11, s12, hc13, hF14⟩ := ae_bdI hF4
      refine ae_cV1 (q := (30, 0)) (As := [ae_i v1, ae_i (0 : Int32), ae_l v2, ae_d FP.dconst0]) dX12_fill_37 ww_1711 vy_X12_bitsBy rfl rfl rfl rfl rfl (Nat.le_of_ble_eq_true rfl) (c_X12_bitsBy d hc13) ?_
      obtain ⟨r15, s16, hc17, hF18⟩ := ae_bdI hF14
      refine ae_cV0 (q := (30, 0)) (As := [ae_i v1, ae_i v4, ae_l r11]) dX12_fill_40 ww_1715 vy_X12_writes rfl rfl rfl rfl rfl (Nat.le_of_ble_eq_true rfl) (c_X12_writes d hc17) ?_
      obtain ⟨x19, hx19, hF20⟩ := ae_ltI hF18
      refine ae_iinc (lv' := [(4, ae_i x19), (0, ae_r (some (30, 0))), (1, ae_i v1), (2, ae_l v2)]) 3 (1 : Int32) dX12_fill_43 rfl (by decide) (by decide) (by rw [hx19]; rfl) ?_
      refine ae_goto 17 dX12_fill_46 rfl ?_
      refine ae_pick (lv' := [(0, ae_r (some (30, 0))), (1, ae_i v1), (2, ae_l v2), (4, ae_i x19)]) [1, 2, 3, 0] rfl ?_
      exact ih v1 v2 x19 s16 hF20
def F_X12_fill (v1 : Int32) (v2 : Int64) (s0 : ae_S) : Option (Int32 × ae_S) := ae_bd (F_X12_canLay v1 s0) (fun (r21 : Int32) s22 => if r21 = 0 then (some ((-1 : Int32), s22)) else (ae_bd (F_X12_begins s22) (fun (r27 : Unit) s28 => F_X12_fill_17 ae_fu v1 v2 (0 : Int32) s28)))
set_option maxHeartbeats 4000000 in
set_option maxRecDepth 100000 in
theorem c_X12_fill {l : Launch} {G : ae_G} (d : Nat) {v1 : Int32} {v2 : Int64} {s0 ss : ae_S} {rr : Int32} (hF : F_X12_fill v1 v2 s0 = some (rr, ss)) : ae_Met l G (d + 3) yX12_fill mX12_fill [ae_r (some (30, 0)), ae_i v1, ae_l v2] s0 (ae_Po (some (ae_i rr)) ss) := by
  refine ae_enter (by decide) rfl (Nat.le_of_ble_eq_true rfl) ?_
  show ae_T l G (d + 3) mX12_fill (ae_Po (some (ae_i rr)) ss) 0 [(0, ae_r (some (30, 0))), (1, ae_i v1), (2, ae_l v2)] [] s0
  unfold F_X12_fill at hF
  refine ae_aload_n 0 dX12_fill_0 rfl ?_
  refine ae_iload_n 1 dX12_fill_1 rfl ?_
  obtain ⟨r21, s22, hc23, hF24⟩ := ae_bdI hF
  refine ae_cV1 (q := (30, 0)) (As := [ae_i v1]) dX12_fill_2 ww_1861 vy_X12_canLay rfl rfl rfl rfl rfl (Nat.le_of_ble_eq_true rfl) (c_X12_canLay d hc23) ?_
  refine ae_if_ne 10 dX12_fill_5 rfl (fun hb25 => ?_) (fun hb25 => ?_)
  · have hF26 := ae_ifF hb25 hF24
    refine ae_aload_n 0 dX12_fill_10 rfl ?_
    obtain ⟨r27, s28, hc29, hF30⟩ := ae_bdI hF26
    refine ae_cV0 (q := (30, 0)) (As := []) dX12_fill_11 ww_1468 vy_X12_begins rfl rfl rfl rfl rfl (Nat.le_of_ble_eq_true rfl) (c_X12_begins (d + 2) hc29) ?_
    refine ae_iconst (0 : Int32) dX12_fill_14 (by decide) ?_
    refine ae_istore (lv' := [(4, ae_i (0 : Int32)), (0, ae_r (some (30, 0))), (1, ae_i v1), (2, ae_l v2)]) dX12_fill_15 (by decide) rfl ?_
    refine ae_pick (lv' := [(0, ae_r (some (30, 0))), (1, ae_i v1), (2, ae_l v2), (4, ae_i (0 : Int32))]) [1, 2, 3, 0] rfl ?_
    exact t_X12_fill_17 d ae_fu v1 v2 (0 : Int32) s28 hF30
  · have hF26 := ae_ifT hb25 hF24
    refine ae_iconst (-1 : Int32) dX12_fill_8 (by decide) ?_
    obtain ⟨rfl, rfl⟩ := ae_retI hF26
    exact ae_iret dX12_fill_9 rfl rfl ⟨rfl, rfl⟩
abbrev mX12_saysByte : ae_M := (RX12, cX12_saysByte, 2, none)
theorem vy_X12_saysByte : ae_VY yX12_saysByte mX12_saysByte 1 := ⟨ww_1895, wq_114, ww_13, ww_1896, ⟨by decide, by decide, by decide +kernel⟩, by decide⟩
theorem dX12_saysByte_0 : decode cX12_saysByte 0 = .ok (.aload_n 0, 1) := by decide +kernel
theorem dX12_saysByte_1 : decode cX12_saysByte 1 = .ok (.getfield 97, 3) := by decide +kernel
theorem dX12_saysByte_4 : decode cX12_saysByte 4 = .ok (.aload_n 0, 1) := by decide +kernel
theorem dX12_saysByte_5 : decode cX12_saysByte 5 = .ok (.getfield 494, 3) := by decide +kernel
theorem dX12_saysByte_8 : decode cX12_saysByte 8 = .ok (.iload_n 1, 1) := by decide +kernel
theorem dX12_saysByte_9 : decode cX12_saysByte 9 = .ok (.iastore, 1) := by decide +kernel
theorem dX12_saysByte_10 : decode cX12_saysByte 10 = .ok (.aload_n 0, 1) := by decide +kernel
theorem dX12_saysByte_11 : decode cX12_saysByte 11 = .ok (.dup, 1) := by decide +kernel
theorem dX12_saysByte_12 : decode cX12_saysByte 12 = .ok (.getfield 494, 3) := by decide +kernel
theorem dX12_saysByte_15 : decode cX12_saysByte 15 = .ok (.iconst 1, 1) := by decide +kernel
theorem dX12_saysByte_16 : decode cX12_saysByte 16 = .ok (.iadd, 1) := by decide +kernel
theorem dX12_saysByte_17 : decode cX12_saysByte 17 = .ok (.putfield 494, 3) := by decide +kernel
theorem dX12_saysByte_20 : decode cX12_saysByte 20 = .ok (.return_, 1) := by decide +kernel
def F_X12_saysByte (v1 : Int32) (s0 : ae_S) : Option (Unit × ae_S) := ae_gd (ae_ib (s0.1 30 0 51) 600) (ae_lt (ae_wI s0 57 0 (s0.1 30 0 51).toNatClampNeg v1) (fun s3 => ae_lt (ae_wI s3 30 0 51 ((s3.1 30 0 51) + (1 : Int32))) (fun s5 => some ((), s5))))
set_option maxHeartbeats 4000000 in
set_option maxRecDepth 100000 in
theorem c_X12_saysByte {l : Launch} {G : ae_G} (d : Nat) {v1 : Int32} {s0 ss : ae_S} {rr : Unit} (hF : F_X12_saysByte v1 s0 = some (rr, ss)) : ae_Met l G d yX12_saysByte mX12_saysByte [ae_r (some (30, 0)), ae_i v1] s0 (ae_Po none ss) := by
  refine ae_enter (by decide) rfl (Nat.le_of_ble_eq_true rfl) ?_
  show ae_T l G d mX12_saysByte (ae_Po none ss) 0 [(0, ae_r (some (30, 0))), (1, ae_i v1)] [] s0
  unfold F_X12_saysByte at hF
  refine ae_aload_n 0 dX12_saysByte_0 rfl ?_
  refine ae_getA (q := (30, 0)) (some (57, 0)) dX12_saysByte_1 fl_RX12_97 rfl rfl rfl ?_
  refine ae_aload_n 0 dX12_saysByte_4 rfl ?_
  refine ae_getI (q := (30, 0)) dX12_saysByte_5 fl_RX12_494 rfl rfl ?_
  refine ae_iload_n 1 dX12_saysByte_8 rfl ?_
  obtain ⟨hg1, hF2⟩ := ae_gdI hF
  obtain ⟨s3, hs3, hF4⟩ := ae_ltI hF2
  refine ae_iast (q := (57, 0)) dX12_saysByte_9 rfl rfl (ae_ibI hg1) (ae_nmS hs3 ?_)
  refine ae_aload_n 0 dX12_saysByte_10 rfl ?_
  refine ae_dup dX12_saysByte_11 rfl ?_
  refine ae_getI (q := (30, 0)) dX12_saysByte_12 fl_RX12_494 rfl rfl ?_
  refine ae_iconst (1 : Int32) dX12_saysByte_15 (by decide) ?_
  refine ae_iadd dX12_saysByte_16 ?_
  obtain ⟨s5, hs5, hF6⟩ := ae_ltI hF4
  refine ae_putI (q := (30, 0)) dX12_saysByte_17 fl_RX12_494 rfl rfl (ae_nmS hs5 ?_)
  obtain ⟨rfl, rfl⟩ := ae_retI hF6
  exact ae_vret dX12_saysByte_20 rfl ⟨rfl, rfl⟩
abbrev mX12_says : ae_M := (RX12, cX12_says, 3, none)
theorem vy_X12_says : ae_VY yX12_says mX12_says 1 := ⟨ww_1906, wq_116, ww_13, ww_1907, ⟨by decide, by decide, by decide +kernel⟩, by decide⟩
theorem dX12_says_0 : decode cX12_says 0 = .ok (.iconst 0, 1) := by decide +kernel
theorem dX12_says_1 : decode cX12_says 1 = .ok (.istore_n 2, 1) := by decide +kernel
theorem dX12_says_2 : decode cX12_says 2 = .ok (.iload_n 2, 1) := by decide +kernel
theorem dX12_says_3 : decode cX12_says 3 = .ok (.aload_n 1, 1) := by decide +kernel
theorem dX12_says_4 : decode cX12_says 4 = .ok (.invokevirtual 175, 3) := by decide +kernel
theorem dX12_says_7 : decode cX12_says 7 = .ok (.if_icmp .ge 18, 3) := by decide +kernel
theorem dX12_says_10 : decode cX12_says 10 = .ok (.aload_n 0, 1) := by decide +kernel
theorem dX12_says_11 : decode cX12_says 11 = .ok (.aload_n 1, 1) := by decide +kernel
theorem dX12_says_12 : decode cX12_says 12 = .ok (.iload_n 2, 1) := by decide +kernel
theorem dX12_says_13 : decode cX12_says 13 = .ok (.invokevirtual 181, 3) := by decide +kernel
theorem dX12_says_16 : decode cX12_says 16 = .ok (.invokevirtual 491, 3) := by decide +kernel
theorem dX12_says_19 : decode cX12_says 19 = .ok (.iinc 2 1, 3) := by decide +kernel
theorem dX12_says_22 : decode cX12_says 22 = .ok (.goto (-20), 3) := by decide +kernel
theorem dX12_says_25 : decode cX12_says 25 = .ok (.return_, 1) := by decide +kernel
def F_X12_says_2 : Nat → Fin 32 → Int32 → ae_S → Option (Unit × ae_S)
  | 0, _, _, _ => none
  | n + 1, i1, v2, s0 => ae_gd (decide ((i1 : Fin 32).val < 28)) (if (Int32.ofNat (ae_sln i1)) ≤ v2 then (some ((), s0)) else (ae_gd (ae_ib v2 (ae_sln i1)) (ae_bd (F_X12_saysByte (ae_sch i1 v2.toNatClampNeg) s0) (fun (r7 : Unit) s8 => ae_lt (v2 + (1 : Int32)) (fun x11 => F_X12_says_2 n i1 x11 s8)))))
set_option maxHeartbeats 4000000 in
set_option maxRecDepth 100000 in
theorem t_X12_says_2 {l : Launch} {G : ae_G} (d : Nat) {rr : Unit} {ss : ae_S} : ∀ (n : Nat) (i1 : Fin 32) (v2 : Int32) (s0 : ae_S), F_X12_says_2 n i1 v2 s0 = some (rr, ss) → ae_T l G (d + 4) mX12_says (ae_Po none ss) 2 [(0, ae_r (some (30, 0))), (1, ae_r (some (62, i1))), (2, ae_i v2)] [] s0 := by
  intro n
  induction n with
  | zero =>
    intro i1 v2 s0 hF
    exact absurd (show (none : Option (Unit × ae_S)) = some (rr, ss) from hF) (by simp)
  | succ n ih =>
    intro i1 v2 s0 hF
    unfold F_X12_says_2 at hF
    refine ae_iload_n 2 dX12_says_2 rfl ?_
    refine ae_aload_n 1 dX12_says_3 rfl ?_
    obtain ⟨hg1, hF2⟩ := ae_gdI hF
    refine ae_strlen (i := i1) hg1 dX12_says_4 ww_1544 (Nat.le_of_ble_eq_true rfl) ?_
    refine ae_icmp_ge 25 dX12_says_7 rfl (fun hb3 => ?_) (fun hb3 => ?_)
    · have hF4 := ae_ifT hb3 hF2
      obtain ⟨rfl, rfl⟩ := ae_retI hF4
      exact ae_vret dX12_says_25 rfl ⟨rfl, rfl⟩
    · have hF4 := ae_ifF hb3 hF2
      refine ae_aload_n 0 dX12_says_10 rfl ?_
      refine ae_aload_n 1 dX12_says_11 rfl ?_
      refine ae_iload_n 2 dX12_says_12 rfl ?_
      obtain ⟨hg5, hF6⟩ := ae_gdI hF4
      refine ae_strchar (i := i1) hg1 (ae_ibI hg5) dX12_says_13 ww_1545 (Nat.le_of_ble_eq_true rfl) ?_
      obtain ⟨r7, s8, hc9, hF10⟩ := ae_bdI hF6
      refine ae_cV0 (q := (30, 0)) (As := [ae_i (ae_sch i1 v2.toNatClampNeg)]) dX12_says_16 ww_1893 vy_X12_saysByte rfl rfl rfl rfl rfl (Nat.le_of_ble_eq_true rfl) (c_X12_saysByte (d + 3) hc9) ?_
      obtain ⟨x11, hx11, hF12⟩ := ae_ltI hF10
      refine ae_iinc (lv' := [(2, ae_i x11), (0, ae_r (some (30, 0))), (1, ae_r (some (62, i1)))]) 2 (1 : Int32) dX12_says_19 rfl (by decide) (by decide) (by rw [hx11]; rfl) ?_
      refine ae_goto 2 dX12_says_22 rfl ?_
      refine ae_pick (lv' := [(0, ae_r (some (30, 0))), (1, ae_r (some (62, i1))), (2, ae_i x11)]) [1, 2, 0] rfl ?_
      exact ih i1 x11 s8 hF12
def F_X12_says (i1 : Fin 32) (s0 : ae_S) : Option (Unit × ae_S) := F_X12_says_2 ae_fu i1 (0 : Int32) s0
set_option maxHeartbeats 4000000 in
set_option maxRecDepth 100000 in
theorem c_X12_says {l : Launch} {G : ae_G} (d : Nat) {i1 : Fin 32} {s0 ss : ae_S} {rr : Unit} (hF : F_X12_says i1 s0 = some (rr, ss)) : ae_Met l G (d + 4) yX12_says mX12_says [ae_r (some (30, 0)), ae_r (some (62, i1))] s0 (ae_Po none ss) := by
  refine ae_enter (by decide) rfl (Nat.le_of_ble_eq_true rfl) ?_
  show ae_T l G (d + 4) mX12_says (ae_Po none ss) 0 [(0, ae_r (some (30, 0))), (1, ae_r (some (62, i1)))] [] s0
  unfold F_X12_says at hF
  refine ae_iconst (0 : Int32) dX12_says_0 (by decide) ?_
  refine ae_istore_n (lv' := [(2, ae_i (0 : Int32)), (0, ae_r (some (30, 0))), (1, ae_r (some (62, i1)))]) dX12_says_1 (by decide) rfl ?_
  refine ae_pick (lv' := [(0, ae_r (some (30, 0))), (1, ae_r (some (62, i1))), (2, ae_i (0 : Int32))]) [1, 2, 0] rfl ?_
  exact t_X12_says_2 d ae_fu i1 (0 : Int32) s0 hF
abbrev mX12_saysNumber : ae_M := (RX12, cX12_saysNumber, 2, none)
theorem vy_X12_saysNumber : ae_VY yX12_saysNumber mX12_saysNumber 1 := ⟨ww_1910, wq_117, ww_13, ww_1911, ⟨by decide, by decide, by decide +kernel⟩, by decide⟩
theorem dX12_saysNumber_0 : decode cX12_saysNumber 0 = .ok (.iload_n 1, 1) := by decide +kernel
theorem dX12_saysNumber_1 : decode cX12_saysNumber 1 = .ok (.bipush 99, 2) := by decide +kernel
theorem dX12_saysNumber_3 : decode cX12_saysNumber 3 = .ok (.if_icmp .le 14, 3) := by decide +kernel
theorem dX12_saysNumber_6 : decode cX12_saysNumber 6 = .ok (.aload_n 0, 1) := by decide +kernel
theorem dX12_saysNumber_7 : decode cX12_saysNumber 7 = .ok (.bipush 48, 2) := by decide +kernel
theorem dX12_saysNumber_9 : decode cX12_saysNumber 9 = .ok (.iload_n 1, 1) := by decide +kernel
theorem dX12_saysNumber_10 : decode cX12_saysNumber 10 = .ok (.bipush 100, 2) := by decide +kernel
theorem dX12_saysNumber_12 : decode cX12_saysNumber 12 = .ok (.idiv, 1) := by decide +kernel
theorem dX12_saysNumber_13 : decode cX12_saysNumber 13 = .ok (.iadd, 1) := by decide +kernel
theorem dX12_saysNumber_14 : decode cX12_saysNumber 14 = .ok (.invokevirtual 491, 3) := by decide +kernel
theorem dX12_saysNumber_17 : decode cX12_saysNumber 17 = .ok (.iload_n 1, 1) := by decide +kernel
theorem dX12_saysNumber_18 : decode cX12_saysNumber 18 = .ok (.bipush 9, 2) := by decide +kernel
theorem dX12_saysNumber_20 : decode cX12_saysNumber 20 = .ok (.if_icmp .le 17, 3) := by decide +kernel
theorem dX12_saysNumber_23 : decode cX12_saysNumber 23 = .ok (.aload_n 0, 1) := by decide +kernel
theorem dX12_saysNumber_24 : decode cX12_saysNumber 24 = .ok (.bipush 48, 2) := by decide +kernel
theorem dX12_saysNumber_26 : decode cX12_saysNumber 26 = .ok (.iload_n 1, 1) := by decide +kernel
theorem dX12_saysNumber_27 : decode cX12_saysNumber 27 = .ok (.bipush 10, 2) := by decide +kernel
theorem dX12_saysNumber_29 : decode cX12_saysNumber 29 = .ok (.idiv, 1) := by decide +kernel
theorem dX12_saysNumber_30 : decode cX12_saysNumber 30 = .ok (.bipush 10, 2) := by decide +kernel
theorem dX12_saysNumber_32 : decode cX12_saysNumber 32 = .ok (.irem, 1) := by decide +kernel
theorem dX12_saysNumber_33 : decode cX12_saysNumber 33 = .ok (.iadd, 1) := by decide +kernel
theorem dX12_saysNumber_34 : decode cX12_saysNumber 34 = .ok (.invokevirtual 491, 3) := by decide +kernel
theorem dX12_saysNumber_37 : decode cX12_saysNumber 37 = .ok (.aload_n 0, 1) := by decide +kernel
theorem dX12_saysNumber_38 : decode cX12_saysNumber 38 = .ok (.bipush 48, 2) := by decide +kernel
theorem dX12_saysNumber_40 : decode cX12_saysNumber 40 = .ok (.iload_n 1, 1) := by decide +kernel
theorem dX12_saysNumber_41 : decode cX12_saysNumber 41 = .ok (.bipush 10, 2) := by decide +kernel
theorem dX12_saysNumber_43 : decode cX12_saysNumber 43 = .ok (.irem, 1) := by decide +kernel
theorem dX12_saysNumber_44 : decode cX12_saysNumber 44 = .ok (.iadd, 1) := by decide +kernel
theorem dX12_saysNumber_45 : decode cX12_saysNumber 45 = .ok (.invokevirtual 491, 3) := by decide +kernel
theorem dX12_saysNumber_48 : decode cX12_saysNumber 48 = .ok (.return_, 1) := by decide +kernel
def F_X12_saysNumber_37 (v1 : Int32) (s0 : ae_S) : Option (Unit × ae_S) := ae_bd (F_X12_saysByte ((48 : Int32) + (v1 - v1 / (10 : Int32) * (10 : Int32))) s0) (fun (r1 : Unit) s2 => some ((), s2))
set_option maxHeartbeats 4000000 in
set_option maxRecDepth 100000 in
theorem t_X12_saysNumber_37 {l : Launch} {G : ae_G} (d : Nat) {rr : Unit} {ss : ae_S} (v1 : Int32) (s0 : ae_S) (hF : F_X12_saysNumber_37 v1 s0 = some (rr, ss)) : ae_T l G (d + 1) mX12_saysNumber (ae_Po none ss) 37 [(0, ae_r (some (30, 0))), (1, ae_i v1)] [] s0 := by
  unfold F_X12_saysNumber_37 at hF
  refine ae_aload_n 0 dX12_saysNumber_37 rfl ?_
  refine ae_bipush (48 : Int32) dX12_saysNumber_38 (by decide) ?_
  refine ae_iload_n 1 dX12_saysNumber_40 rfl ?_
  refine ae_bipush (10 : Int32) dX12_saysNumber_41 (by decide) ?_
  refine ae_irem dX12_saysNumber_43 (by decide) ?_
  refine ae_iadd dX12_saysNumber_44 ?_
  obtain ⟨r1, s2, hc3, hF4⟩ := ae_bdI hF
  refine ae_cV0 (q := (30, 0)) (As := [ae_i ((48 : Int32) + (v1 - v1 / (10 : Int32) * (10 : Int32)))]) dX12_saysNumber_45 ww_1893 vy_X12_saysByte rfl rfl rfl rfl rfl (Nat.le_of_ble_eq_true rfl) (c_X12_saysByte d hc3) ?_
  obtain ⟨rfl, rfl⟩ := ae_retI hF4
  exact ae_vret dX12_saysNumber_48 rfl ⟨rfl, rfl⟩
def F_X12_saysNumber_17 (v1 : Int32) (s0 : ae_S) : Option (Unit × ae_S) := if v1 ≤ (9 : Int32) then (F_X12_saysNumber_37 v1 s0) else (ae_bd (F_X12_saysByte ((48 : Int32) + ((v1 / (10 : Int32)) - (v1 / (10 : Int32)) / (10 : Int32) * (10 : Int32))) s0) (fun (r7 : Unit) s8 => F_X12_saysNumber_37 v1 s8))
set_option maxHeartbeats 4000000 in
set_option maxRecDepth 100000 in
theorem t_X12_saysNumber_17 {l : Launch} {G : ae_G} (d : Nat) {rr : Unit} {ss : ae_S} (v1 : Int32) (s0 : ae_S) (hF : F_X12_saysNumber_17 v1 s0 = some (rr, ss)) : ae_T l G (d + 1) mX12_saysNumber (ae_Po none ss) 17 [(0, ae_r (some (30, 0))), (1, ae_i v1)] [] s0 := by
  unfold F_X12_saysNumber_17 at hF
  refine ae_iload_n 1 dX12_saysNumber_17 rfl ?_
  refine ae_bipush (9 : Int32) dX12_saysNumber_18 (by decide) ?_
  refine ae_icmp_le 37 dX12_saysNumber_20 rfl (fun hb5 => ?_) (fun hb5 => ?_)
  · have hF6 := ae_ifT hb5 hF
    refine ae_pick (lv' := [(0, ae_r (some (30, 0))), (1, ae_i v1)]) [0, 1] rfl ?_
    exact t_X12_saysNumber_37 d v1 s0 hF6
  · have hF6 := ae_ifF hb5 hF
    refine ae_aload_n 0 dX12_saysNumber_23 rfl ?_
    refine ae_bipush (48 : Int32) dX12_saysNumber_24 (by decide) ?_
    refine ae_iload_n 1 dX12_saysNumber_26 rfl ?_
    refine ae_bipush (10 : Int32) dX12_saysNumber_27 (by decide) ?_
    refine ae_idiv dX12_saysNumber_29 (by decide) ?_
    refine ae_bipush (10 : Int32) dX12_saysNumber_30 (by decide) ?_
    refine ae_irem dX12_saysNumber_32 (by decide) ?_
    refine ae_iadd dX12_saysNumber_33 ?_
    obtain ⟨r7, s8, hc9, hF10⟩ := ae_bdI hF6
    refine ae_cV0 (q := (30, 0)) (As := [ae_i ((48 : Int32) + ((v1 / (10 : Int32)) - (v1 / (10 : Int32)) / (10 : Int32) * (10 : Int32)))]) dX12_saysNumber_34 ww_1893 vy_X12_saysByte rfl rfl rfl rfl rfl (Nat.le_of_ble_eq_true rfl) (c_X12_saysByte d hc9) ?_
    refine ae_pick (lv' := [(0, ae_r (some (30, 0))), (1, ae_i v1)]) [0, 1] rfl ?_
    exact t_X12_saysNumber_37 d v1 s8 hF10
def F_X12_saysNumber (v1 : Int32) (s0 : ae_S) : Option (Unit × ae_S) := if v1 ≤ (99 : Int32) then (F_X12_saysNumber_17 v1 s0) else (ae_bd (F_X12_saysByte ((48 : Int32) + (v1 / (100 : Int32))) s0) (fun (r13 : Unit) s14 => F_X12_saysNumber_17 v1 s14))
set_option maxHeartbeats 4000000 in
set_option maxRecDepth 100000 in
theorem c_X12_saysNumber {l : Launch} {G : ae_G} (d : Nat) {v1 : Int32} {s0 ss : ae_S} {rr : Unit} (hF : F_X12_saysNumber v1 s0 = some (rr, ss)) : ae_Met l G (d + 1) yX12_saysNumber mX12_saysNumber [ae_r (some (30, 0)), ae_i v1] s0 (ae_Po none ss) := by
  refine ae_enter (by decide) rfl (Nat.le_of_ble_eq_true rfl) ?_
  show ae_T l G (d + 1) mX12_saysNumber (ae_Po none ss) 0 [(0, ae_r (some (30, 0))), (1, ae_i v1)] [] s0
  unfold F_X12_saysNumber at hF
  refine ae_iload_n 1 dX12_saysNumber_0 rfl ?_
  refine ae_bipush (99 : Int32) dX12_saysNumber_1 (by decide) ?_
  refine ae_icmp_le 17 dX12_saysNumber_3 rfl (fun hb11 => ?_) (fun hb11 => ?_)
  · have hF12 := ae_ifT hb11 hF
    refine ae_pick (lv' := [(0, ae_r (some (30, 0))), (1, ae_i v1)]) [0, 1] rfl ?_
    exact t_X12_saysNumber_17 d v1 s0 hF12
  · have hF12 := ae_ifF hb11 hF
    refine ae_aload_n 0 dX12_saysNumber_6 rfl ?_
    refine ae_bipush (48 : Int32) dX12_saysNumber_7 (by decide) ?_
    refine ae_iload_n 1 dX12_saysNumber_9 rfl ?_
    refine ae_bipush (100 : Int32) dX12_saysNumber_10 (by decide) ?_
    refine ae_idiv dX12_saysNumber_12 (by decide) ?_
    refine ae_iadd dX12_saysNumber_13 ?_
    obtain ⟨r13, s14, hc15, hF16⟩ := ae_bdI hF12
    refine ae_cV0 (q := (30, 0)) (As := [ae_i ((48 : Int32) + (v1 / (100 : Int32)))]) dX12_saysNumber_14 ww_1893 vy_X12_saysByte rfl rfl rfl rfl rfl (Nat.le_of_ble_eq_true rfl) (c_X12_saysByte d hc15) ?_
    refine ae_pick (lv' := [(0, ae_r (some (30, 0))), (1, ae_i v1)]) [0, 1] rfl ?_
    exact t_X12_saysNumber_17 d v1 s14 hF16
abbrev mX12_saysKind : ae_M := (RX12, cX12_saysKind, 2, none)
theorem vy_X12_saysKind : ae_VY yX12_saysKind mX12_saysKind 1 := ⟨ww_1899, wq_115, ww_13, ww_1900, ⟨by decide, by decide, by decide +kernel⟩, by decide⟩
theorem dX12_saysKind_0 : decode cX12_saysKind 0 = .ok (.aload_n 0, 1) := by decide +kernel
theorem dX12_saysKind_1 : decode cX12_saysKind 1 = .ok (.iload_n 1, 1) := by decide +kernel
theorem dX12_saysKind_2 : decode cX12_saysKind 2 = .ok (.bipush 7, 2) := by decide +kernel
theorem dX12_saysKind_4 : decode cX12_saysKind 4 = .ok (.if_icmp .lt 9, 3) := by decide +kernel
theorem dX12_saysKind_7 : decode cX12_saysKind 7 = .ok (.ldc_w 497, 3) := by decide +kernel
theorem dX12_saysKind_10 : decode cX12_saysKind 10 = .ok (.goto 25, 3) := by decide +kernel
theorem dX12_saysKind_13 : decode cX12_saysKind 13 = .ok (.iload_n 1, 1) := by decide +kernel
theorem dX12_saysKind_14 : decode cX12_saysKind 14 = .ok (.bipush 6, 2) := by decide +kernel
theorem dX12_saysKind_16 : decode cX12_saysKind 16 = .ok (.if_icmp .eq 10, 3) := by decide +kernel
theorem dX12_saysKind_19 : decode cX12_saysKind 19 = .ok (.iload_n 1, 1) := by decide +kernel
theorem dX12_saysKind_20 : decode cX12_saysKind 20 = .ok (.iconst 2, 1) := by decide +kernel
theorem dX12_saysKind_21 : decode cX12_saysKind 21 = .ok (.irem, 1) := by decide +kernel
theorem dX12_saysKind_22 : decode cX12_saysKind 22 = .ok (.iconst 1, 1) := by decide +kernel
theorem dX12_saysKind_23 : decode cX12_saysKind 23 = .ok (.if_icmp .ne 9, 3) := by decide +kernel
theorem dX12_saysKind_26 : decode cX12_saysKind 26 = .ok (.ldc_w 499, 3) := by decide +kernel
theorem dX12_saysKind_29 : decode cX12_saysKind 29 = .ok (.goto 6, 3) := by decide +kernel
theorem dX12_saysKind_32 : decode cX12_saysKind 32 = .ok (.ldc_w 501, 3) := by decide +kernel
theorem dX12_saysKind_35 : decode cX12_saysKind 35 = .ok (.invokevirtual 503, 3) := by decide +kernel
theorem dX12_saysKind_38 : decode cX12_saysKind 38 = .ok (.aload_n 0, 1) := by decide +kernel
theorem dX12_saysKind_39 : decode cX12_saysKind 39 = .ok (.bipush 8, 2) := by decide +kernel
theorem dX12_saysKind_41 : decode cX12_saysKind 41 = .ok (.iload_n 1, 1) := by decide +kernel
theorem dX12_saysKind_42 : decode cX12_saysKind 42 = .ok (.invokestatic 267, 3) := by decide +kernel
theorem dX12_saysKind_45 : decode cX12_saysKind 45 = .ok (.imul, 1) := by decide +kernel
theorem dX12_saysKind_46 : decode cX12_saysKind 46 = .ok (.invokevirtual 507, 3) := by decide +kernel
theorem dX12_saysKind_49 : decode cX12_saysKind 49 = .ok (.return_, 1) := by decide +kernel
def F_X12_saysKind_35 (v1 : Int32) (ti0 : Fin 32) (s0 : ae_S) : Option (Unit × ae_S) := ae_bd (F_X12_says ti0 s0) (fun (r1 : Unit) s2 => ae_bd (F_X12_bytesOf v1 s2) (fun (r5 : Int32) s6 => ae_bd (F_X12_saysNumber ((8 : Int32) * r5) s6) (fun (r9 : Unit) s10 => some ((), s10))))
set_option maxHeartbeats 4000000 in
set_option maxRecDepth 100000 in
theorem t_X12_saysKind_35 {l : Launch} {G : ae_G} (d : Nat) {rr : Unit} {ss : ae_S} (v1 : Int32) (ti0 : Fin 32) (s0 : ae_S) (hF : F_X12_saysKind_35 v1 ti0 s0 = some (rr, ss)) : ae_T l G (d + 5) mX12_saysKind (ae_Po none ss) 35 [(0, ae_r (some (30, 0))), (1, ae_i v1)] [ae_r (some (62, ti0)), ae_r (some (30, 0))] s0 := by
  unfold F_X12_saysKind_35 at hF
  obtain ⟨r1, s2, hc3, hF4⟩ := ae_bdI hF
  refine ae_cV0 (q := (30, 0)) (As := [ae_r (some (62, ti0))]) dX12_saysKind_35 ww_1904 vy_X12_says rfl rfl rfl rfl rfl (Nat.le_of_ble_eq_true rfl) (c_X12_says d hc3) ?_
  refine ae_aload_n 0 dX12_saysKind_38 rfl ?_
  refine ae_bipush (8 : Int32) dX12_saysKind_39 (by decide) ?_
  refine ae_iload_n 1 dX12_saysKind_41 rfl ?_
  obtain ⟨r5, s6, hc7, hF8⟩ := ae_bdI hF4
  refine ae_cS1 (As := [ae_i v1]) dX12_saysKind_42 ww_1590 vy_X12_bytesOf rfl rfl (Nat.le_of_ble_eq_true rfl) (c_X12_bytesOf (d + 4) hc7) ?_
  refine ae_imul dX12_saysKind_45 ?_
  obtain ⟨r9, s10, hc11, hF12⟩ := ae_bdI hF8
  refine ae_cV0 (q := (30, 0)) (As := [ae_i ((8 : Int32) * r5)]) dX12_saysKind_46 ww_1908 vy_X12_saysNumber rfl rfl rfl rfl rfl (Nat.le_of_ble_eq_true rfl) (c_X12_saysNumber (d + 3) hc11) ?_
  obtain ⟨rfl, rfl⟩ := ae_retI hF12
  exact ae_vret dX12_saysKind_49 rfl ⟨rfl, rfl⟩
def F_X12_saysKind_26 (v1 : Int32) (s0 : ae_S) : Option (Unit × ae_S) := F_X12_saysKind_35 v1 (26 : Fin 32) s0
set_option maxHeartbeats 4000000 in
set_option maxRecDepth 100000 in
theorem t_X12_saysKind_26 {l : Launch} {G : ae_G} (d : Nat) {rr : Unit} {ss : ae_S} (v1 : Int32) (s0 : ae_S) (hF : F_X12_saysKind_26 v1 s0 = some (rr, ss)) : ae_T l G (d + 5) mX12_saysKind (ae_Po none ss) 26 [(0, ae_r (some (30, 0))), (1, ae_i v1)] [ae_r (some (30, 0))] s0 := by
  unfold F_X12_saysKind_26 at hF
  refine ae_ldcSW (i := 26) (tx := "s") 44 dX12_saysKind_26 rfl ?_
  refine ae_goto 35 dX12_saysKind_29 rfl ?_
  refine ae_pick (lv' := [(0, ae_r (some (30, 0))), (1, ae_i v1)]) [0, 1] rfl ?_
  exact t_X12_saysKind_35 d v1 (26 : Fin 32) s0 hF
def F_X12_saysKind (v1 : Int32) (s0 : ae_S) : Option (Unit × ae_S) := if v1 < (7 : Int32) then (if v1 = (6 : Int32) then (F_X12_saysKind_26 v1 s0) else (if (v1 - v1 / (2 : Int32) * (2 : Int32)) = (1 : Int32) then (F_X12_saysKind_26 v1 s0) else (F_X12_saysKind_35 v1 (27 : Fin 32) s0))) else (F_X12_saysKind_35 v1 (25 : Fin 32) s0)
set_option maxHeartbeats 4000000 in
set_option maxRecDepth 100000 in
theorem c_X12_saysKind {l : Launch} {G : ae_G} (d : Nat) {v1 : Int32} {s0 ss : ae_S} {rr : Unit} (hF : F_X12_saysKind v1 s0 = some (rr, ss)) : ae_Met l G (d + 5) yX12_saysKind mX12_saysKind [ae_r (some (30, 0)), ae_i v1] s0 (ae_Po none ss) := by
  refine ae_enter (by decide) rfl (Nat.le_of_ble_eq_true rfl) ?_
  show ae_T l G (d + 5) mX12_saysKind (ae_Po none ss) 0 [(0, ae_r (some (30, 0))), (1, ae_i v1)] [] s0
  unfold F_X12_saysKind at hF
  refine ae_aload_n 0 dX12_saysKind_0 rfl ?_
  refine ae_iload_n 1 dX12_saysKind_1 rfl ?_
  refine ae_bipush (7 : Int32) dX12_saysKind_2 (by decide) ?_
  refine ae_icmp_lt 13 dX12_saysKind_4 rfl (fun hb13 => ?_) (fun hb13 => ?_)
  · have hF14 := ae_ifT hb13 hF
    refine ae_iload_n 1 dX12_saysKind_13 rfl ?_
    refine ae_bipush (6 : Int32) dX12_saysKind_14 (by decide) ?_
    refine ae_icmp_eq 26 dX12_saysKind_16 rfl (fun hb15 => ?_) (fun hb15 => ?_)
    · have hF16 := ae_ifT hb15 hF14
      refine ae_pick (lv' := [(0, ae_r (some (30, 0))), (1, ae_i v1)]) [0, 1] rfl ?_
      exact t_X12_saysKind_26 d v1 s0 hF16
    · have hF16 := ae_ifF hb15 hF14
      refine ae_iload_n 1 dX12_saysKind_19 rfl ?_
      refine ae_iconst (2 : Int32) dX12_saysKind_20 (by decide) ?_
      refine ae_irem dX12_saysKind_21 (by decide) ?_
      refine ae_iconst (1 : Int32) dX12_saysKind_22 (by decide) ?_
      refine ae_icmp_ne 32 dX12_saysKind_23 rfl (fun hb17 => ?_) (fun hb17 => ?_)
      · have hF18 := ae_ifF hb17 hF16
        refine ae_ldcSW (i := 27) (tx := "u") 45 dX12_saysKind_32 rfl ?_
        refine ae_pick (lv' := [(0, ae_r (some (30, 0))), (1, ae_i v1)]) [0, 1] rfl ?_
        exact t_X12_saysKind_35 d v1 (27 : Fin 32) s0 hF18
      · have hF18 := ae_ifT hb17 hF16
        refine ae_pick (lv' := [(0, ae_r (some (30, 0))), (1, ae_i v1)]) [0, 1] rfl ?_
        exact t_X12_saysKind_26 d v1 s0 hF18
  · have hF14 := ae_ifF hb13 hF
    refine ae_ldcSW (i := 25) (tx := "f") 43 dX12_saysKind_7 rfl ?_
    refine ae_goto 35 dX12_saysKind_10 rfl ?_
    refine ae_pick (lv' := [(0, ae_r (some (30, 0))), (1, ae_i v1)]) [0, 1] rfl ?_
    exact t_X12_saysKind_35 d v1 (25 : Fin 32) s0 hF14
abbrev mX12_saysName : ae_M := (RX12, cX12_saysName, 4, none)
theorem vy_X12_saysName : ae_VY yX12_saysName mX12_saysName 1 := ⟨ww_1891, wq_113, ww_13, ww_1892, ⟨by decide, by decide, by decide +kernel⟩, by decide⟩
theorem dX12_saysName_0 : decode cX12_saysName 0 = .ok (.bipush 48, 2) := by decide +kernel
theorem dX12_saysName_2 : decode cX12_saysName 2 = .ok (.istore_n 3, 1) := by decide +kernel
theorem dX12_saysName_3 : decode cX12_saysName 3 = .ok (.iload_n 3, 1) := by decide +kernel
theorem dX12_saysName_4 : decode cX12_saysName 4 = .ok (.ifCond .lt 33, 3) := by decide +kernel
theorem dX12_saysName_7 : decode cX12_saysName 7 = .ok (.lload_n 1, 1) := by decide +kernel
theorem dX12_saysName_8 : decode cX12_saysName 8 = .ok (.iload_n 3, 1) := by decide +kernel
theorem dX12_saysName_9 : decode cX12_saysName 9 = .ok (.lshr, 1) := by decide +kernel
theorem dX12_saysName_10 : decode cX12_saysName 10 = .ok (.ldc2_w 298, 3) := by decide +kernel
theorem dX12_saysName_13 : decode cX12_saysName 13 = .ok (.land, 1) := by decide +kernel
theorem dX12_saysName_14 : decode cX12_saysName 14 = .ok (.lconst 0, 1) := by decide +kernel
theorem dX12_saysName_15 : decode cX12_saysName 15 = .ok (.lcmp, 1) := by decide +kernel
theorem dX12_saysName_16 : decode cX12_saysName 16 = .ok (.ifCond .eq 15, 3) := by decide +kernel
theorem dX12_saysName_19 : decode cX12_saysName 19 = .ok (.aload_n 0, 1) := by decide +kernel
theorem dX12_saysName_20 : decode cX12_saysName 20 = .ok (.lload_n 1, 1) := by decide +kernel
theorem dX12_saysName_21 : decode cX12_saysName 21 = .ok (.iload_n 3, 1) := by decide +kernel
theorem dX12_saysName_22 : decode cX12_saysName 22 = .ok (.lshr, 1) := by decide +kernel
theorem dX12_saysName_23 : decode cX12_saysName 23 = .ok (.ldc2_w 298, 3) := by decide +kernel
theorem dX12_saysName_26 : decode cX12_saysName 26 = .ok (.land, 1) := by decide +kernel
theorem dX12_saysName_27 : decode cX12_saysName 27 = .ok (.l2i, 1) := by decide +kernel
theorem dX12_saysName_28 : decode cX12_saysName 28 = .ok (.invokevirtual 491, 3) := by decide +kernel
theorem dX12_saysName_31 : decode cX12_saysName 31 = .ok (.iinc 3 (-8), 3) := by decide +kernel
theorem dX12_saysName_34 : decode cX12_saysName 34 = .ok (.goto (-31), 3) := by decide +kernel
theorem dX12_saysName_37 : decode cX12_saysName 37 = .ok (.return_, 1) := by decide +kernel
def F_X12_saysName_31 (k3 : Int64 → Int32 → ae_S → Option (Unit × ae_S)) (v1 : Int64) (v3 : Int32) (s0 : ae_S) : Option (Unit × ae_S) := ae_lt (v3 + (-8 : Int32)) (fun x1 => k3 v1 x1 s0)
set_option maxHeartbeats 4000000 in
set_option maxRecDepth 100000 in
theorem t_X12_saysName_31 {l : Launch} {G : ae_G} (d : Nat) (k3 : Int64 → Int32 → ae_S → Option (Unit × ae_S)) {rr : Unit} {ss : ae_S} (hk3 : ∀ (v1 : Int64) (v3 : Int32) (s0 : ae_S), k3 v1 v3 s0 = some (rr, ss) → ae_T l G (d + 1) mX12_saysName (ae_Po none ss) 3 [(0, ae_r (some (30, 0))), (1, ae_l v1), (3, ae_i v3)] [] s0) (v1 : Int64) (v3 : Int32) (s0 : ae_S) (hF : F_X12_saysName_31 k3 v1 v3 s0 = some (rr, ss)) : ae_T l G (d + 1) mX12_saysName (ae_Po none ss) 31 [(0, ae_r (some (30, 0))), (1, ae_l v1), (3, ae_i v3)] [] s0 := by
  unfold F_X12_saysName_31 at hF
  obtain ⟨x1, hx1, hF2⟩ := ae_ltI hF
  refine ae_iinc (lv' := [(3, ae_i x1), (0, ae_r (some (30, 0))), (1, ae_l v1)]) 2 (-8 : Int32) dX12_saysName_31 rfl (by decide) (by decide) (by rw [hx1]; rfl) ?_
  refine ae_goto 3 dX12_saysName_34 rfl ?_
  refine ae_pick (lv' := [(0, ae_r (some (30, 0))), (1, ae_l v1), (3, ae_i x1)]) [1, 2, 0] rfl ?_
  exact hk3 v1 x1 s0 hF2
def F_X12_saysName_3 : Nat → Int64 → Int32 → ae_S → Option (Unit × ae_S)
  | 0, _, _, _ => none
  | n + 1, v1, v3, s0 => if v3 < 0 then (some ((), s0)) else (if (lg_cmp ((v1 >>> (v3.toInt64 &&& 63)) &&& (255 : Int64)) (0 : Int64)) = 0 then (F_X12_saysName_31 (F_X12_saysName_3 n) v1 v3 s0) else (ae_bd (F_X12_saysByte (((v1 >>> (v3.toInt64 &&& 63)) &&& (255 : Int64)).toInt32) s0) (fun (r7 : Unit) s8 => F_X12_saysName_31 (F_X12_saysName_3 n) v1 v3 s8)))
set_option maxHeartbeats 4000000 in
set_option maxRecDepth 100000 in
theorem t_X12_saysName_3 {l : Launch} {G : ae_G} (d : Nat) {rr : Unit} {ss : ae_S} : ∀ (n : Nat) (v1 : Int64) (v3 : Int32) (s0 : ae_S), F_X12_saysName_3 n v1 v3 s0 = some (rr, ss) → ae_T l G (d + 1) mX12_saysName (ae_Po none ss) 3 [(0, ae_r (some (30, 0))), (1, ae_l v1), (3, ae_i v3)] [] s0 := by
  intro n
  induction n with
  | zero =>
    intro v1 v3 s0 hF
    exact absurd (show (none : Option (Unit × ae_S)) = some (rr, ss) from hF) (by simp)
  | succ n ih =>
    intro v1 v3 s0 hF
    unfold F_X12_saysName_3 at hF
    refine ae_iload_n 2 dX12_saysName_3 rfl ?_
    refine ae_if_lt 37 dX12_saysName_4 rfl (fun hb3 => ?_) (fun hb3 => ?_)
    · have hF4 := ae_ifT hb3 hF
      obtain ⟨rfl, rfl⟩ := ae_retI hF4
      exact ae_vret dX12_saysName_37 rfl ⟨rfl, rfl⟩
    · have hF4 := ae_ifF hb3 hF
      refine ae_lload_n 1 dX12_saysName_7 rfl ?_
      refine ae_iload_n 2 dX12_saysName_8 rfl ?_
      refine ae_lshr dX12_saysName_9 ?_
      refine ae_ldc2 dX12_saysName_10 ww_1690 ?_
      refine ae_land dX12_saysName_13 ?_
      refine ae_lconst (0 : Int64) dX12_saysName_14 (by decide) ?_
      refine ae_lcmp dX12_saysName_15 ?_
      refine ae_if_eq 31 dX12_saysName_16 rfl (fun hb5 => ?_) (fun hb5 => ?_)
      · have hF6 := ae_ifT hb5 hF4
        refine ae_pick (lv' := [(0, ae_r (some (30, 0))), (1, ae_l v1), (3, ae_i v3)]) [0, 1, 2] rfl ?_
        exact t_X12_saysName_31 d (F_X12_saysName_3 n) ih v1 v3 s0 hF6
      · have hF6 := ae_ifF hb5 hF4
        refine ae_aload_n 0 dX12_saysName_19 rfl ?_
        refine ae_lload_n 1 dX12_saysName_20 rfl ?_
        refine ae_iload_n 2 dX12_saysName_21 rfl ?_
        refine ae_lshr dX12_saysName_22 ?_
        refine ae_ldc2 dX12_saysName_23 ww_1690 ?_
        refine ae_land dX12_saysName_26 ?_
        refine ae_l2i dX12_saysName_27 ?_
        obtain ⟨r7, s8, hc9, hF10⟩ := ae_bdI hF6
        refine ae_cV0 (q := (30, 0)) (As := [ae_i (((v1 >>> (v3.toInt64 &&& 63)) &&& (255 : Int64)).toInt32)]) dX12_saysName_28 ww_1893 vy_X12_saysByte rfl rfl rfl rfl rfl (Nat.le_of_ble_eq_true rfl) (c_X12_saysByte d hc9) ?_
        refine ae_pick (lv' := [(0, ae_r (some (30, 0))), (1, ae_l v1), (3, ae_i v3)]) [0, 1, 2] rfl ?_
        exact t_X12_saysName_31 d (F_X12_saysName_3 n) ih v1 v3 s8 hF10
def F_X12_saysName (v1 : Int64) (s0 : ae_S) : Option (Unit × ae_S) := F_X12_saysName_3 ae_fu v1 (48 : Int32) s0
set_option maxHeartbeats 4000000 in
set_option maxRecDepth 100000 in
theorem c_X12_saysName {l : Launch} {G : ae_G} (d : Nat) {v1 : Int64} {s0 ss : ae_S} {rr : Unit} (hF : F_X12_saysName v1 s0 = some (rr, ss)) : ae_Met l G (d + 1) yX12_saysName mX12_saysName [ae_r (some (30, 0)), ae_l v1] s0 (ae_Po none ss) := by
  refine ae_enter (by decide) rfl (Nat.le_of_ble_eq_true rfl) ?_
  show ae_T l G (d + 1) mX12_saysName (ae_Po none ss) 0 [(0, ae_r (some (30, 0))), (1, ae_l v1)] [] s0
  unfold F_X12_saysName at hF
  refine ae_bipush (48 : Int32) dX12_saysName_0 (by decide) ?_
  refine ae_istore_n (lv' := [(3, ae_i (48 : Int32)), (0, ae_r (some (30, 0))), (1, ae_l v1)]) dX12_saysName_2 (by decide) rfl ?_
  refine ae_pick (lv' := [(0, ae_r (some (30, 0))), (1, ae_l v1), (3, ae_i (48 : Int32))]) [1, 2, 0] rfl ?_
  exact t_X12_saysName_3 d ae_fu v1 (48 : Int32) s0 hF
abbrev mX12_show : ae_M := (RX12, cX12_show, 4, some .int)
theorem vy_X12_show : ae_VY yX12_show mX12_show 1 := ⟨ww_1886, ww_1887, ww_13, ww_1888, ⟨by decide, by decide, by decide +kernel⟩, by decide⟩
theorem dX12_show_0 : decode cX12_show 0 = .ok (.aload_n 0, 1) := by decide +kernel
theorem dX12_show_1 : decode cX12_show 1 = .ok (.iload_n 1, 1) := by decide +kernel
theorem dX12_show_2 : decode cX12_show 2 = .ok (.invokevirtual 122, 3) := by decide +kernel
theorem dX12_show_5 : decode cX12_show 5 = .ok (.ifCond .ne 5, 3) := by decide +kernel
theorem dX12_show_8 : decode cX12_show 8 = .ok (.iconst (-1), 1) := by decide +kernel
theorem dX12_show_9 : decode cX12_show 9 = .ok (.ireturn, 1) := by decide +kernel
theorem dX12_show_10 : decode cX12_show 10 = .ok (.aload_n 0, 1) := by decide +kernel
theorem dX12_show_11 : decode cX12_show 11 = .ok (.iconst 0, 1) := by decide +kernel
theorem dX12_show_12 : decode cX12_show 12 = .ok (.putfield 494, 3) := by decide +kernel
theorem dX12_show_15 : decode cX12_show 15 = .ok (.aload_n 0, 1) := by decide +kernel
theorem dX12_show_16 : decode cX12_show 16 = .ok (.aload_n 0, 1) := by decide +kernel
theorem dX12_show_17 : decode cX12_show 17 = .ok (.getfield 25, 3) := by decide +kernel
theorem dX12_show_20 : decode cX12_show 20 = .ok (.iload_n 1, 1) := by decide +kernel
theorem dX12_show_21 : decode cX12_show 21 = .ok (.laload, 1) := by decide +kernel
theorem dX12_show_22 : decode cX12_show 22 = .ok (.invokevirtual 510, 3) := by decide +kernel
theorem dX12_show_25 : decode cX12_show 25 = .ok (.aload_n 0, 1) := by decide +kernel
theorem dX12_show_26 : decode cX12_show 26 = .ok (.bipush 32, 2) := by decide +kernel
theorem dX12_show_28 : decode cX12_show 28 = .ok (.invokevirtual 491, 3) := by decide +kernel
theorem dX12_show_31 : decode cX12_show 31 = .ok (.aload_n 0, 1) := by decide +kernel
theorem dX12_show_32 : decode cX12_show 32 = .ok (.aload_n 0, 1) := by decide +kernel
theorem dX12_show_33 : decode cX12_show 33 = .ok (.getfield 29, 3) := by decide +kernel
theorem dX12_show_36 : decode cX12_show 36 = .ok (.iload_n 1, 1) := by decide +kernel
theorem dX12_show_37 : decode cX12_show 37 = .ok (.iaload, 1) := by decide +kernel
theorem dX12_show_38 : decode cX12_show 38 = .ok (.invokevirtual 513, 3) := by decide +kernel
theorem dX12_show_41 : decode cX12_show 41 = .ok (.aload_n 0, 1) := by decide +kernel
theorem dX12_show_42 : decode cX12_show 42 = .ok (.getfield 32, 3) := by decide +kernel
theorem dX12_show_45 : decode cX12_show 45 = .ok (.iload_n 1, 1) := by decide +kernel
theorem dX12_show_46 : decode cX12_show 46 = .ok (.iaload, 1) := by decide +kernel
theorem dX12_show_47 : decode cX12_show 47 = .ok (.iconst 1, 1) := by decide +kernel
theorem dX12_show_48 : decode cX12_show 48 = .ok (.if_icmp .ne 10, 3) := by decide +kernel
theorem dX12_show_51 : decode cX12_show 51 = .ok (.aload_n 0, 1) := by decide +kernel
theorem dX12_show_52 : decode cX12_show 52 = .ok (.ldc_w 516, 3) := by decide +kernel
theorem dX12_show_55 : decode cX12_show 55 = .ok (.invokevirtual 503, 3) := by decide +kernel
theorem dX12_show_58 : decode cX12_show 58 = .ok (.aload_n 0, 1) := by decide +kernel
theorem dX12_show_59 : decode cX12_show 59 = .ok (.ldc_w 518, 3) := by decide +kernel
theorem dX12_show_62 : decode cX12_show 62 = .ok (.invokevirtual 503, 3) := by decide +kernel
theorem dX12_show_65 : decode cX12_show 65 = .ok (.aload_n 0, 1) := by decide +kernel
theorem dX12_show_66 : decode cX12_show 66 = .ok (.aload_n 0, 1) := by decide +kernel
theorem dX12_show_67 : decode cX12_show 67 = .ok (.getfield 35, 3) := by decide +kernel
theorem dX12_show_70 : decode cX12_show 70 = .ok (.iload_n 1, 1) := by decide +kernel
theorem dX12_show_71 : decode cX12_show 71 = .ok (.iaload, 1) := by decide +kernel
theorem dX12_show_72 : decode cX12_show 72 = .ok (.invokevirtual 507, 3) := by decide +kernel
theorem dX12_show_75 : decode cX12_show 75 = .ok (.aload_n 0, 1) := by decide +kernel
theorem dX12_show_76 : decode cX12_show 76 = .ok (.getfield 41, 3) := by decide +kernel
theorem dX12_show_79 : decode cX12_show 79 = .ok (.iload_n 1, 1) := by decide +kernel
theorem dX12_show_80 : decode cX12_show 80 = .ok (.iaload, 1) := by decide +kernel
theorem dX12_show_81 : decode cX12_show 81 = .ok (.aload_n 0, 1) := by decide +kernel
theorem dX12_show_82 : decode cX12_show 82 = .ok (.getfield 29, 3) := by decide +kernel
theorem dX12_show_85 : decode cX12_show 85 = .ok (.iload_n 1, 1) := by decide +kernel
theorem dX12_show_86 : decode cX12_show 86 = .ok (.iaload, 1) := by decide +kernel
theorem dX12_show_87 : decode cX12_show 87 = .ok (.invokestatic 267, 3) := by decide +kernel
theorem dX12_show_90 : decode cX12_show 90 = .ok (.if_icmp .eq 7, 3) := by decide +kernel
theorem dX12_show_93 : decode cX12_show 93 = .ok (.iconst 1, 1) := by decide +kernel
theorem dX12_show_94 : decode cX12_show 94 = .ok (.goto 4, 3) := by decide +kernel
theorem dX12_show_97 : decode cX12_show 97 = .ok (.iconst 0, 1) := by decide +kernel
theorem dX12_show_98 : decode cX12_show 98 = .ok (.istore_n 2, 1) := by decide +kernel
theorem dX12_show_99 : decode cX12_show 99 = .ok (.aload_n 0, 1) := by decide +kernel
theorem dX12_show_100 : decode cX12_show 100 = .ok (.getfield 38, 3) := by decide +kernel
theorem dX12_show_103 : decode cX12_show 103 = .ok (.iload_n 1, 1) := by decide +kernel
theorem dX12_show_104 : decode cX12_show 104 = .ok (.iaload, 1) := by decide +kernel
theorem dX12_show_105 : decode cX12_show 105 = .ok (.iconst 1, 1) := by decide +kernel
theorem dX12_show_106 : decode cX12_show 106 = .ok (.if_icmp .gt 7, 3) := by decide +kernel
theorem dX12_show_109 : decode cX12_show 109 = .ok (.iload_n 2, 1) := by decide +kernel
theorem dX12_show_110 : decode cX12_show 110 = .ok (.ifCond .eq 20, 3) := by decide +kernel
theorem dX12_show_113 : decode cX12_show 113 = .ok (.aload_n 0, 1) := by decide +kernel
theorem dX12_show_114 : decode cX12_show 114 = .ok (.ldc_w 520, 3) := by decide +kernel
theorem dX12_show_117 : decode cX12_show 117 = .ok (.invokevirtual 503, 3) := by decide +kernel
theorem dX12_show_120 : decode cX12_show 120 = .ok (.aload_n 0, 1) := by decide +kernel
theorem dX12_show_121 : decode cX12_show 121 = .ok (.aload_n 0, 1) := by decide +kernel
theorem dX12_show_122 : decode cX12_show 122 = .ok (.getfield 38, 3) := by decide +kernel
theorem dX12_show_125 : decode cX12_show 125 = .ok (.iload_n 1, 1) := by decide +kernel
theorem dX12_show_126 : decode cX12_show 126 = .ok (.iaload, 1) := by decide +kernel
theorem dX12_show_127 : decode cX12_show 127 = .ok (.invokevirtual 507, 3) := by decide +kernel
theorem dX12_show_130 : decode cX12_show 130 = .ok (.iload_n 2, 1) := by decide +kernel
theorem dX12_show_131 : decode cX12_show 131 = .ok (.ifCond .eq 20, 3) := by decide +kernel
theorem dX12_show_134 : decode cX12_show 134 = .ok (.aload_n 0, 1) := by decide +kernel
theorem dX12_show_135 : decode cX12_show 135 = .ok (.ldc_w 522, 3) := by decide +kernel
theorem dX12_show_138 : decode cX12_show 138 = .ok (.invokevirtual 503, 3) := by decide +kernel
theorem dX12_show_141 : decode cX12_show 141 = .ok (.aload_n 0, 1) := by decide +kernel
theorem dX12_show_142 : decode cX12_show 142 = .ok (.aload_n 0, 1) := by decide +kernel
theorem dX12_show_143 : decode cX12_show 143 = .ok (.getfield 41, 3) := by decide +kernel
theorem dX12_show_146 : decode cX12_show 146 = .ok (.iload_n 1, 1) := by decide +kernel
theorem dX12_show_147 : decode cX12_show 147 = .ok (.iaload, 1) := by decide +kernel
theorem dX12_show_148 : decode cX12_show 148 = .ok (.invokevirtual 507, 3) := by decide +kernel
theorem dX12_show_151 : decode cX12_show 151 = .ok (.aload_n 0, 1) := by decide +kernel
theorem dX12_show_152 : decode cX12_show 152 = .ok (.getfield 44, 3) := by decide +kernel
theorem dX12_show_155 : decode cX12_show 155 = .ok (.iload_n 1, 1) := by decide +kernel
theorem dX12_show_156 : decode cX12_show 156 = .ok (.iaload, 1) := by decide +kernel
theorem dX12_show_157 : decode cX12_show 157 = .ok (.iconst 1, 1) := by decide +kernel
theorem dX12_show_158 : decode cX12_show 158 = .ok (.if_icmp .ne 10, 3) := by decide +kernel
theorem dX12_show_161 : decode cX12_show 161 = .ok (.aload_n 0, 1) := by decide +kernel
theorem dX12_show_162 : decode cX12_show 162 = .ok (.ldc_w 524, 3) := by decide +kernel
theorem dX12_show_165 : decode cX12_show 165 = .ok (.invokevirtual 503, 3) := by decide +kernel
theorem dX12_show_168 : decode cX12_show 168 = .ok (.aload_n 0, 1) := by decide +kernel
theorem dX12_show_169 : decode cX12_show 169 = .ok (.getfield 44, 3) := by decide +kernel
theorem dX12_show_172 : decode cX12_show 172 = .ok (.iload_n 1, 1) := by decide +kernel
theorem dX12_show_173 : decode cX12_show 173 = .ok (.iaload, 1) := by decide +kernel
theorem dX12_show_174 : decode cX12_show 174 = .ok (.iconst 2, 1) := by decide +kernel
theorem dX12_show_175 : decode cX12_show 175 = .ok (.if_icmp .ne 10, 3) := by decide +kernel
theorem dX12_show_178 : decode cX12_show 178 = .ok (.aload_n 0, 1) := by decide +kernel
theorem dX12_show_179 : decode cX12_show 179 = .ok (.ldc_w 526, 3) := by decide +kernel
theorem dX12_show_182 : decode cX12_show 182 = .ok (.invokevirtual 503, 3) := by decide +kernel
theorem dX12_show_185 : decode cX12_show 185 = .ok (.aload_n 0, 1) := by decide +kernel
theorem dX12_show_186 : decode cX12_show 186 = .ok (.getfield 44, 3) := by decide +kernel
theorem dX12_show_189 : decode cX12_show 189 = .ok (.iload_n 1, 1) := by decide +kernel
theorem dX12_show_190 : decode cX12_show 190 = .ok (.iaload, 1) := by decide +kernel
theorem dX12_show_191 : decode cX12_show 191 = .ok (.iconst 3, 1) := by decide +kernel
theorem dX12_show_192 : decode cX12_show 192 = .ok (.if_icmp .ne 10, 3) := by decide +kernel
theorem dX12_show_195 : decode cX12_show 195 = .ok (.aload_n 0, 1) := by decide +kernel
theorem dX12_show_196 : decode cX12_show 196 = .ok (.ldc_w 528, 3) := by decide +kernel
theorem dX12_show_199 : decode cX12_show 199 = .ok (.invokevirtual 503, 3) := by decide +kernel
theorem dX12_show_202 : decode cX12_show 202 = .ok (.iconst 0, 1) := by decide +kernel
theorem dX12_show_203 : decode cX12_show 203 = .ok (.istore_n 3, 1) := by decide +kernel
theorem dX12_show_204 : decode cX12_show 204 = .ok (.iload_n 3, 1) := by decide +kernel
theorem dX12_show_205 : decode cX12_show 205 = .ok (.aload_n 0, 1) := by decide +kernel
theorem dX12_show_206 : decode cX12_show 206 = .ok (.getfield 47, 3) := by decide +kernel
theorem dX12_show_209 : decode cX12_show 209 = .ok (.iload_n 1, 1) := by decide +kernel
theorem dX12_show_210 : decode cX12_show 210 = .ok (.iaload, 1) := by decide +kernel
theorem dX12_show_211 : decode cX12_show 211 = .ok (.if_icmp .ge 81, 3) := by decide +kernel
theorem dX12_show_214 : decode cX12_show 214 = .ok (.aload_n 0, 1) := by decide +kernel
theorem dX12_show_215 : decode cX12_show 215 = .ok (.iload_n 3, 1) := by decide +kernel
theorem dX12_show_216 : decode cX12_show 216 = .ok (.ifCond .ne 8, 3) := by decide +kernel
theorem dX12_show_219 : decode cX12_show 219 = .ok (.bipush 123, 2) := by decide +kernel
theorem dX12_show_221 : decode cX12_show 221 = .ok (.goto 5, 3) := by decide +kernel
theorem dX12_show_224 : decode cX12_show 224 = .ok (.bipush 44, 2) := by decide +kernel
theorem dX12_show_226 : decode cX12_show 226 = .ok (.invokevirtual 491, 3) := by decide +kernel
theorem dX12_show_229 : decode cX12_show 229 = .ok (.aload_n 0, 1) := by decide +kernel
theorem dX12_show_230 : decode cX12_show 230 = .ok (.aload_n 0, 1) := by decide +kernel
theorem dX12_show_231 : decode cX12_show 231 = .ok (.getfield 50, 3) := by decide +kernel
theorem dX12_show_234 : decode cX12_show 234 = .ok (.bipush 8, 2) := by decide +kernel
theorem dX12_show_236 : decode cX12_show 236 = .ok (.iload_n 1, 1) := by decide +kernel
theorem dX12_show_237 : decode cX12_show 237 = .ok (.imul, 1) := by decide +kernel
theorem dX12_show_238 : decode cX12_show 238 = .ok (.iload_n 3, 1) := by decide +kernel
theorem dX12_show_239 : decode cX12_show 239 = .ok (.iadd, 1) := by decide +kernel
theorem dX12_show_240 : decode cX12_show 240 = .ok (.laload, 1) := by decide +kernel
theorem dX12_show_241 : decode cX12_show 241 = .ok (.invokevirtual 510, 3) := by decide +kernel
theorem dX12_show_244 : decode cX12_show 244 = .ok (.aload_n 0, 1) := by decide +kernel
theorem dX12_show_245 : decode cX12_show 245 = .ok (.bipush 58, 2) := by decide +kernel
theorem dX12_show_247 : decode cX12_show 247 = .ok (.invokevirtual 491, 3) := by decide +kernel
theorem dX12_show_250 : decode cX12_show 250 = .ok (.aload_n 0, 1) := by decide +kernel
theorem dX12_show_251 : decode cX12_show 251 = .ok (.aload_n 0, 1) := by decide +kernel
theorem dX12_show_252 : decode cX12_show 252 = .ok (.getfield 53, 3) := by decide +kernel
theorem dX12_show_255 : decode cX12_show 255 = .ok (.bipush 8, 2) := by decide +kernel
theorem dX12_show_257 : decode cX12_show 257 = .ok (.iload_n 1, 1) := by decide +kernel
theorem dX12_show_258 : decode cX12_show 258 = .ok (.imul, 1) := by decide +kernel
theorem dX12_show_259 : decode cX12_show 259 = .ok (.iload_n 3, 1) := by decide +kernel
theorem dX12_show_260 : decode cX12_show 260 = .ok (.iadd, 1) := by decide +kernel
theorem dX12_show_261 : decode cX12_show 261 = .ok (.iaload, 1) := by decide +kernel
theorem dX12_show_262 : decode cX12_show 262 = .ok (.invokevirtual 507, 3) := by decide +kernel
theorem dX12_show_265 : decode cX12_show 265 = .ok (.aload_n 0, 1) := by decide +kernel
theorem dX12_show_266 : decode cX12_show 266 = .ok (.bipush 45, 2) := by decide +kernel
theorem dX12_show_268 : decode cX12_show 268 = .ok (.invokevirtual 491, 3) := by decide +kernel
theorem dX12_show_271 : decode cX12_show 271 = .ok (.aload_n 0, 1) := by decide +kernel
theorem dX12_show_272 : decode cX12_show 272 = .ok (.aload_n 0, 1) := by decide +kernel
theorem dX12_show_273 : decode cX12_show 273 = .ok (.getfield 56, 3) := by decide +kernel
theorem dX12_show_276 : decode cX12_show 276 = .ok (.bipush 8, 2) := by decide +kernel
theorem dX12_show_278 : decode cX12_show 278 = .ok (.iload_n 1, 1) := by decide +kernel
theorem dX12_show_279 : decode cX12_show 279 = .ok (.imul, 1) := by decide +kernel
theorem dX12_show_280 : decode cX12_show 280 = .ok (.iload_n 3, 1) := by decide +kernel
theorem dX12_show_281 : decode cX12_show 281 = .ok (.iadd, 1) := by decide +kernel
theorem dX12_show_282 : decode cX12_show 282 = .ok (.iaload, 1) := by decide +kernel
theorem dX12_show_283 : decode cX12_show 283 = .ok (.invokevirtual 507, 3) := by decide +kernel
theorem dX12_show_286 : decode cX12_show 286 = .ok (.iinc 3 1, 3) := by decide +kernel
theorem dX12_show_289 : decode cX12_show 289 = .ok (.goto (-85), 3) := by decide +kernel
theorem dX12_show_292 : decode cX12_show 292 = .ok (.aload_n 0, 1) := by decide +kernel
theorem dX12_show_293 : decode cX12_show 293 = .ok (.getfield 47, 3) := by decide +kernel
theorem dX12_show_296 : decode cX12_show 296 = .ok (.iload_n 1, 1) := by decide +kernel
theorem dX12_show_297 : decode cX12_show 297 = .ok (.iaload, 1) := by decide +kernel
theorem dX12_show_298 : decode cX12_show 298 = .ok (.ifCond .le 9, 3) := by decide +kernel
theorem dX12_show_301 : decode cX12_show 301 = .ok (.aload_n 0, 1) := by decide +kernel
theorem dX12_show_302 : decode cX12_show 302 = .ok (.bipush 125, 2) := by decide +kernel
theorem dX12_show_304 : decode cX12_show 304 = .ok (.invokevirtual 491, 3) := by decide +kernel
theorem dX12_show_307 : decode cX12_show 307 = .ok (.aload_n 0, 1) := by decide +kernel
theorem dX12_show_308 : decode cX12_show 308 = .ok (.getfield 494, 3) := by decide +kernel
theorem dX12_show_311 : decode cX12_show 311 = .ok (.ireturn, 1) := by decide +kernel
def F_X12_show_307 (s0 : ae_S) : Option (Int32 × ae_S) := some (s0.1 30 0 51, s0)
set_option maxHeartbeats 4000000 in
set_option maxRecDepth 100000 in
theorem t_X12_show_307 {l : Launch} {G : ae_G} (d : Nat) {rr : Int32} {ss : ae_S} (s0 : ae_S) (hF : F_X12_show_307 s0 = some (rr, ss)) : ae_T l G (d + 6) mX12_show (ae_Po (some (ae_i rr)) ss) 307 [(0, ae_r (some (30, 0)))] [] s0 := by
  unfold F_X12_show_307 at hF
  refine ae_aload_n 0 dX12_show_307 rfl ?_
  refine ae_getI (q := (30, 0)) dX12_show_308 fl_RX12_494 rfl rfl ?_
  obtain ⟨rfl, rfl⟩ := ae_retI hF
  exact ae_iret dX12_show_311 rfl rfl ⟨rfl, rfl⟩
def F_X12_show_226 (k204 : Int32 → Int32 → ae_S → Option (Int32 × ae_S)) (v1 : Int32) (v3 : Int32) (t0 : Int32) (s0 : ae_S) : Option (Int32 × ae_S) := ae_bd (F_X12_saysByte t0 s0) (fun (r1 : Unit) s2 => ae_gd (ae_ib (((8 : Int32) * v1) + v3) 256) (ae_bd (F_X12_saysName (s2.2.1 43 0 (((8 : Int32) * v1) + v3).toNatClampNeg) s2) (fun (r7 : Unit) s8 => ae_bd (F_X12_saysByte (58 : Int32) s8) (fun (r11 : Unit) s12 => ae_gd (ae_ib (((8 : Int32) * v1) + v3) 256) (ae_bd (F_X12_saysNumber (s12.1 44 0 (((8 : Int32) * v1) + v3).toNatClampNeg) s12) (fun (r17 : Unit) s18 => ae_bd (F_X12_saysByte (45 : Int32) s18) (fun (r21 : Unit) s22 => ae_gd (ae_ib (((8 : Int32) * v1) + v3) 256) (ae_bd (F_X12_saysNumber (s22.1 45 0 (((8 : Int32) * v1) + v3).toNatClampNeg) s22) (fun (r27 : Unit) s28 => ae_lt (v3 + (1 : Int32)) (fun x31 => k204 v1 x31 s28))))))))))
set_option maxHeartbeats 4000000 in
set_option maxRecDepth 100000 in
theorem t_X12_show_226 {l : Launch} {G : ae_G} (d : Nat) (k204 : Int32 → Int32 → ae_S → Option (Int32 × ae_S)) {rr : Int32} {ss : ae_S} (hk204 : ∀ (v1 : Int32) (v3 : Int32) (s0 : ae_S), k204 v1 v3 s0 = some (rr, ss) → ae_T l G (d + 6) mX12_show (ae_Po (some (ae_i rr)) ss) 204 [(0, ae_r (some (30, 0))), (1, ae_i v1), (3, ae_i v3)] [] s0) (v1 : Int32) (v3 : Int32) (t0 : Int32) (s0 : ae_S) (hF : F_X12_show_226 k204 v1 v3 t0 s0 = some (rr, ss)) : ae_T l G (d + 6) mX12_show (ae_Po (some (ae_i rr)) ss) 226 [(0, ae_r (some (30, 0))), (1, ae_i v1), (3, ae_i v3)] [ae_i t0, ae_r (some (30, 0))] s0 := by
  unfold F_X12_show_226 at hF
  obtain ⟨r1, s2, hc3, hF4⟩ := ae_bdI hF
  refine ae_cV0 (q := (30, 0)) (As := [ae_i t0]) dX12_show_226 ww_1893 vy_X12_saysByte rfl rfl rfl rfl rfl (Nat.le_of_ble_eq_true rfl) (c_X12_saysByte (d + 5) hc3) ?_
  refine ae_aload_n 0 dX12_show_229 rfl ?_
  refine ae_aload_n 0 dX12_show_230 rfl ?_
  refine ae_getA (q := (30, 0)) (some (43, 0)) dX12_show_231 fl_RX12_50 rfl rfl rfl ?_
  refine ae_bipush (8 : Int32) dX12_show_234 (by decide) ?_
  refine ae_iload_n 1 dX12_show_236 rfl ?_
  refine ae_imul dX12_show_237 ?_
  refine ae_iload_n 2 dX12_show_238 rfl ?_
  refine ae_iadd dX12_show_239 ?_
  obtain ⟨hg5, hF6⟩ := ae_gdI hF4
  refine ae_lald (q := (43, 0)) dX12_show_240 rfl rfl (ae_ibI hg5) ?_
  obtain ⟨r7, s8, hc9, hF10⟩ := ae_bdI hF6
  refine ae_cV0 (q := (30, 0)) (As := [ae_l (s2.2.1 43 0 (((8 : Int32) * v1) + v3).toNatClampNeg)]) dX12_show_241 ww_1889 vy_X12_saysName rfl rfl rfl rfl rfl (Nat.le_of_ble_eq_true rfl) (c_X12_saysName (d + 4) hc9) ?_
  refine ae_aload_n 0 dX12_show_244 rfl ?_
  refine ae_bipush (58 : Int32) dX12_show_245 (by decide) ?_
  obtain ⟨r11, s12, hc13, hF14⟩ := ae_bdI hF10
  refine ae_cV0 (q := (30, 0)) (As := [ae_i (58 : Int32)]) dX12_show_247 ww_1893 vy_X12_saysByte rfl rfl rfl rfl rfl (Nat.le_of_ble_eq_true rfl) (c_X12_saysByte (d + 5) hc13) ?_
  refine ae_aload_n 0 dX12_show_250 rfl ?_
  refine ae_aload_n 0 dX12_show_251 rfl ?_
  refine ae_getA (q := (30, 0)) (some (44, 0)) dX12_show_252 fl_RX12_53 rfl rfl rfl ?_
  refine ae_bipush (8 : Int32) dX12_show_255 (by decide) ?_
  refine ae_iload_n 1 dX12_show_257 rfl ?_
  refine ae_imul dX12_show_258 ?_
  refine ae_iload_n 2 dX12_show_259 rfl ?_
  refine ae_iadd dX12_show_260 ?_
  obtain ⟨hg15, hF16⟩ := ae_gdI hF14
  refine ae_iald (q := (44, 0)) dX12_show_261 rfl rfl (ae_ibI hg15) ?_
  obtain ⟨r17, s18, hc19, hF20⟩ := ae_bdI hF16
  refine ae_cV0 (q := (30, 0)) (As := [ae_i (s12.1 44 0 (((8 : Int32) * v1) + v3).toNatClampNeg)]) dX12_show_262 ww_1908 vy_X12_saysNumber rfl rfl rfl rfl rfl (Nat.le_of_ble_eq_true rfl) (c_X12_saysNumber (d + 4) hc19) ?_
  refine ae_aload_n 0 dX12_show_265 rfl ?_
  refine ae_bipush (45 : Int32) dX12_show_266 (by decide) ?_
  obtain ⟨r21, s22, hc23, hF24⟩ := ae_bdI hF20
  refine ae_cV0 (q := (30, 0)) (As := [ae_i (45 : Int32)]) dX12_show_268 ww_1893 vy_X12_saysByte rfl rfl rfl rfl rfl (Nat.le_of_ble_eq_true rfl) (c_X12_saysByte (d + 5) hc23) ?_
  refine ae_aload_n 0 dX12_show_271 rfl ?_
  refine ae_aload_n 0 dX12_show_272 rfl ?_
  refine ae_getA (q := (30, 0)) (some (45, 0)) dX12_show_273 fl_RX12_56 rfl rfl rfl ?_
  refine ae_bipush (8 : Int32) dX12_show_276 (by decide) ?_
  refine ae_iload_n 1 dX12_show_278 rfl ?_
  refine ae_imul dX12_show_279 ?_
  refine ae_iload_n 2 dX12_show_280 rfl ?_
  refine ae_iadd dX12_show_281 ?_
  obtain ⟨hg25, hF26⟩ := ae_gdI hF24
  refine ae_iald (q := (45, 0)) dX12_show_282 rfl rfl (ae_ibI hg25) ?_
  obtain ⟨r27, s28, hc29, hF30⟩ := ae_bdI hF26
  refine ae_cV0 (q := (30, 0)) (As := [ae_i (s22.1 45 0 (((8 : Int32) * v1) + v3).toNatClampNeg)]) dX12_show_283 ww_1908 vy_X12_saysNumber rfl rfl rfl rfl rfl (Nat.le_of_ble_eq_true rfl) (c_X12_saysNumber (d + 4) hc29) ?_
  obtain ⟨x31, hx31, hF32⟩ := ae_ltI hF30
  refine ae_iinc (lv' := [(3, ae_i x31), (0, ae_r (some (30, 0))), (1, ae_i v1)]) 2 (1 : Int32) dX12_show_286 rfl (by decide) (by decide) (by rw [hx31]; rfl) ?_
  refine ae_goto 204 dX12_show_289 rfl ?_
  refine ae_pick (lv' := [(0, ae_r (some (30, 0))), (1, ae_i v1), (3, ae_i x31)]) [1, 2, 0] rfl ?_
  exact hk204 v1 x31 s28 hF32
def F_X12_show_204 : Nat → Int32 → Int32 → ae_S → Option (Int32 × ae_S)
  | 0, _, _, _ => none
  | n + 1, v1, v3, s0 => ae_gd (ae_ib v1 32) (if (s0.1 42 0 v1.toNatClampNeg) ≤ v3 then (ae_gd (ae_ib v1 32) (if (s0.1 42 0 v1.toNatClampNeg) ≤ 0 then (F_X12_show_307 s0) else (ae_bd (F_X12_saysByte (125 : Int32) s0) (fun (r41 : Unit) s42 => F_X12_show_307 s42)))) else (if v3 = 0 then (F_X12_show_226 (F_X12_show_204 n) v1 v3 (123 : Int32) s0) else (F_X12_show_226 (F_X12_show_204 n) v1 v3 (44 : Int32) s0)))
set_option maxHeartbeats 4000000 in
set_option maxRecDepth 100000 in
theorem t_X12_show_204 {l : Launch} {G : ae_G} (d : Nat) {rr : Int32} {ss : ae_S} : ∀ (n : Nat) (v1 : Int32) (v3 : Int32) (s0 : ae_S), F_X12_show_204 n v1 v3 s0 = some (rr, ss) → ae_T l G (d + 6) mX12_show (ae_Po (some (ae_i rr)) ss) 204 [(0, ae_r (some (30, 0))), (1, ae_i v1), (3, ae_i v3)] [] s0 := by
  intro n
  induction n with
  | zero =>
    intro v1 v3 s0 hF
    exact absurd (show (none : Option (Int32 × ae_S)) = some (rr, ss) from hF) (by simp)
  | succ n ih =>
    intro v1 v3 s0 hF
    unfold F_X12_show_204 at hF
    refine ae_iload_n 2 dX12_show_204 rfl ?_
    refine ae_aload_n 0 dX12_show_205 rfl ?_
    refine ae_getA (q := (30, 0)) (some (42, 0)) dX12_show_206 fl_RX12_47 rfl rfl rfl ?_
    refine ae_iload_n 1 dX12_show_209 rfl ?_
    obtain ⟨hg33, hF34⟩ := ae_gdI hF
    refine ae_iald (q := (42, 0)) dX12_show_210 rfl rfl (ae_ibI hg33) ?_
    refine ae_icmp_ge 292 dX12_show_211 rfl (fun hb35 => ?_) (fun hb35 => ?_)
    · have hF36 := ae_ifT hb35 hF34
      refine ae_aload_n 0 dX12_show_292 rfl ?_
      refine ae_getA (q := (30, 0)) (some (42, 0)) dX12_show_293 fl_RX12_47 rfl rfl rfl ?_
      refine ae_iload_n 1 dX12_show_296 rfl ?_
      obtain ⟨hg37, hF38⟩ := ae_gdI hF36
      refine ae_iald (q := (42, 0)) dX12_show_297 rfl rfl (ae_ibI hg37) ?_
      refine ae_if_le 307 dX12_show_298 rfl (fun hb39 => ?_) (fun hb39 => ?_)
      · have hF40 := ae_ifT hb39 hF38
        refine ae_pick (lv' := [(0, ae_r (some (30, 0)))]) [0] rfl ?_
        exact t_X12_show_307 d s0 hF40
      · have hF40 := ae_ifF hb39 hF38
        refine ae_aload_n 0 dX12_show_301 rfl ?_
        refine ae_bipush (125 : Int32) dX12_show_302 (by decide) ?_
        obtain ⟨r41, s42, hc43, hF44⟩ := ae_bdI hF40
        refine ae_cV0 (q := (30, 0)) (As := [ae_i (125 : Int32)]) dX12_show_304 ww_1893 vy_X12_saysByte rfl rfl rfl rfl rfl (Nat.le_of_ble_eq_true rfl) (c_X12_saysByte (d + 5) hc43) ?_
        refine ae_pick (lv' := [(0, ae_r (some (30, 0)))]) [0] rfl ?_
        exact t_X12_show_307 d s42 hF44
    · have hF36 := ae_ifF hb35 hF34
      refine ae_aload_n 0 dX12_show_214 rfl ?_
      refine ae_iload_n 2 dX12_show_215 rfl ?_
      refine ae_if_ne 224 dX12_show_216 rfl (fun hb45 => ?_) (fun hb45 => ?_)
      · have hF46 := ae_ifF hb45 hF36
        refine ae_bipush (44 : Int32) dX12_show_224 (by decide) ?_
        refine ae_pick (lv' := [(0, ae_r (some (30, 0))), (1, ae_i v1), (3, ae_i v3)]) [0, 1, 2] rfl ?_
        exact t_X12_show_226 d (F_X12_show_204 n) ih v1 v3 (44 : Int32) s0 hF46
      · have hF46 := ae_ifT hb45 hF36
        refine ae_bipush (123 : Int32) dX12_show_219 (by decide) ?_
        refine ae_goto 226 dX12_show_221 rfl ?_
        refine ae_pick (lv' := [(0, ae_r (some (30, 0))), (1, ae_i v1), (3, ae_i v3)]) [0, 1, 2] rfl ?_
        exact t_X12_show_226 d (F_X12_show_204 n) ih v1 v3 (123 : Int32) s0 hF46
def F_X12_show_202 (v1 : Int32) (s0 : ae_S) : Option (Int32 × ae_S) := F_X12_show_204 ae_fu v1 (0 : Int32) s0
set_option maxHeartbeats 4000000 in
set_option maxRecDepth 100000 in
theorem t_X12_show_202 {l : Launch} {G : ae_G} (d : Nat) {rr : Int32} {ss : ae_S} (v1 : Int32) (s0 : ae_S) (hF : F_X12_show_202 v1 s0 = some (rr, ss)) : ae_T l G (d + 6) mX12_show (ae_Po (some (ae_i rr)) ss) 202 [(0, ae_r (some (30, 0))), (1, ae_i v1)] [] s0 := by
  unfold F_X12_show_202 at hF
  refine ae_iconst (0 : Int32) dX12_show_202 (by decide) ?_
  refine ae_istore_n (lv' := [(3, ae_i (0 : Int32)), (0, ae_r (some (30, 0))), (1, ae_i v1)]) dX12_show_203 (by decide) rfl ?_
  refine ae_pick (lv' := [(0, ae_r (some (30, 0))), (1, ae_i v1), (3, ae_i (0 : Int32))]) [1, 2, 0] rfl ?_
  exact t_X12_show_204 d ae_fu v1 (0 : Int32) s0 hF
def F_X12_show_185 (v1 : Int32) (s0 : ae_S) : Option (Int32 × ae_S) := ae_gd (ae_ib v1 32) (if (s0.1 41 0 v1.toNatClampNeg) = (3 : Int32) then (ae_bd (F_X12_says (15 : Fin 32) s0) (fun (r51 : Unit) s52 => F_X12_show_202 v1 s52)) else (F_X12_show_202 v1 s0))
set_option maxHeartbeats 4000000 in
set_option maxRecDepth 100000 in
theorem t_X12_show_185 {l : Launch} {G : ae_G} (d : Nat) {rr : Int32} {ss : ae_S} (v1 : Int32) (s0 : ae_S) (hF : F_X12_show_185 v1 s0 = some (rr, ss)) : ae_T l G (d + 6) mX12_show (ae_Po (some (ae_i rr)) ss) 185 [(0, ae_r (some (30, 0))), (1, ae_i v1)] [] s0 := by
  unfold F_X12_show_185 at hF
  refine ae_aload_n 0 dX12_show_185 rfl ?_
  refine ae_getA (q := (30, 0)) (some (41, 0)) dX12_show_186 fl_RX12_44 rfl rfl rfl ?_
  refine ae_iload_n 1 dX12_show_189 rfl ?_
  obtain ⟨hg47, hF48⟩ := ae_gdI hF
  refine ae_iald (q := (41, 0)) dX12_show_190 rfl rfl (ae_ibI hg47) ?_
  refine ae_iconst (3 : Int32) dX12_show_191 (by decide) ?_
  refine ae_icmp_ne 202 dX12_show_192 rfl (fun hb49 => ?_) (fun hb49 => ?_)
  · have hF50 := ae_ifF hb49 hF48
    refine ae_pick (lv' := [(0, ae_r (some (30, 0))), (1, ae_i v1)]) [0, 1] rfl ?_
    exact t_X12_show_202 d v1 s0 hF50
  · have hF50 := ae_ifT hb49 hF48
    refine ae_aload_n 0 dX12_show_195 rfl ?_
    refine ae_ldcSW (i := 15) (tx := " reads") 52 dX12_show_196 rfl ?_
    obtain ⟨r51, s52, hc53, hF54⟩ := ae_bdI hF50
    refine ae_cV0 (q := (30, 0)) (As := [ae_r (some (62, 15))]) dX12_show_199 ww_1904 vy_X12_says rfl rfl rfl rfl rfl (Nat.le_of_ble_eq_true rfl) (c_X12_says (d + 1) hc53) ?_
    refine ae_pick (lv' := [(0, ae_r (some (30, 0))), (1, ae_i v1)]) [0, 1] rfl ?_
    exact t_X12_show_202 d v1 s52 hF54
def F_X12_show_168 (v1 : Int32) (s0 : ae_S) : Option (Int32 × ae_S) := ae_gd (ae_ib v1 32) (if (s0.1 41 0 v1.toNatClampNeg) = (2 : Int32) then (ae_bd (F_X12_says (14 : Fin 32) s0) (fun (r59 : Unit) s60 => F_X12_show_185 v1 s60)) else (F_X12_show_185 v1 s0))
set_option maxHeartbeats 4000000 in
set_option maxRecDepth 100000 in
theorem t_X12_show_168 {l : Launch} {G : ae_G} (d : Nat) {rr : Int32} {ss : ae_S} (v1 : Int32) (s0 : ae_S) (hF : F_X12_show_168 v1 s0 = some (rr, ss)) : ae_T l G (d + 6) mX12_show (ae_Po (some (ae_i rr)) ss) 168 [(0, ae_r (some (30, 0))), (1, ae_i v1)] [] s0 := by
  unfold F_X12_show_168 at hF
  refine ae_aload_n 0 dX12_show_168 rfl ?_
  refine ae_getA (q := (30, 0)) (some (41, 0)) dX12_show_169 fl_RX12_44 rfl rfl rfl ?_
  refine ae_iload_n 1 dX12_show_172 rfl ?_
  obtain ⟨hg55, hF56⟩ := ae_gdI hF
  refine ae_iald (q := (41, 0)) dX12_show_173 rfl rfl (ae_ibI hg55) ?_
  refine ae_iconst (2 : Int32) dX12_show_174 (by decide) ?_
  refine ae_icmp_ne 185 dX12_show_175 rfl (fun hb57 => ?_) (fun hb57 => ?_)
  · have hF58 := ae_ifF hb57 hF56
    refine ae_pick (lv' := [(0, ae_r (some (30, 0))), (1, ae_i v1)]) [0, 1] rfl ?_
    exact t_X12_show_185 d v1 s0 hF58
  · have hF58 := ae_ifT hb57 hF56
    refine ae_aload_n 0 dX12_show_178 rfl ?_
    refine ae_ldcSW (i := 14) (tx := " ones") 51 dX12_show_179 rfl ?_
    obtain ⟨r59, s60, hc61, hF62⟩ := ae_bdI hF58
    refine ae_cV0 (q := (30, 0)) (As := [ae_r (some (62, 14))]) dX12_show_182 ww_1904 vy_X12_says rfl rfl rfl rfl rfl (Nat.le_of_ble_eq_true rfl) (c_X12_says (d + 1) hc61) ?_
    refine ae_pick (lv' := [(0, ae_r (some (30, 0))), (1, ae_i v1)]) [0, 1] rfl ?_
    exact t_X12_show_185 d v1 s60 hF62
def F_X12_show_151 (v1 : Int32) (s0 : ae_S) : Option (Int32 × ae_S) := ae_gd (ae_ib v1 32) (if (s0.1 41 0 v1.toNatClampNeg) = (1 : Int32) then (ae_bd (F_X12_says (13 : Fin 32) s0) (fun (r67 : Unit) s68 => F_X12_show_168 v1 s68)) else (F_X12_show_168 v1 s0))
set_option maxHeartbeats 4000000 in
set_option maxRecDepth 100000 in
theorem t_X12_show_151 {l : Launch} {G : ae_G} (d : Nat) {rr : Int32} {ss : ae_S} (v1 : Int32) (s0 : ae_S) (hF : F_X12_show_151 v1 s0 = some (rr, ss)) : ae_T l G (d + 6) mX12_show (ae_Po (some (ae_i rr)) ss) 151 [(0, ae_r (some (30, 0))), (1, ae_i v1)] [] s0 := by
  unfold F_X12_show_151 at hF
  refine ae_aload_n 0 dX12_show_151 rfl ?_
  refine ae_getA (q := (30, 0)) (some (41, 0)) dX12_show_152 fl_RX12_44 rfl rfl rfl ?_
  refine ae_iload_n 1 dX12_show_155 rfl ?_
  obtain ⟨hg63, hF64⟩ := ae_gdI hF
  refine ae_iald (q := (41, 0)) dX12_show_156 rfl rfl (ae_ibI hg63) ?_
  refine ae_iconst (1 : Int32) dX12_show_157 (by decide) ?_
  refine ae_icmp_ne 168 dX12_show_158 rfl (fun hb65 => ?_) (fun hb65 => ?_)
  · have hF66 := ae_ifF hb65 hF64
    refine ae_pick (lv' := [(0, ae_r (some (30, 0))), (1, ae_i v1)]) [0, 1] rfl ?_
    exact t_X12_show_168 d v1 s0 hF66
  · have hF66 := ae_ifT hb65 hF64
    refine ae_aload_n 0 dX12_show_161 rfl ?_
    refine ae_ldcSW (i := 13) (tx := " ro") 50 dX12_show_162 rfl ?_
    obtain ⟨r67, s68, hc69, hF70⟩ := ae_bdI hF66
    refine ae_cV0 (q := (30, 0)) (As := [ae_r (some (62, 13))]) dX12_show_165 ww_1904 vy_X12_says rfl rfl rfl rfl rfl (Nat.le_of_ble_eq_true rfl) (c_X12_says (d + 1) hc69) ?_
    refine ae_pick (lv' := [(0, ae_r (some (30, 0))), (1, ae_i v1)]) [0, 1] rfl ?_
    exact t_X12_show_168 d v1 s68 hF70
def F_X12_show_130 (v1 : Int32) (v2 : Int32) (s0 : ae_S) : Option (Int32 × ae_S) := if v2 = 0 then (F_X12_show_151 v1 s0) else (ae_bd (F_X12_says (12 : Fin 32) s0) (fun (r73 : Unit) s74 => ae_gd (ae_ib v1 32) (ae_bd (F_X12_saysNumber (s74.1 40 0 v1.toNatClampNeg) s74) (fun (r79 : Unit) s80 => F_X12_show_151 v1 s80))))
set_option maxHeartbeats 4000000 in
set_option maxRecDepth 100000 in
theorem t_X12_show_130 {l : Launch} {G : ae_G} (d : Nat) {rr : Int32} {ss : ae_S} (v1 : Int32) (v2 : Int32) (s0 : ae_S) (hF : F_X12_show_130 v1 v2 s0 = some (rr, ss)) : ae_T l G (d + 6) mX12_show (ae_Po (some (ae_i rr)) ss) 130 [(0, ae_r (some (30, 0))), (1, ae_i v1), (2, ae_i v2)] [] s0 := by
  unfold F_X12_show_130 at hF
  refine ae_iload_n 2 dX12_show_130 rfl ?_
  refine ae_if_eq 151 dX12_show_131 rfl (fun hb71 => ?_) (fun hb71 => ?_)
  · have hF72 := ae_ifT hb71 hF
    refine ae_pick (lv' := [(0, ae_r (some (30, 0))), (1, ae_i v1)]) [0, 1] rfl ?_
    exact t_X12_show_151 d v1 s0 hF72
  · have hF72 := ae_ifF hb71 hF
    refine ae_aload_n 0 dX12_show_134 rfl ?_
    refine ae_ldcSW (i := 12) (tx := " by ") 49 dX12_show_135 rfl ?_
    obtain ⟨r73, s74, hc75, hF76⟩ := ae_bdI hF72
    refine ae_cV0 (q := (30, 0)) (As := [ae_r (some (62, 12))]) dX12_show_138 ww_1904 vy_X12_says rfl rfl rfl rfl rfl (Nat.le_of_ble_eq_true rfl) (c_X12_says (d + 1) hc75) ?_
    refine ae_aload_n 0 dX12_show_141 rfl ?_
    refine ae_aload_n 0 dX12_show_142 rfl ?_
    refine ae_getA (q := (30, 0)) (some (40, 0)) dX12_show_143 fl_RX12_41 rfl rfl rfl ?_
    refine ae_iload_n 1 dX12_show_146 rfl ?_
    obtain ⟨hg77, hF78⟩ := ae_gdI hF76
    refine ae_iald (q := (40, 0)) dX12_show_147 rfl rfl (ae_ibI hg77) ?_
    obtain ⟨r79, s80, hc81, hF82⟩ := ae_bdI hF78
    refine ae_cV0 (q := (30, 0)) (As := [ae_i (s74.1 40 0 v1.toNatClampNeg)]) dX12_show_148 ww_1908 vy_X12_saysNumber rfl rfl rfl rfl rfl (Nat.le_of_ble_eq_true rfl) (c_X12_saysNumber (d + 4) hc81) ?_
    refine ae_pick (lv' := [(0, ae_r (some (30, 0))), (1, ae_i v1)]) [0, 1] rfl ?_
    exact t_X12_show_151 d v1 s80 hF82
def F_X12_show_113 (v1 : Int32) (v2 : Int32) (s0 : ae_S) : Option (Int32 × ae_S) := ae_bd (F_X12_says (11 : Fin 32) s0) (fun (r83 : Unit) s84 => ae_gd (ae_ib v1 32) (ae_bd (F_X12_saysNumber (s84.1 39 0 v1.toNatClampNeg) s84) (fun (r89 : Unit) s90 => F_X12_show_130 v1 v2 s90)))
set_option maxHeartbeats 4000000 in
set_option maxRecDepth 100000 in
theorem t_X12_show_113 {l : Launch} {G : ae_G} (d : Nat) {rr : Int32} {ss : ae_S} (v1 : Int32) (v2 : Int32) (s0 : ae_S) (hF : F_X12_show_113 v1 v2 s0 = some (rr, ss)) : ae_T l G (d + 6) mX12_show (ae_Po (some (ae_i rr)) ss) 113 [(0, ae_r (some (30, 0))), (1, ae_i v1), (2, ae_i v2)] [] s0 := by
  unfold F_X12_show_113 at hF
  refine ae_aload_n 0 dX12_show_113 rfl ?_
  refine ae_ldcSW (i := 11) (tx := " x ") 48 dX12_show_114 rfl ?_
  obtain ⟨r83, s84, hc85, hF86⟩ := ae_bdI hF
  refine ae_cV0 (q := (30, 0)) (As := [ae_r (some (62, 11))]) dX12_show_117 ww_1904 vy_X12_says rfl rfl rfl rfl rfl (Nat.le_of_ble_eq_true rfl) (c_X12_says (d + 1) hc85) ?_
  refine ae_aload_n 0 dX12_show_120 rfl ?_
  refine ae_aload_n 0 dX12_show_121 rfl ?_
  refine ae_getA (q := (30, 0)) (some (39, 0)) dX12_show_122 fl_RX12_38 rfl rfl rfl ?_
  refine ae_iload_n 1 dX12_show_125 rfl ?_
  obtain ⟨hg87, hF88⟩ := ae_gdI hF86
  refine ae_iald (q := (39, 0)) dX12_show_126 rfl rfl (ae_ibI hg87) ?_
  obtain ⟨r89, s90, hc91, hF92⟩ := ae_bdI hF88
  refine ae_cV0 (q := (30, 0)) (As := [ae_i (s84.1 39 0 v1.toNatClampNeg)]) dX12_show_127 ww_1908 vy_X12_saysNumber rfl rfl rfl rfl rfl (Nat.le_of_ble_eq_true rfl) (c_X12_saysNumber (d + 4) hc91) ?_
  refine ae_pick (lv' := [(0, ae_r (some (30, 0))), (1, ae_i v1), (2, ae_i v2)]) [0, 1, 2] rfl ?_
  exact t_X12_show_130 d v1 v2 s90 hF92
def F_X12_show_98 (v1 : Int32) (t0 : Int32) (s0 : ae_S) : Option (Int32 × ae_S) := ae_gd (ae_ib v1 32) (if (1 : Int32) < (s0.1 39 0 v1.toNatClampNeg) then (F_X12_show_113 v1 t0 s0) else (if t0 = 0 then (F_X12_show_130 v1 t0 s0) else (F_X12_show_113 v1 t0 s0)))
set_option maxHeartbeats 4000000 in
set_option maxRecDepth 100000 in
theorem t_X12_show_98 {l : Launch} {G : ae_G} (d : Nat) {rr : Int32} {ss : ae_S} (v1 : Int32) (t0 : Int32) (s0 : ae_S) (hF : F_X12_show_98 v1 t0 s0 = some (rr, ss)) : ae_T l G (d + 6) mX12_show (ae_Po (some (ae_i rr)) ss) 98 [(0, ae_r (some (30, 0))), (1, ae_i v1)] [ae_i t0] s0 := by
  unfold F_X12_show_98 at hF
  refine ae_istore_n (lv' := [(2, ae_i t0), (0, ae_r (some (30, 0))), (1, ae_i v1)]) dX12_show_98 (by decide) rfl ?_
  refine ae_aload_n 1 dX12_show_99 rfl ?_
  refine ae_getA (q := (30, 0)) (some (39, 0)) dX12_show_100 fl_RX12_38 rfl rfl rfl ?_
  refine ae_iload_n 2 dX12_show_103 rfl ?_
  obtain ⟨hg93, hF94⟩ := ae_gdI hF
  refine ae_iald (q := (39, 0)) dX12_show_104 rfl rfl (ae_ibI hg93) ?_
  refine ae_iconst (1 : Int32) dX12_show_105 (by decide) ?_
  refine ae_icmp_gt 113 dX12_show_106 rfl (fun hb95 => ?_) (fun hb95 => ?_)
  · have hF96 := ae_ifT hb95 hF94
    refine ae_pick (lv' := [(0, ae_r (some (30, 0))), (1, ae_i v1), (2, ae_i t0)]) [1, 2, 0] rfl ?_
    exact t_X12_show_113 d v1 t0 s0 hF96
  · have hF96 := ae_ifF hb95 hF94
    refine ae_iload_n 0 dX12_show_109 rfl ?_
    refine ae_if_eq 130 dX12_show_110 rfl (fun hb97 => ?_) (fun hb97 => ?_)
    · have hF98 := ae_ifT hb97 hF96
      refine ae_pick (lv' := [(0, ae_r (some (30, 0))), (1, ae_i v1), (2, ae_i t0)]) [1, 2, 0] rfl ?_
      exact t_X12_show_130 d v1 t0 s0 hF98
    · have hF98 := ae_ifF hb97 hF96
      refine ae_pick (lv' := [(0, ae_r (some (30, 0))), (1, ae_i v1), (2, ae_i t0)]) [1, 2, 0] rfl ?_
      exact t_X12_show_113 d v1 t0 s0 hF98
def F_X12_show_58 (v1 : Int32) (s0 : ae_S) : Option (Int32 × ae_S) := ae_bd (F_X12_says (10 : Fin 32) s0) (fun (r99 : Unit) s100 => ae_gd (ae_ib v1 32) (ae_bd (F_X12_saysNumber (s100.1 38 0 v1.toNatClampNeg) s100) (fun (r105 : Unit) s106 => ae_gd (ae_ib v1 32) (ae_gd (ae_ib v1 32) (ae_bd (F_X12_bytesOf (s106.1 36 0 v1.toNatClampNeg) s106) (fun (r113 : Int32) s114 => if (s106.1 40 0 v1.toNatClampNeg) = r113 then (F_X12_show_98 v1 (0 : Int32) s114) else (F_X12_show_98 v1 (1 : Int32) s114)))))))
set_option maxHeartbeats 4000000 in
set_option maxRecDepth 100000 in
theorem t_X12_show_58 {l : Launch} {G : ae_G} (d : Nat) {rr : Int32} {ss : ae_S} (v1 : Int32) (s0 : ae_S) (hF : F_X12_show_58 v1 s0 = some (rr, ss)) : ae_T l G (d + 6) mX12_show (ae_Po (some (ae_i rr)) ss) 58 [(0, ae_r (some (30, 0))), (1, ae_i v1)] [] s0 := by
  unfold F_X12_show_58 at hF
  refine ae_aload_n 0 dX12_show_58 rfl ?_
  refine ae_ldcSW (i := 10) (tx := " at ") 47 dX12_show_59 rfl ?_
  obtain ⟨r99, s100, hc101, hF102⟩ := ae_bdI hF
  refine ae_cV0 (q := (30, 0)) (As := [ae_r (some (62, 10))]) dX12_show_62 ww_1904 vy_X12_says rfl rfl rfl rfl rfl (Nat.le_of_ble_eq_true rfl) (c_X12_says (d + 1) hc101) ?_
  refine ae_aload_n 0 dX12_show_65 rfl ?_
  refine ae_aload_n 0 dX12_show_66 rfl ?_
  refine ae_getA (q := (30, 0)) (some (38, 0)) dX12_show_67 fl_RX12_35 rfl rfl rfl ?_
  refine ae_iload_n 1 dX12_show_70 rfl ?_
  obtain ⟨hg103, hF104⟩ := ae_gdI hF102
  refine ae_iald (q := (38, 0)) dX12_show_71 rfl rfl (ae_ibI hg103) ?_
  obtain ⟨r105, s106, hc107, hF108⟩ := ae_bdI hF104
  refine ae_cV0 (q := (30, 0)) (As := [ae_i (s100.1 38 0 v1.toNatClampNeg)]) dX12_show_72 ww_1908 vy_X12_saysNumber rfl rfl rfl rfl rfl (Nat.le_of_ble_eq_true rfl) (c_X12_saysNumber (d + 4) hc107) ?_
  refine ae_aload_n 0 dX12_show_75 rfl ?_
  refine ae_getA (q := (30, 0)) (some (40, 0)) dX12_show_76 fl_RX12_41 rfl rfl rfl ?_
  refine ae_iload_n 1 dX12_show_79 rfl ?_
  obtain ⟨hg109, hF110⟩ := ae_gdI hF108
  refine ae_iald (q := (40, 0)) dX12_show_80 rfl rfl (ae_ibI hg109) ?_
  refine ae_aload_n 0 dX12_show_81 rfl ?_
  refine ae_getA (q := (30, 0)) (some (36, 0)) dX12_show_82 fl_RX12_29 rfl rfl rfl ?_
  refine ae_iload_n 1 dX12_show_85 rfl ?_
  obtain ⟨hg111, hF112⟩ := ae_gdI hF110
  refine ae_iald (q := (36, 0)) dX12_show_86 rfl rfl (ae_ibI hg111) ?_
  obtain ⟨r113, s114, hc115, hF116⟩ := ae_bdI hF112
  refine ae_cS1 (As := [ae_i (s106.1 36 0 v1.toNatClampNeg)]) dX12_show_87 ww_1590 vy_X12_bytesOf rfl rfl (Nat.le_of_ble_eq_true rfl) (c_X12_bytesOf (d + 5) hc115) ?_
  refine ae_icmp_eq 97 dX12_show_90 rfl (fun hb117 => ?_) (fun hb117 => ?_)
  · have hF118 := ae_ifT hb117 hF116
    refine ae_iconst (0 : Int32) dX12_show_97 (by decide) ?_
    refine ae_pick (lv' := [(0, ae_r (some (30, 0))), (1, ae_i v1)]) [0, 1] rfl ?_
    exact t_X12_show_98 d v1 (0 : Int32) s114 hF118
  · have hF118 := ae_ifF hb117 hF116
    refine ae_iconst (1 : Int32) dX12_show_93 (by decide) ?_
    refine ae_goto 98 dX12_show_94 rfl ?_
    refine ae_pick (lv' := [(0, ae_r (some (30, 0))), (1, ae_i v1)]) [0, 1] rfl ?_
    exact t_X12_show_98 d v1 (1 : Int32) s114 hF118
def F_X12_show (v1 : Int32) (s0 : ae_S) : Option (Int32 × ae_S) := ae_bd (F_X12_isView v1 s0) (fun (r119 : Int32) s120 => if r119 = 0 then (some ((-1 : Int32), s120)) else (ae_lt (ae_wI s120 30 0 51 (0 : Int32)) (fun s125 => ae_gd (ae_ib v1 32) (ae_bd (F_X12_saysName (s125.2.1 35 0 v1.toNatClampNeg) s125) (fun (r129 : Unit) s130 => ae_bd (F_X12_saysByte (32 : Int32) s130) (fun (r133 : Unit) s134 => ae_gd (ae_ib v1 32) (ae_bd (F_X12_saysKind (s134.1 36 0 v1.toNatClampNeg) s134) (fun (r139 : Unit) s140 => ae_gd (ae_ib v1 32) (if (s140.1 37 0 v1.toNatClampNeg) = (1 : Int32) then (ae_bd (F_X12_says (9 : Fin 32) s140) (fun (r147 : Unit) s148 => F_X12_show_58 v1 s148)) else (F_X12_show_58 v1 s140))))))))))
set_option maxHeartbeats 4000000 in
set_option maxRecDepth 100000 in
theorem c_X12_show {l : Launch} {G : ae_G} (d : Nat) {v1 : Int32} {s0 ss : ae_S} {rr : Int32} (hF : F_X12_show v1 s0 = some (rr, ss)) : ae_Met l G (d + 6) yX12_show mX12_show [ae_r (some (30, 0)), ae_i v1] s0 (ae_Po (some (ae_i rr)) ss) := by
  refine ae_enter (by decide) rfl (Nat.le_of_ble_eq_true rfl) ?_
  show ae_T l G (d + 6) mX12_show (ae_Po (some (ae_i rr)) ss) 0 [(0, ae_r (some (30, 0))), (1, ae_i v1)] [] s0
  unfold F_X12_show at hF
  refine ae_aload_n 0 dX12_show_0 rfl ?_
  refine ae_iload_n 1 dX12_show_1 rfl ?_
  obtain ⟨r119, s120, hc121, hF122⟩ := ae_bdI hF
  refine ae_cV1 (q := (30, 0)) (As := [ae_i v1]) dX12_show_2 ww_1635 vy_X12_isView rfl rfl rfl rfl rfl (Nat.le_of_ble_eq_true rfl) (c_X12_isView (d + 4) hc121) ?_
  refine ae_if_ne 10 dX12_show_5 rfl (fun hb123 => ?_) (fun hb123 => ?_)
  · have hF124 := ae_ifF hb123 hF122
    refine ae_aload_n 0 dX12_show_10 rfl ?_
    refine ae_iconst (0 : Int32) dX12_show_11 (by decide) ?_
    obtain ⟨s125, hs125, hF126⟩ := ae_ltI hF124
    refine ae_putI (q := (30, 0)) dX12_show_12 fl_RX12_494 rfl rfl (ae_nmS hs125 ?_)
    refine ae_aload_n 0 dX12_show_15 rfl ?_
    refine ae_aload_n 0 dX12_show_16 rfl ?_
    refine ae_getA (q := (30, 0)) (some (35, 0)) dX12_show_17 fl_RX12_25 rfl rfl rfl ?_
    refine ae_iload_n 1 dX12_show_20 rfl ?_
    obtain ⟨hg127, hF128⟩ := ae_gdI hF126
    refine ae_lald (q := (35, 0)) dX12_show_21 rfl rfl (ae_ibI hg127) ?_
    obtain ⟨r129, s130, hc131, hF132⟩ := ae_bdI hF128
    refine ae_cV0 (q := (30, 0)) (As := [ae_l (s125.2.1 35 0 v1.toNatClampNeg)]) dX12_show_22 ww_1889 vy_X12_saysName rfl rfl rfl rfl rfl (Nat.le_of_ble_eq_true rfl) (c_X12_saysName (d + 4) hc131) ?_
    refine ae_aload_n 0 dX12_show_25 rfl ?_
    refine ae_bipush (32 : Int32) dX12_show_26 (by decide) ?_
    obtain ⟨r133, s134, hc135, hF136⟩ := ae_bdI hF132
    refine ae_cV0 (q := (30, 0)) (As := [ae_i (32 : Int32)]) dX12_show_28 ww_1893 vy_X12_saysByte rfl rfl rfl rfl rfl (Nat.le_of_ble_eq_true rfl) (c_X12_saysByte (d + 5) hc135) ?_
    refine ae_aload_n 0 dX12_show_31 rfl ?_
    refine ae_aload_n 0 dX12_show_32 rfl ?_
    refine ae_getA (q := (30, 0)) (some (36, 0)) dX12_show_33 fl_RX12_29 rfl rfl rfl ?_
    refine ae_iload_n 1 dX12_show_36 rfl ?_
    obtain ⟨hg137, hF138⟩ := ae_gdI hF136
    refine ae_iald (q := (36, 0)) dX12_show_37 rfl rfl (ae_ibI hg137) ?_
    obtain ⟨r139, s140, hc141, hF142⟩ := ae_bdI hF138
    refine ae_cV0 (q := (30, 0)) (As := [ae_i (s134.1 36 0 v1.toNatClampNeg)]) dX12_show_38 ww_1897 vy_X12_saysKind rfl rfl rfl rfl rfl (Nat.le_of_ble_eq_true rfl) (c_X12_saysKind d hc141) ?_
    refine ae_aload_n 0 dX12_show_41 rfl ?_
    refine ae_getA (q := (30, 0)) (some (37, 0)) dX12_show_42 fl_RX12_32 rfl rfl rfl ?_
    refine ae_iload_n 1 dX12_show_45 rfl ?_
    obtain ⟨hg143, hF144⟩ := ae_gdI hF142
    refine ae_iald (q := (37, 0)) dX12_show_46 rfl rfl (ae_ibI hg143) ?_
    refine ae_iconst (1 : Int32) dX12_show_47 (by decide) ?_
    refine ae_icmp_ne 58 dX12_show_48 rfl (fun hb145 => ?_) (fun hb145 => ?_)
    · have hF146 := ae_ifF hb145 hF144
      refine ae_pick (lv' := [(0, ae_r (some (30, 0))), (1, ae_i v1)]) [0, 1] rfl ?_
      exact t_X12_show_58 d v1 s140 hF146
    · have hF146 := ae_ifT hb145 hF144
      refine ae_aload_n 0 dX12_show_51 rfl ?_
      refine ae_ldcSW (i := 9) (tx := " big") 46 dX12_show_52 rfl ?_
      obtain ⟨r147, s148, hc149, hF150⟩ := ae_bdI hF146
      refine ae_cV0 (q := (30, 0)) (As := [ae_r (some (62, 9))]) dX12_show_55 ww_1904 vy_X12_says rfl rfl rfl rfl rfl (Nat.le_of_ble_eq_true rfl) (c_X12_says (d + 1) hc149) ?_
      refine ae_pick (lv' := [(0, ae_r (some (30, 0))), (1, ae_i v1)]) [0, 1] rfl ?_
      exact t_X12_show_58 d v1 s148 hF150
  · have hF124 := ae_ifT hb123 hF122
    refine ae_iconst (-1 : Int32) dX12_show_8 (by decide) ?_
    obtain ⟨rfl, rfl⟩ := ae_retI hF124
    exact ae_iret dX12_show_9 rfl rfl ⟨rfl, rfl⟩
abbrev mX12_out : ae_M := (RX12, cX12_out, 2, some .int)
theorem vy_X12_out : ae_VY yX12_out mX12_out 1 := ⟨ww_1920, ww_1921, ww_13, ww_1922, ⟨by decide, by decide, by decide +kernel⟩, by decide⟩
theorem dX12_out_0 : decode cX12_out 0 = .ok (.iload_n 1, 1) := by decide +kernel
theorem dX12_out_1 : decode cX12_out 1 = .ok (.i2l, 1) := by decide +kernel
theorem dX12_out_2 : decode cX12_out 2 = .ok (.lconst 0, 1) := by decide +kernel
theorem dX12_out_3 : decode cX12_out 3 = .ok (.aload_n 0, 1) := by decide +kernel
theorem dX12_out_4 : decode cX12_out 4 = .ok (.getfield 494, 3) := by decide +kernel
theorem dX12_out_7 : decode cX12_out 7 = .ok (.iconst 1, 1) := by decide +kernel
theorem dX12_out_8 : decode cX12_out 8 = .ok (.isub, 1) := by decide +kernel
theorem dX12_out_9 : decode cX12_out 9 = .ok (.i2l, 1) := by decide +kernel
theorem dX12_out_10 : decode cX12_out 10 = .ok (.invokestatic 105, 3) := by decide +kernel
theorem dX12_out_13 : decode cX12_out 13 = .ok (.ifCond .eq 12, 3) := by decide +kernel
theorem dX12_out_16 : decode cX12_out 16 = .ok (.aload_n 0, 1) := by decide +kernel
theorem dX12_out_17 : decode cX12_out 17 = .ok (.getfield 97, 3) := by decide +kernel
theorem dX12_out_20 : decode cX12_out 20 = .ok (.iload_n 1, 1) := by decide +kernel
theorem dX12_out_21 : decode cX12_out 21 = .ok (.iaload, 1) := by decide +kernel
theorem dX12_out_22 : decode cX12_out 22 = .ok (.goto 4, 3) := by decide +kernel
theorem dX12_out_25 : decode cX12_out 25 = .ok (.iconst (-1), 1) := by decide +kernel
theorem dX12_out_26 : decode cX12_out 26 = .ok (.ireturn, 1) := by decide +kernel
def F_X12_out_26 (t0 : Int32) (s0 : ae_S) : Option (Int32 × ae_S) := some (t0, s0)
set_option maxHeartbeats 4000000 in
set_option maxRecDepth 100000 in
theorem t_X12_out_26 {l : Launch} {G : ae_G} (d : Nat) {rr : Int32} {ss : ae_S} (t0 : Int32) (s0 : ae_S) (hF : F_X12_out_26 t0 s0 = some (rr, ss)) : ae_T l G (d + 1) mX12_out (ae_Po (some (ae_i rr)) ss) 26 [] [ae_i t0] s0 := by
  unfold F_X12_out_26 at hF
  obtain ⟨rfl, rfl⟩ := ae_retI hF
  exact ae_iret dX12_out_26 rfl rfl ⟨rfl, rfl⟩
def F_X12_out (v1 : Int32) (s0 : ae_S) : Option (Int32 × ae_S) := ae_bd (F_X12_isIn v1.toInt64 (0 : Int64) (((s0.1 30 0 51) - (1 : Int32)).toInt64) s0) (fun (r1 : Int32) s2 => if r1 = 0 then (F_X12_out_26 (-1 : Int32) s2) else (ae_gd (ae_ib v1 600) (F_X12_out_26 (s2.1 57 0 v1.toNatClampNeg) s2)))
set_option maxHeartbeats 4000000 in
set_option maxRecDepth 100000 in
theorem c_X12_out {l : Launch} {G : ae_G} (d : Nat) {v1 : Int32} {s0 ss : ae_S} {rr : Int32} (hF : F_X12_out v1 s0 = some (rr, ss)) : ae_Met l G (d + 1) yX12_out mX12_out [ae_r (some (30, 0)), ae_i v1] s0 (ae_Po (some (ae_i rr)) ss) := by
  refine ae_enter (by decide) rfl (Nat.le_of_ble_eq_true rfl) ?_
  show ae_T l G (d + 1) mX12_out (ae_Po (some (ae_i rr)) ss) 0 [(0, ae_r (some (30, 0))), (1, ae_i v1)] [] s0
  unfold F_X12_out at hF
  refine ae_iload_n 1 dX12_out_0 rfl ?_
  refine ae_i2l dX12_out_1 ?_
  refine ae_lconst (0 : Int64) dX12_out_2 (by decide) ?_
  refine ae_aload_n 0 dX12_out_3 rfl ?_
  refine ae_getI (q := (30, 0)) dX12_out_4 fl_RX12_494 rfl rfl ?_
  refine ae_iconst (1 : Int32) dX12_out_7 (by decide) ?_
  refine ae_isub dX12_out_8 ?_
  refine ae_i2l dX12_out_9 ?_
  obtain ⟨r1, s2, hc3, hF4⟩ := ae_bdI hF
  refine ae_cS1 (As := [ae_l v1.toInt64, ae_l (0 : Int64), ae_l (((s0.1 30 0 51) - (1 : Int32)).toInt64)]) dX12_out_10 ww_1461 vy_X12_isIn rfl rfl (Nat.le_of_ble_eq_true rfl) (c_X12_isIn d hc3) ?_
  refine ae_if_eq 25 dX12_out_13 rfl (fun hb5 => ?_) (fun hb5 => ?_)
  · have hF6 := ae_ifT hb5 hF4
    refine ae_iconst (-1 : Int32) dX12_out_25 (by decide) ?_
    refine ae_pick (lv' := []) [] rfl ?_
    exact t_X12_out_26 d (-1 : Int32) s2 hF6
  · have hF6 := ae_ifF hb5 hF4
    refine ae_aload_n 0 dX12_out_16 rfl ?_
    refine ae_getA (q := (30, 0)) (some (57, 0)) dX12_out_17 fl_RX12_97 rfl rfl rfl ?_
    refine ae_iload_n 1 dX12_out_20 rfl ?_
    obtain ⟨hg7, hF8⟩ := ae_gdI hF6
    refine ae_iald (q := (57, 0)) dX12_out_21 rfl rfl (ae_ibI hg7) ?_
    refine ae_goto 26 dX12_out_22 rfl ?_
    refine ae_pick (lv' := []) [] rfl ?_
    exact t_X12_out_26 d (s2.1 57 0 v1.toNatClampNeg) s2 hF8
abbrev mX12_find : ae_M := (RX12, cX12_find, 6, some .int)
theorem vy_X12_find : ae_VY yX12_find mX12_find 3 := ⟨ww_1924, ww_1925, ww_13, ww_1926, ⟨by decide, by decide, by decide +kernel⟩, by decide⟩
theorem dX12_find_0 : decode cX12_find 0 = .ok (.aload_n 0, 1) := by decide +kernel
theorem dX12_find_1 : decode cX12_find 1 = .ok (.iload_n 1, 1) := by decide +kernel
theorem dX12_find_2 : decode cX12_find 2 = .ok (.invokevirtual 122, 3) := by decide +kernel
theorem dX12_find_5 : decode cX12_find 5 = .ok (.ifCond .eq 19, 3) := by decide +kernel
theorem dX12_find_8 : decode cX12_find 8 = .ok (.iload_n 2, 1) := by decide +kernel
theorem dX12_find_9 : decode cX12_find 9 = .ok (.i2l, 1) := by decide +kernel
theorem dX12_find_10 : decode cX12_find 10 = .ok (.lconst 0, 1) := by decide +kernel
theorem dX12_find_11 : decode cX12_find 11 = .ok (.aload_n 0, 1) := by decide +kernel
theorem dX12_find_12 : decode cX12_find 12 = .ok (.getfield 38, 3) := by decide +kernel
theorem dX12_find_15 : decode cX12_find 15 = .ok (.iload_n 1, 1) := by decide +kernel
theorem dX12_find_16 : decode cX12_find 16 = .ok (.iaload, 1) := by decide +kernel
theorem dX12_find_17 : decode cX12_find 17 = .ok (.i2l, 1) := by decide +kernel
theorem dX12_find_18 : decode cX12_find 18 = .ok (.invokestatic 105, 3) := by decide +kernel
theorem dX12_find_21 : decode cX12_find 21 = .ok (.ifCond .ne 5, 3) := by decide +kernel
theorem dX12_find_24 : decode cX12_find 24 = .ok (.iconst (-1), 1) := by decide +kernel
theorem dX12_find_25 : decode cX12_find 25 = .ok (.ireturn, 1) := by decide +kernel
theorem dX12_find_26 : decode cX12_find 26 = .ok (.iload_n 2, 1) := by decide +kernel
theorem dX12_find_27 : decode cX12_find 27 = .ok (.istore 5, 2) := by decide +kernel
theorem dX12_find_29 : decode cX12_find 29 = .ok (.iload 5, 2) := by decide +kernel
theorem dX12_find_31 : decode cX12_find 31 = .ok (.aload_n 0, 1) := by decide +kernel
theorem dX12_find_32 : decode cX12_find 32 = .ok (.getfield 38, 3) := by decide +kernel
theorem dX12_find_35 : decode cX12_find 35 = .ok (.iload_n 1, 1) := by decide +kernel
theorem dX12_find_36 : decode cX12_find 36 = .ok (.iaload, 1) := by decide +kernel
theorem dX12_find_37 : decode cX12_find 37 = .ok (.if_icmp .ge 48, 3) := by decide +kernel
theorem dX12_find_40 : decode cX12_find 40 = .ok (.aload_n 0, 1) := by decide +kernel
theorem dX12_find_41 : decode cX12_find 41 = .ok (.iload_n 1, 1) := by decide +kernel
theorem dX12_find_42 : decode cX12_find 42 = .ok (.invokevirtual 316, 3) := by decide +kernel
theorem dX12_find_45 : decode cX12_find 45 = .ok (.ifCond .eq 19, 3) := by decide +kernel
theorem dX12_find_48 : decode cX12_find 48 = .ok (.aload_n 0, 1) := by decide +kernel
theorem dX12_find_49 : decode cX12_find 49 = .ok (.iload_n 1, 1) := by decide +kernel
theorem dX12_find_50 : decode cX12_find 50 = .ok (.iload 5, 2) := by decide +kernel
theorem dX12_find_52 : decode cX12_find 52 = .ok (.invokevirtual 322, 3) := by decide +kernel
theorem dX12_find_55 : decode cX12_find 55 = .ok (.lload_n 3, 1) := by decide +kernel
theorem dX12_find_56 : decode cX12_find 56 = .ok (.l2d, 1) := by decide +kernel
theorem dX12_find_57 : decode cX12_find 57 = .ok (.dcmp .l, 1) := by decide +kernel
theorem dX12_find_58 : decode cX12_find 58 = .ok (.ifCond .ne 21, 3) := by decide +kernel
theorem dX12_find_61 : decode cX12_find 61 = .ok (.goto 15, 3) := by decide +kernel
theorem dX12_find_64 : decode cX12_find 64 = .ok (.aload_n 0, 1) := by decide +kernel
theorem dX12_find_65 : decode cX12_find 65 = .ok (.iload_n 1, 1) := by decide +kernel
theorem dX12_find_66 : decode cX12_find 66 = .ok (.iload 5, 2) := by decide +kernel
theorem dX12_find_68 : decode cX12_find 68 = .ok (.invokevirtual 319, 3) := by decide +kernel
theorem dX12_find_71 : decode cX12_find 71 = .ok (.lload_n 3, 1) := by decide +kernel
theorem dX12_find_72 : decode cX12_find 72 = .ok (.lcmp, 1) := by decide +kernel
theorem dX12_find_73 : decode cX12_find 73 = .ok (.ifCond .ne 6, 3) := by decide +kernel
theorem dX12_find_76 : decode cX12_find 76 = .ok (.iload 5, 2) := by decide +kernel
theorem dX12_find_78 : decode cX12_find 78 = .ok (.ireturn, 1) := by decide +kernel
theorem dX12_find_79 : decode cX12_find 79 = .ok (.iinc 5 1, 3) := by decide +kernel
theorem dX12_find_82 : decode cX12_find 82 = .ok (.goto (-53), 3) := by decide +kernel
theorem dX12_find_85 : decode cX12_find 85 = .ok (.iconst (-1), 1) := by decide +kernel
theorem dX12_find_86 : decode cX12_find 86 = .ok (.ireturn, 1) := by decide +kernel
def F_X12_find_24 (s0 : ae_S) : Option (Int32 × ae_S) := some ((-1 : Int32), s0)
set_option maxHeartbeats 4000000 in
set_option maxRecDepth 100000 in
theorem t_X12_find_24 {l : Launch} {G : ae_G} (d : Nat) {rr : Int32} {ss : ae_S} (s0 : ae_S) (hF : F_X12_find_24 s0 = some (rr, ss)) : ae_T l G (d + 3) mX12_find (ae_Po (some (ae_i rr)) ss) 24 [] [] s0 := by
  unfold F_X12_find_24 at hF
  refine ae_iconst (-1 : Int32) dX12_find_24 (by decide) ?_
  obtain ⟨rfl, rfl⟩ := ae_retI hF
  exact ae_iret dX12_find_25 rfl rfl ⟨rfl, rfl⟩
def F_X12_find_79 (k29 : Int32 → Int64 → Int32 → ae_S → Option (Int32 × ae_S)) (v1 : Int32) (v3 : Int64) (v5 : Int32) (s0 : ae_S) : Option (Int32 × ae_S) := ae_lt (v5 + (1 : Int32)) (fun x1 => k29 v1 v3 x1 s0)
set_option maxHeartbeats 4000000 in
set_option maxRecDepth 100000 in
theorem t_X12_find_79 {l : Launch} {G : ae_G} (d : Nat) (k29 : Int32 → Int64 → Int32 → ae_S → Option (Int32 × ae_S)) {rr : Int32} {ss : ae_S} (hk29 : ∀ (v1 : Int32) (v3 : Int64) (v5 : Int32) (s0 : ae_S), k29 v1 v3 v5 s0 = some (rr, ss) → ae_T l G (d + 3) mX12_find (ae_Po (some (ae_i rr)) ss) 29 [(0, ae_r (some (30, 0))), (1, ae_i v1), (3, ae_l v3), (5, ae_i v5)] [] s0) (v1 : Int32) (v3 : Int64) (v5 : Int32) (s0 : ae_S) (hF : F_X12_find_79 k29 v1 v3 v5 s0 = some (rr, ss)) : ae_T l G (d + 3) mX12_find (ae_Po (some (ae_i rr)) ss) 79 [(0, ae_r (some (30, 0))), (1, ae_i v1), (3, ae_l v3), (5, ae_i v5)] [] s0 := by
  unfold F_X12_find_79 at hF
  obtain ⟨x1, hx1, hF2⟩ := ae_ltI hF
  refine ae_iinc (lv' := [(5, ae_i x1), (0, ae_r (some (30, 0))), (1, ae_i v1), (3, ae_l v3)]) 3 (1 : Int32) dX12_find_79 rfl (by decide) (by decide) (by rw [hx1]; rfl) ?_
  refine ae_goto 29 dX12_find_82 rfl ?_
  refine ae_pick (lv' := [(0, ae_r (some (30, 0))), (1, ae_i v1), (3, ae_l v3), (5, ae_i x1)]) [1, 2, 3, 0] rfl ?_
  exact hk29 v1 v3 x1 s0 hF2
def F_X12_find_76 (v5 : Int32) (s0 : ae_S) : Option (Int32 × ae_S) := some (v5, s0)
set_option maxHeartbeats 4000000 in
set_option maxRecDepth 100000 in
theorem t_X12_find_76 {l : Launch} {G : ae_G} (d : Nat) {rr : Int32} {ss : ae_S} (v5 : Int32) (s0 : ae_S) (hF : F_X12_find_76 v5 s0 = some (rr, ss)) : ae_T l G (d + 3) mX12_find (ae_Po (some (ae_i rr)) ss) 76 [(5, ae_i v5)] [] s0 := by
  unfold F_X12_find_76 at hF
  refine ae_iload 0 dX12_find_76 rfl ?_
  obtain ⟨rfl, rfl⟩ := ae_retI hF
  exact ae_iret dX12_find_78 rfl rfl ⟨rfl, rfl⟩
def F_X12_find_29 : Nat → Int32 → Int64 → Int32 → ae_S → Option (Int32 × ae_S)
  | 0, _, _, _, _ => none
  | n + 1, v1, v3, v5, s0 => ae_gd (ae_ib v1 32) (if (s0.1 39 0 v1.toNatClampNeg) ≤ v5 then (some ((-1 : Int32), s0)) else (ae_bd (F_X12_isFloating v1 s0) (fun (r7 : Int32) s8 => if r7 = 0 then (ae_bd (F_X12_wholeOf v1 v5 s8) (fun (r13 : Int64) s14 => if (lg_cmp r13 v3) = 0 then (F_X12_find_76 v5 s14) else (F_X12_find_79 (F_X12_find_29 n) v1 v3 v5 s14))) else (ae_bd (F_X12_floatOf v1 v5 s8) (fun (r19 : UInt64) s20 => if (Op.cmpValue (FP.dcmp r19 (FP.l2d v3)) CmpOp.l) = 0 then (F_X12_find_76 v5 s20) else (F_X12_find_79 (F_X12_find_29 n) v1 v3 v5 s20))))))
set_option maxHeartbeats 4000000 in
set_option maxRecDepth 100000 in
theorem t_X12_find_29 {l : Launch} {G : ae_G} (d : Nat) {rr : Int32} {ss : ae_S} : ∀ (n : Nat) (v1 : Int32) (v3 : Int64) (v5 : Int32) (s0 : ae_S), F_X12_find_29 n v1 v3 v5 s0 = some (rr, ss) → ae_T l G (d + 3) mX12_find (ae_Po (some (ae_i rr)) ss) 29 [(0, ae_r (some (30, 0))), (1, ae_i v1), (3, ae_l v3), (5, ae_i v5)] [] s0 := by
  intro n
  induction n with
  | zero =>
    intro v1 v3 v5 s0 hF
    exact absurd (show (none : Option (Int32 × ae_S)) = some (rr, ss) from hF) (by simp)
  | succ n ih =>
    intro v1 v3 v5 s0 hF
    unfold F_X12_find_29 at hF
    refine ae_iload 3 dX12_find_29 rfl ?_
    refine ae_aload_n 0 dX12_find_31 rfl ?_
    refine ae_getA (q := (30, 0)) (some (39, 0)) dX12_find_32 fl_RX12_38 rfl rfl rfl ?_
    refine ae_iload_n 1 dX12_find_35 rfl ?_
    obtain ⟨hg3, hF4⟩ := ae_gdI hF
    refine ae_iald (q := (39, 0)) dX12_find_36 rfl rfl (ae_ibI hg3) ?_
    refine ae_icmp_ge 85 dX12_find_37 rfl (fun hb5 => ?_) (fun hb5 => ?_)
    · have hF6 := ae_ifT hb5 hF4
      refine ae_iconst (-1 : Int32) dX12_find_85 (by decide) ?_
      obtain ⟨rfl, rfl⟩ := ae_retI hF6
      exact ae_iret dX12_find_86 rfl rfl ⟨rfl, rfl⟩
    · have hF6 := ae_ifF hb5 hF4
      refine ae_aload_n 0 dX12_find_40 rfl ?_
      refine ae_iload_n 1 dX12_find_41 rfl ?_
      obtain ⟨r7, s8, hc9, hF10⟩ := ae_bdI hF6
      refine ae_cV1 (q := (30, 0)) (As := [ae_i v1]) dX12_find_42 ww_1644 vy_X12_isFloating rfl rfl rfl rfl rfl (Nat.le_of_ble_eq_true rfl) (c_X12_isFloating (d + 2) hc9) ?_
      refine ae_if_eq 64 dX12_find_45 rfl (fun hb11 => ?_) (fun hb11 => ?_)
      · have hF12 := ae_ifT hb11 hF10
        refine ae_aload_n 0 dX12_find_64 rfl ?_
        refine ae_iload_n 1 dX12_find_65 rfl ?_
        refine ae_iload 3 dX12_find_66 rfl ?_
        obtain ⟨r13, s14, hc15, hF16⟩ := ae_bdI hF12
        refine ae_cV1 (q := (30, 0)) (As := [ae_i v1, ae_i v5]) dX12_find_68 ww_1648 vy_X12_wholeOf rfl rfl rfl rfl rfl (Nat.le_of_ble_eq_true rfl) (c_X12_wholeOf d hc15) ?_
        refine ae_lload_n 2 dX12_find_71 rfl ?_
        refine ae_lcmp dX12_find_72 ?_
        refine ae_if_ne 79 dX12_find_73 rfl (fun hb17 => ?_) (fun hb17 => ?_)
        · have hF18 := ae_ifF hb17 hF16
          refine ae_pick (lv' := [(0, ae_r (some (30, 0))), (1, ae_i v1), (3, ae_l v3), (5, ae_i v5)]) [0, 1, 2, 3] rfl ?_
          exact t_X12_find_79 d (F_X12_find_29 n) ih v1 v3 v5 s14 hF18
        · have hF18 := ae_ifT hb17 hF16
          refine ae_pick (lv' := [(5, ae_i v5)]) [3] rfl ?_
          exact t_X12_find_76 d v5 s14 hF18
      · have hF12 := ae_ifF hb11 hF10
        refine ae_aload_n 0 dX12_find_48 rfl ?_
        refine ae_iload_n 1 dX12_find_49 rfl ?_
        refine ae_iload 3 dX12_find_50 rfl ?_
        obtain ⟨r19, s20, hc21, hF22⟩ := ae_bdI hF12
        refine ae_cV1 (q := (30, 0)) (As := [ae_i v1, ae_i v5]) dX12_find_52 ww_1656 vy_X12_floatOf rfl rfl rfl rfl rfl (Nat.le_of_ble_eq_true rfl) (c_X12_floatOf d hc21) ?_
        refine ae_lload_n 2 dX12_find_55 rfl ?_
        refine ae_l2d dX12_find_56 ?_
        refine ae_dcmp dX12_find_57 ?_
        refine ae_if_ne 79 dX12_find_58 rfl (fun hb23 => ?_) (fun hb23 => ?_)
        · have hF24 := ae_ifF hb23 hF22
          refine ae_pick (lv' := [(0, ae_r (some (30, 0))), (1, ae_i v1), (3, ae_l v3), (5, ae_i v5)]) [0, 1, 2, 3] rfl ?_
          exact t_X12_find_79 d (F_X12_find_29 n) ih v1 v3 v5 s20 hF24
        · have hF24 := ae_ifT hb23 hF22
          refine ae_goto 76 dX12_find_61 rfl ?_
          refine ae_pick (lv' := [(5, ae_i v5)]) [3] rfl ?_
          exact t_X12_find_76 d v5 s20 hF24
def F_X12_find (v1 : Int32) (v2 : Int32) (v3 : Int64) (s0 : ae_S) : Option (Int32 × ae_S) := ae_bd (F_X12_isView v1 s0) (fun (r25 : Int32) s26 => if r25 = 0 then (F_X12_find_24 s26) else (ae_gd (ae_ib v1 32) (ae_bd (F_X12_isIn v2.toInt64 (0 : Int64) ((s26.1 39 0 v1.toNatClampNeg).toInt64) s26) (fun (r33 : Int32) s34 => if r33 = 0 then (F_X12_find_24 s34) else (F_X12_find_29 ae_fu v1 v3 v2 s34)))))
set_option maxHeartbeats 4000000 in
set_option maxRecDepth 100000 in
theorem c_X12_find {l : Launch} {G : ae_G} (d : Nat) {v1 : Int32} {v2 : Int32} {v3 : Int64} {s0 ss : ae_S} {rr : Int32} (hF : F_X12_find v1 v2 v3 s0 = some (rr, ss)) : ae_Met l G (d + 3) yX12_find mX12_find [ae_r (some (30, 0)), ae_i v1, ae_i v2, ae_l v3] s0 (ae_Po (some (ae_i rr)) ss) := by
  refine ae_enter (by decide) rfl (Nat.le_of_ble_eq_true rfl) ?_
  show ae_T l G (d + 3) mX12_find (ae_Po (some (ae_i rr)) ss) 0 [(0, ae_r (some (30, 0))), (1, ae_i v1), (2, ae_i v2), (3, ae_l v3)] [] s0
  unfold F_X12_find at hF
  refine ae_aload_n 0 dX12_find_0 rfl ?_
  refine ae_iload_n 1 dX12_find_1 rfl ?_
  obtain ⟨r25, s26, hc27, hF28⟩ := ae_bdI hF
  refine ae_cV1 (q := (30, 0)) (As := [ae_i v1]) dX12_find_2 ww_1635 vy_X12_isView rfl rfl rfl rfl rfl (Nat.le_of_ble_eq_true rfl) (c_X12_isView (d + 1) hc27) ?_
  refine ae_if_eq 24 dX12_find_5 rfl (fun hb29 => ?_) (fun hb29 => ?_)
  · have hF30 := ae_ifT hb29 hF28
    refine ae_pick (lv' := []) [] rfl ?_
    exact t_X12_find_24 d s26 hF30
  · have hF30 := ae_ifF hb29 hF28
    refine ae_iload_n 2 dX12_find_8 rfl ?_
    refine ae_i2l dX12_find_9 ?_
    refine ae_lconst (0 : Int64) dX12_find_10 (by decide) ?_
    refine ae_aload_n 0 dX12_find_11 rfl ?_
    refine ae_getA (q := (30, 0)) (some (39, 0)) dX12_find_12 fl_RX12_38 rfl rfl rfl ?_
    refine ae_iload_n 1 dX12_find_15 rfl ?_
    obtain ⟨hg31, hF32⟩ := ae_gdI hF30
    refine ae_iald (q := (39, 0)) dX12_find_16 rfl rfl (ae_ibI hg31) ?_
    refine ae_i2l dX12_find_17 ?_
    obtain ⟨r33, s34, hc35, hF36⟩ := ae_bdI hF32
    refine ae_cS1 (As := [ae_l v2.toInt64, ae_l (0 : Int64), ae_l ((s26.1 39 0 v1.toNatClampNeg).toInt64)]) dX12_find_18 ww_1461 vy_X12_isIn rfl rfl (Nat.le_of_ble_eq_true rfl) (c_X12_isIn (d + 2) hc35) ?_
    refine ae_if_ne 26 dX12_find_21 rfl (fun hb37 => ?_) (fun hb37 => ?_)
    · have hF38 := ae_ifF hb37 hF36
      refine ae_iload_n 2 dX12_find_26 rfl ?_
      refine ae_istore (lv' := [(5, ae_i v2), (0, ae_r (some (30, 0))), (1, ae_i v1), (2, ae_i v2), (3, ae_l v3)]) dX12_find_27 (by decide) rfl ?_
      refine ae_pick (lv' := [(0, ae_r (some (30, 0))), (1, ae_i v1), (3, ae_l v3), (5, ae_i v2)]) [1, 2, 4, 0] rfl ?_
      exact t_X12_find_29 d ae_fu v1 v3 v2 s34 hF38
    · have hF38 := ae_ifT hb37 hF36
      refine ae_pick (lv' := []) [] rfl ?_
      exact t_X12_find_24 d s34 hF38
abbrev mX12_sum : ae_M := (RX12, cX12_sum, 7, some .long)
theorem vy_X12_sum : ae_VY yX12_sum mX12_sum 1 := ⟨ww_1928, ww_1929, ww_13, ww_1930, ⟨by decide, by decide, by decide +kernel⟩, by decide⟩
theorem dX12_sum_0 : decode cX12_sum 0 = .ok (.aload_n 0, 1) := by decide +kernel
theorem dX12_sum_1 : decode cX12_sum 1 = .ok (.iload_n 1, 1) := by decide +kernel
theorem dX12_sum_2 : decode cX12_sum 2 = .ok (.invokevirtual 122, 3) := by decide +kernel
theorem dX12_sum_5 : decode cX12_sum 5 = .ok (.ifCond .ne 7, 3) := by decide +kernel
theorem dX12_sum_8 : decode cX12_sum 8 = .ok (.ldc2_w 334, 3) := by decide +kernel
theorem dX12_sum_11 : decode cX12_sum 11 = .ok (.lreturn, 1) := by decide +kernel
theorem dX12_sum_12 : decode cX12_sum 12 = .ok (.lconst 0, 1) := by decide +kernel
theorem dX12_sum_13 : decode cX12_sum 13 = .ok (.lstore_n 2, 1) := by decide +kernel
theorem dX12_sum_14 : decode cX12_sum 14 = .ok (.dconst 0, 1) := by decide +kernel
theorem dX12_sum_15 : decode cX12_sum 15 = .ok (.dstore 4, 2) := by decide +kernel
theorem dX12_sum_17 : decode cX12_sum 17 = .ok (.iconst 0, 1) := by decide +kernel
theorem dX12_sum_18 : decode cX12_sum 18 = .ok (.istore 6, 2) := by decide +kernel
theorem dX12_sum_20 : decode cX12_sum 20 = .ok (.iload 6, 2) := by decide +kernel
theorem dX12_sum_22 : decode cX12_sum 22 = .ok (.aload_n 0, 1) := by decide +kernel
theorem dX12_sum_23 : decode cX12_sum 23 = .ok (.getfield 38, 3) := by decide +kernel
theorem dX12_sum_26 : decode cX12_sum 26 = .ok (.iload_n 1, 1) := by decide +kernel
theorem dX12_sum_27 : decode cX12_sum 27 = .ok (.iaload, 1) := by decide +kernel
theorem dX12_sum_28 : decode cX12_sum 28 = .ok (.if_icmp .ge 42, 3) := by decide +kernel
theorem dX12_sum_31 : decode cX12_sum 31 = .ok (.aload_n 0, 1) := by decide +kernel
theorem dX12_sum_32 : decode cX12_sum 32 = .ok (.iload_n 1, 1) := by decide +kernel
theorem dX12_sum_33 : decode cX12_sum 33 = .ok (.invokevirtual 316, 3) := by decide +kernel
theorem dX12_sum_36 : decode cX12_sum 36 = .ok (.ifCond .eq 18, 3) := by decide +kernel
theorem dX12_sum_39 : decode cX12_sum 39 = .ok (.dload 4, 2) := by decide +kernel
theorem dX12_sum_41 : decode cX12_sum 41 = .ok (.aload_n 0, 1) := by decide +kernel
theorem dX12_sum_42 : decode cX12_sum 42 = .ok (.iload_n 1, 1) := by decide +kernel
theorem dX12_sum_43 : decode cX12_sum 43 = .ok (.iload 6, 2) := by decide +kernel
theorem dX12_sum_45 : decode cX12_sum 45 = .ok (.invokevirtual 322, 3) := by decide +kernel
theorem dX12_sum_48 : decode cX12_sum 48 = .ok (.dadd, 1) := by decide +kernel
theorem dX12_sum_49 : decode cX12_sum 49 = .ok (.dstore 4, 2) := by decide +kernel
theorem dX12_sum_51 : decode cX12_sum 51 = .ok (.goto 13, 3) := by decide +kernel
theorem dX12_sum_54 : decode cX12_sum 54 = .ok (.lload_n 2, 1) := by decide +kernel
theorem dX12_sum_55 : decode cX12_sum 55 = .ok (.aload_n 0, 1) := by decide +kernel
theorem dX12_sum_56 : decode cX12_sum 56 = .ok (.iload_n 1, 1) := by decide +kernel
theorem dX12_sum_57 : decode cX12_sum 57 = .ok (.iload 6, 2) := by decide +kernel
theorem dX12_sum_59 : decode cX12_sum 59 = .ok (.invokevirtual 319, 3) := by decide +kernel
theorem dX12_sum_62 : decode cX12_sum 62 = .ok (.ladd, 1) := by decide +kernel
theorem dX12_sum_63 : decode cX12_sum 63 = .ok (.lstore_n 2, 1) := by decide +kernel
theorem dX12_sum_64 : decode cX12_sum 64 = .ok (.iinc 6 1, 3) := by decide +kernel
theorem dX12_sum_67 : decode cX12_sum 67 = .ok (.goto (-47), 3) := by decide +kernel
theorem dX12_sum_70 : decode cX12_sum 70 = .ok (.aload_n 0, 1) := by decide +kernel
theorem dX12_sum_71 : decode cX12_sum 71 = .ok (.iload_n 1, 1) := by decide +kernel
theorem dX12_sum_72 : decode cX12_sum 72 = .ok (.invokevirtual 316, 3) := by decide +kernel
theorem dX12_sum_75 : decode cX12_sum 75 = .ok (.ifCond .eq 11, 3) := by decide +kernel
theorem dX12_sum_78 : decode cX12_sum 78 = .ok (.dload 4, 2) := by decide +kernel
theorem dX12_sum_80 : decode cX12_sum 80 = .ok (.invokestatic 330, 3) := by decide +kernel
theorem dX12_sum_83 : decode cX12_sum 83 = .ok (.goto 4, 3) := by decide +kernel
theorem dX12_sum_86 : decode cX12_sum 86 = .ok (.lload_n 2, 1) := by decide +kernel
theorem dX12_sum_87 : decode cX12_sum 87 = .ok (.lreturn, 1) := by decide +kernel
def F_X12_sum_87 (t0 : Int64) (s0 : ae_S) : Option (Int64 × ae_S) := some (t0, s0)
set_option maxHeartbeats 4000000 in
set_option maxRecDepth 100000 in
theorem t_X12_sum_87 {l : Launch} {G : ae_G} (d : Nat) {rr : Int64} {ss : ae_S} (t0 : Int64) (s0 : ae_S) (hF : F_X12_sum_87 t0 s0 = some (rr, ss)) : ae_T l G (d + 3) mX12_sum (ae_Po (some (ae_l rr)) ss) 87 [] [ae_l t0] s0 := by
  unfold F_X12_sum_87 at hF
  obtain ⟨rfl, rfl⟩ := ae_retI hF
  exact ae_lret dX12_sum_87 rfl ⟨rfl, rfl⟩
def F_X12_sum_64 (k20 : Int32 → Int64 → UInt64 → Int32 → ae_S → Option (Int64 × ae_S)) (v1 : Int32) (v2 : Int64) (v4 : UInt64) (v6 : Int32) (s0 : ae_S) : Option (Int64 × ae_S) := ae_lt (v6 + (1 : Int32)) (fun x1 => k20 v1 v2 v4 x1 s0)
set_option maxHeartbeats 4000000 in
set_option maxRecDepth 100000 in
theorem t_X12_sum_64 {l : Launch} {G : ae_G} (d : Nat) (k20 : Int32 → Int64 → UInt64 → Int32 → ae_S → Option (Int64 × ae_S)) {rr : Int64} {ss : ae_S} (hk20 : ∀ (v1 : Int32) (v2 : Int64) (v4 : UInt64) (v6 : Int32) (s0 : ae_S), k20 v1 v2 v4 v6 s0 = some (rr, ss) → ae_T l G (d + 3) mX12_sum (ae_Po (some (ae_l rr)) ss) 20 [(0, ae_r (some (30, 0))), (1, ae_i v1), (2, ae_l v2), (4, ae_d v4), (6, ae_i v6)] [] s0) (v1 : Int32) (v2 : Int64) (v4 : UInt64) (v6 : Int32) (s0 : ae_S) (hF : F_X12_sum_64 k20 v1 v2 v4 v6 s0 = some (rr, ss)) : ae_T l G (d + 3) mX12_sum (ae_Po (some (ae_l rr)) ss) 64 [(0, ae_r (some (30, 0))), (1, ae_i v1), (2, ae_l v2), (4, ae_d v4), (6, ae_i v6)] [] s0 := by
  unfold F_X12_sum_64 at hF
  obtain ⟨x1, hx1, hF2⟩ := ae_ltI hF
  refine ae_iinc (lv' := [(6, ae_i x1), (0, ae_r (some (30, 0))), (1, ae_i v1), (2, ae_l v2), (4, ae_d v4)]) 4 (1 : Int32) dX12_sum_64 rfl (by decide) (by decide) (by rw [hx1]; rfl) ?_
  refine ae_goto 20 dX12_sum_67 rfl ?_
  refine ae_pick (lv' := [(0, ae_r (some (30, 0))), (1, ae_i v1), (2, ae_l v2), (4, ae_d v4), (6, ae_i x1)]) [1, 2, 3, 4, 0] rfl ?_
  exact hk20 v1 v2 v4 x1 s0 hF2
def F_X12_sum_20 : Nat → Int32 → Int64 → UInt64 → Int32 → ae_S → Option (Int64 × ae_S)
  | 0, _, _, _, _, _ => none
  | n + 1, v1, v2, v4, v6, s0 => ae_gd (ae_ib v1 32) (if (s0.1 39 0 v1.toNatClampNeg) ≤ v6 then (ae_bd (F_X12_isFloating v1 s0) (fun (r7 : Int32) s8 => if r7 = 0 then (F_X12_sum_87 v2 s8) else (F_X12_sum_87 (ae_db v4) s8))) else (ae_bd (F_X12_isFloating v1 s0) (fun (r13 : Int32) s14 => if r13 = 0 then (ae_bd (F_X12_wholeOf v1 v6 s14) (fun (r19 : Int64) s20 => ae_lt (v2 + r19) (fun x23 => F_X12_sum_64 (F_X12_sum_20 n) v1 x23 v4 v6 s20))) else (ae_bd (F_X12_floatOf v1 v6 s14) (fun (r25 : UInt64) s26 => ae_lt (FP.dadd v4 r25) (fun x29 => F_X12_sum_64 (F_X12_sum_20 n) v1 v2 x29 v6 s26))))))
set_option maxHeartbeats 4000000 in
set_option maxRecDepth 100000 in
theorem t_X12_sum_20 {l : Launch} {G : ae_G} (d : Nat) {rr : Int64} {ss : ae_S} : ∀ (n : Nat) (v1 : Int32) (v2 : Int64) (v4 : UInt64) (v6 : Int32) (s0 : ae_S), F_X12_sum_20 n v1 v2 v4 v6 s0 = some (rr, ss) → ae_T l G (d + 3) mX12_sum (ae_Po (some (ae_l rr)) ss) 20 [(0, ae_r (some (30, 0))), (1, ae_i v1), (2, ae_l v2), (4, ae_d v4), (6, ae_i v6)] [] s0 := by
  intro n
  induction n with
  | zero =>
    intro v1 v2 v4 v6 s0 hF
    exact absurd (show (none : Option (Int64 × ae_S)) = some (rr, ss) from hF) (by simp)
  | succ n ih =>
    intro v1 v2 v4 v6 s0 hF
    unfold F_X12_sum_20 at hF
    refine ae_iload 4 dX12_sum_20 rfl ?_
    refine ae_aload_n 0 dX12_sum_22 rfl ?_
    refine ae_getA (q := (30, 0)) (some (39, 0)) dX12_sum_23 fl_RX12_38 rfl rfl rfl ?_
    refine ae_iload_n 1 dX12_sum_26 rfl ?_
    obtain ⟨hg3, hF4⟩ := ae_gdI hF
    refine ae_iald (q := (39, 0)) dX12_sum_27 rfl rfl (ae_ibI hg3) ?_
    refine ae_icmp_ge 70 dX12_sum_28 rfl (fun hb5 => ?_) (fun hb5 => ?_)
    · have hF6 := ae_ifT hb5 hF4
      refine ae_aload_n 0 dX12_sum_70 rfl ?_
      refine ae_iload_n 1 dX12_sum_71 rfl ?_
      obtain ⟨r7, s8, hc9, hF10⟩ := ae_bdI hF6
      refine ae_cV1 (q := (30, 0)) (As := [ae_i v1]) dX12_sum_72 ww_1644 vy_X12_isFloating rfl rfl rfl rfl rfl (Nat.le_of_ble_eq_true rfl) (c_X12_isFloating (d + 2) hc9) ?_
      refine ae_if_eq 86 dX12_sum_75 rfl (fun hb11 => ?_) (fun hb11 => ?_)
      · have hF12 := ae_ifT hb11 hF10
        refine ae_lload_n 2 dX12_sum_86 rfl ?_
        refine ae_pick (lv' := []) [] rfl ?_
        exact t_X12_sum_87 d v2 s8 hF12
      · have hF12 := ae_ifF hb11 hF10
        refine ae_dload 3 dX12_sum_78 rfl ?_
        refine ae_dtl dX12_sum_80 ww_1676 (Nat.le_of_ble_eq_true rfl) ?_
        refine ae_goto 87 dX12_sum_83 rfl ?_
        refine ae_pick (lv' := []) [] rfl ?_
        exact t_X12_sum_87 d (ae_db v4) s8 hF12
    · have hF6 := ae_ifF hb5 hF4
      refine ae_aload_n 0 dX12_sum_31 rfl ?_
      refine ae_iload_n 1 dX12_sum_32 rfl ?_
      obtain ⟨r13, s14, hc15, hF16⟩ := ae_bdI hF6
      refine ae_cV1 (q := (30, 0)) (As := [ae_i v1]) dX12_sum_33 ww_1644 vy_X12_isFloating rfl rfl rfl rfl rfl (Nat.le_of_ble_eq_true rfl) (c_X12_isFloating (d + 2) hc15) ?_
      refine ae_if_eq 54 dX12_sum_36 rfl (fun hb17 => ?_) (fun hb17 => ?_)
      · have hF18 := ae_ifT hb17 hF16
        refine ae_lload_n 2 dX12_sum_54 rfl ?_
        refine ae_aload_n 0 dX12_sum_55 rfl ?_
        refine ae_iload_n 1 dX12_sum_56 rfl ?_
        refine ae_iload 4 dX12_sum_57 rfl ?_
        obtain ⟨r19, s20, hc21, hF22⟩ := ae_bdI hF18
        refine ae_cV1 (q := (30, 0)) (As := [ae_i v1, ae_i v6]) dX12_sum_59 ww_1648 vy_X12_wholeOf rfl rfl rfl rfl rfl (Nat.le_of_ble_eq_true rfl) (c_X12_wholeOf d hc21) ?_
        refine ae_ladd dX12_sum_62 ?_
        obtain ⟨x23, hx23, hF24⟩ := ae_ltI hF22
        refine ae_nmL hx23 ?_
        refine ae_lstore_n (lv' := [(2, ae_l x23), (0, ae_r (some (30, 0))), (1, ae_i v1), (4, ae_d v4), (6, ae_i v6)]) dX12_sum_63 (by decide) rfl ?_
        refine ae_pick (lv' := [(0, ae_r (some (30, 0))), (1, ae_i v1), (2, ae_l x23), (4, ae_d v4), (6, ae_i v6)]) [1, 2, 0, 3, 4] rfl ?_
        exact t_X12_sum_64 d (F_X12_sum_20 n) ih v1 x23 v4 v6 s20 hF24
      · have hF18 := ae_ifF hb17 hF16
        refine ae_dload 3 dX12_sum_39 rfl ?_
        refine ae_aload_n 0 dX12_sum_41 rfl ?_
        refine ae_iload_n 1 dX12_sum_42 rfl ?_
        refine ae_iload 4 dX12_sum_43 rfl ?_
        obtain ⟨r25, s26, hc27, hF28⟩ := ae_bdI hF18
        refine ae_cV1 (q := (30, 0)) (As := [ae_i v1, ae_i v6]) dX12_sum_45 ww_1656 vy_X12_floatOf rfl rfl rfl rfl rfl (Nat.le_of_ble_eq_true rfl) (c_X12_floatOf d hc27) ?_
        refine ae_dadd dX12_sum_48 ?_
        obtain ⟨x29, hx29, hF30⟩ := ae_ltI hF28
        refine ae_nmD hx29 ?_
        refine ae_dstore (lv' := [(4, ae_d x29), (0, ae_r (some (30, 0))), (1, ae_i v1), (2, ae_l v2), (6, ae_i v6)]) dX12_sum_49 (by decide) rfl ?_
        refine ae_goto 64 dX12_sum_51 rfl ?_
        refine ae_pick (lv' := [(0, ae_r (some (30, 0))), (1, ae_i v1), (2, ae_l v2), (4, ae_d x29), (6, ae_i v6)]) [1, 2, 3, 0, 4] rfl ?_
        exact t_X12_sum_64 d (F_X12_sum_20 n) ih v1 v2 x29 v6 s26 hF30
def F_X12_sum (v1 : Int32) (s0 : ae_S) : Option (Int64 × ae_S) := ae_bd (F_X12_isView v1 s0) (fun (r31 : Int32) s32 => if r31 = 0 then (some ((-1 : Int64), s32)) else (F_X12_sum_20 ae_fu v1 (0 : Int64) FP.dconst0 (0 : Int32) s32))
set_option maxHeartbeats 4000000 in
set_option maxRecDepth 100000 in
theorem c_X12_sum {l : Launch} {G : ae_G} (d : Nat) {v1 : Int32} {s0 ss : ae_S} {rr : Int64} (hF : F_X12_sum v1 s0 = some (rr, ss)) : ae_Met l G (d + 3) yX12_sum mX12_sum [ae_r (some (30, 0)), ae_i v1] s0 (ae_Po (some (ae_l rr)) ss) := by
  refine ae_enter (by decide) rfl (Nat.le_of_ble_eq_true rfl) ?_
  show ae_T l G (d + 3) mX12_sum (ae_Po (some (ae_l rr)) ss) 0 [(0, ae_r (some (30, 0))), (1, ae_i v1)] [] s0
  unfold F_X12_sum at hF
  refine ae_aload_n 0 dX12_sum_0 rfl ?_
  refine ae_iload_n 1 dX12_sum_1 rfl ?_
  obtain ⟨r31, s32, hc33, hF34⟩ := ae_bdI hF
  refine ae_cV1 (q := (30, 0)) (As := [ae_i v1]) dX12_sum_2 ww_1635 vy_X12_isView rfl rfl rfl rfl rfl (Nat.le_of_ble_eq_true rfl) (c_X12_isView (d + 1) hc33) ?_
  refine ae_if_ne 12 dX12_sum_5 rfl (fun hb35 => ?_) (fun hb35 => ?_)
  · have hF36 := ae_ifF hb35 hF34
    refine ae_lconst (0 : Int64) dX12_sum_12 (by decide) ?_
    refine ae_lstore_n (lv' := [(2, ae_l (0 : Int64)), (0, ae_r (some (30, 0))), (1, ae_i v1)]) dX12_sum_13 (by decide) rfl ?_
    refine ae_dconst0 dX12_sum_14 ?_
    refine ae_dstore (lv' := [(4, ae_d FP.dconst0), (2, ae_l (0 : Int64)), (0, ae_r (some (30, 0))), (1, ae_i v1)]) dX12_sum_15 (by decide) rfl ?_
    refine ae_iconst (0 : Int32) dX12_sum_17 (by decide) ?_
    refine ae_istore (lv' := [(6, ae_i (0 : Int32)), (4, ae_d FP.dconst0), (2, ae_l (0 : Int64)), (0, ae_r (some (30, 0))), (1, ae_i v1)]) dX12_sum_18 (by decide) rfl ?_
    refine ae_pick (lv' := [(0, ae_r (some (30, 0))), (1, ae_i v1), (2, ae_l (0 : Int64)), (4, ae_d FP.dconst0), (6, ae_i (0 : Int32))]) [3, 4, 2, 1, 0] rfl ?_
    exact t_X12_sum_20 d ae_fu v1 (0 : Int64) FP.dconst0 (0 : Int32) s32 hF36
  · have hF36 := ae_ifT hb35 hF34
    refine ae_ldc2 dX12_sum_8 ww_1706 ?_
    obtain ⟨rfl, rfl⟩ := ae_retI hF36
    exact ae_lret dX12_sum_11 rfl ⟨rfl, rfl⟩
abbrev mX12_rest : ae_M := (RX12, cX12_rest, 5, some .long)
theorem vy_X12_rest : ae_VY yX12_rest mX12_rest 3 := ⟨ww_1932, ww_1933, ww_13, ww_1934, ⟨by decide, by decide, by decide +kernel⟩, by decide⟩
theorem dX12_rest_0 : decode cX12_rest 0 = .ok (.aload_n 0, 1) := by decide +kernel
theorem dX12_rest_1 : decode cX12_rest 1 = .ok (.iload_n 1, 1) := by decide +kernel
theorem dX12_rest_2 : decode cX12_rest 2 = .ok (.iload_n 2, 1) := by decide +kernel
theorem dX12_rest_3 : decode cX12_rest 3 = .ok (.i2l, 1) := by decide +kernel
theorem dX12_rest_4 : decode cX12_rest 4 = .ok (.invokevirtual 343, 3) := by decide +kernel
theorem dX12_rest_7 : decode cX12_rest 7 = .ok (.ifCond .eq 11, 3) := by decide +kernel
theorem dX12_rest_10 : decode cX12_rest 10 = .ok (.aload_n 0, 1) := by decide +kernel
theorem dX12_rest_11 : decode cX12_rest 11 = .ok (.iload_n 1, 1) := by decide +kernel
theorem dX12_rest_12 : decode cX12_rest 12 = .ok (.invokevirtual 316, 3) := by decide +kernel
theorem dX12_rest_15 : decode cX12_rest 15 = .ok (.ifCond .ne 7, 3) := by decide +kernel
theorem dX12_rest_18 : decode cX12_rest 18 = .ok (.ldc2_w 334, 3) := by decide +kernel
theorem dX12_rest_21 : decode cX12_rest 21 = .ok (.lreturn, 1) := by decide +kernel
theorem dX12_rest_22 : decode cX12_rest 22 = .ok (.aload_n 0, 1) := by decide +kernel
theorem dX12_rest_23 : decode cX12_rest 23 = .ok (.iload_n 1, 1) := by decide +kernel
theorem dX12_rest_24 : decode cX12_rest 24 = .ok (.iload_n 2, 1) := by decide +kernel
theorem dX12_rest_25 : decode cX12_rest 25 = .ok (.invokevirtual 322, 3) := by decide +kernel
theorem dX12_rest_28 : decode cX12_rest 28 = .ok (.lload_n 3, 1) := by decide +kernel
theorem dX12_rest_29 : decode cX12_rest 29 = .ok (.l2d, 1) := by decide +kernel
theorem dX12_rest_30 : decode cX12_rest 30 = .ok (.drem, 1) := by decide +kernel
theorem dX12_rest_31 : decode cX12_rest 31 = .ok (.invokestatic 330, 3) := by decide +kernel
theorem dX12_rest_34 : decode cX12_rest 34 = .ok (.lreturn, 1) := by decide +kernel
def F_X12_rest_18 (s0 : ae_S) : Option (Int64 × ae_S) := some ((-1 : Int64), s0)
set_option maxHeartbeats 4000000 in
set_option maxRecDepth 100000 in
theorem t_X12_rest_18 {l : Launch} {G : ae_G} (d : Nat) {rr : Int64} {ss : ae_S} (s0 : ae_S) (hF : F_X12_rest_18 s0 = some (rr, ss)) : ae_T l G (d + 3) mX12_rest (ae_Po (some (ae_l rr)) ss) 18 [] [] s0 := by
  unfold F_X12_rest_18 at hF
  refine ae_ldc2 dX12_rest_18 ww_1706 ?_
  obtain ⟨rfl, rfl⟩ := ae_retI hF
  exact ae_lret dX12_rest_21 rfl ⟨rfl, rfl⟩
def F_X12_rest (v1 : Int32) (v2 : Int32) (v3 : Int64) (s0 : ae_S) : Option (Int64 × ae_S) := ae_bd (F_X12_isElement v1 v2.toInt64 s0) (fun (r1 : Int32) s2 => if r1 = 0 then (F_X12_rest_18 s2) else (ae_bd (F_X12_isFloating v1 s2) (fun (r7 : Int32) s8 => if r7 = 0 then (F_X12_rest_18 s8) else (ae_bd (F_X12_floatOf v1 v2 s8) (fun (r13 : UInt64) s14 => some (ae_db (FP.drem r13 (FP.l2d v3)), s14))))))
set_option maxHeartbeats 4000000 in
set_option maxRecDepth 100000 in
theorem c_X12_rest {l : Launch} {G : ae_G} (d : Nat) {v1 : Int32} {v2 : Int32} {v3 : Int64} {s0 ss : ae_S} {rr : Int64} (hF : F_X12_rest v1 v2 v3 s0 = some (rr, ss)) : ae_Met l G (d + 3) yX12_rest mX12_rest [ae_r (some (30, 0)), ae_i v1, ae_i v2, ae_l v3] s0 (ae_Po (some (ae_l rr)) ss) := by
  refine ae_enter (by decide) rfl (Nat.le_of_ble_eq_true rfl) ?_
  show ae_T l G (d + 3) mX12_rest (ae_Po (some (ae_l rr)) ss) 0 [(0, ae_r (some (30, 0))), (1, ae_i v1), (2, ae_i v2), (3, ae_l v3)] [] s0
  unfold F_X12_rest at hF
  refine ae_aload_n 0 dX12_rest_0 rfl ?_
  refine ae_iload_n 1 dX12_rest_1 rfl ?_
  refine ae_iload_n 2 dX12_rest_2 rfl ?_
  refine ae_i2l dX12_rest_3 ?_
  obtain ⟨r1, s2, hc3, hF4⟩ := ae_bdI hF
  refine ae_cV1 (q := (30, 0)) (As := [ae_i v1, ae_l v2.toInt64]) dX12_rest_4 ww_1631 vy_X12_isElement rfl rfl rfl rfl rfl (Nat.le_of_ble_eq_true rfl) (c_X12_isElement d hc3) ?_
  refine ae_if_eq 18 dX12_rest_7 rfl (fun hb5 => ?_) (fun hb5 => ?_)
  · have hF6 := ae_ifT hb5 hF4
    refine ae_pick (lv' := []) [] rfl ?_
    exact t_X12_rest_18 d s2 hF6
  · have hF6 := ae_ifF hb5 hF4
    refine ae_aload_n 0 dX12_rest_10 rfl ?_
    refine ae_iload_n 1 dX12_rest_11 rfl ?_
    obtain ⟨r7, s8, hc9, hF10⟩ := ae_bdI hF6
    refine ae_cV1 (q := (30, 0)) (As := [ae_i v1]) dX12_rest_12 ww_1644 vy_X12_isFloating rfl rfl rfl rfl rfl (Nat.le_of_ble_eq_true rfl) (c_X12_isFloating (d + 2) hc9) ?_
    refine ae_if_ne 22 dX12_rest_15 rfl (fun hb11 => ?_) (fun hb11 => ?_)
    · have hF12 := ae_ifF hb11 hF10
      refine ae_aload_n 0 dX12_rest_22 rfl ?_
      refine ae_iload_n 1 dX12_rest_23 rfl ?_
      refine ae_iload_n 2 dX12_rest_24 rfl ?_
      obtain ⟨r13, s14, hc15, hF16⟩ := ae_bdI hF12
      refine ae_cV1 (q := (30, 0)) (As := [ae_i v1, ae_i v2]) dX12_rest_25 ww_1656 vy_X12_floatOf rfl rfl rfl rfl rfl (Nat.le_of_ble_eq_true rfl) (c_X12_floatOf d hc15) ?_
      refine ae_lload_n 3 dX12_rest_28 rfl ?_
      refine ae_l2d dX12_rest_29 ?_
      refine ae_drem dX12_rest_30 ?_
      refine ae_dtl dX12_rest_31 ww_1676 (Nat.le_of_ble_eq_true rfl) ?_
      obtain ⟨rfl, rfl⟩ := ae_retI hF16
      exact ae_lret dX12_rest_34 rfl ⟨rfl, rfl⟩
    · have hF12 := ae_ifT hb11 hF10
      refine ae_pick (lv' := []) [] rfl ?_
      exact t_X12_rest_18 d s8 hF12
abbrev mX12_look : ae_M := (RX12, cX12_look, 8, some .int)
theorem vy_X12_look : ae_VY yX12_look mX12_look 1 := ⟨ww_1936, ww_1937, ww_13, ww_1938, ⟨by decide, by decide, by decide +kernel⟩, by decide⟩
theorem dX12_look_0 : decode cX12_look 0 = .ok (.iconst 0, 1) := by decide +kernel
theorem dX12_look_1 : decode cX12_look 1 = .ok (.istore_n 2, 1) := by decide +kernel
theorem dX12_look_2 : decode cX12_look 2 = .ok (.iconst 0, 1) := by decide +kernel
theorem dX12_look_3 : decode cX12_look 3 = .ok (.istore_n 3, 1) := by decide +kernel
theorem dX12_look_4 : decode cX12_look 4 = .ok (.iconst 0, 1) := by decide +kernel
theorem dX12_look_5 : decode cX12_look 5 = .ok (.istore 4, 2) := by decide +kernel
theorem dX12_look_7 : decode cX12_look 7 = .ok (.iconst 0, 1) := by decide +kernel
theorem dX12_look_8 : decode cX12_look 8 = .ok (.istore 5, 2) := by decide +kernel
theorem dX12_look_10 : decode cX12_look 10 = .ok (.iload 5, 2) := by decide +kernel
theorem dX12_look_12 : decode cX12_look 12 = .ok (.aload_n 0, 1) := by decide +kernel
theorem dX12_look_13 : decode cX12_look 13 = .ok (.getfield 100, 3) := by decide +kernel
theorem dX12_look_16 : decode cX12_look 16 = .ok (.if_icmp .ge 94, 3) := by decide +kernel
theorem dX12_look_19 : decode cX12_look 19 = .ok (.iload_n 2, 1) := by decide +kernel
theorem dX12_look_20 : decode cX12_look 20 = .ok (.aload_n 0, 1) := by decide +kernel
theorem dX12_look_21 : decode cX12_look 21 = .ok (.getfield 9, 3) := by decide +kernel
theorem dX12_look_24 : decode cX12_look 24 = .ok (.iload 5, 2) := by decide +kernel
theorem dX12_look_26 : decode cX12_look 26 = .ok (.iaload, 1) := by decide +kernel
theorem dX12_look_27 : decode cX12_look 27 = .ok (.ifCond .eq 7, 3) := by decide +kernel
theorem dX12_look_30 : decode cX12_look 30 = .ok (.iconst 1, 1) := by decide +kernel
theorem dX12_look_31 : decode cX12_look 31 = .ok (.goto 4, 3) := by decide +kernel
theorem dX12_look_34 : decode cX12_look 34 = .ok (.iconst 0, 1) := by decide +kernel
theorem dX12_look_35 : decode cX12_look 35 = .ok (.invokestatic 260, 3) := by decide +kernel
theorem dX12_look_38 : decode cX12_look 38 = .ok (.iadd, 1) := by decide +kernel
theorem dX12_look_39 : decode cX12_look 39 = .ok (.istore_n 2, 1) := by decide +kernel
theorem dX12_look_40 : decode cX12_look 40 = .ok (.iload 4, 2) := by decide +kernel
theorem dX12_look_42 : decode cX12_look 42 = .ok (.aload_n 0, 1) := by decide +kernel
theorem dX12_look_43 : decode cX12_look 43 = .ok (.getfield 9, 3) := by decide +kernel
theorem dX12_look_46 : decode cX12_look 46 = .ok (.iload 5, 2) := by decide +kernel
theorem dX12_look_48 : decode cX12_look 48 = .ok (.iaload, 1) := by decide +kernel
theorem dX12_look_49 : decode cX12_look 49 = .ok (.iadd, 1) := by decide +kernel
theorem dX12_look_50 : decode cX12_look 50 = .ok (.istore 4, 2) := by decide +kernel
theorem dX12_look_52 : decode cX12_look 52 = .ok (.iconst 0, 1) := by decide +kernel
theorem dX12_look_53 : decode cX12_look 53 = .ok (.istore 6, 2) := by decide +kernel
theorem dX12_look_55 : decode cX12_look 55 = .ok (.iconst 0, 1) := by decide +kernel
theorem dX12_look_56 : decode cX12_look 56 = .ok (.istore 7, 2) := by decide +kernel
theorem dX12_look_58 : decode cX12_look 58 = .ok (.iload 7, 2) := by decide +kernel
theorem dX12_look_60 : decode cX12_look 60 = .ok (.aload_n 0, 1) := by decide +kernel
theorem dX12_look_61 : decode cX12_look 61 = .ok (.getfield 109, 3) := by decide +kernel
theorem dX12_look_64 : decode cX12_look 64 = .ok (.if_icmp .ge 24, 3) := by decide +kernel
theorem dX12_look_67 : decode cX12_look 67 = .ok (.iload 6, 2) := by decide +kernel
theorem dX12_look_69 : decode cX12_look 69 = .ok (.ifCond .ne 19, 3) := by decide +kernel
theorem dX12_look_72 : decode cX12_look 72 = .ok (.aload_n 0, 1) := by decide +kernel
theorem dX12_look_73 : decode cX12_look 73 = .ok (.iload 7, 2) := by decide +kernel
theorem dX12_look_75 : decode cX12_look 75 = .ok (.iload 5, 2) := by decide +kernel
theorem dX12_look_77 : decode cX12_look 77 = .ok (.invokevirtual 478, 3) := by decide +kernel
theorem dX12_look_80 : decode cX12_look 80 = .ok (.istore 6, 2) := by decide +kernel
theorem dX12_look_82 : decode cX12_look 82 = .ok (.iinc 7 1, 3) := by decide +kernel
theorem dX12_look_85 : decode cX12_look 85 = .ok (.goto (-27), 3) := by decide +kernel
theorem dX12_look_88 : decode cX12_look 88 = .ok (.iload_n 3, 1) := by decide +kernel
theorem dX12_look_89 : decode cX12_look 89 = .ok (.iload 6, 2) := by decide +kernel
theorem dX12_look_91 : decode cX12_look 91 = .ok (.ifCond .ne 7, 3) := by decide +kernel
theorem dX12_look_94 : decode cX12_look 94 = .ok (.iconst 1, 1) := by decide +kernel
theorem dX12_look_95 : decode cX12_look 95 = .ok (.goto 4, 3) := by decide +kernel
theorem dX12_look_98 : decode cX12_look 98 = .ok (.iconst 0, 1) := by decide +kernel
theorem dX12_look_99 : decode cX12_look 99 = .ok (.invokestatic 260, 3) := by decide +kernel
theorem dX12_look_102 : decode cX12_look 102 = .ok (.iadd, 1) := by decide +kernel
theorem dX12_look_103 : decode cX12_look 103 = .ok (.istore_n 3, 1) := by decide +kernel
theorem dX12_look_104 : decode cX12_look 104 = .ok (.iinc 5 1, 3) := by decide +kernel
theorem dX12_look_107 : decode cX12_look 107 = .ok (.goto (-97), 3) := by decide +kernel
theorem dX12_look_110 : decode cX12_look 110 = .ok (.iload_n 1, 1) := by decide +kernel
theorem dX12_look_111 : decode cX12_look 111 = .ok (.tableswitch 68 0 6 #[41, 46, 51, 53, 58, 63, 65], 41) := by decide +kernel
theorem dX12_look_152 : decode cX12_look 152 = .ok (.aload_n 0, 1) := by decide +kernel
theorem dX12_look_153 : decode cX12_look 153 = .ok (.getfield 100, 3) := by decide +kernel
theorem dX12_look_156 : decode cX12_look 156 = .ok (.ireturn, 1) := by decide +kernel
theorem dX12_look_157 : decode cX12_look 157 = .ok (.aload_n 0, 1) := by decide +kernel
theorem dX12_look_158 : decode cX12_look 158 = .ok (.getfield 109, 3) := by decide +kernel
theorem dX12_look_161 : decode cX12_look 161 = .ok (.ireturn, 1) := by decide +kernel
theorem dX12_look_162 : decode cX12_look 162 = .ok (.iload_n 2, 1) := by decide +kernel
theorem dX12_look_163 : decode cX12_look 163 = .ok (.ireturn, 1) := by decide +kernel
theorem dX12_look_164 : decode cX12_look 164 = .ok (.aload_n 0, 1) := by decide +kernel
theorem dX12_look_165 : decode cX12_look 165 = .ok (.getfield 112, 3) := by decide +kernel
theorem dX12_look_168 : decode cX12_look 168 = .ok (.ireturn, 1) := by decide +kernel
theorem dX12_look_169 : decode cX12_look 169 = .ok (.aload_n 0, 1) := by decide +kernel
theorem dX12_look_170 : decode cX12_look 170 = .ok (.getfield 126, 3) := by decide +kernel
theorem dX12_look_173 : decode cX12_look 173 = .ok (.ireturn, 1) := by decide +kernel
theorem dX12_look_174 : decode cX12_look 174 = .ok (.iload_n 3, 1) := by decide +kernel
theorem dX12_look_175 : decode cX12_look 175 = .ok (.ireturn, 1) := by decide +kernel
theorem dX12_look_176 : decode cX12_look 176 = .ok (.iload 4, 2) := by decide +kernel
theorem dX12_look_178 : decode cX12_look 178 = .ok (.ireturn, 1) := by decide +kernel
theorem dX12_look_179 : decode cX12_look 179 = .ok (.iconst (-1), 1) := by decide +kernel
theorem dX12_look_180 : decode cX12_look 180 = .ok (.ireturn, 1) := by decide +kernel
def F_X12_look_99 (k10 : Int32 → Int32 → Int32 → Int32 → Int32 → ae_S → Option (Int32 × ae_S)) (v1 : Int32) (v2 : Int32) (v4 : Int32) (v5 : Int32) (t0 : Int32) (t1 : Int32) (s0 : ae_S) : Option (Int32 × ae_S) := ae_bd (F_X12_one t0 s0) (fun (r1 : Int32) s2 => ae_lt (t1 + r1) (fun x5 => ae_lt (v5 + (1 : Int32)) (fun x7 => k10 v1 v2 x5 v4 x7 s2)))
set_option maxHeartbeats 4000000 in
set_option maxRecDepth 100000 in
theorem t_X12_look_99 {l : Launch} {G : ae_G} (d : Nat) (k10 : Int32 → Int32 → Int32 → Int32 → Int32 → ae_S → Option (Int32 × ae_S)) {rr : Int32} {ss : ae_S} (hk10 : ∀ (v1 : Int32) (v2 : Int32) (v3 : Int32) (v4 : Int32) (v5 : Int32) (s0 : ae_S), k10 v1 v2 v3 v4 v5 s0 = some (rr, ss) → ae_T l G (d + 3) mX12_look (ae_Po (some (ae_i rr)) ss) 10 [(0, ae_r (some (30, 0))), (1, ae_i v1), (2, ae_i v2), (3, ae_i v3), (4, ae_i v4), (5, ae_i v5)] [] s0) (v1 : Int32) (v2 : Int32) (v4 : Int32) (v5 : Int32) (t0 : Int32) (t1 : Int32) (s0 : ae_S) (hF : F_X12_look_99 k10 v1 v2 v4 v5 t0 t1 s0 = some (rr, ss)) : ae_T l G (d + 3) mX12_look (ae_Po (some (ae_i rr)) ss) 99 [(0, ae_r (some (30, 0))), (1, ae_i v1), (2, ae_i v2), (4, ae_i v4), (5, ae_i v5)] [ae_i t0, ae_i t1] s0 := by
  unfold F_X12_look_99 at hF
  obtain ⟨r1, s2, hc3, hF4⟩ := ae_bdI hF
  refine ae_cS1 (As := [ae_i t0]) dX12_look_99 ww_1579 vy_X12_one rfl rfl (Nat.le_of_ble_eq_true rfl) (c_X12_one (d + 2) hc3) ?_
  refine ae_iadd dX12_look_102 ?_
  obtain ⟨x5, hx5, hF6⟩ := ae_ltI hF4
  refine ae_nmI hx5 ?_
  refine ae_istore_n (lv' := [(3, ae_i x5), (0, ae_r (some (30, 0))), (1, ae_i v1), (2, ae_i v2), (4, ae_i v4), (5, ae_i v5)]) dX12_look_103 (by decide) rfl ?_
  obtain ⟨x7, hx7, hF8⟩ := ae_ltI hF6
  refine ae_iinc (lv' := [(5, ae_i x7), (3, ae_i x5), (0, ae_r (some (30, 0))), (1, ae_i v1), (2, ae_i v2), (4, ae_i v4)]) 5 (1 : Int32) dX12_look_104 rfl (by decide) (by decide) (by rw [hx7]; rfl) ?_
  refine ae_goto 10 dX12_look_107 rfl ?_
  refine ae_pick (lv' := [(0, ae_r (some (30, 0))), (1, ae_i v1), (2, ae_i v2), (3, ae_i x5), (4, ae_i v4), (5, ae_i x7)]) [2, 3, 4, 1, 5, 0] rfl ?_
  exact hk10 v1 v2 x5 v4 x7 s2 hF8
def F_X12_look_88 (k10 : Int32 → Int32 → Int32 → Int32 → Int32 → ae_S → Option (Int32 × ae_S)) (v1 : Int32) (v2 : Int32) (v3 : Int32) (v4 : Int32) (v5 : Int32) (v6 : Int32) (s0 : ae_S) : Option (Int32 × ae_S) := if v6 = 0 then (F_X12_look_99 k10 v1 v2 v4 v5 (1 : Int32) v3 s0) else (F_X12_look_99 k10 v1 v2 v4 v5 (0 : Int32) v3 s0)
set_option maxHeartbeats 4000000 in
set_option maxRecDepth 100000 in
theorem t_X12_look_88 {l : Launch} {G : ae_G} (d : Nat) (k10 : Int32 → Int32 → Int32 → Int32 → Int32 → ae_S → Option (Int32 × ae_S)) {rr : Int32} {ss : ae_S} (hk10 : ∀ (v1 : Int32) (v2 : Int32) (v3 : Int32) (v4 : Int32) (v5 : Int32) (s0 : ae_S), k10 v1 v2 v3 v4 v5 s0 = some (rr, ss) → ae_T l G (d + 3) mX12_look (ae_Po (some (ae_i rr)) ss) 10 [(0, ae_r (some (30, 0))), (1, ae_i v1), (2, ae_i v2), (3, ae_i v3), (4, ae_i v4), (5, ae_i v5)] [] s0) (v1 : Int32) (v2 : Int32) (v3 : Int32) (v4 : Int32) (v5 : Int32) (v6 : Int32) (s0 : ae_S) (hF : F_X12_look_88 k10 v1 v2 v3 v4 v5 v6 s0 = some (rr, ss)) : ae_T l G (d + 3) mX12_look (ae_Po (some (ae_i rr)) ss) 88 [(0, ae_r (some (30, 0))), (1, ae_i v1), (2, ae_i v2), (3, ae_i v3), (4, ae_i v4), (5, ae_i v5), (6, ae_i v6)] [] s0 := by
  unfold F_X12_look_88 at hF
  refine ae_iload_n 3 dX12_look_88 rfl ?_
  refine ae_iload 6 dX12_look_89 rfl ?_
  refine ae_if_ne 98 dX12_look_91 rfl (fun hb9 => ?_) (fun hb9 => ?_)
  · have hF10 := ae_ifF hb9 hF
    refine ae_iconst (0 : Int32) dX12_look_98 (by decide) ?_
    refine ae_pick (lv' := [(0, ae_r (some (30, 0))), (1, ae_i v1), (2, ae_i v2), (4, ae_i v4), (5, ae_i v5)]) [0, 1, 2, 4, 5] rfl ?_
    exact t_X12_look_99 d k10 hk10 v1 v2 v4 v5 (0 : Int32) v3 s0 hF10
  · have hF10 := ae_ifT hb9 hF
    refine ae_iconst (1 : Int32) dX12_look_94 (by decide) ?_
    refine ae_goto 99 dX12_look_95 rfl ?_
    refine ae_pick (lv' := [(0, ae_r (some (30, 0))), (1, ae_i v1), (2, ae_i v2), (4, ae_i v4), (5, ae_i v5)]) [0, 1, 2, 4, 5] rfl ?_
    exact t_X12_look_99 d k10 hk10 v1 v2 v4 v5 (1 : Int32) v3 s0 hF10
def F_X12_look_58 (k10 : Int32 → Int32 → Int32 → Int32 → Int32 → ae_S → Option (Int32 × ae_S)) : Nat → Int32 → Int32 → Int32 → Int32 → Int32 → Int32 → Int32 → ae_S → Option (Int32 × ae_S)
  | 0, _, _, _, _, _, _, _, _ => none
  | n + 1, v1, v2, v3, v4, v5, v6, v7, s0 => if (s0.1 30 0 17) ≤ v7 then (F_X12_look_88 k10 v1 v2 v3 v4 v5 v6 s0) else (if v6 = 0 then (ae_bd (F_X12_isUnder v7 v5 s0) (fun (r15 : Int32) s16 => ae_lt (v7 + (1 : Int32)) (fun x19 => F_X12_look_58 k10 n v1 v2 v3 v4 v5 r15 x19 s16))) else (F_X12_look_88 k10 v1 v2 v3 v4 v5 v6 s0))
set_option maxHeartbeats 4000000 in
set_option maxRecDepth 100000 in
theorem t_X12_look_58 {l : Launch} {G : ae_G} (d : Nat) (k10 : Int32 → Int32 → Int32 → Int32 → Int32 → ae_S → Option (Int32 × ae_S)) {rr : Int32} {ss : ae_S} (hk10 : ∀ (v1 : Int32) (v2 : Int32) (v3 : Int32) (v4 : Int32) (v5 : Int32) (s0 : ae_S), k10 v1 v2 v3 v4 v5 s0 = some (rr, ss) → ae_T l G (d + 3) mX12_look (ae_Po (some (ae_i rr)) ss) 10 [(0, ae_r (some (30, 0))), (1, ae_i v1), (2, ae_i v2), (3, ae_i v3), (4, ae_i v4), (5, ae_i v5)] [] s0) : ∀ (n : Nat) (v1 : Int32) (v2 : Int32) (v3 : Int32) (v4 : Int32) (v5 : Int32) (v6 : Int32) (v7 : Int32) (s0 : ae_S), F_X12_look_58 k10 n v1 v2 v3 v4 v5 v6 v7 s0 = some (rr, ss) → ae_T l G (d + 3) mX12_look (ae_Po (some (ae_i rr)) ss) 58 [(0, ae_r (some (30, 0))), (1, ae_i v1), (2, ae_i v2), (3, ae_i v3), (4, ae_i v4), (5, ae_i v5), (6, ae_i v6), (7, ae_i v7)] [] s0 := by
  intro n
  induction n with
  | zero =>
    intro v1 v2 v3 v4 v5 v6 v7 s0 hF
    exact absurd (show (none : Option (Int32 × ae_S)) = some (rr, ss) from hF) (by simp)
  | succ n ih =>
    intro v1 v2 v3 v4 v5 v6 v7 s0 hF
    unfold F_X12_look_58 at hF
    refine ae_iload 7 dX12_look_58 rfl ?_
    refine ae_aload_n 0 dX12_look_60 rfl ?_
    refine ae_getI (q := (30, 0)) dX12_look_61 fl_RX12_109 rfl rfl ?_
    refine ae_icmp_ge 88 dX12_look_64 rfl (fun hb11 => ?_) (fun hb11 => ?_)
    · have hF12 := ae_ifT hb11 hF
      refine ae_pick (lv' := [(0, ae_r (some (30, 0))), (1, ae_i v1), (2, ae_i v2), (3, ae_i v3), (4, ae_i v4), (5, ae_i v5), (6, ae_i v6)]) [0, 1, 2, 3, 4, 5, 6] rfl ?_
      exact t_X12_look_88 d k10 hk10 v1 v2 v3 v4 v5 v6 s0 hF12
    · have hF12 := ae_ifF hb11 hF
      refine ae_iload 6 dX12_look_67 rfl ?_
      refine ae_if_ne 88 dX12_look_69 rfl (fun hb13 => ?_) (fun hb13 => ?_)
      · have hF14 := ae_ifF hb13 hF12
        refine ae_pick (lv' := [(0, ae_r (some (30, 0))), (1, ae_i v1), (2, ae_i v2), (3, ae_i v3), (4, ae_i v4), (5, ae_i v5), (6, ae_i v6)]) [0, 1, 2, 3, 4, 5, 6] rfl ?_
        exact t_X12_look_88 d k10 hk10 v1 v2 v3 v4 v5 v6 s0 hF14
      · have hF14 := ae_ifT hb13 hF12
        refine ae_aload_n 0 dX12_look_72 rfl ?_
        refine ae_iload 7 dX12_look_73 rfl ?_
        refine ae_iload 5 dX12_look_75 rfl ?_
        obtain ⟨r15, s16, hc17, hF18⟩ := ae_bdI hF14
        refine ae_cV1 (q := (30, 0)) (As := [ae_i v7, ae_i v5]) dX12_look_77 ww_1845 vy_X12_isUnder rfl rfl rfl rfl rfl (Nat.le_of_ble_eq_true rfl) (c_X12_isUnder d hc17) ?_
        refine ae_istore (lv' := [(6, ae_i r15), (0, ae_r (some (30, 0))), (1, ae_i v1), (2, ae_i v2), (3, ae_i v3), (4, ae_i v4), (5, ae_i v5), (7, ae_i v7)]) dX12_look_80 (by decide) rfl ?_
        obtain ⟨x19, hx19, hF20⟩ := ae_ltI hF18
        refine ae_iinc (lv' := [(7, ae_i x19), (6, ae_i r15), (0, ae_r (some (30, 0))), (1, ae_i v1), (2, ae_i v2), (3, ae_i v3), (4, ae_i v4), (5, ae_i v5)]) 7 (1 : Int32) dX12_look_82 rfl (by decide) (by decide) (by rw [hx19]; rfl) ?_
        refine ae_goto 58 dX12_look_85 rfl ?_
        refine ae_pick (lv' := [(0, ae_r (some (30, 0))), (1, ae_i v1), (2, ae_i v2), (3, ae_i v3), (4, ae_i v4), (5, ae_i v5), (6, ae_i r15), (7, ae_i x19)]) [2, 3, 4, 5, 6, 7, 1, 0] rfl ?_
        exact ih v1 v2 v3 v4 v5 r15 x19 s16 hF20
def F_X12_look_35 (k10 : Int32 → Int32 → Int32 → Int32 → Int32 → ae_S → Option (Int32 × ae_S)) (v1 : Int32) (v3 : Int32) (v4 : Int32) (v5 : Int32) (t0 : Int32) (t1 : Int32) (s0 : ae_S) : Option (Int32 × ae_S) := ae_bd (F_X12_one t0 s0) (fun (r21 : Int32) s22 => ae_lt (t1 + r21) (fun x25 => ae_gd (ae_ib v5 256) (ae_lt (v4 + (s22.1 31 0 v5.toNatClampNeg)) (fun x29 => F_X12_look_58 k10 ae_fu v1 x25 v3 x29 v5 (0 : Int32) (0 : Int32) s22))))
set_option maxHeartbeats 4000000 in
set_option maxRecDepth 100000 in
theorem t_X12_look_35 {l : Launch} {G : ae_G} (d : Nat) (k10 : Int32 → Int32 → Int32 → Int32 → Int32 → ae_S → Option (Int32 × ae_S)) {rr : Int32} {ss : ae_S} (hk10 : ∀ (v1 : Int32) (v2 : Int32) (v3 : Int32) (v4 : Int32) (v5 : Int32) (s0 : ae_S), k10 v1 v2 v3 v4 v5 s0 = some (rr, ss) → ae_T l G (d + 3) mX12_look (ae_Po (some (ae_i rr)) ss) 10 [(0, ae_r (some (30, 0))), (1, ae_i v1), (2, ae_i v2), (3, ae_i v3), (4, ae_i v4), (5, ae_i v5)] [] s0) (v1 : Int32) (v3 : Int32) (v4 : Int32) (v5 : Int32) (t0 : Int32) (t1 : Int32) (s0 : ae_S) (hF : F_X12_look_35 k10 v1 v3 v4 v5 t0 t1 s0 = some (rr, ss)) : ae_T l G (d + 3) mX12_look (ae_Po (some (ae_i rr)) ss) 35 [(0, ae_r (some (30, 0))), (1, ae_i v1), (3, ae_i v3), (4, ae_i v4), (5, ae_i v5)] [ae_i t0, ae_i t1] s0 := by
  unfold F_X12_look_35 at hF
  obtain ⟨r21, s22, hc23, hF24⟩ := ae_bdI hF
  refine ae_cS1 (As := [ae_i t0]) dX12_look_35 ww_1579 vy_X12_one rfl rfl (Nat.le_of_ble_eq_true rfl) (c_X12_one (d + 2) hc23) ?_
  refine ae_iadd dX12_look_38 ?_
  obtain ⟨x25, hx25, hF26⟩ := ae_ltI hF24
  refine ae_nmI hx25 ?_
  refine ae_istore_n (lv' := [(2, ae_i x25), (0, ae_r (some (30, 0))), (1, ae_i v1), (3, ae_i v3), (4, ae_i v4), (5, ae_i v5)]) dX12_look_39 (by decide) rfl ?_
  refine ae_iload 4 dX12_look_40 rfl ?_
  refine ae_aload_n 1 dX12_look_42 rfl ?_
  refine ae_getA (q := (30, 0)) (some (31, 0)) dX12_look_43 fl_RX12_9 rfl rfl rfl ?_
  refine ae_iload 5 dX12_look_46 rfl ?_
  obtain ⟨hg27, hF28⟩ := ae_gdI hF26
  refine ae_iald (q := (31, 0)) dX12_look_48 rfl rfl (ae_ibI hg27) ?_
  refine ae_iadd dX12_look_49 ?_
  obtain ⟨x29, hx29, hF30⟩ := ae_ltI hF28
  refine ae_nmI hx29 ?_
  refine ae_istore (lv' := [(4, ae_i x29), (2, ae_i x25), (0, ae_r (some (30, 0))), (1, ae_i v1), (3, ae_i v3), (5, ae_i v5)]) dX12_look_50 (by decide) rfl ?_
  refine ae_iconst (0 : Int32) dX12_look_52 (by decide) ?_
  refine ae_istore (lv' := [(6, ae_i (0 : Int32)), (4, ae_i x29), (2, ae_i x25), (0, ae_r (some (30, 0))), (1, ae_i v1), (3, ae_i v3), (5, ae_i v5)]) dX12_look_53 (by decide) rfl ?_
  refine ae_iconst (0 : Int32) dX12_look_55 (by decide) ?_
  refine ae_istore (lv' := [(7, ae_i (0 : Int32)), (6, ae_i (0 : Int32)), (4, ae_i x29), (2, ae_i x25), (0, ae_r (some (30, 0))), (1, ae_i v1), (3, ae_i v3), (5, ae_i v5)]) dX12_look_56 (by decide) rfl ?_
  refine ae_pick (lv' := [(0, ae_r (some (30, 0))), (1, ae_i v1), (2, ae_i x25), (3, ae_i v3), (4, ae_i x29), (5, ae_i v5), (6, ae_i (0 : Int32)), (7, ae_i (0 : Int32))]) [4, 5, 3, 6, 2, 7, 1, 0] rfl ?_
  exact t_X12_look_58 d k10 hk10 ae_fu v1 x25 v3 x29 v5 (0 : Int32) (0 : Int32) s22 hF30
def F_X12_look_10 : Nat → Int32 → Int32 → Int32 → Int32 → Int32 → ae_S → Option (Int32 × ae_S)
  | 0, _, _, _, _, _, _ => none
  | n + 1, v1, v2, v3, v4, v5, s0 => if (s0.1 30 0 0) ≤ v5 then (if v1 = (0 : Int32) then (some (s0.1 30 0 0, s0)) else (if v1 = (1 : Int32) then (some (s0.1 30 0 17, s0)) else (if v1 = (2 : Int32) then (some (v2, s0)) else (if v1 = (3 : Int32) then (some (s0.1 30 0 5, s0)) else (if v1 = (4 : Int32) then (some (s0.1 30 0 20, s0)) else (if v1 = (5 : Int32) then (some (v3, s0)) else (if v1 = (6 : Int32) then (some (v4, s0)) else (some ((-1 : Int32), s0))))))))) else (ae_gd (ae_ib v5 256) (if (s0.1 31 0 v5.toNatClampNeg) = 0 then (F_X12_look_35 (F_X12_look_10 n) v1 v3 v4 v5 (0 : Int32) v2 s0) else (F_X12_look_35 (F_X12_look_10 n) v1 v3 v4 v5 (1 : Int32) v2 s0)))
set_option maxHeartbeats 4000000 in
set_option maxRecDepth 100000 in
theorem t_X12_look_10 {l : Launch} {G : ae_G} (d : Nat) {rr : Int32} {ss : ae_S} : ∀ (n : Nat) (v1 : Int32) (v2 : Int32) (v3 : Int32) (v4 : Int32) (v5 : Int32) (s0 : ae_S), F_X12_look_10 n v1 v2 v3 v4 v5 s0 = some (rr, ss) → ae_T l G (d + 3) mX12_look (ae_Po (some (ae_i rr)) ss) 10 [(0, ae_r (some (30, 0))), (1, ae_i v1), (2, ae_i v2), (3, ae_i v3), (4, ae_i v4), (5, ae_i v5)] [] s0 := by
  intro n
  induction n with
  | zero =>
    intro v1 v2 v3 v4 v5 s0 hF
    exact absurd (show (none : Option (Int32 × ae_S)) = some (rr, ss) from hF) (by simp)
  | succ n ih =>
    intro v1 v2 v3 v4 v5 s0 hF
    unfold F_X12_look_10 at hF
    refine ae_iload 5 dX12_look_10 rfl ?_
    refine ae_aload_n 0 dX12_look_12 rfl ?_
    refine ae_getI (q := (30, 0)) dX12_look_13 fl_RX12_100 rfl rfl ?_
    refine ae_icmp_ge 110 dX12_look_16 rfl (fun hb31 => ?_) (fun hb31 => ?_)
    · have hF32 := ae_ifT hb31 hF
      refine ae_iload_n 1 dX12_look_110 rfl ?_
      by_cases hb33 : v1 = (0 : Int32)
      · have hF34 := ae_ifT hb33 hF32
        refine ae_tabIn 152 dX12_look_111 (by rw [hb33]; decide) (by rw [hb33]; decide) (by rw [hb33]; rfl) rfl ?_
        refine ae_aload_n 0 dX12_look_152 rfl ?_
        refine ae_getI (q := (30, 0)) dX12_look_153 fl_RX12_100 rfl rfl ?_
        obtain ⟨rfl, rfl⟩ := ae_retI hF34
        exact ae_iret dX12_look_156 rfl rfl ⟨rfl, rfl⟩
      · have hF35 := ae_ifF hb33 hF32
        by_cases hb36 : v1 = (1 : Int32)
        · have hF37 := ae_ifT hb36 hF35
          refine ae_tabIn 157 dX12_look_111 (by rw [hb36]; decide) (by rw [hb36]; decide) (by rw [hb36]; rfl) rfl ?_
          refine ae_aload_n 0 dX12_look_157 rfl ?_
          refine ae_getI (q := (30, 0)) dX12_look_158 fl_RX12_109 rfl rfl ?_
          obtain ⟨rfl, rfl⟩ := ae_retI hF37
          exact ae_iret dX12_look_161 rfl rfl ⟨rfl, rfl⟩
        · have hF38 := ae_ifF hb36 hF35
          by_cases hb39 : v1 = (2 : Int32)
          · have hF40 := ae_ifT hb39 hF38
            refine ae_tabIn 162 dX12_look_111 (by rw [hb39]; decide) (by rw [hb39]; decide) (by rw [hb39]; rfl) rfl ?_
            refine ae_iload_n 2 dX12_look_162 rfl ?_
            obtain ⟨rfl, rfl⟩ := ae_retI hF40
            exact ae_iret dX12_look_163 rfl rfl ⟨rfl, rfl⟩
          · have hF41 := ae_ifF hb39 hF38
            by_cases hb42 : v1 = (3 : Int32)
            · have hF43 := ae_ifT hb42 hF41
              refine ae_tabIn 164 dX12_look_111 (by rw [hb42]; decide) (by rw [hb42]; decide) (by rw [hb42]; rfl) rfl ?_
              refine ae_aload_n 0 dX12_look_164 rfl ?_
              refine ae_getI (q := (30, 0)) dX12_look_165 fl_RX12_112 rfl rfl ?_
              obtain ⟨rfl, rfl⟩ := ae_retI hF43
              exact ae_iret dX12_look_168 rfl rfl ⟨rfl, rfl⟩
            · have hF44 := ae_ifF hb42 hF41
              by_cases hb45 : v1 = (4 : Int32)
              · have hF46 := ae_ifT hb45 hF44
                refine ae_tabIn 169 dX12_look_111 (by rw [hb45]; decide) (by rw [hb45]; decide) (by rw [hb45]; rfl) rfl ?_
                refine ae_aload_n 0 dX12_look_169 rfl ?_
                refine ae_getI (q := (30, 0)) dX12_look_170 fl_RX12_126 rfl rfl ?_
                obtain ⟨rfl, rfl⟩ := ae_retI hF46
                exact ae_iret dX12_look_173 rfl rfl ⟨rfl, rfl⟩
              · have hF47 := ae_ifF hb45 hF44
                by_cases hb48 : v1 = (5 : Int32)
                · have hF49 := ae_ifT hb48 hF47
                  refine ae_tabIn 174 dX12_look_111 (by rw [hb48]; decide) (by rw [hb48]; decide) (by rw [hb48]; rfl) rfl ?_
                  refine ae_iload_n 3 dX12_look_174 rfl ?_
                  obtain ⟨rfl, rfl⟩ := ae_retI hF49
                  exact ae_iret dX12_look_175 rfl rfl ⟨rfl, rfl⟩
                · have hF50 := ae_ifF hb48 hF47
                  by_cases hb51 : v1 = (6 : Int32)
                  · have hF52 := ae_ifT hb51 hF50
                    refine ae_tabIn 176 dX12_look_111 (by rw [hb51]; decide) (by rw [hb51]; decide) (by rw [hb51]; rfl) rfl ?_
                    refine ae_iload 4 dX12_look_176 rfl ?_
                    obtain ⟨rfl, rfl⟩ := ae_retI hF52
                    exact ae_iret dX12_look_178 rfl rfl ⟨rfl, rfl⟩
                  · have hF53 := ae_ifF hb51 hF50
                    have hn54 : ¬ (v1).toInt = 0 := lv_neT hb33 (by decide)
                    have hn55 : ¬ (v1).toInt = 1 := lv_neT hb36 (by decide)
                    have hn56 : ¬ (v1).toInt = 2 := lv_neT hb39 (by decide)
                    have hn57 : ¬ (v1).toInt = 3 := lv_neT hb42 (by decide)
                    have hn58 : ¬ (v1).toInt = 4 := lv_neT hb45 (by decide)
                    have hn59 : ¬ (v1).toInt = 5 := lv_neT hb48 (by decide)
                    have hn60 : ¬ (v1).toInt = 6 := lv_neT hb51 (by decide)
                    refine ae_tabOut 179 dX12_look_111 (by omega) rfl ?_
                    refine ae_iconst (-1 : Int32) dX12_look_179 (by decide) ?_
                    obtain ⟨rfl, rfl⟩ := ae_retI hF53
                    exact ae_iret dX12_look_180 rfl rfl ⟨rfl, rfl⟩
    · have hF32 := ae_ifF hb31 hF
      refine ae_iload_n 2 dX12_look_19 rfl ?_
      refine ae_aload_n 0 dX12_look_20 rfl ?_
      refine ae_getA (q := (30, 0)) (some (31, 0)) dX12_look_21 fl_RX12_9 rfl rfl rfl ?_
      refine ae_iload 5 dX12_look_24 rfl ?_
      obtain ⟨hg61, hF62⟩ := ae_gdI hF32
      refine ae_iald (q := (31, 0)) dX12_look_26 rfl rfl (ae_ibI hg61) ?_
      refine ae_if_eq 34 dX12_look_27 rfl (fun hb63 => ?_) (fun hb63 => ?_)
      · have hF64 := ae_ifT hb63 hF62
        refine ae_iconst (0 : Int32) dX12_look_34 (by decide) ?_
        refine ae_pick (lv' := [(0, ae_r (some (30, 0))), (1, ae_i v1), (3, ae_i v3), (4, ae_i v4), (5, ae_i v5)]) [0, 1, 3, 4, 5] rfl ?_
        exact t_X12_look_35 d (F_X12_look_10 n) ih v1 v3 v4 v5 (0 : Int32) v2 s0 hF64
      · have hF64 := ae_ifF hb63 hF62
        refine ae_iconst (1 : Int32) dX12_look_30 (by decide) ?_
        refine ae_goto 35 dX12_look_31 rfl ?_
        refine ae_pick (lv' := [(0, ae_r (some (30, 0))), (1, ae_i v1), (3, ae_i v3), (4, ae_i v4), (5, ae_i v5)]) [0, 1, 3, 4, 5] rfl ?_
        exact t_X12_look_35 d (F_X12_look_10 n) ih v1 v3 v4 v5 (1 : Int32) v2 s0 hF64
def F_X12_look (v1 : Int32) (s0 : ae_S) : Option (Int32 × ae_S) := F_X12_look_10 ae_fu v1 (0 : Int32) (0 : Int32) (0 : Int32) (0 : Int32) s0
set_option maxHeartbeats 4000000 in
set_option maxRecDepth 100000 in
theorem c_X12_look {l : Launch} {G : ae_G} (d : Nat) {v1 : Int32} {s0 ss : ae_S} {rr : Int32} (hF : F_X12_look v1 s0 = some (rr, ss)) : ae_Met l G (d + 3) yX12_look mX12_look [ae_r (some (30, 0)), ae_i v1] s0 (ae_Po (some (ae_i rr)) ss) := by
  refine ae_enter (by decide) rfl (Nat.le_of_ble_eq_true rfl) ?_
  show ae_T l G (d + 3) mX12_look (ae_Po (some (ae_i rr)) ss) 0 [(0, ae_r (some (30, 0))), (1, ae_i v1)] [] s0
  unfold F_X12_look at hF
  refine ae_iconst (0 : Int32) dX12_look_0 (by decide) ?_
  refine ae_istore_n (lv' := [(2, ae_i (0 : Int32)), (0, ae_r (some (30, 0))), (1, ae_i v1)]) dX12_look_1 (by decide) rfl ?_
  refine ae_iconst (0 : Int32) dX12_look_2 (by decide) ?_
  refine ae_istore_n (lv' := [(3, ae_i (0 : Int32)), (2, ae_i (0 : Int32)), (0, ae_r (some (30, 0))), (1, ae_i v1)]) dX12_look_3 (by decide) rfl ?_
  refine ae_iconst (0 : Int32) dX12_look_4 (by decide) ?_
  refine ae_istore (lv' := [(4, ae_i (0 : Int32)), (3, ae_i (0 : Int32)), (2, ae_i (0 : Int32)), (0, ae_r (some (30, 0))), (1, ae_i v1)]) dX12_look_5 (by decide) rfl ?_
  refine ae_iconst (0 : Int32) dX12_look_7 (by decide) ?_
  refine ae_istore (lv' := [(5, ae_i (0 : Int32)), (4, ae_i (0 : Int32)), (3, ae_i (0 : Int32)), (2, ae_i (0 : Int32)), (0, ae_r (some (30, 0))), (1, ae_i v1)]) dX12_look_8 (by decide) rfl ?_
  refine ae_pick (lv' := [(0, ae_r (some (30, 0))), (1, ae_i v1), (2, ae_i (0 : Int32)), (3, ae_i (0 : Int32)), (4, ae_i (0 : Int32)), (5, ae_i (0 : Int32))]) [4, 5, 3, 2, 1, 0] rfl ?_
  exact t_X12_look_10 d ae_fu v1 (0 : Int32) (0 : Int32) (0 : Int32) (0 : Int32) s0 hF
