/-! methods as functions: X0_restart X0_size X0_begin X0_loadFrom X0_get X0_set X0_saveInto X0_anyDiffers X0_keep X0_has X0_differs X0_stepBack X0_countSet X0_historyCount X0_total -/
theorem fl_RX0_9 : ae_FL RX0 9 0 0 (.array .int) true := ⟨_, _, _, rfl, by decide, ww_55, rfl, rfl, rfl⟩
theorem fl_RX0_15 : ae_FL RX0 15 0 1 (.array .int) true := ⟨_, _, _, rfl, by decide, ww_56, rfl, rfl, rfl⟩
theorem fl_RX0_23 : ae_FL RX0 23 0 3 (.int) false := ⟨_, _, _, rfl, by decide, ww_58, rfl, rfl, rfl⟩
theorem fl_RX0_27 : ae_FL RX0 27 0 4 (.int) false := ⟨_, _, _, rfl, by decide, ww_59, rfl, rfl, rfl⟩
theorem fl_RX0_30 : ae_FL RX0 30 0 5 (.int) false := ⟨_, _, _, rfl, by decide, ww_60, rfl, rfl, rfl⟩
theorem fl_RX0_20 : ae_FL RX0 20 0 2 (.array (.array .int)) true := ⟨_, _, _, rfl, by decide, ww_57, rfl, rfl, rfl⟩
abbrev mX0_restart : ae_M := (RX0, cX0_restart, 3, none)
theorem vy_X0_restart : ae_VY yX0_restart mX0_restart 1 := ⟨ww_335, ww_336, ww_3, ww_337, ⟨by decide, by decide, by decide +kernel⟩, by decide⟩
theorem dX0_restart_0 : decode cX0_restart 0 = .ok (.iconst 0, 1) := by decide +kernel
theorem dX0_restart_1 : decode cX0_restart 1 = .ok (.istore_n 2, 1) := by decide +kernel
theorem dX0_restart_2 : decode cX0_restart 2 = .ok (.iload_n 2, 1) := by decide +kernel
theorem dX0_restart_3 : decode cX0_restart 3 = .ok (.sipush 256, 3) := by decide +kernel
theorem dX0_restart_6 : decode cX0_restart 6 = .ok (.if_icmp .ge 23, 3) := by decide +kernel
theorem dX0_restart_9 : decode cX0_restart 9 = .ok (.aload_n 0, 1) := by decide +kernel
theorem dX0_restart_10 : decode cX0_restart 10 = .ok (.getfield 9, 3) := by decide +kernel
theorem dX0_restart_13 : decode cX0_restart 13 = .ok (.iload_n 2, 1) := by decide +kernel
theorem dX0_restart_14 : decode cX0_restart 14 = .ok (.iconst 0, 1) := by decide +kernel
theorem dX0_restart_15 : decode cX0_restart 15 = .ok (.iastore, 1) := by decide +kernel
theorem dX0_restart_16 : decode cX0_restart 16 = .ok (.aload_n 0, 1) := by decide +kernel
theorem dX0_restart_17 : decode cX0_restart 17 = .ok (.getfield 15, 3) := by decide +kernel
theorem dX0_restart_20 : decode cX0_restart 20 = .ok (.iload_n 2, 1) := by decide +kernel
theorem dX0_restart_21 : decode cX0_restart 21 = .ok (.iconst 0, 1) := by decide +kernel
theorem dX0_restart_22 : decode cX0_restart 22 = .ok (.iastore, 1) := by decide +kernel
theorem dX0_restart_23 : decode cX0_restart 23 = .ok (.iinc 2 1, 3) := by decide +kernel
theorem dX0_restart_26 : decode cX0_restart 26 = .ok (.goto (-24), 3) := by decide +kernel
theorem dX0_restart_29 : decode cX0_restart 29 = .ok (.aload_n 0, 1) := by decide +kernel
theorem dX0_restart_30 : decode cX0_restart 30 = .ok (.iload_n 1, 1) := by decide +kernel
theorem dX0_restart_31 : decode cX0_restart 31 = .ok (.putfield 23, 3) := by decide +kernel
theorem dX0_restart_34 : decode cX0_restart 34 = .ok (.aload_n 0, 1) := by decide +kernel
theorem dX0_restart_35 : decode cX0_restart 35 = .ok (.iconst 0, 1) := by decide +kernel
theorem dX0_restart_36 : decode cX0_restart 36 = .ok (.putfield 27, 3) := by decide +kernel
theorem dX0_restart_39 : decode cX0_restart 39 = .ok (.aload_n 0, 1) := by decide +kernel
theorem dX0_restart_40 : decode cX0_restart 40 = .ok (.iconst 0, 1) := by decide +kernel
theorem dX0_restart_41 : decode cX0_restart 41 = .ok (.putfield 30, 3) := by decide +kernel
theorem dX0_restart_44 : decode cX0_restart 44 = .ok (.return_, 1) := by decide +kernel
def F_X0_restart_2 : Nat → Int32 → Int32 → ae_S → Option (Unit × ae_S)
  | 0, _, _, _ => none
  | n + 1, v1, v2, s0 => if (256 : Int32) ≤ v2 then (ae_lt (ae_wI s0 3 0 3 v1) (fun s3 => ae_lt (ae_wI s3 3 0 4 (0 : Int32)) (fun s5 => ae_lt (ae_wI s5 3 0 5 (0 : Int32)) (fun s7 => some ((), s7))))) else (ae_gd (ae_ib v2 256) (ae_lt (ae_wI s0 4 0 v2.toNatClampNeg (0 : Int32)) (fun s11 => ae_gd (ae_ib v2 256) (ae_lt (ae_wI s11 4 1 v2.toNatClampNeg (0 : Int32)) (fun s15 => ae_lt (v2 + (1 : Int32)) (fun x17 => F_X0_restart_2 n v1 x17 s15))))))
set_option maxHeartbeats 4000000 in
set_option maxRecDepth 100000 in
theorem t_X0_restart_2 {l : Launch} {G : ae_G} (d : Nat) {rr : Unit} {ss : ae_S} : ∀ (n : Nat) (v1 : Int32) (v2 : Int32) (s0 : ae_S), F_X0_restart_2 n v1 v2 s0 = some (rr, ss) → ae_T l G d mX0_restart (ae_Po none ss) 2 [(0, ae_r (some (3, 0))), (1, ae_i v1), (2, ae_i v2)] [] s0 := by
  intro n
  induction n with
  | zero =>
    intro v1 v2 s0 hF
    exact absurd (show (none : Option (Unit × ae_S)) = some (rr, ss) from hF) (by simp)
  | succ n ih =>
    intro v1 v2 s0 hF
    unfold F_X0_restart_2 at hF
    refine ae_iload_n 2 dX0_restart_2 rfl ?_
    refine ae_sipush (256 : Int32) dX0_restart_3 (by decide) ?_
    refine ae_icmp_ge 29 dX0_restart_6 rfl (fun hb1 => ?_) (fun hb1 => ?_)
    · have hF2 := ae_ifT hb1 hF
      refine ae_aload_n 0 dX0_restart_29 rfl ?_
      refine ae_iload_n 1 dX0_restart_30 rfl ?_
      obtain ⟨s3, hs3, hF4⟩ := ae_ltI hF2
      refine ae_putI (q := (3, 0)) dX0_restart_31 fl_RX0_23 rfl rfl (ae_nmS hs3 ?_)
      refine ae_aload_n 0 dX0_restart_34 rfl ?_
      refine ae_iconst (0 : Int32) dX0_restart_35 (by decide) ?_
      obtain ⟨s5, hs5, hF6⟩ := ae_ltI hF4
      refine ae_putI (q := (3, 0)) dX0_restart_36 fl_RX0_27 rfl rfl (ae_nmS hs5 ?_)
      refine ae_aload_n 0 dX0_restart_39 rfl ?_
      refine ae_iconst (0 : Int32) dX0_restart_40 (by decide) ?_
      obtain ⟨s7, hs7, hF8⟩ := ae_ltI hF6
      refine ae_putI (q := (3, 0)) dX0_restart_41 fl_RX0_30 rfl rfl (ae_nmS hs7 ?_)
      obtain ⟨rfl, rfl⟩ := ae_retI hF8
      exact ae_vret dX0_restart_44 rfl ⟨rfl, rfl⟩
    · have hF2 := ae_ifF hb1 hF
      refine ae_aload_n 0 dX0_restart_9 rfl ?_
      refine ae_getA (q := (3, 0)) (some (4, 0)) dX0_restart_10 fl_RX0_9 rfl rfl rfl ?_
      refine ae_iload_n 2 dX0_restart_13 rfl ?_
      refine ae_iconst (0 : Int32) dX0_restart_14 (by decide) ?_
      obtain ⟨hg9, hF10⟩ := ae_gdI hF2
      obtain ⟨s11, hs11, hF12⟩ := ae_ltI hF10
      refine ae_iast (q := (4, 0)) dX0_restart_15 rfl rfl (ae_ibI hg9) (ae_nmS hs11 ?_)
      refine ae_aload_n 0 dX0_restart_16 rfl ?_
      refine ae_getA (q := (3, 0)) (some (4, 1)) dX0_restart_17 fl_RX0_15 rfl rfl rfl ?_
      refine ae_iload_n 2 dX0_restart_20 rfl ?_
      refine ae_iconst (0 : Int32) dX0_restart_21 (by decide) ?_
      obtain ⟨hg13, hF14⟩ := ae_gdI hF12
      obtain ⟨s15, hs15, hF16⟩ := ae_ltI hF14
      refine ae_iast (q := (4, 1)) dX0_restart_22 rfl rfl (ae_ibI hg13) (ae_nmS hs15 ?_)
      obtain ⟨x17, hx17, hF18⟩ := ae_ltI hF16
      refine ae_iinc (lv' := [(2, ae_i x17), (0, ae_r (some (3, 0))), (1, ae_i v1)]) 2 (1 : Int32) dX0_restart_23 rfl (by decide) (by decide) (by rw [hx17]; rfl) ?_
      refine ae_goto 2 dX0_restart_26 rfl ?_
      refine ae_pick (lv' := [(0, ae_r (some (3, 0))), (1, ae_i v1), (2, ae_i x17)]) [1, 2, 0] rfl ?_
      exact ih v1 x17 s15 hF18
def F_X0_restart (v1 : Int32) (s0 : ae_S) : Option (Unit × ae_S) := F_X0_restart_2 ae_fu v1 (0 : Int32) s0
set_option maxHeartbeats 4000000 in
set_option maxRecDepth 100000 in
theorem c_X0_restart {l : Launch} {G : ae_G} (d : Nat) {v1 : Int32} {s0 ss : ae_S} {rr : Unit} (hF : F_X0_restart v1 s0 = some (rr, ss)) : ae_Met l G d yX0_restart mX0_restart [ae_r (some (3, 0)), ae_i v1] s0 (ae_Po none ss) := by
  refine ae_enter (by decide) rfl (Nat.le_of_ble_eq_true rfl) ?_
  show ae_T l G d mX0_restart (ae_Po none ss) 0 [(0, ae_r (some (3, 0))), (1, ae_i v1)] [] s0
  unfold F_X0_restart at hF
  refine ae_iconst (0 : Int32) dX0_restart_0 (by decide) ?_
  refine ae_istore_n (lv' := [(2, ae_i (0 : Int32)), (0, ae_r (some (3, 0))), (1, ae_i v1)]) dX0_restart_1 (by decide) rfl ?_
  refine ae_pick (lv' := [(0, ae_r (some (3, 0))), (1, ae_i v1), (2, ae_i (0 : Int32))]) [1, 2, 0] rfl ?_
  exact t_X0_restart_2 d ae_fu v1 (0 : Int32) s0 hF
abbrev mX0_size : ae_M := (RX0, cX0_size, 1, some .int)
theorem vy_X0_size : ae_VY yX0_size mX0_size 0 := ⟨ww_474, ww_475, ww_3, ww_476, ⟨by decide, by decide, by decide +kernel⟩, by decide⟩
theorem dX0_size_0 : decode cX0_size 0 = .ok (.aload_n 0, 1) := by decide +kernel
theorem dX0_size_1 : decode cX0_size 1 = .ok (.getfield 23, 3) := by decide +kernel
theorem dX0_size_4 : decode cX0_size 4 = .ok (.ireturn, 1) := by decide +kernel
def F_X0_size (s0 : ae_S) : Option (Int32 × ae_S) := some (s0.1 3 0 3, s0)
set_option maxHeartbeats 4000000 in
set_option maxRecDepth 100000 in
theorem c_X0_size {l : Launch} {G : ae_G} (d : Nat) {s0 ss : ae_S} {rr : Int32} (hF : F_X0_size s0 = some (rr, ss)) : ae_Met l G d yX0_size mX0_size [ae_r (some (3, 0))] s0 (ae_Po (some (ae_i rr)) ss) := by
  refine ae_enter (by decide) rfl (Nat.le_of_ble_eq_true rfl) ?_
  show ae_T l G d mX0_size (ae_Po (some (ae_i rr)) ss) 0 [(0, ae_r (some (3, 0)))] [] s0
  unfold F_X0_size at hF
  refine ae_aload_n 0 dX0_size_0 rfl ?_
  refine ae_getI (q := (3, 0)) dX0_size_1 fl_RX0_23 rfl rfl ?_
  obtain ⟨rfl, rfl⟩ := ae_retI hF
  exact ae_iret dX0_size_4 rfl rfl ⟨rfl, rfl⟩
abbrev mX0_begin : ae_M := (RX0, cX0_begin, 1, none)
theorem vy_X0_begin : ae_VY yX0_begin mX0_begin 0 := ⟨ww_810, ww_811, ww_3, ww_812, ⟨by decide, by decide, by decide +kernel⟩, by decide⟩
theorem dX0_begin_0 : decode cX0_begin 0 = .ok (.aload_n 0, 1) := by decide +kernel
theorem dX0_begin_1 : decode cX0_begin 1 = .ok (.getfield 9, 3) := by decide +kernel
theorem dX0_begin_4 : decode cX0_begin 4 = .ok (.iconst 0, 1) := by decide +kernel
theorem dX0_begin_5 : decode cX0_begin 5 = .ok (.aload_n 0, 1) := by decide +kernel
theorem dX0_begin_6 : decode cX0_begin 6 = .ok (.getfield 15, 3) := by decide +kernel
theorem dX0_begin_9 : decode cX0_begin 9 = .ok (.iconst 0, 1) := by decide +kernel
theorem dX0_begin_10 : decode cX0_begin 10 = .ok (.sipush 256, 3) := by decide +kernel
theorem dX0_begin_13 : decode cX0_begin 13 = .ok (.invokestatic 33, 3) := by decide +kernel
theorem dX0_begin_16 : decode cX0_begin 16 = .ok (.return_, 1) := by decide +kernel
def F_X0_begin (s0 : ae_S) : Option (Unit × ae_S) := ae_lt (ae_wC s0 (4, 0) (4, 1) (0 : Int32).toNatClampNeg (0 : Int32).toNatClampNeg (256 : Int32).toNatClampNeg) (fun s1 => some ((), s1))
set_option maxHeartbeats 4000000 in
set_option maxRecDepth 100000 in
theorem c_X0_begin {l : Launch} {G : ae_G} (d : Nat) {s0 ss : ae_S} {rr : Unit} (hF : F_X0_begin s0 = some (rr, ss)) : ae_Met l G (d + 1) yX0_begin mX0_begin [ae_r (some (3, 0))] s0 (ae_Po none ss) := by
  refine ae_enter (by decide) rfl (Nat.le_of_ble_eq_true rfl) ?_
  show ae_T l G (d + 1) mX0_begin (ae_Po none ss) 0 [(0, ae_r (some (3, 0)))] [] s0
  unfold F_X0_begin at hF
  refine ae_aload_n 0 dX0_begin_0 rfl ?_
  refine ae_getA (q := (3, 0)) (some (4, 0)) dX0_begin_1 fl_RX0_9 rfl rfl rfl ?_
  refine ae_iconst (0 : Int32) dX0_begin_4 (by decide) ?_
  refine ae_aload_n 0 dX0_begin_5 rfl ?_
  refine ae_getA (q := (3, 0)) (some (4, 1)) dX0_begin_6 fl_RX0_15 rfl rfl rfl ?_
  refine ae_iconst (0 : Int32) dX0_begin_9 (by decide) ?_
  refine ae_sipush (256 : Int32) dX0_begin_10 (by decide) ?_
  obtain ⟨s1, hs1, hF2⟩ := ae_ltI hF
  refine ae_copy (qa := (4, 0)) (qb := (4, 1)) dX0_begin_13 ww_813 ww_815 ww_814 ww_22 rfl rfl rfl rfl (by decide) (by decide) (by decide) (by decide) (by decide) (Nat.le_of_ble_eq_true rfl) (ae_nmS hs1 ?_)
  obtain ⟨rfl, rfl⟩ := ae_retI hF2
  exact ae_vret dX0_begin_16 rfl ⟨rfl, rfl⟩
abbrev mX0_loadFrom : ae_M := (RX0, cX0_loadFrom, 2, none)
theorem vy_X0_loadFrom : ae_VY yX0_loadFrom mX0_loadFrom 1 := ⟨ww_861, ww_862, ww_3, ww_863, ⟨by decide, by decide, by decide +kernel⟩, by decide⟩
theorem dX0_loadFrom_0 : decode cX0_loadFrom 0 = .ok (.aload_n 1, 1) := by decide +kernel
theorem dX0_loadFrom_1 : decode cX0_loadFrom 1 = .ok (.iconst 0, 1) := by decide +kernel
theorem dX0_loadFrom_2 : decode cX0_loadFrom 2 = .ok (.aload_n 0, 1) := by decide +kernel
theorem dX0_loadFrom_3 : decode cX0_loadFrom 3 = .ok (.getfield 9, 3) := by decide +kernel
theorem dX0_loadFrom_6 : decode cX0_loadFrom 6 = .ok (.iconst 0, 1) := by decide +kernel
theorem dX0_loadFrom_7 : decode cX0_loadFrom 7 = .ok (.sipush 256, 3) := by decide +kernel
theorem dX0_loadFrom_10 : decode cX0_loadFrom 10 = .ok (.invokestatic 33, 3) := by decide +kernel
theorem dX0_loadFrom_13 : decode cX0_loadFrom 13 = .ok (.return_, 1) := by decide +kernel
def F_X0_loadFrom (i1 : Fin 32) (s0 : ae_S) : Option (Unit × ae_S) := ae_gd (ae_ok (4, i1)) (ae_lt (ae_wC s0 (4, i1) (4, 0) (0 : Int32).toNatClampNeg (0 : Int32).toNatClampNeg (256 : Int32).toNatClampNeg) (fun s3 => some ((), s3)))
set_option maxHeartbeats 4000000 in
set_option maxRecDepth 100000 in
theorem c_X0_loadFrom {l : Launch} {G : ae_G} (d : Nat) {i1 : Fin 32} {s0 ss : ae_S} {rr : Unit} (hF : F_X0_loadFrom i1 s0 = some (rr, ss)) : ae_Met l G (d + 1) yX0_loadFrom mX0_loadFrom [ae_r (some (3, 0)), ae_r (some (4, i1))] s0 (ae_Po none ss) := by
  refine ae_enter (by decide) rfl (Nat.le_of_ble_eq_true rfl) ?_
  show ae_T l G (d + 1) mX0_loadFrom (ae_Po none ss) 0 [(0, ae_r (some (3, 0))), (1, ae_r (some (4, i1)))] [] s0
  unfold F_X0_loadFrom at hF
  refine ae_aload_n 1 dX0_loadFrom_0 rfl ?_
  refine ae_iconst (0 : Int32) dX0_loadFrom_1 (by decide) ?_
  refine ae_aload_n 0 dX0_loadFrom_2 rfl ?_
  refine ae_getA (q := (3, 0)) (some (4, 0)) dX0_loadFrom_3 fl_RX0_9 rfl rfl rfl ?_
  refine ae_iconst (0 : Int32) dX0_loadFrom_6 (by decide) ?_
  refine ae_sipush (256 : Int32) dX0_loadFrom_7 (by decide) ?_
  obtain ⟨hg1, hF2⟩ := ae_gdI hF
  obtain ⟨s3, hs3, hF4⟩ := ae_ltI hF2
  refine ae_copy (qa := (4, i1)) (qb := (4, 0)) dX0_loadFrom_10 ww_813 ww_815 ww_814 ww_22 hg1 rfl rfl rfl (by decide) (by decide) (by decide) (by decide) (by decide) (Nat.le_of_ble_eq_true rfl) (ae_nmS hs3 ?_)
  obtain ⟨rfl, rfl⟩ := ae_retI hF4
  exact ae_vret dX0_loadFrom_13 rfl ⟨rfl, rfl⟩
abbrev mX0_get : ae_M := (RX0, cX0_get, 2, some .int)
theorem vy_X0_get : ae_VY yX0_get mX0_get 1 := ⟨ww_878, ww_879, ww_3, ww_880, ⟨by decide, by decide, by decide +kernel⟩, by decide⟩
theorem dX0_get_0 : decode cX0_get 0 = .ok (.iload_n 1, 1) := by decide +kernel
theorem dX0_get_1 : decode cX0_get 1 = .ok (.ifCond .lt 19, 3) := by decide +kernel
theorem dX0_get_4 : decode cX0_get 4 = .ok (.iload_n 1, 1) := by decide +kernel
theorem dX0_get_5 : decode cX0_get 5 = .ok (.sipush 256, 3) := by decide +kernel
theorem dX0_get_8 : decode cX0_get 8 = .ok (.if_icmp .ge 12, 3) := by decide +kernel
theorem dX0_get_11 : decode cX0_get 11 = .ok (.aload_n 0, 1) := by decide +kernel
theorem dX0_get_12 : decode cX0_get 12 = .ok (.getfield 9, 3) := by decide +kernel
theorem dX0_get_15 : decode cX0_get 15 = .ok (.iload_n 1, 1) := by decide +kernel
theorem dX0_get_16 : decode cX0_get 16 = .ok (.iaload, 1) := by decide +kernel
theorem dX0_get_17 : decode cX0_get 17 = .ok (.goto 4, 3) := by decide +kernel
theorem dX0_get_20 : decode cX0_get 20 = .ok (.iconst 0, 1) := by decide +kernel
theorem dX0_get_21 : decode cX0_get 21 = .ok (.ireturn, 1) := by decide +kernel
def F_X0_get_21 (t0 : Int32) (s0 : ae_S) : Option (Int32 × ae_S) := some (t0, s0)
set_option maxHeartbeats 4000000 in
set_option maxRecDepth 100000 in
theorem t_X0_get_21 {l : Launch} {G : ae_G} (d : Nat) {rr : Int32} {ss : ae_S} (t0 : Int32) (s0 : ae_S) (hF : F_X0_get_21 t0 s0 = some (rr, ss)) : ae_T l G d mX0_get (ae_Po (some (ae_i rr)) ss) 21 [] [ae_i t0] s0 := by
  unfold F_X0_get_21 at hF
  obtain ⟨rfl, rfl⟩ := ae_retI hF
  exact ae_iret dX0_get_21 rfl rfl ⟨rfl, rfl⟩
def F_X0_get_20 (s0 : ae_S) : Option (Int32 × ae_S) := F_X0_get_21 (0 : Int32) s0
set_option maxHeartbeats 4000000 in
set_option maxRecDepth 100000 in
theorem t_X0_get_20 {l : Launch} {G : ae_G} (d : Nat) {rr : Int32} {ss : ae_S} (s0 : ae_S) (hF : F_X0_get_20 s0 = some (rr, ss)) : ae_T l G d mX0_get (ae_Po (some (ae_i rr)) ss) 20 [] [] s0 := by
  unfold F_X0_get_20 at hF
  refine ae_iconst (0 : Int32) dX0_get_20 (by decide) ?_
  refine ae_pick (lv' := []) [] rfl ?_
  exact t_X0_get_21 d (0 : Int32) s0 hF
def F_X0_get (v1 : Int32) (s0 : ae_S) : Option (Int32 × ae_S) := if v1 < 0 then (F_X0_get_20 s0) else (if (256 : Int32) ≤ v1 then (F_X0_get_20 s0) else (ae_gd (ae_ib v1 256) (F_X0_get_21 (s0.1 4 0 v1.toNatClampNeg) s0)))
set_option maxHeartbeats 4000000 in
set_option maxRecDepth 100000 in
theorem c_X0_get {l : Launch} {G : ae_G} (d : Nat) {v1 : Int32} {s0 ss : ae_S} {rr : Int32} (hF : F_X0_get v1 s0 = some (rr, ss)) : ae_Met l G d yX0_get mX0_get [ae_r (some (3, 0)), ae_i v1] s0 (ae_Po (some (ae_i rr)) ss) := by
  refine ae_enter (by decide) rfl (Nat.le_of_ble_eq_true rfl) ?_
  show ae_T l G d mX0_get (ae_Po (some (ae_i rr)) ss) 0 [(0, ae_r (some (3, 0))), (1, ae_i v1)] [] s0
  unfold F_X0_get at hF
  refine ae_iload_n 1 dX0_get_0 rfl ?_
  refine ae_if_lt 20 dX0_get_1 rfl (fun hb1 => ?_) (fun hb1 => ?_)
  · have hF2 := ae_ifT hb1 hF
    refine ae_pick (lv' := []) [] rfl ?_
    exact t_X0_get_20 d s0 hF2
  · have hF2 := ae_ifF hb1 hF
    refine ae_iload_n 1 dX0_get_4 rfl ?_
    refine ae_sipush (256 : Int32) dX0_get_5 (by decide) ?_
    refine ae_icmp_ge 20 dX0_get_8 rfl (fun hb3 => ?_) (fun hb3 => ?_)
    · have hF4 := ae_ifT hb3 hF2
      refine ae_pick (lv' := []) [] rfl ?_
      exact t_X0_get_20 d s0 hF4
    · have hF4 := ae_ifF hb3 hF2
      refine ae_aload_n 0 dX0_get_11 rfl ?_
      refine ae_getA (q := (3, 0)) (some (4, 0)) dX0_get_12 fl_RX0_9 rfl rfl rfl ?_
      refine ae_iload_n 1 dX0_get_15 rfl ?_
      obtain ⟨hg5, hF6⟩ := ae_gdI hF4
      refine ae_iald (q := (4, 0)) dX0_get_16 rfl rfl (ae_ibI hg5) ?_
      refine ae_goto 21 dX0_get_17 rfl ?_
      refine ae_pick (lv' := []) [] rfl ?_
      exact t_X0_get_21 d (s0.1 4 0 v1.toNatClampNeg) s0 hF6
abbrev mX0_set : ae_M := (RX0, cX0_set, 3, none)
theorem vy_X0_set : ae_VY yX0_set mX0_set 2 := ⟨ww_917, ww_918, ww_3, ww_919, ⟨by decide, by decide, by decide +kernel⟩, by decide⟩
theorem dX0_set_0 : decode cX0_set 0 = .ok (.iload_n 1, 1) := by decide +kernel
theorem dX0_set_1 : decode cX0_set 1 = .ok (.ifCond .lt 21, 3) := by decide +kernel
theorem dX0_set_4 : decode cX0_set 4 = .ok (.iload_n 1, 1) := by decide +kernel
theorem dX0_set_5 : decode cX0_set 5 = .ok (.sipush 256, 3) := by decide +kernel
theorem dX0_set_8 : decode cX0_set 8 = .ok (.if_icmp .ge 14, 3) := by decide +kernel
theorem dX0_set_11 : decode cX0_set 11 = .ok (.aload_n 0, 1) := by decide +kernel
theorem dX0_set_12 : decode cX0_set 12 = .ok (.getfield 9, 3) := by decide +kernel
theorem dX0_set_15 : decode cX0_set 15 = .ok (.iload_n 1, 1) := by decide +kernel
theorem dX0_set_16 : decode cX0_set 16 = .ok (.iload_n 2, 1) := by decide +kernel
theorem dX0_set_17 : decode cX0_set 17 = .ok (.sipush 255, 3) := by decide +kernel
theorem dX0_set_20 : decode cX0_set 20 = .ok (.iand, 1) := by decide +kernel
theorem dX0_set_21 : decode cX0_set 21 = .ok (.iastore, 1) := by decide +kernel
theorem dX0_set_22 : decode cX0_set 22 = .ok (.return_, 1) := by decide +kernel
def F_X0_set_22 (s0 : ae_S) : Option (Unit × ae_S) := some ((), s0)
set_option maxHeartbeats 4000000 in
set_option maxRecDepth 100000 in
theorem t_X0_set_22 {l : Launch} {G : ae_G} (d : Nat) {rr : Unit} {ss : ae_S} (s0 : ae_S) (hF : F_X0_set_22 s0 = some (rr, ss)) : ae_T l G d mX0_set (ae_Po none ss) 22 [] [] s0 := by
  unfold F_X0_set_22 at hF
  obtain ⟨rfl, rfl⟩ := ae_retI hF
  exact ae_vret dX0_set_22 rfl ⟨rfl, rfl⟩
def F_X0_set (v1 : Int32) (v2 : Int32) (s0 : ae_S) : Option (Unit × ae_S) := if v1 < 0 then (F_X0_set_22 s0) else (if (256 : Int32) ≤ v1 then (F_X0_set_22 s0) else (ae_gd (ae_ib v1 256) (ae_lt (ae_wI s0 4 0 v1.toNatClampNeg (v2 &&& (255 : Int32))) (fun s7 => F_X0_set_22 s7))))
set_option maxHeartbeats 4000000 in
set_option maxRecDepth 100000 in
theorem c_X0_set {l : Launch} {G : ae_G} (d : Nat) {v1 : Int32} {v2 : Int32} {s0 ss : ae_S} {rr : Unit} (hF : F_X0_set v1 v2 s0 = some (rr, ss)) : ae_Met l G d yX0_set mX0_set [ae_r (some (3, 0)), ae_i v1, ae_i v2] s0 (ae_Po none ss) := by
  refine ae_enter (by decide) rfl (Nat.le_of_ble_eq_true rfl) ?_
  show ae_T l G d mX0_set (ae_Po none ss) 0 [(0, ae_r (some (3, 0))), (1, ae_i v1), (2, ae_i v2)] [] s0
  unfold F_X0_set at hF
  refine ae_iload_n 1 dX0_set_0 rfl ?_
  refine ae_if_lt 22 dX0_set_1 rfl (fun hb1 => ?_) (fun hb1 => ?_)
  · have hF2 := ae_ifT hb1 hF
    refine ae_pick (lv' := []) [] rfl ?_
    exact t_X0_set_22 d s0 hF2
  · have hF2 := ae_ifF hb1 hF
    refine ae_iload_n 1 dX0_set_4 rfl ?_
    refine ae_sipush (256 : Int32) dX0_set_5 (by decide) ?_
    refine ae_icmp_ge 22 dX0_set_8 rfl (fun hb3 => ?_) (fun hb3 => ?_)
    · have hF4 := ae_ifT hb3 hF2
      refine ae_pick (lv' := []) [] rfl ?_
      exact t_X0_set_22 d s0 hF4
    · have hF4 := ae_ifF hb3 hF2
      refine ae_aload_n 0 dX0_set_11 rfl ?_
      refine ae_getA (q := (3, 0)) (some (4, 0)) dX0_set_12 fl_RX0_9 rfl rfl rfl ?_
      refine ae_iload_n 1 dX0_set_15 rfl ?_
      refine ae_iload_n 2 dX0_set_16 rfl ?_
      refine ae_sipush (255 : Int32) dX0_set_17 (by decide) ?_
      refine ae_iand dX0_set_20 ?_
      obtain ⟨hg5, hF6⟩ := ae_gdI hF4
      obtain ⟨s7, hs7, hF8⟩ := ae_ltI hF6
      refine ae_iast (q := (4, 0)) dX0_set_21 rfl rfl (ae_ibI hg5) (ae_nmS hs7 ?_)
      refine ae_pick (lv' := []) [] rfl ?_
      exact t_X0_set_22 d s7 hF8
abbrev mX0_saveInto : ae_M := (RX0, cX0_saveInto, 2, none)
theorem vy_X0_saveInto : ae_VY yX0_saveInto mX0_saveInto 1 := ⟨ww_976, ww_977, ww_3, ww_978, ⟨by decide, by decide, by decide +kernel⟩, by decide⟩
theorem dX0_saveInto_0 : decode cX0_saveInto 0 = .ok (.aload_n 0, 1) := by decide +kernel
theorem dX0_saveInto_1 : decode cX0_saveInto 1 = .ok (.getfield 9, 3) := by decide +kernel
theorem dX0_saveInto_4 : decode cX0_saveInto 4 = .ok (.iconst 0, 1) := by decide +kernel
theorem dX0_saveInto_5 : decode cX0_saveInto 5 = .ok (.aload_n 1, 1) := by decide +kernel
theorem dX0_saveInto_6 : decode cX0_saveInto 6 = .ok (.iconst 0, 1) := by decide +kernel
theorem dX0_saveInto_7 : decode cX0_saveInto 7 = .ok (.sipush 256, 3) := by decide +kernel
theorem dX0_saveInto_10 : decode cX0_saveInto 10 = .ok (.invokestatic 33, 3) := by decide +kernel
theorem dX0_saveInto_13 : decode cX0_saveInto 13 = .ok (.return_, 1) := by decide +kernel
def F_X0_saveInto (i1 : Fin 32) (s0 : ae_S) : Option (Unit × ae_S) := ae_gd (ae_ok (4, i1)) (ae_lt (ae_wC s0 (4, 0) (4, i1) (0 : Int32).toNatClampNeg (0 : Int32).toNatClampNeg (256 : Int32).toNatClampNeg) (fun s3 => some ((), s3)))
set_option maxHeartbeats 4000000 in
set_option maxRecDepth 100000 in
theorem c_X0_saveInto {l : Launch} {G : ae_G} (d : Nat) {i1 : Fin 32} {s0 ss : ae_S} {rr : Unit} (hF : F_X0_saveInto i1 s0 = some (rr, ss)) : ae_Met l G (d + 1) yX0_saveInto mX0_saveInto [ae_r (some (3, 0)), ae_r (some (4, i1))] s0 (ae_Po none ss) := by
  refine ae_enter (by decide) rfl (Nat.le_of_ble_eq_true rfl) ?_
  show ae_T l G (d + 1) mX0_saveInto (ae_Po none ss) 0 [(0, ae_r (some (3, 0))), (1, ae_r (some (4, i1)))] [] s0
  unfold F_X0_saveInto at hF
  refine ae_aload_n 0 dX0_saveInto_0 rfl ?_
  refine ae_getA (q := (3, 0)) (some (4, 0)) dX0_saveInto_1 fl_RX0_9 rfl rfl rfl ?_
  refine ae_iconst (0 : Int32) dX0_saveInto_4 (by decide) ?_
  refine ae_aload_n 1 dX0_saveInto_5 rfl ?_
  refine ae_iconst (0 : Int32) dX0_saveInto_6 (by decide) ?_
  refine ae_sipush (256 : Int32) dX0_saveInto_7 (by decide) ?_
  obtain ⟨hg1, hF2⟩ := ae_gdI hF
  obtain ⟨s3, hs3, hF4⟩ := ae_ltI hF2
  refine ae_copy (qa := (4, 0)) (qb := (4, i1)) dX0_saveInto_10 ww_813 ww_815 ww_814 ww_22 rfl hg1 rfl rfl (by decide) (by decide) (by decide) (by decide) (by decide) (Nat.le_of_ble_eq_true rfl) (ae_nmS hs3 ?_)
  obtain ⟨rfl, rfl⟩ := ae_retI hF4
  exact ae_vret dX0_saveInto_13 rfl ⟨rfl, rfl⟩
abbrev mX0_anyDiffers : ae_M := (RX0, cX0_anyDiffers, 2, some .boolean)
theorem vy_X0_anyDiffers : ae_VY yX0_anyDiffers mX0_anyDiffers 0 := ⟨ww_1027, wq_49, ww_3, ww_1028, ⟨by decide, by decide, by decide +kernel⟩, by decide⟩
theorem dX0_anyDiffers_0 : decode cX0_anyDiffers 0 = .ok (.iconst 0, 1) := by decide +kernel
theorem dX0_anyDiffers_1 : decode cX0_anyDiffers 1 = .ok (.istore_n 1, 1) := by decide +kernel
theorem dX0_anyDiffers_2 : decode cX0_anyDiffers 2 = .ok (.iload_n 1, 1) := by decide +kernel
theorem dX0_anyDiffers_3 : decode cX0_anyDiffers 3 = .ok (.aload_n 0, 1) := by decide +kernel
theorem dX0_anyDiffers_4 : decode cX0_anyDiffers 4 = .ok (.getfield 23, 3) := by decide +kernel
theorem dX0_anyDiffers_7 : decode cX0_anyDiffers 7 = .ok (.if_icmp .ge 26, 3) := by decide +kernel
theorem dX0_anyDiffers_10 : decode cX0_anyDiffers 10 = .ok (.aload_n 0, 1) := by decide +kernel
theorem dX0_anyDiffers_11 : decode cX0_anyDiffers 11 = .ok (.getfield 9, 3) := by decide +kernel
theorem dX0_anyDiffers_14 : decode cX0_anyDiffers 14 = .ok (.iload_n 1, 1) := by decide +kernel
theorem dX0_anyDiffers_15 : decode cX0_anyDiffers 15 = .ok (.iaload, 1) := by decide +kernel
theorem dX0_anyDiffers_16 : decode cX0_anyDiffers 16 = .ok (.aload_n 0, 1) := by decide +kernel
theorem dX0_anyDiffers_17 : decode cX0_anyDiffers 17 = .ok (.getfield 15, 3) := by decide +kernel
theorem dX0_anyDiffers_20 : decode cX0_anyDiffers 20 = .ok (.iload_n 1, 1) := by decide +kernel
theorem dX0_anyDiffers_21 : decode cX0_anyDiffers 21 = .ok (.iaload, 1) := by decide +kernel
theorem dX0_anyDiffers_22 : decode cX0_anyDiffers 22 = .ok (.if_icmp .eq 5, 3) := by decide +kernel
theorem dX0_anyDiffers_25 : decode cX0_anyDiffers 25 = .ok (.iconst 1, 1) := by decide +kernel
theorem dX0_anyDiffers_26 : decode cX0_anyDiffers 26 = .ok (.ireturn, 1) := by decide +kernel
theorem dX0_anyDiffers_27 : decode cX0_anyDiffers 27 = .ok (.iinc 1 1, 3) := by decide +kernel
theorem dX0_anyDiffers_30 : decode cX0_anyDiffers 30 = .ok (.goto (-28), 3) := by decide +kernel
theorem dX0_anyDiffers_33 : decode cX0_anyDiffers 33 = .ok (.iconst 0, 1) := by decide +kernel
theorem dX0_anyDiffers_34 : decode cX0_anyDiffers 34 = .ok (.ireturn, 1) := by decide +kernel
def F_X0_anyDiffers_2 : Nat → Int32 → ae_S → Option (Int32 × ae_S)
  | 0, _, _ => none
  | n + 1, v1, s0 => if (s0.1 3 0 3) ≤ v1 then (some ((0 : Int32), s0)) else (ae_gd (ae_ib v1 256) (ae_gd (ae_ib v1 256) (if (s0.1 4 0 v1.toNatClampNeg) = (s0.1 4 1 v1.toNatClampNeg) then (ae_lt (v1 + (1 : Int32)) (fun x9 => F_X0_anyDiffers_2 n x9 s0)) else (some ((1 : Int32), s0)))))
set_option maxHeartbeats 4000000 in
set_option maxRecDepth 100000 in
theorem t_X0_anyDiffers_2 {l : Launch} {G : ae_G} (d : Nat) {rr : Int32} {ss : ae_S} : ∀ (n : Nat) (v1 : Int32) (s0 : ae_S), F_X0_anyDiffers_2 n v1 s0 = some (rr, ss) → ae_T l G d mX0_anyDiffers (ae_Po (some (ae_i rr)) ss) 2 [(0, ae_r (some (3, 0))), (1, ae_i v1)] [] s0 := by
  intro n
  induction n with
  | zero =>
    intro v1 s0 hF
    exact absurd (show (none : Option (Int32 × ae_S)) = some (rr, ss) from hF) (by simp)
  | succ n ih =>
    intro v1 s0 hF
    unfold F_X0_anyDiffers_2 at hF
    refine ae_iload_n 1 dX0_anyDiffers_2 rfl ?_
    refine ae_aload_n 0 dX0_anyDiffers_3 rfl ?_
    refine ae_getI (q := (3, 0)) dX0_anyDiffers_4 fl_RX0_23 rfl rfl ?_
    refine ae_icmp_ge 33 dX0_anyDiffers_7 rfl (fun hb1 => ?_) (fun hb1 => ?_)
    · have hF2 := ae_ifT hb1 hF
      refine ae_iconst (0 : Int32) dX0_anyDiffers_33 (by decide) ?_
      obtain ⟨rfl, rfl⟩ := ae_retI hF2
      exact ae_iret dX0_anyDiffers_34 rfl (by decide) ⟨rfl, rfl⟩
    · have hF2 := ae_ifF hb1 hF
      refine ae_aload_n 0 dX0_anyDiffers_10 rfl ?_
      refine ae_getA (q := (3, 0)) (some (4, 0)) dX0_anyDiffers_11 fl_RX0_9 rfl rfl rfl ?_
      refine ae_iload_n 1 dX0_anyDiffers_14 rfl ?_
      obtain ⟨hg3, hF4⟩ := ae_gdI hF2
      refine ae_iald (q := (4, 0)) dX0_anyDiffers_15 rfl rfl (ae_ibI hg3) ?_
      refine ae_aload_n 0 dX0_anyDiffers_16 rfl ?_
      refine ae_getA (q := (3, 0)) (some (4, 1)) dX0_anyDiffers_17 fl_RX0_15 rfl rfl rfl ?_
      refine ae_iload_n 1 dX0_anyDiffers_20 rfl ?_
      obtain ⟨hg5, hF6⟩ := ae_gdI hF4
      refine ae_iald (q := (4, 1)) dX0_anyDiffers_21 rfl rfl (ae_ibI hg5) ?_
      refine ae_icmp_eq 27 dX0_anyDiffers_22 rfl (fun hb7 => ?_) (fun hb7 => ?_)
      · have hF8 := ae_ifT hb7 hF6
        obtain ⟨x9, hx9, hF10⟩ := ae_ltI hF8
        refine ae_iinc (lv' := [(1, ae_i x9), (0, ae_r (some (3, 0)))]) 1 (1 : Int32) dX0_anyDiffers_27 rfl (by decide) (by decide) (by rw [hx9]; rfl) ?_
        refine ae_goto 2 dX0_anyDiffers_30 rfl ?_
        refine ae_pick (lv' := [(0, ae_r (some (3, 0))), (1, ae_i x9)]) [1, 0] rfl ?_
        exact ih x9 s0 hF10
      · have hF8 := ae_ifF hb7 hF6
        refine ae_iconst (1 : Int32) dX0_anyDiffers_25 (by decide) ?_
        obtain ⟨rfl, rfl⟩ := ae_retI hF8
        exact ae_iret dX0_anyDiffers_26 rfl (by decide) ⟨rfl, rfl⟩
def F_X0_anyDiffers (s0 : ae_S) : Option (Int32 × ae_S) := F_X0_anyDiffers_2 ae_fu (0 : Int32) s0
set_option maxHeartbeats 4000000 in
set_option maxRecDepth 100000 in
theorem c_X0_anyDiffers {l : Launch} {G : ae_G} (d : Nat) {s0 ss : ae_S} {rr : Int32} (hF : F_X0_anyDiffers s0 = some (rr, ss)) : ae_Met l G d yX0_anyDiffers mX0_anyDiffers [ae_r (some (3, 0))] s0 (ae_Po (some (ae_i rr)) ss) := by
  refine ae_enter (by decide) rfl (Nat.le_of_ble_eq_true rfl) ?_
  show ae_T l G d mX0_anyDiffers (ae_Po (some (ae_i rr)) ss) 0 [(0, ae_r (some (3, 0)))] [] s0
  unfold F_X0_anyDiffers at hF
  refine ae_iconst (0 : Int32) dX0_anyDiffers_0 (by decide) ?_
  refine ae_istore_n (lv' := [(1, ae_i (0 : Int32)), (0, ae_r (some (3, 0)))]) dX0_anyDiffers_1 (by decide) rfl ?_
  refine ae_pick (lv' := [(0, ae_r (some (3, 0))), (1, ae_i (0 : Int32))]) [1, 0] rfl ?_
  exact t_X0_anyDiffers_2 d ae_fu (0 : Int32) s0 hF
abbrev mX0_keep : ae_M := (RX0, cX0_keep, 2, none)
theorem vy_X0_keep : ae_VY yX0_keep mX0_keep 0 := ⟨ww_1022, ww_1023, ww_3, ww_1024, ⟨by decide, by decide, by decide +kernel⟩, by decide⟩
theorem dX0_keep_0 : decode cX0_keep 0 = .ok (.aload_n 0, 1) := by decide +kernel
theorem dX0_keep_1 : decode cX0_keep 1 = .ok (.invokevirtual 39, 3) := by decide +kernel
theorem dX0_keep_4 : decode cX0_keep 4 = .ok (.ifCond .ne 4, 3) := by decide +kernel
theorem dX0_keep_7 : decode cX0_keep 7 = .ok (.return_, 1) := by decide +kernel
theorem dX0_keep_8 : decode cX0_keep 8 = .ok (.aload_n 0, 1) := by decide +kernel
theorem dX0_keep_9 : decode cX0_keep 9 = .ok (.getfield 30, 3) := by decide +kernel
theorem dX0_keep_12 : decode cX0_keep 12 = .ok (.bipush 8, 2) := by decide +kernel
theorem dX0_keep_14 : decode cX0_keep 14 = .ok (.if_icmp .ne 26, 3) := by decide +kernel
theorem dX0_keep_17 : decode cX0_keep 17 = .ok (.aload_n 0, 1) := by decide +kernel
theorem dX0_keep_18 : decode cX0_keep 18 = .ok (.aload_n 0, 1) := by decide +kernel
theorem dX0_keep_19 : decode cX0_keep 19 = .ok (.getfield 27, 3) := by decide +kernel
theorem dX0_keep_22 : decode cX0_keep 22 = .ok (.iconst 1, 1) := by decide +kernel
theorem dX0_keep_23 : decode cX0_keep 23 = .ok (.iadd, 1) := by decide +kernel
theorem dX0_keep_24 : decode cX0_keep 24 = .ok (.bipush 8, 2) := by decide +kernel
theorem dX0_keep_26 : decode cX0_keep 26 = .ok (.irem, 1) := by decide +kernel
theorem dX0_keep_27 : decode cX0_keep 27 = .ok (.putfield 27, 3) := by decide +kernel
theorem dX0_keep_30 : decode cX0_keep 30 = .ok (.aload_n 0, 1) := by decide +kernel
theorem dX0_keep_31 : decode cX0_keep 31 = .ok (.dup, 1) := by decide +kernel
theorem dX0_keep_32 : decode cX0_keep 32 = .ok (.getfield 30, 3) := by decide +kernel
theorem dX0_keep_35 : decode cX0_keep 35 = .ok (.iconst 1, 1) := by decide +kernel
theorem dX0_keep_36 : decode cX0_keep 36 = .ok (.isub, 1) := by decide +kernel
theorem dX0_keep_37 : decode cX0_keep 37 = .ok (.putfield 30, 3) := by decide +kernel
theorem dX0_keep_40 : decode cX0_keep 40 = .ok (.aload_n 0, 1) := by decide +kernel
theorem dX0_keep_41 : decode cX0_keep 41 = .ok (.getfield 27, 3) := by decide +kernel
theorem dX0_keep_44 : decode cX0_keep 44 = .ok (.aload_n 0, 1) := by decide +kernel
theorem dX0_keep_45 : decode cX0_keep 45 = .ok (.getfield 30, 3) := by decide +kernel
theorem dX0_keep_48 : decode cX0_keep 48 = .ok (.iadd, 1) := by decide +kernel
theorem dX0_keep_49 : decode cX0_keep 49 = .ok (.bipush 8, 2) := by decide +kernel
theorem dX0_keep_51 : decode cX0_keep 51 = .ok (.irem, 1) := by decide +kernel
theorem dX0_keep_52 : decode cX0_keep 52 = .ok (.istore_n 1, 1) := by decide +kernel
theorem dX0_keep_53 : decode cX0_keep 53 = .ok (.aload_n 0, 1) := by decide +kernel
theorem dX0_keep_54 : decode cX0_keep 54 = .ok (.getfield 15, 3) := by decide +kernel
theorem dX0_keep_57 : decode cX0_keep 57 = .ok (.iconst 0, 1) := by decide +kernel
theorem dX0_keep_58 : decode cX0_keep 58 = .ok (.aload_n 0, 1) := by decide +kernel
theorem dX0_keep_59 : decode cX0_keep 59 = .ok (.getfield 20, 3) := by decide +kernel
theorem dX0_keep_62 : decode cX0_keep 62 = .ok (.iload_n 1, 1) := by decide +kernel
theorem dX0_keep_63 : decode cX0_keep 63 = .ok (.aaload, 1) := by decide +kernel
theorem dX0_keep_64 : decode cX0_keep 64 = .ok (.iconst 0, 1) := by decide +kernel
theorem dX0_keep_65 : decode cX0_keep 65 = .ok (.sipush 256, 3) := by decide +kernel
theorem dX0_keep_68 : decode cX0_keep 68 = .ok (.invokestatic 33, 3) := by decide +kernel
theorem dX0_keep_71 : decode cX0_keep 71 = .ok (.aload_n 0, 1) := by decide +kernel
theorem dX0_keep_72 : decode cX0_keep 72 = .ok (.dup, 1) := by decide +kernel
theorem dX0_keep_73 : decode cX0_keep 73 = .ok (.getfield 30, 3) := by decide +kernel
theorem dX0_keep_76 : decode cX0_keep 76 = .ok (.iconst 1, 1) := by decide +kernel
theorem dX0_keep_77 : decode cX0_keep 77 = .ok (.iadd, 1) := by decide +kernel
theorem dX0_keep_78 : decode cX0_keep 78 = .ok (.putfield 30, 3) := by decide +kernel
theorem dX0_keep_81 : decode cX0_keep 81 = .ok (.return_, 1) := by decide +kernel
def F_X0_keep_40 (s0 : ae_S) : Option (Unit × ae_S) := ae_lt (((s0.1 3 0 4) + (s0.1 3 0 5)) - ((s0.1 3 0 4) + (s0.1 3 0 5)) / (8 : Int32) * (8 : Int32)) (fun x1 => ae_gd (ae_ib x1 8) (ae_gd (ae_ok (4, (Fin.ofNat 32 (x1.toNatClampNeg + 2)))) (ae_lt (ae_wC s0 (4, 1) (4, (Fin.ofNat 32 (x1.toNatClampNeg + 2))) (0 : Int32).toNatClampNeg (0 : Int32).toNatClampNeg (256 : Int32).toNatClampNeg) (fun s7 => ae_lt (ae_wI s7 3 0 5 ((s7.1 3 0 5) + (1 : Int32))) (fun s9 => some ((), s9))))))
set_option maxHeartbeats 4000000 in
set_option maxRecDepth 100000 in
theorem t_X0_keep_40 {l : Launch} {G : ae_G} (d : Nat) {rr : Unit} {ss : ae_S} (s0 : ae_S) (hF : F_X0_keep_40 s0 = some (rr, ss)) : ae_T l G (d + 1) mX0_keep (ae_Po none ss) 40 [(0, ae_r (some (3, 0)))] [] s0 := by
  unfold F_X0_keep_40 at hF
  refine ae_aload_n 0 dX0_keep_40 rfl ?_
  refine ae_getI (q := (3, 0)) dX0_keep_41 fl_RX0_27 rfl rfl ?_
  refine ae_aload_n 0 dX0_keep_44 rfl ?_
  refine ae_getI (q := (3, 0)) dX0_keep_45 fl_RX0_30 rfl rfl ?_
  refine ae_iadd dX0_keep_48 ?_
  refine ae_bipush (8 : Int32) dX0_keep_49 (by decide) ?_
  refine ae_irem dX0_keep_51 (by decide) ?_
  obtain ⟨x1, hx1, hF2⟩ := ae_ltI hF
  refine ae_nmI hx1 ?_
  refine ae_istore_n (lv' := [(1, ae_i x1), (0, ae_r (some (3, 0)))]) dX0_keep_52 (by decide) rfl ?_
  refine ae_aload_n 1 dX0_keep_53 rfl ?_
  refine ae_getA (q := (3, 0)) (some (4, 1)) dX0_keep_54 fl_RX0_15 rfl rfl rfl ?_
  refine ae_iconst (0 : Int32) dX0_keep_57 (by decide) ?_
  refine ae_aload_n 1 dX0_keep_58 rfl ?_
  refine ae_getA (q := (3, 0)) (some (5, 0)) dX0_keep_59 fl_RX0_20 rfl rfl rfl ?_
  refine ae_iload_n 0 dX0_keep_62 rfl ?_
  obtain ⟨hg3, hF4⟩ := ae_gdI hF2
  refine ae_aald (q := (5, 0)) (some (4, (Fin.ofNat 32 (x1.toNatClampNeg + 2)))) dX0_keep_63 rfl rfl (Or.inl rfl) (ae_ibI hg3) rfl ?_
  refine ae_iconst (0 : Int32) dX0_keep_64 (by decide) ?_
  refine ae_sipush (256 : Int32) dX0_keep_65 (by decide) ?_
  obtain ⟨hg5, hF6⟩ := ae_gdI hF4
  obtain ⟨s7, hs7, hF8⟩ := ae_ltI hF6
  refine ae_copy (qa := (4, 1)) (qb := (4, (Fin.ofNat 32 (x1.toNatClampNeg + 2)))) dX0_keep_68 ww_813 ww_815 ww_814 ww_22 rfl hg5 rfl rfl (by decide) (by decide) (by decide) (by decide) (by decide) (Nat.le_of_ble_eq_true rfl) (ae_nmS hs7 ?_)
  refine ae_aload_n 1 dX0_keep_71 rfl ?_
  refine ae_dup dX0_keep_72 rfl ?_
  refine ae_getI (q := (3, 0)) dX0_keep_73 fl_RX0_30 rfl rfl ?_
  refine ae_iconst (1 : Int32) dX0_keep_76 (by decide) ?_
  refine ae_iadd dX0_keep_77 ?_
  obtain ⟨s9, hs9, hF10⟩ := ae_ltI hF8
  refine ae_putI (q := (3, 0)) dX0_keep_78 fl_RX0_30 rfl rfl (ae_nmS hs9 ?_)
  obtain ⟨rfl, rfl⟩ := ae_retI hF10
  exact ae_vret dX0_keep_81 rfl ⟨rfl, rfl⟩
def F_X0_keep (s0 : ae_S) : Option (Unit × ae_S) := ae_bd (F_X0_anyDiffers s0) (fun (r11 : Int32) s12 => if r11 = 0 then (some ((), s12)) else (if (s12.1 3 0 5) = (8 : Int32) then (ae_lt (ae_wI s12 3 0 4 (((s12.1 3 0 4) + (1 : Int32)) - ((s12.1 3 0 4) + (1 : Int32)) / (8 : Int32) * (8 : Int32))) (fun s19 => ae_lt (ae_wI s19 3 0 5 ((s19.1 3 0 5) - (1 : Int32))) (fun s21 => F_X0_keep_40 s21))) else (F_X0_keep_40 s12)))
set_option maxHeartbeats 4000000 in
set_option maxRecDepth 100000 in
theorem c_X0_keep {l : Launch} {G : ae_G} (d : Nat) {s0 ss : ae_S} {rr : Unit} (hF : F_X0_keep s0 = some (rr, ss)) : ae_Met l G (d + 1) yX0_keep mX0_keep [ae_r (some (3, 0))] s0 (ae_Po none ss) := by
  refine ae_enter (by decide) rfl (Nat.le_of_ble_eq_true rfl) ?_
  show ae_T l G (d + 1) mX0_keep (ae_Po none ss) 0 [(0, ae_r (some (3, 0)))] [] s0
  unfold F_X0_keep at hF
  refine ae_aload_n 0 dX0_keep_0 rfl ?_
  obtain ⟨r11, s12, hc13, hF14⟩ := ae_bdI hF
  refine ae_cV1 (q := (3, 0)) (As := []) dX0_keep_1 ww_1025 vy_X0_anyDiffers rfl rfl rfl rfl rfl (Nat.le_of_ble_eq_true rfl) (c_X0_anyDiffers d hc13) ?_
  refine ae_if_ne 8 dX0_keep_4 rfl (fun hb15 => ?_) (fun hb15 => ?_)
  · have hF16 := ae_ifF hb15 hF14
    refine ae_aload_n 0 dX0_keep_8 rfl ?_
    refine ae_getI (q := (3, 0)) dX0_keep_9 fl_RX0_30 rfl rfl ?_
    refine ae_bipush (8 : Int32) dX0_keep_12 (by decide) ?_
    refine ae_icmp_ne 40 dX0_keep_14 rfl (fun hb17 => ?_) (fun hb17 => ?_)
    · have hF18 := ae_ifF hb17 hF16
      refine ae_pick (lv' := [(0, ae_r (some (3, 0)))]) [0] rfl ?_
      exact t_X0_keep_40 d s12 hF18
    · have hF18 := ae_ifT hb17 hF16
      refine ae_aload_n 0 dX0_keep_17 rfl ?_
      refine ae_aload_n 0 dX0_keep_18 rfl ?_
      refine ae_getI (q := (3, 0)) dX0_keep_19 fl_RX0_27 rfl rfl ?_
      refine ae_iconst (1 : Int32) dX0_keep_22 (by decide) ?_
      refine ae_iadd dX0_keep_23 ?_
      refine ae_bipush (8 : Int32) dX0_keep_24 (by decide) ?_
      refine ae_irem dX0_keep_26 (by decide) ?_
      obtain ⟨s19, hs19, hF20⟩ := ae_ltI hF18
      refine ae_putI (q := (3, 0)) dX0_keep_27 fl_RX0_27 rfl rfl (ae_nmS hs19 ?_)
      refine ae_aload_n 0 dX0_keep_30 rfl ?_
      refine ae_dup dX0_keep_31 rfl ?_
      refine ae_getI (q := (3, 0)) dX0_keep_32 fl_RX0_30 rfl rfl ?_
      refine ae_iconst (1 : Int32) dX0_keep_35 (by decide) ?_
      refine ae_isub dX0_keep_36 ?_
      obtain ⟨s21, hs21, hF22⟩ := ae_ltI hF20
      refine ae_putI (q := (3, 0)) dX0_keep_37 fl_RX0_30 rfl rfl (ae_nmS hs21 ?_)
      refine ae_pick (lv' := [(0, ae_r (some (3, 0)))]) [0] rfl ?_
      exact t_X0_keep_40 d s21 hF22
  · have hF16 := ae_ifT hb15 hF14
    obtain ⟨rfl, rfl⟩ := ae_retI hF16
    exact ae_vret dX0_keep_7 rfl ⟨rfl, rfl⟩
abbrev mX0_has : ae_M := (RX0, cX0_has, 2, some .boolean)
theorem vy_X0_has : ae_VY yX0_has mX0_has 1 := ⟨ww_1112, ww_1113, ww_3, ww_1114, ⟨by decide, by decide, by decide +kernel⟩, by decide⟩
theorem dX0_has_0 : decode cX0_has 0 = .ok (.iload_n 1, 1) := by decide +kernel
theorem dX0_has_1 : decode cX0_has 1 = .ok (.ifCond .lt 15, 3) := by decide +kernel
theorem dX0_has_4 : decode cX0_has 4 = .ok (.iload_n 1, 1) := by decide +kernel
theorem dX0_has_5 : decode cX0_has 5 = .ok (.aload_n 0, 1) := by decide +kernel
theorem dX0_has_6 : decode cX0_has 6 = .ok (.getfield 23, 3) := by decide +kernel
theorem dX0_has_9 : decode cX0_has 9 = .ok (.if_icmp .ge 7, 3) := by decide +kernel
theorem dX0_has_12 : decode cX0_has 12 = .ok (.iconst 1, 1) := by decide +kernel
theorem dX0_has_13 : decode cX0_has 13 = .ok (.goto 4, 3) := by decide +kernel
theorem dX0_has_16 : decode cX0_has 16 = .ok (.iconst 0, 1) := by decide +kernel
theorem dX0_has_17 : decode cX0_has 17 = .ok (.ireturn, 1) := by decide +kernel
def F_X0_has_17 (t0 : Int32) (s0 : ae_S) : Option (Int32 × ae_S) := ae_gd (ae_zz t0) (some (t0, s0))
set_option maxHeartbeats 4000000 in
set_option maxRecDepth 100000 in
theorem t_X0_has_17 {l : Launch} {G : ae_G} (d : Nat) {rr : Int32} {ss : ae_S} (t0 : Int32) (s0 : ae_S) (hF : F_X0_has_17 t0 s0 = some (rr, ss)) : ae_T l G d mX0_has (ae_Po (some (ae_i rr)) ss) 17 [] [ae_i t0] s0 := by
  unfold F_X0_has_17 at hF
  obtain ⟨hg1, hF2⟩ := ae_gdI hF
  obtain ⟨rfl, rfl⟩ := ae_retI hF2
  exact ae_iret dX0_has_17 rfl (ae_zzN (ae_zzI hg1)) ⟨rfl, rfl⟩
def F_X0_has_16 (s0 : ae_S) : Option (Int32 × ae_S) := F_X0_has_17 (0 : Int32) s0
set_option maxHeartbeats 4000000 in
set_option maxRecDepth 100000 in
theorem t_X0_has_16 {l : Launch} {G : ae_G} (d : Nat) {rr : Int32} {ss : ae_S} (s0 : ae_S) (hF : F_X0_has_16 s0 = some (rr, ss)) : ae_T l G d mX0_has (ae_Po (some (ae_i rr)) ss) 16 [] [] s0 := by
  unfold F_X0_has_16 at hF
  refine ae_iconst (0 : Int32) dX0_has_16 (by decide) ?_
  refine ae_pick (lv' := []) [] rfl ?_
  exact t_X0_has_17 d (0 : Int32) s0 hF
def F_X0_has (v1 : Int32) (s0 : ae_S) : Option (Int32 × ae_S) := if v1 < 0 then (F_X0_has_16 s0) else (if (s0.1 3 0 3) ≤ v1 then (F_X0_has_16 s0) else (F_X0_has_17 (1 : Int32) s0))
set_option maxHeartbeats 4000000 in
set_option maxRecDepth 100000 in
theorem c_X0_has {l : Launch} {G : ae_G} (d : Nat) {v1 : Int32} {s0 ss : ae_S} {rr : Int32} (hF : F_X0_has v1 s0 = some (rr, ss)) : ae_Met l G d yX0_has mX0_has [ae_r (some (3, 0)), ae_i v1] s0 (ae_Po (some (ae_i rr)) ss) := by
  refine ae_enter (by decide) rfl (Nat.le_of_ble_eq_true rfl) ?_
  show ae_T l G d mX0_has (ae_Po (some (ae_i rr)) ss) 0 [(0, ae_r (some (3, 0))), (1, ae_i v1)] [] s0
  unfold F_X0_has at hF
  refine ae_iload_n 1 dX0_has_0 rfl ?_
  refine ae_if_lt 16 dX0_has_1 rfl (fun hb3 => ?_) (fun hb3 => ?_)
  · have hF4 := ae_ifT hb3 hF
    refine ae_pick (lv' := []) [] rfl ?_
    exact t_X0_has_16 d s0 hF4
  · have hF4 := ae_ifF hb3 hF
    refine ae_iload_n 1 dX0_has_4 rfl ?_
    refine ae_aload_n 0 dX0_has_5 rfl ?_
    refine ae_getI (q := (3, 0)) dX0_has_6 fl_RX0_23 rfl rfl ?_
    refine ae_icmp_ge 16 dX0_has_9 rfl (fun hb5 => ?_) (fun hb5 => ?_)
    · have hF6 := ae_ifT hb5 hF4
      refine ae_pick (lv' := []) [] rfl ?_
      exact t_X0_has_16 d s0 hF6
    · have hF6 := ae_ifF hb5 hF4
      refine ae_iconst (1 : Int32) dX0_has_12 (by decide) ?_
      refine ae_goto 17 dX0_has_13 rfl ?_
      refine ae_pick (lv' := []) [] rfl ?_
      exact t_X0_has_17 d (1 : Int32) s0 hF6
abbrev mX0_differs : ae_M := (RX0, cX0_differs, 2, some .boolean)
theorem vy_X0_differs : ae_VY yX0_differs mX0_differs 1 := ⟨ww_1126, ww_1127, ww_3, ww_1128, ⟨by decide, by decide, by decide +kernel⟩, by decide⟩
theorem dX0_differs_0 : decode cX0_differs 0 = .ok (.iload_n 1, 1) := by decide +kernel
theorem dX0_differs_1 : decode cX0_differs 1 = .ok (.ifCond .lt 29, 3) := by decide +kernel
theorem dX0_differs_4 : decode cX0_differs 4 = .ok (.iload_n 1, 1) := by decide +kernel
theorem dX0_differs_5 : decode cX0_differs 5 = .ok (.sipush 256, 3) := by decide +kernel
theorem dX0_differs_8 : decode cX0_differs 8 = .ok (.if_icmp .ge 22, 3) := by decide +kernel
theorem dX0_differs_11 : decode cX0_differs 11 = .ok (.aload_n 0, 1) := by decide +kernel
theorem dX0_differs_12 : decode cX0_differs 12 = .ok (.getfield 9, 3) := by decide +kernel
theorem dX0_differs_15 : decode cX0_differs 15 = .ok (.iload_n 1, 1) := by decide +kernel
theorem dX0_differs_16 : decode cX0_differs 16 = .ok (.iaload, 1) := by decide +kernel
theorem dX0_differs_17 : decode cX0_differs 17 = .ok (.aload_n 0, 1) := by decide +kernel
theorem dX0_differs_18 : decode cX0_differs 18 = .ok (.getfield 15, 3) := by decide +kernel
theorem dX0_differs_21 : decode cX0_differs 21 = .ok (.iload_n 1, 1) := by decide +kernel
theorem dX0_differs_22 : decode cX0_differs 22 = .ok (.iaload, 1) := by decide +kernel
theorem dX0_differs_23 : decode cX0_differs 23 = .ok (.if_icmp .eq 7, 3) := by decide +kernel
theorem dX0_differs_26 : decode cX0_differs 26 = .ok (.iconst 1, 1) := by decide +kernel
theorem dX0_differs_27 : decode cX0_differs 27 = .ok (.goto 4, 3) := by decide +kernel
theorem dX0_differs_30 : decode cX0_differs 30 = .ok (.iconst 0, 1) := by decide +kernel
theorem dX0_differs_31 : decode cX0_differs 31 = .ok (.ireturn, 1) := by decide +kernel
def F_X0_differs_31 (t0 : Int32) (s0 : ae_S) : Option (Int32 × ae_S) := ae_gd (ae_zz t0) (some (t0, s0))
set_option maxHeartbeats 4000000 in
set_option maxRecDepth 100000 in
theorem t_X0_differs_31 {l : Launch} {G : ae_G} (d : Nat) {rr : Int32} {ss : ae_S} (t0 : Int32) (s0 : ae_S) (hF : F_X0_differs_31 t0 s0 = some (rr, ss)) : ae_T l G d mX0_differs (ae_Po (some (ae_i rr)) ss) 31 [] [ae_i t0] s0 := by
  unfold F_X0_differs_31 at hF
  obtain ⟨hg1, hF2⟩ := ae_gdI hF
  obtain ⟨rfl, rfl⟩ := ae_retI hF2
  exact ae_iret dX0_differs_31 rfl (ae_zzN (ae_zzI hg1)) ⟨rfl, rfl⟩
def F_X0_differs_30 (s0 : ae_S) : Option (Int32 × ae_S) := F_X0_differs_31 (0 : Int32) s0
set_option maxHeartbeats 4000000 in
set_option maxRecDepth 100000 in
theorem t_X0_differs_30 {l : Launch} {G : ae_G} (d : Nat) {rr : Int32} {ss : ae_S} (s0 : ae_S) (hF : F_X0_differs_30 s0 = some (rr, ss)) : ae_T l G d mX0_differs (ae_Po (some (ae_i rr)) ss) 30 [] [] s0 := by
  unfold F_X0_differs_30 at hF
  refine ae_iconst (0 : Int32) dX0_differs_30 (by decide) ?_
  refine ae_pick (lv' := []) [] rfl ?_
  exact t_X0_differs_31 d (0 : Int32) s0 hF
def F_X0_differs (v1 : Int32) (s0 : ae_S) : Option (Int32 × ae_S) := if v1 < 0 then (F_X0_differs_30 s0) else (if (256 : Int32) ≤ v1 then (F_X0_differs_30 s0) else (ae_gd (ae_ib v1 256) (ae_gd (ae_ib v1 256) (if (s0.1 4 0 v1.toNatClampNeg) = (s0.1 4 1 v1.toNatClampNeg) then (F_X0_differs_30 s0) else (F_X0_differs_31 (1 : Int32) s0)))))
set_option maxHeartbeats 4000000 in
set_option maxRecDepth 100000 in
theorem c_X0_differs {l : Launch} {G : ae_G} (d : Nat) {v1 : Int32} {s0 ss : ae_S} {rr : Int32} (hF : F_X0_differs v1 s0 = some (rr, ss)) : ae_Met l G d yX0_differs mX0_differs [ae_r (some (3, 0)), ae_i v1] s0 (ae_Po (some (ae_i rr)) ss) := by
  refine ae_enter (by decide) rfl (Nat.le_of_ble_eq_true rfl) ?_
  show ae_T l G d mX0_differs (ae_Po (some (ae_i rr)) ss) 0 [(0, ae_r (some (3, 0))), (1, ae_i v1)] [] s0
  unfold F_X0_differs at hF
  refine ae_iload_n 1 dX0_differs_0 rfl ?_
  refine ae_if_lt 30 dX0_differs_1 rfl (fun hb3 => ?_) (fun hb3 => ?_)
  · have hF4 := ae_ifT hb3 hF
    refine ae_pick (lv' := []) [] rfl ?_
    exact t_X0_differs_30 d s0 hF4
  · have hF4 := ae_ifF hb3 hF
    refine ae_iload_n 1 dX0_differs_4 rfl ?_
    refine ae_sipush (256 : Int32) dX0_differs_5 (by decide) ?_
    refine ae_icmp_ge 30 dX0_differs_8 rfl (fun hb5 => ?_) (fun hb5 => ?_)
    · have hF6 := ae_ifT hb5 hF4
      refine ae_pick (lv' := []) [] rfl ?_
      exact t_X0_differs_30 d s0 hF6
    · have hF6 := ae_ifF hb5 hF4
      refine ae_aload_n 0 dX0_differs_11 rfl ?_
      refine ae_getA (q := (3, 0)) (some (4, 0)) dX0_differs_12 fl_RX0_9 rfl rfl rfl ?_
      refine ae_iload_n 1 dX0_differs_15 rfl ?_
      obtain ⟨hg7, hF8⟩ := ae_gdI hF6
      refine ae_iald (q := (4, 0)) dX0_differs_16 rfl rfl (ae_ibI hg7) ?_
      refine ae_aload_n 0 dX0_differs_17 rfl ?_
      refine ae_getA (q := (3, 0)) (some (4, 1)) dX0_differs_18 fl_RX0_15 rfl rfl rfl ?_
      refine ae_iload_n 1 dX0_differs_21 rfl ?_
      obtain ⟨hg9, hF10⟩ := ae_gdI hF8
      refine ae_iald (q := (4, 1)) dX0_differs_22 rfl rfl (ae_ibI hg9) ?_
      refine ae_icmp_eq 30 dX0_differs_23 rfl (fun hb11 => ?_) (fun hb11 => ?_)
      · have hF12 := ae_ifT hb11 hF10
        refine ae_pick (lv' := []) [] rfl ?_
        exact t_X0_differs_30 d s0 hF12
      · have hF12 := ae_ifF hb11 hF10
        refine ae_iconst (1 : Int32) dX0_differs_26 (by decide) ?_
        refine ae_goto 31 dX0_differs_27 rfl ?_
        refine ae_pick (lv' := []) [] rfl ?_
        exact t_X0_differs_31 d (1 : Int32) s0 hF12
abbrev mX0_stepBack : ae_M := (RX0, cX0_stepBack, 1, some .boolean)
theorem vy_X0_stepBack : ae_VY yX0_stepBack mX0_stepBack 0 := ⟨ww_1267, ww_1268, ww_3, ww_1269, ⟨by decide, by decide, by decide +kernel⟩, by decide⟩
theorem dX0_stepBack_0 : decode cX0_stepBack 0 = .ok (.aload_n 0, 1) := by decide +kernel
theorem dX0_stepBack_1 : decode cX0_stepBack 1 = .ok (.getfield 30, 3) := by decide +kernel
theorem dX0_stepBack_4 : decode cX0_stepBack 4 = .ok (.ifCond .ne 5, 3) := by decide +kernel
theorem dX0_stepBack_7 : decode cX0_stepBack 7 = .ok (.iconst 0, 1) := by decide +kernel
theorem dX0_stepBack_8 : decode cX0_stepBack 8 = .ok (.ireturn, 1) := by decide +kernel
theorem dX0_stepBack_9 : decode cX0_stepBack 9 = .ok (.aload_n 0, 1) := by decide +kernel
theorem dX0_stepBack_10 : decode cX0_stepBack 10 = .ok (.invokevirtual 43, 3) := by decide +kernel
theorem dX0_stepBack_13 : decode cX0_stepBack 13 = .ok (.aload_n 0, 1) := by decide +kernel
theorem dX0_stepBack_14 : decode cX0_stepBack 14 = .ok (.dup, 1) := by decide +kernel
theorem dX0_stepBack_15 : decode cX0_stepBack 15 = .ok (.getfield 30, 3) := by decide +kernel
theorem dX0_stepBack_18 : decode cX0_stepBack 18 = .ok (.iconst 1, 1) := by decide +kernel
theorem dX0_stepBack_19 : decode cX0_stepBack 19 = .ok (.isub, 1) := by decide +kernel
theorem dX0_stepBack_20 : decode cX0_stepBack 20 = .ok (.putfield 30, 3) := by decide +kernel
theorem dX0_stepBack_23 : decode cX0_stepBack 23 = .ok (.aload_n 0, 1) := by decide +kernel
theorem dX0_stepBack_24 : decode cX0_stepBack 24 = .ok (.aload_n 0, 1) := by decide +kernel
theorem dX0_stepBack_25 : decode cX0_stepBack 25 = .ok (.getfield 20, 3) := by decide +kernel
theorem dX0_stepBack_28 : decode cX0_stepBack 28 = .ok (.aload_n 0, 1) := by decide +kernel
theorem dX0_stepBack_29 : decode cX0_stepBack 29 = .ok (.getfield 27, 3) := by decide +kernel
theorem dX0_stepBack_32 : decode cX0_stepBack 32 = .ok (.aload_n 0, 1) := by decide +kernel
theorem dX0_stepBack_33 : decode cX0_stepBack 33 = .ok (.getfield 30, 3) := by decide +kernel
theorem dX0_stepBack_36 : decode cX0_stepBack 36 = .ok (.iadd, 1) := by decide +kernel
theorem dX0_stepBack_37 : decode cX0_stepBack 37 = .ok (.bipush 8, 2) := by decide +kernel
theorem dX0_stepBack_39 : decode cX0_stepBack 39 = .ok (.irem, 1) := by decide +kernel
theorem dX0_stepBack_40 : decode cX0_stepBack 40 = .ok (.aaload, 1) := by decide +kernel
theorem dX0_stepBack_41 : decode cX0_stepBack 41 = .ok (.invokevirtual 46, 3) := by decide +kernel
theorem dX0_stepBack_44 : decode cX0_stepBack 44 = .ok (.iconst 1, 1) := by decide +kernel
theorem dX0_stepBack_45 : decode cX0_stepBack 45 = .ok (.ireturn, 1) := by decide +kernel
def F_X0_stepBack (s0 : ae_S) : Option (Int32 × ae_S) := if (s0.1 3 0 5) = 0 then (some ((0 : Int32), s0)) else (ae_bd (F_X0_begin s0) (fun (r3 : Unit) s4 => ae_lt (ae_wI s4 3 0 5 ((s4.1 3 0 5) - (1 : Int32))) (fun s7 => ae_gd (ae_ib (((s7.1 3 0 4) + (s7.1 3 0 5)) - ((s7.1 3 0 4) + (s7.1 3 0 5)) / (8 : Int32) * (8 : Int32)) 8) (ae_bd (F_X0_loadFrom (Fin.ofNat 32 ((((s7.1 3 0 4) + (s7.1 3 0 5)) - ((s7.1 3 0 4) + (s7.1 3 0 5)) / (8 : Int32) * (8 : Int32)).toNatClampNeg + 2)) s7) (fun (r11 : Unit) s12 => some ((1 : Int32), s12))))))
set_option maxHeartbeats 4000000 in
set_option maxRecDepth 100000 in
theorem c_X0_stepBack {l : Launch} {G : ae_G} (d : Nat) {s0 ss : ae_S} {rr : Int32} (hF : F_X0_stepBack s0 = some (rr, ss)) : ae_Met l G (d + 2) yX0_stepBack mX0_stepBack [ae_r (some (3, 0))] s0 (ae_Po (some (ae_i rr)) ss) := by
  refine ae_enter (by decide) rfl (Nat.le_of_ble_eq_true rfl) ?_
  show ae_T l G (d + 2) mX0_stepBack (ae_Po (some (ae_i rr)) ss) 0 [(0, ae_r (some (3, 0)))] [] s0
  unfold F_X0_stepBack at hF
  refine ae_aload_n 0 dX0_stepBack_0 rfl ?_
  refine ae_getI (q := (3, 0)) dX0_stepBack_1 fl_RX0_30 rfl rfl ?_
  refine ae_if_ne 9 dX0_stepBack_4 rfl (fun hb1 => ?_) (fun hb1 => ?_)
  · have hF2 := ae_ifF hb1 hF
    refine ae_aload_n 0 dX0_stepBack_9 rfl ?_
    obtain ⟨r3, s4, hc5, hF6⟩ := ae_bdI hF2
    refine ae_cV0 (q := (3, 0)) (As := []) dX0_stepBack_10 ww_1270 vy_X0_begin rfl rfl rfl rfl rfl (Nat.le_of_ble_eq_true rfl) (c_X0_begin d hc5) ?_
    refine ae_aload_n 0 dX0_stepBack_13 rfl ?_
    refine ae_dup dX0_stepBack_14 rfl ?_
    refine ae_getI (q := (3, 0)) dX0_stepBack_15 fl_RX0_30 rfl rfl ?_
    refine ae_iconst (1 : Int32) dX0_stepBack_18 (by decide) ?_
    refine ae_isub dX0_stepBack_19 ?_
    obtain ⟨s7, hs7, hF8⟩ := ae_ltI hF6
    refine ae_putI (q := (3, 0)) dX0_stepBack_20 fl_RX0_30 rfl rfl (ae_nmS hs7 ?_)
    refine ae_aload_n 0 dX0_stepBack_23 rfl ?_
    refine ae_aload_n 0 dX0_stepBack_24 rfl ?_
    refine ae_getA (q := (3, 0)) (some (5, 0)) dX0_stepBack_25 fl_RX0_20 rfl rfl rfl ?_
    refine ae_aload_n 0 dX0_stepBack_28 rfl ?_
    refine ae_getI (q := (3, 0)) dX0_stepBack_29 fl_RX0_27 rfl rfl ?_
    refine ae_aload_n 0 dX0_stepBack_32 rfl ?_
    refine ae_getI (q := (3, 0)) dX0_stepBack_33 fl_RX0_30 rfl rfl ?_
    refine ae_iadd dX0_stepBack_36 ?_
    refine ae_bipush (8 : Int32) dX0_stepBack_37 (by decide) ?_
    refine ae_irem dX0_stepBack_39 (by decide) ?_
    obtain ⟨hg9, hF10⟩ := ae_gdI hF8
    refine ae_aald (q := (5, 0)) (some (4, (Fin.ofNat 32 ((((s7.1 3 0 4) + (s7.1 3 0 5)) - ((s7.1 3 0 4) + (s7.1 3 0 5)) / (8 : Int32) * (8 : Int32)).toNatClampNeg + 2)))) dX0_stepBack_40 rfl rfl (Or.inl rfl) (ae_ibI hg9) rfl ?_
    obtain ⟨r11, s12, hc13, hF14⟩ := ae_bdI hF10
    refine ae_cV0 (q := (3, 0)) (As := [ae_r (some (4, (Fin.ofNat 32 ((((s7.1 3 0 4) + (s7.1 3 0 5)) - ((s7.1 3 0 4) + (s7.1 3 0 5)) / (8 : Int32) * (8 : Int32)).toNatClampNeg + 2))))]) dX0_stepBack_41 ww_1271 vy_X0_loadFrom rfl rfl rfl rfl rfl (Nat.le_of_ble_eq_true rfl) (c_X0_loadFrom d hc13) ?_
    refine ae_iconst (1 : Int32) dX0_stepBack_44 (by decide) ?_
    obtain ⟨rfl, rfl⟩ := ae_retI hF14
    exact ae_iret dX0_stepBack_45 rfl (by decide) ⟨rfl, rfl⟩
  · have hF2 := ae_ifT hb1 hF
    refine ae_iconst (0 : Int32) dX0_stepBack_7 (by decide) ?_
    obtain ⟨rfl, rfl⟩ := ae_retI hF2
    exact ae_iret dX0_stepBack_8 rfl (by decide) ⟨rfl, rfl⟩
abbrev mX0_countSet : ae_M := (RX0, cX0_countSet, 3, some .int)
theorem vy_X0_countSet : ae_VY yX0_countSet mX0_countSet 0 := ⟨ww_1277, ww_1278, ww_3, ww_1279, ⟨by decide, by decide, by decide +kernel⟩, by decide⟩
theorem dX0_countSet_0 : decode cX0_countSet 0 = .ok (.iconst 0, 1) := by decide +kernel
theorem dX0_countSet_1 : decode cX0_countSet 1 = .ok (.istore_n 1, 1) := by decide +kernel
theorem dX0_countSet_2 : decode cX0_countSet 2 = .ok (.iconst 0, 1) := by decide +kernel
theorem dX0_countSet_3 : decode cX0_countSet 3 = .ok (.istore_n 2, 1) := by decide +kernel
theorem dX0_countSet_4 : decode cX0_countSet 4 = .ok (.iload_n 2, 1) := by decide +kernel
theorem dX0_countSet_5 : decode cX0_countSet 5 = .ok (.aload_n 0, 1) := by decide +kernel
theorem dX0_countSet_6 : decode cX0_countSet 6 = .ok (.getfield 23, 3) := by decide +kernel
theorem dX0_countSet_9 : decode cX0_countSet 9 = .ok (.if_icmp .ge 21, 3) := by decide +kernel
theorem dX0_countSet_12 : decode cX0_countSet 12 = .ok (.aload_n 0, 1) := by decide +kernel
theorem dX0_countSet_13 : decode cX0_countSet 13 = .ok (.getfield 9, 3) := by decide +kernel
theorem dX0_countSet_16 : decode cX0_countSet 16 = .ok (.iload_n 2, 1) := by decide +kernel
theorem dX0_countSet_17 : decode cX0_countSet 17 = .ok (.iaload, 1) := by decide +kernel
theorem dX0_countSet_18 : decode cX0_countSet 18 = .ok (.ifCond .eq 6, 3) := by decide +kernel
theorem dX0_countSet_21 : decode cX0_countSet 21 = .ok (.iinc 1 1, 3) := by decide +kernel
theorem dX0_countSet_24 : decode cX0_countSet 24 = .ok (.iinc 2 1, 3) := by decide +kernel
theorem dX0_countSet_27 : decode cX0_countSet 27 = .ok (.goto (-23), 3) := by decide +kernel
theorem dX0_countSet_30 : decode cX0_countSet 30 = .ok (.iload_n 1, 1) := by decide +kernel
theorem dX0_countSet_31 : decode cX0_countSet 31 = .ok (.ireturn, 1) := by decide +kernel
def F_X0_countSet_24 (k4 : Int32 → Int32 → ae_S → Option (Int32 × ae_S)) (v1 : Int32) (v2 : Int32) (s0 : ae_S) : Option (Int32 × ae_S) := ae_lt (v2 + (1 : Int32)) (fun x1 => k4 v1 x1 s0)
set_option maxHeartbeats 4000000 in
set_option maxRecDepth 100000 in
theorem t_X0_countSet_24 {l : Launch} {G : ae_G} (d : Nat) (k4 : Int32 → Int32 → ae_S → Option (Int32 × ae_S)) {rr : Int32} {ss : ae_S} (hk4 : ∀ (v1 : Int32) (v2 : Int32) (s0 : ae_S), k4 v1 v2 s0 = some (rr, ss) → ae_T l G d mX0_countSet (ae_Po (some (ae_i rr)) ss) 4 [(0, ae_r (some (3, 0))), (1, ae_i v1), (2, ae_i v2)] [] s0) (v1 : Int32) (v2 : Int32) (s0 : ae_S) (hF : F_X0_countSet_24 k4 v1 v2 s0 = some (rr, ss)) : ae_T l G d mX0_countSet (ae_Po (some (ae_i rr)) ss) 24 [(0, ae_r (some (3, 0))), (1, ae_i v1), (2, ae_i v2)] [] s0 := by
  unfold F_X0_countSet_24 at hF
  obtain ⟨x1, hx1, hF2⟩ := ae_ltI hF
  refine ae_iinc (lv' := [(2, ae_i x1), (0, ae_r (some (3, 0))), (1, ae_i v1)]) 2 (1 : Int32) dX0_countSet_24 rfl (by decide) (by decide) (by rw [hx1]; rfl) ?_
  refine ae_goto 4 dX0_countSet_27 rfl ?_
  refine ae_pick (lv' := [(0, ae_r (some (3, 0))), (1, ae_i v1), (2, ae_i x1)]) [1, 2, 0] rfl ?_
  exact hk4 v1 x1 s0 hF2
def F_X0_countSet_4 : Nat → Int32 → Int32 → ae_S → Option (Int32 × ae_S)
  | 0, _, _, _ => none
  | n + 1, v1, v2, s0 => if (s0.1 3 0 3) ≤ v2 then (some (v1, s0)) else (ae_gd (ae_ib v2 256) (if (s0.1 4 0 v2.toNatClampNeg) = 0 then (F_X0_countSet_24 (F_X0_countSet_4 n) v1 v2 s0) else (ae_lt (v1 + (1 : Int32)) (fun x9 => F_X0_countSet_24 (F_X0_countSet_4 n) x9 v2 s0))))
set_option maxHeartbeats 4000000 in
set_option maxRecDepth 100000 in
theorem t_X0_countSet_4 {l : Launch} {G : ae_G} (d : Nat) {rr : Int32} {ss : ae_S} : ∀ (n : Nat) (v1 : Int32) (v2 : Int32) (s0 : ae_S), F_X0_countSet_4 n v1 v2 s0 = some (rr, ss) → ae_T l G d mX0_countSet (ae_Po (some (ae_i rr)) ss) 4 [(0, ae_r (some (3, 0))), (1, ae_i v1), (2, ae_i v2)] [] s0 := by
  intro n
  induction n with
  | zero =>
    intro v1 v2 s0 hF
    exact absurd (show (none : Option (Int32 × ae_S)) = some (rr, ss) from hF) (by simp)
  | succ n ih =>
    intro v1 v2 s0 hF
    unfold F_X0_countSet_4 at hF
    refine ae_iload_n 2 dX0_countSet_4 rfl ?_
    refine ae_aload_n 0 dX0_countSet_5 rfl ?_
    refine ae_getI (q := (3, 0)) dX0_countSet_6 fl_RX0_23 rfl rfl ?_
    refine ae_icmp_ge 30 dX0_countSet_9 rfl (fun hb3 => ?_) (fun hb3 => ?_)
    · have hF4 := ae_ifT hb3 hF
      refine ae_iload_n 1 dX0_countSet_30 rfl ?_
      obtain ⟨rfl, rfl⟩ := ae_retI hF4
      exact ae_iret dX0_countSet_31 rfl rfl ⟨rfl, rfl⟩
    · have hF4 := ae_ifF hb3 hF
      refine ae_aload_n 0 dX0_countSet_12 rfl ?_
      refine ae_getA (q := (3, 0)) (some (4, 0)) dX0_countSet_13 fl_RX0_9 rfl rfl rfl ?_
      refine ae_iload_n 2 dX0_countSet_16 rfl ?_
      obtain ⟨hg5, hF6⟩ := ae_gdI hF4
      refine ae_iald (q := (4, 0)) dX0_countSet_17 rfl rfl (ae_ibI hg5) ?_
      refine ae_if_eq 24 dX0_countSet_18 rfl (fun hb7 => ?_) (fun hb7 => ?_)
      · have hF8 := ae_ifT hb7 hF6
        refine ae_pick (lv' := [(0, ae_r (some (3, 0))), (1, ae_i v1), (2, ae_i v2)]) [0, 1, 2] rfl ?_
        exact t_X0_countSet_24 d (F_X0_countSet_4 n) ih v1 v2 s0 hF8
      · have hF8 := ae_ifF hb7 hF6
        obtain ⟨x9, hx9, hF10⟩ := ae_ltI hF8
        refine ae_iinc (lv' := [(1, ae_i x9), (0, ae_r (some (3, 0))), (2, ae_i v2)]) 1 (1 : Int32) dX0_countSet_21 rfl (by decide) (by decide) (by rw [hx9]; rfl) ?_
        refine ae_pick (lv' := [(0, ae_r (some (3, 0))), (1, ae_i x9), (2, ae_i v2)]) [1, 0, 2] rfl ?_
        exact t_X0_countSet_24 d (F_X0_countSet_4 n) ih x9 v2 s0 hF10
def F_X0_countSet (s0 : ae_S) : Option (Int32 × ae_S) := F_X0_countSet_4 ae_fu (0 : Int32) (0 : Int32) s0
set_option maxHeartbeats 4000000 in
set_option maxRecDepth 100000 in
theorem c_X0_countSet {l : Launch} {G : ae_G} (d : Nat) {s0 ss : ae_S} {rr : Int32} (hF : F_X0_countSet s0 = some (rr, ss)) : ae_Met l G d yX0_countSet mX0_countSet [ae_r (some (3, 0))] s0 (ae_Po (some (ae_i rr)) ss) := by
  refine ae_enter (by decide) rfl (Nat.le_of_ble_eq_true rfl) ?_
  show ae_T l G d mX0_countSet (ae_Po (some (ae_i rr)) ss) 0 [(0, ae_r (some (3, 0)))] [] s0
  unfold F_X0_countSet at hF
  refine ae_iconst (0 : Int32) dX0_countSet_0 (by decide) ?_
  refine ae_istore_n (lv' := [(1, ae_i (0 : Int32)), (0, ae_r (some (3, 0)))]) dX0_countSet_1 (by decide) rfl ?_
  refine ae_iconst (0 : Int32) dX0_countSet_2 (by decide) ?_
  refine ae_istore_n (lv' := [(2, ae_i (0 : Int32)), (1, ae_i (0 : Int32)), (0, ae_r (some (3, 0)))]) dX0_countSet_3 (by decide) rfl ?_
  refine ae_pick (lv' := [(0, ae_r (some (3, 0))), (1, ae_i (0 : Int32)), (2, ae_i (0 : Int32))]) [2, 1, 0] rfl ?_
  exact t_X0_countSet_4 d ae_fu (0 : Int32) (0 : Int32) s0 hF
abbrev mX0_historyCount : ae_M := (RX0, cX0_historyCount, 1, some .int)
theorem vy_X0_historyCount : ae_VY yX0_historyCount mX0_historyCount 0 := ⟨ww_1281, ww_1282, ww_3, ww_1283, ⟨by decide, by decide, by decide +kernel⟩, by decide⟩
theorem dX0_historyCount_0 : decode cX0_historyCount 0 = .ok (.aload_n 0, 1) := by decide +kernel
theorem dX0_historyCount_1 : decode cX0_historyCount 1 = .ok (.getfield 30, 3) := by decide +kernel
theorem dX0_historyCount_4 : decode cX0_historyCount 4 = .ok (.ireturn, 1) := by decide +kernel
def F_X0_historyCount (s0 : ae_S) : Option (Int32 × ae_S) := some (s0.1 3 0 5, s0)
set_option maxHeartbeats 4000000 in
set_option maxRecDepth 100000 in
theorem c_X0_historyCount {l : Launch} {G : ae_G} (d : Nat) {s0 ss : ae_S} {rr : Int32} (hF : F_X0_historyCount s0 = some (rr, ss)) : ae_Met l G d yX0_historyCount mX0_historyCount [ae_r (some (3, 0))] s0 (ae_Po (some (ae_i rr)) ss) := by
  refine ae_enter (by decide) rfl (Nat.le_of_ble_eq_true rfl) ?_
  show ae_T l G d mX0_historyCount (ae_Po (some (ae_i rr)) ss) 0 [(0, ae_r (some (3, 0)))] [] s0
  unfold F_X0_historyCount at hF
  refine ae_aload_n 0 dX0_historyCount_0 rfl ?_
  refine ae_getI (q := (3, 0)) dX0_historyCount_1 fl_RX0_30 rfl rfl ?_
  obtain ⟨rfl, rfl⟩ := ae_retI hF
  exact ae_iret dX0_historyCount_4 rfl rfl ⟨rfl, rfl⟩
abbrev mX0_total : ae_M := (RX0, cX0_total, 3, some .int)
theorem vy_X0_total : ae_VY yX0_total mX0_total 0 := ⟨ww_1289, ww_1290, ww_3, ww_1291, ⟨by decide, by decide, by decide +kernel⟩, by decide⟩
theorem dX0_total_0 : decode cX0_total 0 = .ok (.iconst 0, 1) := by decide +kernel
theorem dX0_total_1 : decode cX0_total 1 = .ok (.istore_n 1, 1) := by decide +kernel
theorem dX0_total_2 : decode cX0_total 2 = .ok (.iconst 0, 1) := by decide +kernel
theorem dX0_total_3 : decode cX0_total 3 = .ok (.istore_n 2, 1) := by decide +kernel
theorem dX0_total_4 : decode cX0_total 4 = .ok (.iload_n 2, 1) := by decide +kernel
theorem dX0_total_5 : decode cX0_total 5 = .ok (.aload_n 0, 1) := by decide +kernel
theorem dX0_total_6 : decode cX0_total 6 = .ok (.getfield 23, 3) := by decide +kernel
theorem dX0_total_9 : decode cX0_total 9 = .ok (.if_icmp .ge 18, 3) := by decide +kernel
theorem dX0_total_12 : decode cX0_total 12 = .ok (.iload_n 1, 1) := by decide +kernel
theorem dX0_total_13 : decode cX0_total 13 = .ok (.aload_n 0, 1) := by decide +kernel
theorem dX0_total_14 : decode cX0_total 14 = .ok (.getfield 9, 3) := by decide +kernel
theorem dX0_total_17 : decode cX0_total 17 = .ok (.iload_n 2, 1) := by decide +kernel
theorem dX0_total_18 : decode cX0_total 18 = .ok (.iaload, 1) := by decide +kernel
theorem dX0_total_19 : decode cX0_total 19 = .ok (.iadd, 1) := by decide +kernel
theorem dX0_total_20 : decode cX0_total 20 = .ok (.istore_n 1, 1) := by decide +kernel
theorem dX0_total_21 : decode cX0_total 21 = .ok (.iinc 2 1, 3) := by decide +kernel
theorem dX0_total_24 : decode cX0_total 24 = .ok (.goto (-20), 3) := by decide +kernel
theorem dX0_total_27 : decode cX0_total 27 = .ok (.iload_n 1, 1) := by decide +kernel
theorem dX0_total_28 : decode cX0_total 28 = .ok (.ireturn, 1) := by decide +kernel
def F_X0_total_4 : Nat → Int32 → Int32 → ae_S → Option (Int32 × ae_S)
  | 0, _, _, _ => none
  | n + 1, v1, v2, s0 => if (s0.1 3 0 3) ≤ v2 then (some (v1, s0)) else (ae_gd (ae_ib v2 256) (ae_lt (v1 + (s0.1 4 0 v2.toNatClampNeg)) (fun x5 => ae_lt (v2 + (1 : Int32)) (fun x7 => F_X0_total_4 n x5 x7 s0))))
set_option maxHeartbeats 4000000 in
set_option maxRecDepth 100000 in
theorem t_X0_total_4 {l : Launch} {G : ae_G} (d : Nat) {rr : Int32} {ss : ae_S} : ∀ (n : Nat) (v1 : Int32) (v2 : Int32) (s0 : ae_S), F_X0_total_4 n v1 v2 s0 = some (rr, ss) → ae_T l G d mX0_total (ae_Po (some (ae_i rr)) ss) 4 [(0, ae_r (some (3, 0))), (1, ae_i v1), (2, ae_i v2)] [] s0 := by
  intro n
  induction n with
  | zero =>
    intro v1 v2 s0 hF
    exact absurd (show (none : Option (Int32 × ae_S)) = some (rr, ss) from hF) (by simp)
  | succ n ih =>
    intro v1 v2 s0 hF
    unfold F_X0_total_4 at hF
    refine ae_iload_n 2 dX0_total_4 rfl ?_
    refine ae_aload_n 0 dX0_total_5 rfl ?_
    refine ae_getI (q := (3, 0)) dX0_total_6 fl_RX0_23 rfl rfl ?_
    refine ae_icmp_ge 27 dX0_total_9 rfl (fun hb1 => ?_) (fun hb1 => ?_)
    · have hF2 := ae_ifT hb1 hF
      refine ae_iload_n 1 dX0_total_27 rfl ?_
      obtain ⟨rfl, rfl⟩ := ae_retI hF2
      exact ae_iret dX0_total_28 rfl rfl ⟨rfl, rfl⟩
    · have hF2 := ae_ifF hb1 hF
      refine ae_iload_n 1 dX0_total_12 rfl ?_
      refine ae_aload_n 0 dX0_total_13 rfl ?_
      refine ae_getA (q := (3, 0)) (some (4, 0)) dX0_total_14 fl_RX0_9 rfl rfl rfl ?_
      refine ae_iload_n 2 dX0_total_17 rfl ?_
      obtain ⟨hg3, hF4⟩ := ae_gdI hF2
      refine ae_iald (q := (4, 0)) dX0_total_18 rfl rfl (ae_ibI hg3) ?_
      refine ae_iadd dX0_total_19 ?_
      obtain ⟨x5, hx5, hF6⟩ := ae_ltI hF4
      refine ae_nmI hx5 ?_
      refine ae_istore_n (lv' := [(1, ae_i x5), (0, ae_r (some (3, 0))), (2, ae_i v2)]) dX0_total_20 (by decide) rfl ?_
      obtain ⟨x7, hx7, hF8⟩ := ae_ltI hF6
      refine ae_iinc (lv' := [(2, ae_i x7), (1, ae_i x5), (0, ae_r (some (3, 0)))]) 2 (1 : Int32) dX0_total_21 rfl (by decide) (by decide) (by rw [hx7]; rfl) ?_
      refine ae_goto 4 dX0_total_24 rfl ?_
      refine ae_pick (lv' := [(0, ae_r (some (3, 0))), (1, ae_i x5), (2, ae_i x7)]) [2, 1, 0] rfl ?_
      exact ih x5 x7 s0 hF8
def F_X0_total (s0 : ae_S) : Option (Int32 × ae_S) := F_X0_total_4 ae_fu (0 : Int32) (0 : Int32) s0
set_option maxHeartbeats 4000000 in
set_option maxRecDepth 100000 in
theorem c_X0_total {l : Launch} {G : ae_G} (d : Nat) {s0 ss : ae_S} {rr : Int32} (hF : F_X0_total s0 = some (rr, ss)) : ae_Met l G d yX0_total mX0_total [ae_r (some (3, 0))] s0 (ae_Po (some (ae_i rr)) ss) := by
  refine ae_enter (by decide) rfl (Nat.le_of_ble_eq_true rfl) ?_
  show ae_T l G d mX0_total (ae_Po (some (ae_i rr)) ss) 0 [(0, ae_r (some (3, 0)))] [] s0
  unfold F_X0_total at hF
  refine ae_iconst (0 : Int32) dX0_total_0 (by decide) ?_
  refine ae_istore_n (lv' := [(1, ae_i (0 : Int32)), (0, ae_r (some (3, 0)))]) dX0_total_1 (by decide) rfl ?_
  refine ae_iconst (0 : Int32) dX0_total_2 (by decide) ?_
  refine ae_istore_n (lv' := [(2, ae_i (0 : Int32)), (1, ae_i (0 : Int32)), (0, ae_r (some (3, 0)))]) dX0_total_3 (by decide) rfl ?_
  refine ae_pick (lv' := [(0, ae_r (some (3, 0))), (1, ae_i (0 : Int32)), (2, ae_i (0 : Int32))]) [2, 1, 0] rfl ?_
  exact t_X0_total_4 d ae_fu (0 : Int32) (0 : Int32) s0 hF
