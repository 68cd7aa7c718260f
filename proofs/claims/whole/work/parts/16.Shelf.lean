/-! methods as functions: X6_empty X6_startComing X6_takeComing X6_numberAmong X6_hasComing X6_nextComing X6_keepComing X6_count X6_numberOf X6_get X6_covering -/
theorem fl_RX6_21 : ae_FL RX6 21 4 2 (.int) false := ⟨_, _, _, rfl, by decide, ww_140, rfl, rfl, rfl⟩
theorem fl_RX6_33 : ae_FL RX6 33 4 3 (.int) false := ⟨_, _, _, rfl, by decide, ww_141, rfl, rfl, rfl⟩
theorem fl_RX6_11 : ae_FL RX6 11 4 0 (.array (.object "ByteViews$View")) false := ⟨_, _, _, rfl, by decide, ww_138, rfl, rfl, rfl⟩
theorem fl_RX6_17 : ae_FL RX6 17 4 1 (.array (.object "ByteViews$View")) false := ⟨_, _, _, rfl, by decide, ww_139, rfl, rfl, rfl⟩
theorem fl_RX6_36 : ae_FL RX6 36 7 3 (.long) false := ⟨_, _, _, rfl, by decide, ww_93, rfl, rfl, rfl⟩
abbrev mX6_empty : ae_M := (RX6, cX6_empty, 1, none)
theorem vy_X6_empty : ae_VY yX6_empty mX6_empty 0 := ⟨ww_339, ww_340, ww_4, ww_341, ⟨by decide, by decide, by decide +kernel⟩, by decide⟩
theorem dX6_empty_0 : decode cX6_empty 0 = .ok (.aload_n 0, 1) := by decide +kernel
theorem dX6_empty_1 : decode cX6_empty 1 = .ok (.iconst 0, 1) := by decide +kernel
theorem dX6_empty_2 : decode cX6_empty 2 = .ok (.putfield 21, 3) := by decide +kernel
theorem dX6_empty_5 : decode cX6_empty 5 = .ok (.return_, 1) := by decide +kernel
def F_X6_empty (s0 : ae_S) : Option (Unit × ae_S) := ae_lt (ae_wI s0 6 0 2 (0 : Int32)) (fun s1 => some ((), s1))
set_option maxHeartbeats 4000000 in
set_option maxRecDepth 100000 in
theorem c_X6_empty {l : Launch} {G : ae_G} (d : Nat) {s0 ss : ae_S} {rr : Unit} (hF : F_X6_empty s0 = some (rr, ss)) : ae_Met l G d yX6_empty mX6_empty [ae_r (some (6, 0))] s0 (ae_Po none ss) := by
  refine ae_enter (by decide) rfl (Nat.le_of_ble_eq_true rfl) ?_
  show ae_T l G d mX6_empty (ae_Po none ss) 0 [(0, ae_r (some (6, 0)))] [] s0
  unfold F_X6_empty at hF
  refine ae_aload_n 0 dX6_empty_0 rfl ?_
  refine ae_iconst (0 : Int32) dX6_empty_1 (by decide) ?_
  obtain ⟨s1, hs1, hF2⟩ := ae_ltI hF
  refine ae_putI (q := (6, 0)) dX6_empty_2 fl_RX6_21 rfl rfl (ae_nmS hs1 ?_)
  obtain ⟨rfl, rfl⟩ := ae_retI hF2
  exact ae_vret dX6_empty_5 rfl ⟨rfl, rfl⟩
abbrev mX6_startComing : ae_M := (RX6, cX6_startComing, 1, none)
theorem vy_X6_startComing : ae_VY yX6_startComing mX6_startComing 0 := ⟨ww_482, ww_483, ww_4, ww_484, ⟨by decide, by decide, by decide +kernel⟩, by decide⟩
theorem dX6_startComing_0 : decode cX6_startComing 0 = .ok (.aload_n 0, 1) := by decide +kernel
theorem dX6_startComing_1 : decode cX6_startComing 1 = .ok (.iconst 0, 1) := by decide +kernel
theorem dX6_startComing_2 : decode cX6_startComing 2 = .ok (.putfield 33, 3) := by decide +kernel
theorem dX6_startComing_5 : decode cX6_startComing 5 = .ok (.return_, 1) := by decide +kernel
def F_X6_startComing (s0 : ae_S) : Option (Unit × ae_S) := ae_lt (ae_wI s0 6 0 3 (0 : Int32)) (fun s1 => some ((), s1))
set_option maxHeartbeats 4000000 in
set_option maxRecDepth 100000 in
theorem c_X6_startComing {l : Launch} {G : ae_G} (d : Nat) {s0 ss : ae_S} {rr : Unit} (hF : F_X6_startComing s0 = some (rr, ss)) : ae_Met l G d yX6_startComing mX6_startComing [ae_r (some (6, 0))] s0 (ae_Po none ss) := by
  refine ae_enter (by decide) rfl (Nat.le_of_ble_eq_true rfl) ?_
  show ae_T l G d mX6_startComing (ae_Po none ss) 0 [(0, ae_r (some (6, 0)))] [] s0
  unfold F_X6_startComing at hF
  refine ae_aload_n 0 dX6_startComing_0 rfl ?_
  refine ae_iconst (0 : Int32) dX6_startComing_1 (by decide) ?_
  obtain ⟨s1, hs1, hF2⟩ := ae_ltI hF
  refine ae_putI (q := (6, 0)) dX6_startComing_2 fl_RX6_33 rfl rfl (ae_nmS hs1 ?_)
  obtain ⟨rfl, rfl⟩ := ae_retI hF2
  exact ae_vret dX6_startComing_5 rfl ⟨rfl, rfl⟩
abbrev mX6_takeComing : ae_M := (RX6, cX6_takeComing, 2, none)
theorem vy_X6_takeComing : ae_VY yX6_takeComing mX6_takeComing 0 := ⟨ww_494, ww_495, ww_4, ww_496, ⟨by decide, by decide, by decide +kernel⟩, by decide⟩
theorem dX6_takeComing_0 : decode cX6_takeComing 0 = .ok (.aload_n 0, 1) := by decide +kernel
theorem dX6_takeComing_1 : decode cX6_takeComing 1 = .ok (.getfield 11, 3) := by decide +kernel
theorem dX6_takeComing_4 : decode cX6_takeComing 4 = .ok (.astore_n 1, 1) := by decide +kernel
theorem dX6_takeComing_5 : decode cX6_takeComing 5 = .ok (.aload_n 0, 1) := by decide +kernel
theorem dX6_takeComing_6 : decode cX6_takeComing 6 = .ok (.aload_n 0, 1) := by decide +kernel
theorem dX6_takeComing_7 : decode cX6_takeComing 7 = .ok (.getfield 17, 3) := by decide +kernel
theorem dX6_takeComing_10 : decode cX6_takeComing 10 = .ok (.putfield 11, 3) := by decide +kernel
theorem dX6_takeComing_13 : decode cX6_takeComing 13 = .ok (.aload_n 0, 1) := by decide +kernel
theorem dX6_takeComing_14 : decode cX6_takeComing 14 = .ok (.aload_n 1, 1) := by decide +kernel
theorem dX6_takeComing_15 : decode cX6_takeComing 15 = .ok (.putfield 17, 3) := by decide +kernel
theorem dX6_takeComing_18 : decode cX6_takeComing 18 = .ok (.aload_n 0, 1) := by decide +kernel
theorem dX6_takeComing_19 : decode cX6_takeComing 19 = .ok (.aload_n 0, 1) := by decide +kernel
theorem dX6_takeComing_20 : decode cX6_takeComing 20 = .ok (.getfield 33, 3) := by decide +kernel
theorem dX6_takeComing_23 : decode cX6_takeComing 23 = .ok (.putfield 21, 3) := by decide +kernel
theorem dX6_takeComing_26 : decode cX6_takeComing 26 = .ok (.return_, 1) := by decide +kernel
def F_X6_takeComing (s0 : ae_S) : Option (Unit × ae_S) := ae_mo (ae_gk (s0.2.2.2 6 0 0) 7) none (fun j1 => ae_mo (ae_gk (s0.2.2.2 6 0 1) 7) none (fun j3 => ae_lt (ae_wR s0 6 0 0 (some (7, j3))) (fun s5 => ae_lt (ae_wR s5 6 0 1 (some (7, j1))) (fun s7 => ae_lt (ae_wI s7 6 0 2 (s7.1 6 0 3)) (fun s9 => some ((), s9))))))
set_option maxHeartbeats 4000000 in
set_option maxRecDepth 100000 in
theorem c_X6_takeComing {l : Launch} {G : ae_G} (d : Nat) {s0 ss : ae_S} {rr : Unit} (hF : F_X6_takeComing s0 = some (rr, ss)) : ae_Met l G d yX6_takeComing mX6_takeComing [ae_r (some (6, 0))] s0 (ae_Po none ss) := by
  refine ae_enter (by decide) rfl (Nat.le_of_ble_eq_true rfl) ?_
  show ae_T l G d mX6_takeComing (ae_Po none ss) 0 [(0, ae_r (some (6, 0)))] [] s0
  unfold F_X6_takeComing at hF
  refine ae_aload_n 0 dX6_takeComing_0 rfl ?_
  obtain ⟨j1, hj1, hF2⟩ := ae_moK hF
  refine ae_getA (q := (6, 0)) (some (7, j1)) dX6_takeComing_1 fl_RX6_11 rfl rfl hj1 ?_
  refine ae_astore_n (lv' := [(1, ae_r (some (7, j1))), (0, ae_r (some (6, 0)))]) dX6_takeComing_4 (by decide) rfl ?_
  refine ae_aload_n 1 dX6_takeComing_5 rfl ?_
  refine ae_aload_n 1 dX6_takeComing_6 rfl ?_
  obtain ⟨j3, hj3, hF4⟩ := ae_moK hF2
  refine ae_getA (q := (6, 0)) (some (7, j3)) dX6_takeComing_7 fl_RX6_17 rfl rfl hj3 ?_
  obtain ⟨s5, hs5, hF6⟩ := ae_ltI hF4
  refine ae_putA (q := (6, 0)) dX6_takeComing_10 fl_RX6_11 rfl rfl rfl (ae_nmS hs5 ?_)
  refine ae_aload_n 1 dX6_takeComing_13 rfl ?_
  refine ae_aload_n 0 dX6_takeComing_14 rfl ?_
  obtain ⟨s7, hs7, hF8⟩ := ae_ltI hF6
  refine ae_putA (q := (6, 0)) dX6_takeComing_15 fl_RX6_17 rfl rfl rfl (ae_nmS hs7 ?_)
  refine ae_aload_n 1 dX6_takeComing_18 rfl ?_
  refine ae_aload_n 1 dX6_takeComing_19 rfl ?_
  refine ae_getI (q := (6, 0)) dX6_takeComing_20 fl_RX6_33 rfl rfl ?_
  obtain ⟨s9, hs9, hF10⟩ := ae_ltI hF8
  refine ae_putI (q := (6, 0)) dX6_takeComing_23 fl_RX6_21 rfl rfl (ae_nmS hs9 ?_)
  obtain ⟨rfl, rfl⟩ := ae_retI hF10
  exact ae_vret dX6_takeComing_26 rfl ⟨rfl, rfl⟩
abbrev mX6_numberAmong : ae_M := (RX6, cX6_numberAmong, 5, some .int)
theorem vy_X6_numberAmong : ae_SY yX6_numberAmong mX6_numberAmong 3 := ⟨ww_518, ww_4, ww_519, ⟨by decide, by decide, by decide +kernel⟩, by decide⟩
theorem dX6_numberAmong_0 : decode cX6_numberAmong 0 = .ok (.iconst 0, 1) := by decide +kernel
theorem dX6_numberAmong_1 : decode cX6_numberAmong 1 = .ok (.istore 4, 2) := by decide +kernel
theorem dX6_numberAmong_3 : decode cX6_numberAmong 3 = .ok (.iload 4, 2) := by decide +kernel
theorem dX6_numberAmong_5 : decode cX6_numberAmong 5 = .ok (.iload_n 1, 1) := by decide +kernel
theorem dX6_numberAmong_6 : decode cX6_numberAmong 6 = .ok (.if_icmp .ge 31, 3) := by decide +kernel
theorem dX6_numberAmong_9 : decode cX6_numberAmong 9 = .ok (.iload 4, 2) := by decide +kernel
theorem dX6_numberAmong_11 : decode cX6_numberAmong 11 = .ok (.aload_n 0, 1) := by decide +kernel
theorem dX6_numberAmong_12 : decode cX6_numberAmong 12 = .ok (.arraylength, 1) := by decide +kernel
theorem dX6_numberAmong_13 : decode cX6_numberAmong 13 = .ok (.if_icmp .ge 24, 3) := by decide +kernel
theorem dX6_numberAmong_16 : decode cX6_numberAmong 16 = .ok (.aload_n 0, 1) := by decide +kernel
theorem dX6_numberAmong_17 : decode cX6_numberAmong 17 = .ok (.iload 4, 2) := by decide +kernel
theorem dX6_numberAmong_19 : decode cX6_numberAmong 19 = .ok (.aaload, 1) := by decide +kernel
theorem dX6_numberAmong_20 : decode cX6_numberAmong 20 = .ok (.getfield 36, 3) := by decide +kernel
theorem dX6_numberAmong_23 : decode cX6_numberAmong 23 = .ok (.lload_n 2, 1) := by decide +kernel
theorem dX6_numberAmong_24 : decode cX6_numberAmong 24 = .ok (.lcmp, 1) := by decide +kernel
theorem dX6_numberAmong_25 : decode cX6_numberAmong 25 = .ok (.ifCond .ne 6, 3) := by decide +kernel
theorem dX6_numberAmong_28 : decode cX6_numberAmong 28 = .ok (.iload 4, 2) := by decide +kernel
theorem dX6_numberAmong_30 : decode cX6_numberAmong 30 = .ok (.ireturn, 1) := by decide +kernel
theorem dX6_numberAmong_31 : decode cX6_numberAmong 31 = .ok (.iinc 4 1, 3) := by decide +kernel
theorem dX6_numberAmong_34 : decode cX6_numberAmong 34 = .ok (.goto (-31), 3) := by decide +kernel
theorem dX6_numberAmong_37 : decode cX6_numberAmong 37 = .ok (.iconst (-1), 1) := by decide +kernel
theorem dX6_numberAmong_38 : decode cX6_numberAmong 38 = .ok (.ireturn, 1) := by decide +kernel
def F_X6_numberAmong_37 (s0 : ae_S) : Option (Int32 × ae_S) := some ((-1 : Int32), s0)
set_option maxHeartbeats 4000000 in
set_option maxRecDepth 100000 in
theorem t_X6_numberAmong_37 {l : Launch} {G : ae_G} (d : Nat) {rr : Int32} {ss : ae_S} (s0 : ae_S) (hF : F_X6_numberAmong_37 s0 = some (rr, ss)) : ae_T l G d mX6_numberAmong (ae_Po (some (ae_i rr)) ss) 37 [] [] s0 := by
  unfold F_X6_numberAmong_37 at hF
  refine ae_iconst (-1 : Int32) dX6_numberAmong_37 (by decide) ?_
  obtain ⟨rfl, rfl⟩ := ae_retI hF
  exact ae_iret dX6_numberAmong_38 rfl rfl ⟨rfl, rfl⟩
def F_X6_numberAmong_3 : Nat → Fin 32 → Int32 → Int64 → Int32 → ae_S → Option (Int32 × ae_S)
  | 0, _, _, _, _, _ => none
  | n + 1, i0, v1, v2, v4, s0 => if v1 ≤ v4 then (F_X6_numberAmong_37 s0) else (ae_gd (ae_ok (7, i0)) (if (16 : Int32) ≤ v4 then (F_X6_numberAmong_37 s0) else (ae_gd (ae_ib v4 16) (if (lg_cmp (s0.2.1 8 (Fin.ofNat 32 (16 * (i0 : Fin 32).val + v4.toNatClampNeg)) 3) v2) = 0 then (some (v4, s0)) else (ae_lt (v4 + (1 : Int32)) (fun x11 => F_X6_numberAmong_3 n i0 v1 v2 x11 s0))))))
set_option maxHeartbeats 4000000 in
set_option maxRecDepth 100000 in
theorem t_X6_numberAmong_3 {l : Launch} {G : ae_G} (d : Nat) {rr : Int32} {ss : ae_S} : ∀ (n : Nat) (i0 : Fin 32) (v1 : Int32) (v2 : Int64) (v4 : Int32) (s0 : ae_S), F_X6_numberAmong_3 n i0 v1 v2 v4 s0 = some (rr, ss) → ae_T l G d mX6_numberAmong (ae_Po (some (ae_i rr)) ss) 3 [(0, ae_r (some (7, i0))), (1, ae_i v1), (2, ae_l v2), (4, ae_i v4)] [] s0 := by
  intro n
  induction n with
  | zero =>
    intro i0 v1 v2 v4 s0 hF
    exact absurd (show (none : Option (Int32 × ae_S)) = some (rr, ss) from hF) (by simp)
  | succ n ih =>
    intro i0 v1 v2 v4 s0 hF
    unfold F_X6_numberAmong_3 at hF
    refine ae_iload 3 dX6_numberAmong_3 rfl ?_
    refine ae_iload_n 1 dX6_numberAmong_5 rfl ?_
    refine ae_icmp_ge 37 dX6_numberAmong_6 rfl (fun hb1 => ?_) (fun hb1 => ?_)
    · have hF2 := ae_ifT hb1 hF
      refine ae_pick (lv' := []) [] rfl ?_
      exact t_X6_numberAmong_37 d s0 hF2
    · have hF2 := ae_ifF hb1 hF
      refine ae_iload 3 dX6_numberAmong_9 rfl ?_
      refine ae_aload_n 0 dX6_numberAmong_11 rfl ?_
      obtain ⟨hg3, hF4⟩ := ae_gdI hF2
      refine ae_alen (q := (7, i0)) (16 : Int32) dX6_numberAmong_12 hg3 rfl (by simp [ae_at]) (by decide) ?_
      refine ae_icmp_ge 37 dX6_numberAmong_13 rfl (fun hb5 => ?_) (fun hb5 => ?_)
      · have hF6 := ae_ifT hb5 hF4
        refine ae_pick (lv' := []) [] rfl ?_
        exact t_X6_numberAmong_37 d s0 hF6
      · have hF6 := ae_ifF hb5 hF4
        refine ae_aload_n 0 dX6_numberAmong_16 rfl ?_
        refine ae_iload 3 dX6_numberAmong_17 rfl ?_
        obtain ⟨hg7, hF8⟩ := ae_gdI hF6
        refine ae_aald (q := (7, i0)) (some (8, (Fin.ofNat 32 (16 * (i0 : Fin 32).val + v4.toNatClampNeg)))) dX6_numberAmong_19 hg3 rfl (Or.inr rfl) (ae_ibI hg7) rfl ?_
        refine ae_getL (q := (8, (Fin.ofNat 32 (16 * (i0 : Fin 32).val + v4.toNatClampNeg)))) dX6_numberAmong_20 fl_RX6_36 rfl rfl ?_
        refine ae_lload_n 2 dX6_numberAmong_23 rfl ?_
        refine ae_lcmp dX6_numberAmong_24 ?_
        refine ae_if_ne 31 dX6_numberAmong_25 rfl (fun hb9 => ?_) (fun hb9 => ?_)
        · have hF10 := ae_ifF hb9 hF8
          obtain ⟨x11, hx11, hF12⟩ := ae_ltI hF10
          refine ae_iinc (lv' := [(4, ae_i x11), (0, ae_r (some (7, i0))), (1, ae_i v1), (2, ae_l v2)]) 3 (1 : Int32) dX6_numberAmong_31 rfl (by decide) (by decide) (by rw [hx11]; rfl) ?_
          refine ae_goto 3 dX6_numberAmong_34 rfl ?_
          refine ae_pick (lv' := [(0, ae_r (some (7, i0))), (1, ae_i v1), (2, ae_l v2), (4, ae_i x11)]) [1, 2, 3, 0] rfl ?_
          exact ih i0 v1 v2 x11 s0 hF12
        · have hF10 := ae_ifT hb9 hF8
          refine ae_iload 3 dX6_numberAmong_28 rfl ?_
          obtain ⟨rfl, rfl⟩ := ae_retI hF10
          exact ae_iret dX6_numberAmong_30 rfl rfl ⟨rfl, rfl⟩
def F_X6_numberAmong (i0 : Fin 32) (v1 : Int32) (v2 : Int64) (s0 : ae_S) : Option (Int32 × ae_S) := F_X6_numberAmong_3 ae_fu i0 v1 v2 (0 : Int32) s0
set_option maxHeartbeats 4000000 in
set_option maxRecDepth 100000 in
theorem c_X6_numberAmong {l : Launch} {G : ae_G} (d : Nat) {i0 : Fin 32} {v1 : Int32} {v2 : Int64} {s0 ss : ae_S} {rr : Int32} (hF : F_X6_numberAmong i0 v1 v2 s0 = some (rr, ss)) : ae_Met l G d yX6_numberAmong mX6_numberAmong [ae_r (some (7, i0)), ae_i v1, ae_l v2] s0 (ae_Po (some (ae_i rr)) ss) := by
  refine ae_enter (by decide) rfl (Nat.le_of_ble_eq_true rfl) ?_
  show ae_T l G d mX6_numberAmong (ae_Po (some (ae_i rr)) ss) 0 [(0, ae_r (some (7, i0))), (1, ae_i v1), (2, ae_l v2)] [] s0
  unfold F_X6_numberAmong at hF
  refine ae_iconst (0 : Int32) dX6_numberAmong_0 (by decide) ?_
  refine ae_istore (lv' := [(4, ae_i (0 : Int32)), (0, ae_r (some (7, i0))), (1, ae_i v1), (2, ae_l v2)]) dX6_numberAmong_1 (by decide) rfl ?_
  refine ae_pick (lv' := [(0, ae_r (some (7, i0))), (1, ae_i v1), (2, ae_l v2), (4, ae_i (0 : Int32))]) [1, 2, 3, 0] rfl ?_
  exact t_X6_numberAmong_3 d ae_fu i0 v1 v2 (0 : Int32) s0 hF
abbrev mX6_hasComing : ae_M := (RX6, cX6_hasComing, 3, some .boolean)
theorem vy_X6_hasComing : ae_VY yX6_hasComing mX6_hasComing 1 := ⟨ww_514, ww_515, ww_4, ww_516, ⟨by decide, by decide, by decide +kernel⟩, by decide⟩
theorem dX6_hasComing_0 : decode cX6_hasComing 0 = .ok (.aload_n 0, 1) := by decide +kernel
theorem dX6_hasComing_1 : decode cX6_hasComing 1 = .ok (.getfield 17, 3) := by decide +kernel
theorem dX6_hasComing_4 : decode cX6_hasComing 4 = .ok (.aload_n 0, 1) := by decide +kernel
theorem dX6_hasComing_5 : decode cX6_hasComing 5 = .ok (.getfield 33, 3) := by decide +kernel
theorem dX6_hasComing_8 : decode cX6_hasComing 8 = .ok (.lload_n 1, 1) := by decide +kernel
theorem dX6_hasComing_9 : decode cX6_hasComing 9 = .ok (.invokestatic 25, 3) := by decide +kernel
theorem dX6_hasComing_12 : decode cX6_hasComing 12 = .ok (.iconst (-1), 1) := by decide +kernel
theorem dX6_hasComing_13 : decode cX6_hasComing 13 = .ok (.if_icmp .eq 7, 3) := by decide +kernel
theorem dX6_hasComing_16 : decode cX6_hasComing 16 = .ok (.iconst 1, 1) := by decide +kernel
theorem dX6_hasComing_17 : decode cX6_hasComing 17 = .ok (.goto 4, 3) := by decide +kernel
theorem dX6_hasComing_20 : decode cX6_hasComing 20 = .ok (.iconst 0, 1) := by decide +kernel
theorem dX6_hasComing_21 : decode cX6_hasComing 21 = .ok (.ireturn, 1) := by decide +kernel
def F_X6_hasComing_21 (t0 : Int32) (s0 : ae_S) : Option (Int32 × ae_S) := ae_gd (ae_zz t0) (some (t0, s0))
set_option maxHeartbeats 4000000 in
set_option maxRecDepth 100000 in
theorem t_X6_hasComing_21 {l : Launch} {G : ae_G} (d : Nat) {rr : Int32} {ss : ae_S} (t0 : Int32) (s0 : ae_S) (hF : F_X6_hasComing_21 t0 s0 = some (rr, ss)) : ae_T l G (d + 1) mX6_hasComing (ae_Po (some (ae_i rr)) ss) 21 [] [ae_i t0] s0 := by
  unfold F_X6_hasComing_21 at hF
  obtain ⟨hg1, hF2⟩ := ae_gdI hF
  obtain ⟨rfl, rfl⟩ := ae_retI hF2
  exact ae_iret dX6_hasComing_21 rfl (ae_zzN (ae_zzI hg1)) ⟨rfl, rfl⟩
def F_X6_hasComing (v1 : Int64) (s0 : ae_S) : Option (Int32 × ae_S) := ae_mo (ae_gk (s0.2.2.2 6 0 1) 7) none (fun j3 => ae_bd (F_X6_numberAmong j3 (s0.1 6 0 3) v1 s0) (fun (r5 : Int32) s6 => if r5 = (-1 : Int32) then (F_X6_hasComing_21 (0 : Int32) s6) else (F_X6_hasComing_21 (1 : Int32) s6)))
set_option maxHeartbeats 4000000 in
set_option maxRecDepth 100000 in
theorem c_X6_hasComing {l : Launch} {G : ae_G} (d : Nat) {v1 : Int64} {s0 ss : ae_S} {rr : Int32} (hF : F_X6_hasComing v1 s0 = some (rr, ss)) : ae_Met l G (d + 1) yX6_hasComing mX6_hasComing [ae_r (some (6, 0)), ae_l v1] s0 (ae_Po (some (ae_i rr)) ss) := by
  refine ae_enter (by decide) rfl (Nat.le_of_ble_eq_true rfl) ?_
  show ae_T l G (d + 1) mX6_hasComing (ae_Po (some (ae_i rr)) ss) 0 [(0, ae_r (some (6, 0))), (1, ae_l v1)] [] s0
  unfold F_X6_hasComing at hF
  refine ae_aload_n 0 dX6_hasComing_0 rfl ?_
  obtain ⟨j3, hj3, hF4⟩ := ae_moK hF
  refine ae_getA (q := (6, 0)) (some (7, j3)) dX6_hasComing_1 fl_RX6_17 rfl rfl hj3 ?_
  refine ae_aload_n 0 dX6_hasComing_4 rfl ?_
  refine ae_getI (q := (6, 0)) dX6_hasComing_5 fl_RX6_33 rfl rfl ?_
  refine ae_lload_n 1 dX6_hasComing_8 rfl ?_
  obtain ⟨r5, s6, hc7, hF8⟩ := ae_bdI hF4
  refine ae_cS1 (As := [ae_r (some (7, j3)), ae_i (s0.1 6 0 3), ae_l v1]) dX6_hasComing_9 ww_517 vy_X6_numberAmong rfl rfl (Nat.le_of_ble_eq_true rfl) (c_X6_numberAmong d hc7) ?_
  refine ae_iconst (-1 : Int32) dX6_hasComing_12 (by decide) ?_
  refine ae_icmp_eq 20 dX6_hasComing_13 rfl (fun hb9 => ?_) (fun hb9 => ?_)
  · have hF10 := ae_ifT hb9 hF8
    refine ae_iconst (0 : Int32) dX6_hasComing_20 (by decide) ?_
    refine ae_pick (lv' := []) [] rfl ?_
    exact t_X6_hasComing_21 d (0 : Int32) s6 hF10
  · have hF10 := ae_ifF hb9 hF8
    refine ae_iconst (1 : Int32) dX6_hasComing_16 (by decide) ?_
    refine ae_goto 21 dX6_hasComing_17 rfl ?_
    refine ae_pick (lv' := []) [] rfl ?_
    exact t_X6_hasComing_21 d (1 : Int32) s6 hF10
abbrev mX6_nextComing : ae_M := (RX6, cX6_nextComing, 1, some (.object "ByteViews$View"))
theorem vy_X6_nextComing : ae_VY yX6_nextComing mX6_nextComing 0 := ⟨ww_521, ww_522, ww_4, ww_523, ⟨by decide, by decide, by decide +kernel⟩, by decide⟩
theorem dX6_nextComing_0 : decode cX6_nextComing 0 = .ok (.aload_n 0, 1) := by decide +kernel
theorem dX6_nextComing_1 : decode cX6_nextComing 1 = .ok (.getfield 33, 3) := by decide +kernel
theorem dX6_nextComing_4 : decode cX6_nextComing 4 = .ok (.ifCond .lt 24, 3) := by decide +kernel
theorem dX6_nextComing_7 : decode cX6_nextComing 7 = .ok (.aload_n 0, 1) := by decide +kernel
theorem dX6_nextComing_8 : decode cX6_nextComing 8 = .ok (.getfield 33, 3) := by decide +kernel
theorem dX6_nextComing_11 : decode cX6_nextComing 11 = .ok (.bipush 16, 2) := by decide +kernel
theorem dX6_nextComing_13 : decode cX6_nextComing 13 = .ok (.if_icmp .ge 15, 3) := by decide +kernel
theorem dX6_nextComing_16 : decode cX6_nextComing 16 = .ok (.aload_n 0, 1) := by decide +kernel
theorem dX6_nextComing_17 : decode cX6_nextComing 17 = .ok (.getfield 17, 3) := by decide +kernel
theorem dX6_nextComing_20 : decode cX6_nextComing 20 = .ok (.aload_n 0, 1) := by decide +kernel
theorem dX6_nextComing_21 : decode cX6_nextComing 21 = .ok (.getfield 33, 3) := by decide +kernel
theorem dX6_nextComing_24 : decode cX6_nextComing 24 = .ok (.aaload, 1) := by decide +kernel
theorem dX6_nextComing_25 : decode cX6_nextComing 25 = .ok (.goto 4, 3) := by decide +kernel
theorem dX6_nextComing_28 : decode cX6_nextComing 28 = .ok (.aconst_null, 1) := by decide +kernel
theorem dX6_nextComing_29 : decode cX6_nextComing 29 = .ok (.areturn, 1) := by decide +kernel
def F_X6_nextComing_29 (to0 : Option (Fin 32)) (s0 : ae_S) : Option (Option (Fin 32) × ae_S) := some (to0, s0)
set_option maxHeartbeats 4000000 in
set_option maxRecDepth 100000 in
theorem t_X6_nextComing_29 {l : Launch} {G : ae_G} (d : Nat) {rr : Option (Fin 32)} {ss : ae_S} (to0 : Option (Fin 32)) (s0 : ae_S) (hF : F_X6_nextComing_29 to0 s0 = some (rr, ss)) : ae_T l G d mX6_nextComing (ae_Po (some (ae_r (ae_ro 8 rr))) ss) 29 [] [ae_r (ae_ro 8 to0)] s0 := by
  unfold F_X6_nextComing_29 at hF
  obtain ⟨rfl, rfl⟩ := ae_retI hF
  exact ae_aret dX6_nextComing_29 rfl (Or.inl ⟨_, rfl⟩) ⟨rfl, rfl⟩
def F_X6_nextComing_28 (s0 : ae_S) : Option (Option (Fin 32) × ae_S) := F_X6_nextComing_29 none s0
set_option maxHeartbeats 4000000 in
set_option maxRecDepth 100000 in
theorem t_X6_nextComing_28 {l : Launch} {G : ae_G} (d : Nat) {rr : Option (Fin 32)} {ss : ae_S} (s0 : ae_S) (hF : F_X6_nextComing_28 s0 = some (rr, ss)) : ae_T l G d mX6_nextComing (ae_Po (some (ae_r (ae_ro 8 rr))) ss) 28 [] [] s0 := by
  unfold F_X6_nextComing_28 at hF
  refine ae_null dX6_nextComing_28 ?_
  refine ae_pick (lv' := []) [] rfl ?_
  exact t_X6_nextComing_29 d none s0 hF
def F_X6_nextComing (s0 : ae_S) : Option (Option (Fin 32) × ae_S) := if (s0.1 6 0 3) < 0 then (F_X6_nextComing_28 s0) else (if (16 : Int32) ≤ (s0.1 6 0 3) then (F_X6_nextComing_28 s0) else (ae_mo (ae_gk (s0.2.2.2 6 0 1) 7) none (fun j5 => ae_gd (ae_ib (s0.1 6 0 3) 16) (ae_gd (ae_ok (7, j5)) (F_X6_nextComing_29 (some ((Fin.ofNat 32 (16 * (j5 : Fin 32).val + (s0.1 6 0 3).toNatClampNeg)) : Fin 32)) s0)))))
set_option maxHeartbeats 4000000 in
set_option maxRecDepth 100000 in
theorem c_X6_nextComing {l : Launch} {G : ae_G} (d : Nat) {s0 ss : ae_S} {rr : Option (Fin 32)} (hF : F_X6_nextComing s0 = some (rr, ss)) : ae_Met l G d yX6_nextComing mX6_nextComing [ae_r (some (6, 0))] s0 (ae_Po (some (ae_r (ae_ro 8 rr))) ss) := by
  refine ae_enter (by decide) rfl (Nat.le_of_ble_eq_true rfl) ?_
  show ae_T l G d mX6_nextComing (ae_Po (some (ae_r (ae_ro 8 rr))) ss) 0 [(0, ae_r (some (6, 0)))] [] s0
  unfold F_X6_nextComing at hF
  refine ae_aload_n 0 dX6_nextComing_0 rfl ?_
  refine ae_getI (q := (6, 0)) dX6_nextComing_1 fl_RX6_33 rfl rfl ?_
  refine ae_if_lt 28 dX6_nextComing_4 rfl (fun hb1 => ?_) (fun hb1 => ?_)
  · have hF2 := ae_ifT hb1 hF
    refine ae_pick (lv' := []) [] rfl ?_
    exact t_X6_nextComing_28 d s0 hF2
  · have hF2 := ae_ifF hb1 hF
    refine ae_aload_n 0 dX6_nextComing_7 rfl ?_
    refine ae_getI (q := (6, 0)) dX6_nextComing_8 fl_RX6_33 rfl rfl ?_
    refine ae_bipush (16 : Int32) dX6_nextComing_11 (by decide) ?_
    refine ae_icmp_ge 28 dX6_nextComing_13 rfl (fun hb3 => ?_) (fun hb3 => ?_)
    · have hF4 := ae_ifT hb3 hF2
      refine ae_pick (lv' := []) [] rfl ?_
      exact t_X6_nextComing_28 d s0 hF4
    · have hF4 := ae_ifF hb3 hF2
      refine ae_aload_n 0 dX6_nextComing_16 rfl ?_
      obtain ⟨j5, hj5, hF6⟩ := ae_moK hF4
      refine ae_getA (q := (6, 0)) (some (7, j5)) dX6_nextComing_17 fl_RX6_17 rfl rfl hj5 ?_
      refine ae_aload_n 0 dX6_nextComing_20 rfl ?_
      refine ae_getI (q := (6, 0)) dX6_nextComing_21 fl_RX6_33 rfl rfl ?_
      obtain ⟨hg7, hF8⟩ := ae_gdI hF6
      obtain ⟨hg9, hF10⟩ := ae_gdI hF8
      refine ae_aald (q := (7, j5)) (some (8, (Fin.ofNat 32 (16 * (j5 : Fin 32).val + (s0.1 6 0 3).toNatClampNeg)))) dX6_nextComing_24 hg9 rfl (Or.inr rfl) (ae_ibI hg7) rfl ?_
      refine ae_goto 29 dX6_nextComing_25 rfl ?_
      refine ae_pick (lv' := []) [] rfl ?_
      exact t_X6_nextComing_29 d (some ((Fin.ofNat 32 (16 * (j5 : Fin 32).val + (s0.1 6 0 3).toNatClampNeg)) : Fin 32)) s0 hF10
abbrev mX6_keepComing : ae_M := (RX6, cX6_keepComing, 1, none)
theorem vy_X6_keepComing : ae_VY yX6_keepComing mX6_keepComing 0 := ⟨ww_617, ww_618, ww_4, ww_619, ⟨by decide, by decide, by decide +kernel⟩, by decide⟩
theorem dX6_keepComing_0 : decode cX6_keepComing 0 = .ok (.aload_n 0, 1) := by decide +kernel
theorem dX6_keepComing_1 : decode cX6_keepComing 1 = .ok (.dup, 1) := by decide +kernel
theorem dX6_keepComing_2 : decode cX6_keepComing 2 = .ok (.getfield 33, 3) := by decide +kernel
theorem dX6_keepComing_5 : decode cX6_keepComing 5 = .ok (.iconst 1, 1) := by decide +kernel
theorem dX6_keepComing_6 : decode cX6_keepComing 6 = .ok (.iadd, 1) := by decide +kernel
theorem dX6_keepComing_7 : decode cX6_keepComing 7 = .ok (.putfield 33, 3) := by decide +kernel
theorem dX6_keepComing_10 : decode cX6_keepComing 10 = .ok (.return_, 1) := by decide +kernel
def F_X6_keepComing (s0 : ae_S) : Option (Unit × ae_S) := ae_lt (ae_wI s0 6 0 3 ((s0.1 6 0 3) + (1 : Int32))) (fun s1 => some ((), s1))
set_option maxHeartbeats 4000000 in
set_option maxRecDepth 100000 in
theorem c_X6_keepComing {l : Launch} {G : ae_G} (d : Nat) {s0 ss : ae_S} {rr : Unit} (hF : F_X6_keepComing s0 = some (rr, ss)) : ae_Met l G d yX6_keepComing mX6_keepComing [ae_r (some (6, 0))] s0 (ae_Po none ss) := by
  refine ae_enter (by decide) rfl (Nat.le_of_ble_eq_true rfl) ?_
  show ae_T l G d mX6_keepComing (ae_Po none ss) 0 [(0, ae_r (some (6, 0)))] [] s0
  unfold F_X6_keepComing at hF
  refine ae_aload_n 0 dX6_keepComing_0 rfl ?_
  refine ae_dup dX6_keepComing_1 rfl ?_
  refine ae_getI (q := (6, 0)) dX6_keepComing_2 fl_RX6_33 rfl rfl ?_
  refine ae_iconst (1 : Int32) dX6_keepComing_5 (by decide) ?_
  refine ae_iadd dX6_keepComing_6 ?_
  obtain ⟨s1, hs1, hF2⟩ := ae_ltI hF
  refine ae_putI (q := (6, 0)) dX6_keepComing_7 fl_RX6_33 rfl rfl (ae_nmS hs1 ?_)
  obtain ⟨rfl, rfl⟩ := ae_retI hF2
  exact ae_vret dX6_keepComing_10 rfl ⟨rfl, rfl⟩
abbrev mX6_count : ae_M := (RX6, cX6_count, 1, some .int)
theorem vy_X6_count : ae_VY yX6_count mX6_count 0 := ⟨ww_621, ww_622, ww_4, ww_623, ⟨by decide, by decide, by decide +kernel⟩, by decide⟩
theorem dX6_count_0 : decode cX6_count 0 = .ok (.aload_n 0, 1) := by decide +kernel
theorem dX6_count_1 : decode cX6_count 1 = .ok (.getfield 21, 3) := by decide +kernel
theorem dX6_count_4 : decode cX6_count 4 = .ok (.ireturn, 1) := by decide +kernel
def F_X6_count (s0 : ae_S) : Option (Int32 × ae_S) := some (s0.1 6 0 2, s0)
set_option maxHeartbeats 4000000 in
set_option maxRecDepth 100000 in
theorem c_X6_count {l : Launch} {G : ae_G} (d : Nat) {s0 ss : ae_S} {rr : Int32} (hF : F_X6_count s0 = some (rr, ss)) : ae_Met l G d yX6_count mX6_count [ae_r (some (6, 0))] s0 (ae_Po (some (ae_i rr)) ss) := by
  refine ae_enter (by decide) rfl (Nat.le_of_ble_eq_true rfl) ?_
  show ae_T l G d mX6_count (ae_Po (some (ae_i rr)) ss) 0 [(0, ae_r (some (6, 0)))] [] s0
  unfold F_X6_count at hF
  refine ae_aload_n 0 dX6_count_0 rfl ?_
  refine ae_getI (q := (6, 0)) dX6_count_1 fl_RX6_21 rfl rfl ?_
  obtain ⟨rfl, rfl⟩ := ae_retI hF
  exact ae_iret dX6_count_4 rfl rfl ⟨rfl, rfl⟩
abbrev mX6_numberOf : ae_M := (RX6, cX6_numberOf, 3, some .int)
theorem vy_X6_numberOf : ae_VY yX6_numberOf mX6_numberOf 1 := ⟨ww_696, ww_697, ww_4, ww_698, ⟨by decide, by decide, by decide +kernel⟩, by decide⟩
theorem dX6_numberOf_0 : decode cX6_numberOf 0 = .ok (.aload_n 0, 1) := by decide +kernel
theorem dX6_numberOf_1 : decode cX6_numberOf 1 = .ok (.getfield 11, 3) := by decide +kernel
theorem dX6_numberOf_4 : decode cX6_numberOf 4 = .ok (.aload_n 0, 1) := by decide +kernel
theorem dX6_numberOf_5 : decode cX6_numberOf 5 = .ok (.getfield 21, 3) := by decide +kernel
theorem dX6_numberOf_8 : decode cX6_numberOf 8 = .ok (.lload_n 1, 1) := by decide +kernel
theorem dX6_numberOf_9 : decode cX6_numberOf 9 = .ok (.invokestatic 25, 3) := by decide +kernel
theorem dX6_numberOf_12 : decode cX6_numberOf 12 = .ok (.ireturn, 1) := by decide +kernel
def F_X6_numberOf (v1 : Int64) (s0 : ae_S) : Option (Int32 × ae_S) := ae_mo (ae_gk (s0.2.2.2 6 0 0) 7) none (fun j1 => ae_bd (F_X6_numberAmong j1 (s0.1 6 0 2) v1 s0) (fun (r3 : Int32) s4 => some (r3, s4)))
set_option maxHeartbeats 4000000 in
set_option maxRecDepth 100000 in
theorem c_X6_numberOf {l : Launch} {G : ae_G} (d : Nat) {v1 : Int64} {s0 ss : ae_S} {rr : Int32} (hF : F_X6_numberOf v1 s0 = some (rr, ss)) : ae_Met l G (d + 1) yX6_numberOf mX6_numberOf [ae_r (some (6, 0)), ae_l v1] s0 (ae_Po (some (ae_i rr)) ss) := by
  refine ae_enter (by decide) rfl (Nat.le_of_ble_eq_true rfl) ?_
  show ae_T l G (d + 1) mX6_numberOf (ae_Po (some (ae_i rr)) ss) 0 [(0, ae_r (some (6, 0))), (1, ae_l v1)] [] s0
  unfold F_X6_numberOf at hF
  refine ae_aload_n 0 dX6_numberOf_0 rfl ?_
  obtain ⟨j1, hj1, hF2⟩ := ae_moK hF
  refine ae_getA (q := (6, 0)) (some (7, j1)) dX6_numberOf_1 fl_RX6_11 rfl rfl hj1 ?_
  refine ae_aload_n 0 dX6_numberOf_4 rfl ?_
  refine ae_getI (q := (6, 0)) dX6_numberOf_5 fl_RX6_21 rfl rfl ?_
  refine ae_lload_n 1 dX6_numberOf_8 rfl ?_
  obtain ⟨r3, s4, hc5, hF6⟩ := ae_bdI hF2
  refine ae_cS1 (As := [ae_r (some (7, j1)), ae_i (s0.1 6 0 2), ae_l v1]) dX6_numberOf_9 ww_517 vy_X6_numberAmong rfl rfl (Nat.le_of_ble_eq_true rfl) (c_X6_numberAmong d hc5) ?_
  obtain ⟨rfl, rfl⟩ := ae_retI hF6
  exact ae_iret dX6_numberOf_12 rfl rfl ⟨rfl, rfl⟩
abbrev mX6_get : ae_M := (RX6, cX6_get, 2, some (.object "ByteViews$View"))
theorem vy_X6_get : ae_VY yX6_get mX6_get 1 := ⟨ww_708, ww_709, ww_4, ww_710, ⟨by decide, by decide, by decide +kernel⟩, by decide⟩
theorem dX6_get_0 : decode cX6_get 0 = .ok (.iload_n 1, 1) := by decide +kernel
theorem dX6_get_1 : decode cX6_get 1 = .ok (.ifCond .lt 26, 3) := by decide +kernel
theorem dX6_get_4 : decode cX6_get 4 = .ok (.iload_n 1, 1) := by decide +kernel
theorem dX6_get_5 : decode cX6_get 5 = .ok (.aload_n 0, 1) := by decide +kernel
theorem dX6_get_6 : decode cX6_get 6 = .ok (.getfield 21, 3) := by decide +kernel
theorem dX6_get_9 : decode cX6_get 9 = .ok (.if_icmp .ge 18, 3) := by decide +kernel
theorem dX6_get_12 : decode cX6_get 12 = .ok (.iload_n 1, 1) := by decide +kernel
theorem dX6_get_13 : decode cX6_get 13 = .ok (.bipush 16, 2) := by decide +kernel
theorem dX6_get_15 : decode cX6_get 15 = .ok (.if_icmp .ge 12, 3) := by decide +kernel
theorem dX6_get_18 : decode cX6_get 18 = .ok (.aload_n 0, 1) := by decide +kernel
theorem dX6_get_19 : decode cX6_get 19 = .ok (.getfield 11, 3) := by decide +kernel
theorem dX6_get_22 : decode cX6_get 22 = .ok (.iload_n 1, 1) := by decide +kernel
theorem dX6_get_23 : decode cX6_get 23 = .ok (.aaload, 1) := by decide +kernel
theorem dX6_get_24 : decode cX6_get 24 = .ok (.goto 4, 3) := by decide +kernel
theorem dX6_get_27 : decode cX6_get 27 = .ok (.aconst_null, 1) := by decide +kernel
theorem dX6_get_28 : decode cX6_get 28 = .ok (.areturn, 1) := by decide +kernel
def F_X6_get_28 (to0 : Option (Fin 32)) (s0 : ae_S) : Option (Option (Fin 32) × ae_S) := some (to0, s0)
set_option maxHeartbeats 4000000 in
set_option maxRecDepth 100000 in
theorem t_X6_get_28 {l : Launch} {G : ae_G} (d : Nat) {rr : Option (Fin 32)} {ss : ae_S} (to0 : Option (Fin 32)) (s0 : ae_S) (hF : F_X6_get_28 to0 s0 = some (rr, ss)) : ae_T l G d mX6_get (ae_Po (some (ae_r (ae_ro 8 rr))) ss) 28 [] [ae_r (ae_ro 8 to0)] s0 := by
  unfold F_X6_get_28 at hF
  obtain ⟨rfl, rfl⟩ := ae_retI hF
  exact ae_aret dX6_get_28 rfl (Or.inl ⟨_, rfl⟩) ⟨rfl, rfl⟩
def F_X6_get_27 (s0 : ae_S) : Option (Option (Fin 32) × ae_S) := F_X6_get_28 none s0
set_option maxHeartbeats 4000000 in
set_option maxRecDepth 100000 in
theorem t_X6_get_27 {l : Launch} {G : ae_G} (d : Nat) {rr : Option (Fin 32)} {ss : ae_S} (s0 : ae_S) (hF : F_X6_get_27 s0 = some (rr, ss)) : ae_T l G d mX6_get (ae_Po (some (ae_r (ae_ro 8 rr))) ss) 27 [] [] s0 := by
  unfold F_X6_get_27 at hF
  refine ae_null dX6_get_27 ?_
  refine ae_pick (lv' := []) [] rfl ?_
  exact t_X6_get_28 d none s0 hF
def F_X6_get (v1 : Int32) (s0 : ae_S) : Option (Option (Fin 32) × ae_S) := if v1 < 0 then (F_X6_get_27 s0) else (if (s0.1 6 0 2) ≤ v1 then (F_X6_get_27 s0) else (if (16 : Int32) ≤ v1 then (F_X6_get_27 s0) else (ae_mo (ae_gk (s0.2.2.2 6 0 0) 7) none (fun j7 => ae_gd (ae_ib v1 16) (ae_gd (ae_ok (7, j7)) (F_X6_get_28 (some ((Fin.ofNat 32 (16 * (j7 : Fin 32).val + v1.toNatClampNeg)) : Fin 32)) s0))))))
set_option maxHeartbeats 4000000 in
set_option maxRecDepth 100000 in
theorem c_X6_get {l : Launch} {G : ae_G} (d : Nat) {v1 : Int32} {s0 ss : ae_S} {rr : Option (Fin 32)} (hF : F_X6_get v1 s0 = some (rr, ss)) : ae_Met l G d yX6_get mX6_get [ae_r (some (6, 0)), ae_i v1] s0 (ae_Po (some (ae_r (ae_ro 8 rr))) ss) := by
  refine ae_enter (by decide) rfl (Nat.le_of_ble_eq_true rfl) ?_
  show ae_T l G d mX6_get (ae_Po (some (ae_r (ae_ro 8 rr))) ss) 0 [(0, ae_r (some (6, 0))), (1, ae_i v1)] [] s0
  unfold F_X6_get at hF
  refine ae_iload_n 1 dX6_get_0 rfl ?_
  refine ae_if_lt 27 dX6_get_1 rfl (fun hb1 => ?_) (fun hb1 => ?_)
  · have hF2 := ae_ifT hb1 hF
    refine ae_pick (lv' := []) [] rfl ?_
    exact t_X6_get_27 d s0 hF2
  · have hF2 := ae_ifF hb1 hF
    refine ae_iload_n 1 dX6_get_4 rfl ?_
    refine ae_aload_n 0 dX6_get_5 rfl ?_
    refine ae_getI (q := (6, 0)) dX6_get_6 fl_RX6_21 rfl rfl ?_
    refine ae_icmp_ge 27 dX6_get_9 rfl (fun hb3 => ?_) (fun hb3 => ?_)
    · have hF4 := ae_ifT hb3 hF2
      refine ae_pick (lv' := []) [] rfl ?_
      exact t_X6_get_27 d s0 hF4
    · have hF4 := ae_ifF hb3 hF2
      refine ae_iload_n 1 dX6_get_12 rfl ?_
      refine ae_bipush (16 : Int32) dX6_get_13 (by decide) ?_
      refine ae_icmp_ge 27 dX6_get_15 rfl (fun hb5 => ?_) (fun hb5 => ?_)
      · have hF6 := ae_ifT hb5 hF4
        refine ae_pick (lv' := []) [] rfl ?_
        exact t_X6_get_27 d s0 hF6
      · have hF6 := ae_ifF hb5 hF4
        refine ae_aload_n 0 dX6_get_18 rfl ?_
        obtain ⟨j7, hj7, hF8⟩ := ae_moK hF6
        refine ae_getA (q := (6, 0)) (some (7, j7)) dX6_get_19 fl_RX6_11 rfl rfl hj7 ?_
        refine ae_iload_n 1 dX6_get_22 rfl ?_
        obtain ⟨hg9, hF10⟩ := ae_gdI hF8
        obtain ⟨hg11, hF12⟩ := ae_gdI hF10
        refine ae_aald (q := (7, j7)) (some (8, (Fin.ofNat 32 (16 * (j7 : Fin 32).val + v1.toNatClampNeg)))) dX6_get_23 hg11 rfl (Or.inr rfl) (ae_ibI hg9) rfl ?_
        refine ae_goto 28 dX6_get_24 rfl ?_
        refine ae_pick (lv' := []) [] rfl ?_
        exact t_X6_get_28 d (some ((Fin.ofNat 32 (16 * (j7 : Fin 32).val + v1.toNatClampNeg)) : Fin 32)) s0 hF12
abbrev mX6_covering : ae_M := (RX6, cX6_covering, 4, some .int)
theorem vy_X6_covering : ae_VY yX6_covering mX6_covering 1 := ⟨ww_1154, ww_1155, ww_4, ww_1156, ⟨by decide, by decide, by decide +kernel⟩, by decide⟩
theorem dX6_covering_0 : decode cX6_covering 0 = .ok (.iconst 0, 1) := by decide +kernel
theorem dX6_covering_1 : decode cX6_covering 1 = .ok (.istore_n 2, 1) := by decide +kernel
theorem dX6_covering_2 : decode cX6_covering 2 = .ok (.iconst 0, 1) := by decide +kernel
theorem dX6_covering_3 : decode cX6_covering 3 = .ok (.istore_n 3, 1) := by decide +kernel
theorem dX6_covering_4 : decode cX6_covering 4 = .ok (.iload_n 3, 1) := by decide +kernel
theorem dX6_covering_5 : decode cX6_covering 5 = .ok (.aload_n 0, 1) := by decide +kernel
theorem dX6_covering_6 : decode cX6_covering 6 = .ok (.getfield 21, 3) := by decide +kernel
theorem dX6_covering_9 : decode cX6_covering 9 = .ok (.if_icmp .ge 34, 3) := by decide +kernel
theorem dX6_covering_12 : decode cX6_covering 12 = .ok (.iload_n 3, 1) := by decide +kernel
theorem dX6_covering_13 : decode cX6_covering 13 = .ok (.bipush 16, 2) := by decide +kernel
theorem dX6_covering_15 : decode cX6_covering 15 = .ok (.if_icmp .ge 28, 3) := by decide +kernel
theorem dX6_covering_18 : decode cX6_covering 18 = .ok (.aload_n 0, 1) := by decide +kernel
theorem dX6_covering_19 : decode cX6_covering 19 = .ok (.getfield 11, 3) := by decide +kernel
theorem dX6_covering_22 : decode cX6_covering 22 = .ok (.iload_n 3, 1) := by decide +kernel
theorem dX6_covering_23 : decode cX6_covering 23 = .ok (.aaload, 1) := by decide +kernel
theorem dX6_covering_24 : decode cX6_covering 24 = .ok (.iload_n 1, 1) := by decide +kernel
theorem dX6_covering_25 : decode cX6_covering 25 = .ok (.invokevirtual 29, 3) := by decide +kernel
theorem dX6_covering_28 : decode cX6_covering 28 = .ok (.ifCond .eq 9, 3) := by decide +kernel
theorem dX6_covering_31 : decode cX6_covering 31 = .ok (.iload_n 2, 1) := by decide +kernel
theorem dX6_covering_32 : decode cX6_covering 32 = .ok (.iconst 1, 1) := by decide +kernel
theorem dX6_covering_33 : decode cX6_covering 33 = .ok (.iload_n 3, 1) := by decide +kernel
theorem dX6_covering_34 : decode cX6_covering 34 = .ok (.ishl, 1) := by decide +kernel
theorem dX6_covering_35 : decode cX6_covering 35 = .ok (.ior, 1) := by decide +kernel
theorem dX6_covering_36 : decode cX6_covering 36 = .ok (.istore_n 2, 1) := by decide +kernel
theorem dX6_covering_37 : decode cX6_covering 37 = .ok (.iinc 3 1, 3) := by decide +kernel
theorem dX6_covering_40 : decode cX6_covering 40 = .ok (.goto (-36), 3) := by decide +kernel
theorem dX6_covering_43 : decode cX6_covering 43 = .ok (.iload_n 2, 1) := by decide +kernel
theorem dX6_covering_44 : decode cX6_covering 44 = .ok (.ireturn, 1) := by decide +kernel
def F_X6_covering_43 (v2 : Int32) (s0 : ae_S) : Option (Int32 × ae_S) := some (v2, s0)
set_option maxHeartbeats 4000000 in
set_option maxRecDepth 100000 in
theorem t_X6_covering_43 {l : Launch} {G : ae_G} (d : Nat) {rr : Int32} {ss : ae_S} (v2 : Int32) (s0 : ae_S) (hF : F_X6_covering_43 v2 s0 = some (rr, ss)) : ae_T l G (d + 2) mX6_covering (ae_Po (some (ae_i rr)) ss) 43 [(2, ae_i v2)] [] s0 := by
  unfold F_X6_covering_43 at hF
  refine ae_iload_n 0 dX6_covering_43 rfl ?_
  obtain ⟨rfl, rfl⟩ := ae_retI hF
  exact ae_iret dX6_covering_44 rfl rfl ⟨rfl, rfl⟩
def F_X6_covering_37 (k4 : Int32 → Int32 → Int32 → ae_S → Option (Int32 × ae_S)) (v1 : Int32) (v2 : Int32) (v3 : Int32) (s0 : ae_S) : Option (Int32 × ae_S) := ae_lt (v3 + (1 : Int32)) (fun x1 => k4 v1 v2 x1 s0)
set_option maxHeartbeats 4000000 in
set_option maxRecDepth 100000 in
theorem t_X6_covering_37 {l : Launch} {G : ae_G} (d : Nat) (k4 : Int32 → Int32 → Int32 → ae_S → Option (Int32 × ae_S)) {rr : Int32} {ss : ae_S} (hk4 : ∀ (v1 : Int32) (v2 : Int32) (v3 : Int32) (s0 : ae_S), k4 v1 v2 v3 s0 = some (rr, ss) → ae_T l G (d + 2) mX6_covering (ae_Po (some (ae_i rr)) ss) 4 [(0, ae_r (some (6, 0))), (1, ae_i v1), (2, ae_i v2), (3, ae_i v3)] [] s0) (v1 : Int32) (v2 : Int32) (v3 : Int32) (s0 : ae_S) (hF : F_X6_covering_37 k4 v1 v2 v3 s0 = some (rr, ss)) : ae_T l G (d + 2) mX6_covering (ae_Po (some (ae_i rr)) ss) 37 [(0, ae_r (some (6, 0))), (1, ae_i v1), (2, ae_i v2), (3, ae_i v3)] [] s0 := by
  unfold F_X6_covering_37 at hF
  obtain ⟨x1, hx1, hF2⟩ := ae_ltI hF
  refine ae_iinc (lv' := [(3, ae_i x1), (0, ae_r (some (6, 0))), (1, ae_i v1), (2, ae_i v2)]) 3 (1 : Int32) dX6_covering_37 rfl (by decide) (by decide) (by rw [hx1]; rfl) ?_
  refine ae_goto 4 dX6_covering_40 rfl ?_
  refine ae_pick (lv' := [(0, ae_r (some (6, 0))), (1, ae_i v1), (2, ae_i v2), (3, ae_i x1)]) [1, 2, 3, 0] rfl ?_
  exact hk4 v1 v2 x1 s0 hF2
def F_X6_covering_4 : Nat → Int32 → Int32 → Int32 → ae_S → Option (Int32 × ae_S)
  | 0, _, _, _, _ => none
  | n + 1, v1, v2, v3, s0 => if (s0.1 6 0 2) ≤ v3 then (F_X6_covering_43 v2 s0) else (if (16 : Int32) ≤ v3 then (F_X6_covering_43 v2 s0) else (ae_mo (ae_gk (s0.2.2.2 6 0 0) 7) none (fun j7 => ae_gd (ae_ib v3 16) (ae_gd (ae_ok (7, j7)) (ae_bd (F_X9_covers (Fin.ofNat 32 (16 * (j7 : Fin 32).val + v3.toNatClampNeg)) v1 s0) (fun (r13 : Int32) s14 => if r13 = 0 then (F_X6_covering_37 (F_X6_covering_4 n) v1 v2 v3 s14) else (ae_lt (v2 ||| ((1 : Int32) <<< (v3 &&& 31))) (fun x19 => F_X6_covering_37 (F_X6_covering_4 n) v1 x19 v3 s14))))))))
set_option maxHeartbeats 4000000 in
set_option maxRecDepth 100000 in
theorem t_X6_covering_4 {l : Launch} {G : ae_G} (d : Nat) {rr : Int32} {ss : ae_S} : ∀ (n : Nat) (v1 : Int32) (v2 : Int32) (v3 : Int32) (s0 : ae_S), F_X6_covering_4 n v1 v2 v3 s0 = some (rr, ss) → ae_T l G (d + 2) mX6_covering (ae_Po (some (ae_i rr)) ss) 4 [(0, ae_r (some (6, 0))), (1, ae_i v1), (2, ae_i v2), (3, ae_i v3)] [] s0 := by
  intro n
  induction n with
  | zero =>
    intro v1 v2 v3 s0 hF
    exact absurd (show (none : Option (Int32 × ae_S)) = some (rr, ss) from hF) (by simp)
  | succ n ih =>
    intro v1 v2 v3 s0 hF
    unfold F_X6_covering_4 at hF
    refine ae_iload_n 3 dX6_covering_4 rfl ?_
    refine ae_aload_n 0 dX6_covering_5 rfl ?_
    refine ae_getI (q := (6, 0)) dX6_covering_6 fl_RX6_21 rfl rfl ?_
    refine ae_icmp_ge 43 dX6_covering_9 rfl (fun hb3 => ?_) (fun hb3 => ?_)
    · have hF4 := ae_ifT hb3 hF
      refine ae_pick (lv' := [(2, ae_i v2)]) [2] rfl ?_
      exact t_X6_covering_43 d v2 s0 hF4
    · have hF4 := ae_ifF hb3 hF
      refine ae_iload_n 3 dX6_covering_12 rfl ?_
      refine ae_bipush (16 : Int32) dX6_covering_13 (by decide) ?_
      refine ae_icmp_ge 43 dX6_covering_15 rfl (fun hb5 => ?_) (fun hb5 => ?_)
      · have hF6 := ae_ifT hb5 hF4
        refine ae_pick (lv' := [(2, ae_i v2)]) [2] rfl ?_
        exact t_X6_covering_43 d v2 s0 hF6
      · have hF6 := ae_ifF hb5 hF4
        refine ae_aload_n 0 dX6_covering_18 rfl ?_
        obtain ⟨j7, hj7, hF8⟩ := ae_moK hF6
        refine ae_getA (q := (6, 0)) (some (7, j7)) dX6_covering_19 fl_RX6_11 rfl rfl hj7 ?_
        refine ae_iload_n 3 dX6_covering_22 rfl ?_
        obtain ⟨hg9, hF10⟩ := ae_gdI hF8
        obtain ⟨hg11, hF12⟩ := ae_gdI hF10
        refine ae_aald (q := (7, j7)) (some (8, (Fin.ofNat 32 (16 * (j7 : Fin 32).val + v3.toNatClampNeg)))) dX6_covering_23 hg11 rfl (Or.inr rfl) (ae_ibI hg9) rfl ?_
        refine ae_iload_n 1 dX6_covering_24 rfl ?_
        obtain ⟨r13, s14, hc15, hF16⟩ := ae_bdI hF12
        refine ae_cV1 (q := (8, (Fin.ofNat 32 (16 * (j7 : Fin 32).val + v3.toNatClampNeg)))) (As := [ae_i v1]) dX6_covering_25 ww_1157 vy_X9_covers rfl rfl rfl rfl rfl (Nat.le_of_ble_eq_true rfl) (c_X9_covers d hc15) ?_
        refine ae_if_eq 37 dX6_covering_28 rfl (fun hb17 => ?_) (fun hb17 => ?_)
        · have hF18 := ae_ifT hb17 hF16
          refine ae_pick (lv' := [(0, ae_r (some (6, 0))), (1, ae_i v1), (2, ae_i v2), (3, ae_i v3)]) [0, 1, 2, 3] rfl ?_
          exact t_X6_covering_37 d (F_X6_covering_4 n) ih v1 v2 v3 s14 hF18
        · have hF18 := ae_ifF hb17 hF16
          refine ae_iload_n 2 dX6_covering_31 rfl ?_
          refine ae_iconst (1 : Int32) dX6_covering_32 (by decide) ?_
          refine ae_iload_n 3 dX6_covering_33 rfl ?_
          refine ae_ishl dX6_covering_34 ?_
          refine ae_ior dX6_covering_35 ?_
          obtain ⟨x19, hx19, hF20⟩ := ae_ltI hF18
          refine ae_nmI hx19 ?_
          refine ae_istore_n (lv' := [(2, ae_i x19), (0, ae_r (some (6, 0))), (1, ae_i v1), (3, ae_i v3)]) dX6_covering_36 (by decide) rfl ?_
          refine ae_pick (lv' := [(0, ae_r (some (6, 0))), (1, ae_i v1), (2, ae_i x19), (3, ae_i v3)]) [1, 2, 0, 3] rfl ?_
          exact t_X6_covering_37 d (F_X6_covering_4 n) ih v1 x19 v3 s14 hF20
def F_X6_covering (v1 : Int32) (s0 : ae_S) : Option (Int32 × ae_S) := F_X6_covering_4 ae_fu v1 (0 : Int32) (0 : Int32) s0
set_option maxHeartbeats 4000000 in
set_option maxRecDepth 100000 in
theorem c_X6_covering {l : Launch} {G : ae_G} (d : Nat) {v1 : Int32} {s0 ss : ae_S} {rr : Int32} (hF : F_X6_covering v1 s0 = some (rr, ss)) : ae_Met l G (d + 2) yX6_covering mX6_covering [ae_r (some (6, 0)), ae_i v1] s0 (ae_Po (some (ae_i rr)) ss) := by
  refine ae_enter (by decide) rfl (Nat.le_of_ble_eq_true rfl) ?_
  show ae_T l G (d + 2) mX6_covering (ae_Po (some (ae_i rr)) ss) 0 [(0, ae_r (some (6, 0))), (1, ae_i v1)] [] s0
  unfold F_X6_covering at hF
  refine ae_iconst (0 : Int32) dX6_covering_0 (by decide) ?_
  refine ae_istore_n (lv' := [(2, ae_i (0 : Int32)), (0, ae_r (some (6, 0))), (1, ae_i v1)]) dX6_covering_1 (by decide) rfl ?_
  refine ae_iconst (0 : Int32) dX6_covering_2 (by decide) ?_
  refine ae_istore_n (lv' := [(3, ae_i (0 : Int32)), (2, ae_i (0 : Int32)), (0, ae_r (some (6, 0))), (1, ae_i v1)]) dX6_covering_3 (by decide) rfl ?_
  refine ae_pick (lv' := [(0, ae_r (some (6, 0))), (1, ae_i v1), (2, ae_i (0 : Int32)), (3, ae_i (0 : Int32))]) [2, 3, 1, 0] rfl ?_
  exact t_X6_covering_4 d ae_fu v1 (0 : Int32) (0 : Int32) s0 hF
