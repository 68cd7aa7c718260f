/-! methods as functions: X9_restart X9_endOfRow X9_fieldNumberOf X9_addField X9_hasElement X9_bitsAt X9_valueOf X9_hasField X9_maskOf X9_fieldOf X9_lay X9_clearIfRead X9_isReadOnly X9_bitsOfFloat X9_bitsOfWhole X9_bitsOfValue X9_put X9_withField X9_told X9_answerOf X9_differsAt X9_covers X9_bitsInto X9_layRow X9_orderOf X9_orderRow X9_addHead X9_addFields X9_isAlike -/
theorem fl_RX9_28 : ae_FL RX9 28 7 4 (.object "ByteViews$Kind") false := ⟨_, _, _, rfl, by decide, ww_94, rfl, rfl, rfl⟩
theorem fl_RX9_31 : ae_FL RX9 31 7 3 (.long) false := ⟨_, _, _, rfl, by decide, ww_92, rfl, rfl, rfl⟩
theorem fl_RX9_35 : ae_FL RX9 35 7 5 (.boolean) false := ⟨_, _, _, rfl, by decide, ww_98, rfl, rfl, rfl⟩
theorem fl_RX9_39 : ae_FL RX9 39 7 6 (.int) false := ⟨_, _, _, rfl, by decide, ww_101, rfl, rfl, rfl⟩
theorem fl_RX9_43 : ae_FL RX9 43 7 7 (.int) false := ⟨_, _, _, rfl, by decide, ww_103, rfl, rfl, rfl⟩
theorem fl_RX9_46 : ae_FL RX9 46 7 8 (.int) false := ⟨_, _, _, rfl, by decide, ww_106, rfl, rfl, rfl⟩
theorem fl_RX9_49 : ae_FL RX9 49 7 9 (.int) false := ⟨_, _, _, rfl, by decide, ww_109, rfl, rfl, rfl⟩
theorem fl_RX9_52 : ae_FL RX9 52 7 10 (.int) false := ⟨_, _, _, rfl, by decide, ww_112, rfl, rfl, rfl⟩
theorem fl_RX9_9 : ae_FL RX9 9 7 0 (.array .long) true := ⟨_, _, _, rfl, by decide, ww_89, rfl, rfl, rfl⟩
theorem fl_RX9_15 : ae_FL RX9 15 7 1 (.array .int) true := ⟨_, _, _, rfl, by decide, ww_90, rfl, rfl, rfl⟩
theorem fl_RX9_19 : ae_FL RX9 19 7 2 (.array .int) true := ⟨_, _, _, rfl, by decide, ww_91, rfl, rfl, rfl⟩
abbrev mX9_restart : ae_M := (RX9, cX9_restart, 3, none)
theorem vy_X9_restart : ae_VY yX9_restart mX9_restart 1 := ⟨ww_525, ww_526, ww_5, ww_527, ⟨by decide, by decide, by decide +kernel⟩, by decide⟩
theorem dX9_restart_0 : decode cX9_restart 0 = .ok (.aload_n 0, 1) := by decide +kernel
theorem dX9_restart_1 : decode cX9_restart 1 = .ok (.lload_n 1, 1) := by decide +kernel
theorem dX9_restart_2 : decode cX9_restart 2 = .ok (.putfield 31, 3) := by decide +kernel
theorem dX9_restart_5 : decode cX9_restart 5 = .ok (.aload_n 0, 1) := by decide +kernel
theorem dX9_restart_6 : decode cX9_restart 6 = .ok (.getstatic 22, 3) := by decide +kernel
theorem dX9_restart_9 : decode cX9_restart 9 = .ok (.putfield 28, 3) := by decide +kernel
theorem dX9_restart_12 : decode cX9_restart 12 = .ok (.aload_n 0, 1) := by decide +kernel
theorem dX9_restart_13 : decode cX9_restart 13 = .ok (.iconst 0, 1) := by decide +kernel
theorem dX9_restart_14 : decode cX9_restart 14 = .ok (.putfield 35, 3) := by decide +kernel
theorem dX9_restart_17 : decode cX9_restart 17 = .ok (.aload_n 0, 1) := by decide +kernel
theorem dX9_restart_18 : decode cX9_restart 18 = .ok (.iconst 0, 1) := by decide +kernel
theorem dX9_restart_19 : decode cX9_restart 19 = .ok (.putfield 39, 3) := by decide +kernel
theorem dX9_restart_22 : decode cX9_restart 22 = .ok (.aload_n 0, 1) := by decide +kernel
theorem dX9_restart_23 : decode cX9_restart 23 = .ok (.iconst 1, 1) := by decide +kernel
theorem dX9_restart_24 : decode cX9_restart 24 = .ok (.putfield 43, 3) := by decide +kernel
theorem dX9_restart_27 : decode cX9_restart 27 = .ok (.aload_n 0, 1) := by decide +kernel
theorem dX9_restart_28 : decode cX9_restart 28 = .ok (.iconst 1, 1) := by decide +kernel
theorem dX9_restart_29 : decode cX9_restart 29 = .ok (.putfield 46, 3) := by decide +kernel
theorem dX9_restart_32 : decode cX9_restart 32 = .ok (.aload_n 0, 1) := by decide +kernel
theorem dX9_restart_33 : decode cX9_restart 33 = .ok (.iconst 0, 1) := by decide +kernel
theorem dX9_restart_34 : decode cX9_restart 34 = .ok (.putfield 49, 3) := by decide +kernel
theorem dX9_restart_37 : decode cX9_restart 37 = .ok (.aload_n 0, 1) := by decide +kernel
theorem dX9_restart_38 : decode cX9_restart 38 = .ok (.iconst 0, 1) := by decide +kernel
theorem dX9_restart_39 : decode cX9_restart 39 = .ok (.putfield 52, 3) := by decide +kernel
theorem dX9_restart_42 : decode cX9_restart 42 = .ok (.return_, 1) := by decide +kernel
def F_X9_restart (i0 : Fin 32) (v1 : Int64) (s0 : ae_S) : Option (Unit × ae_S) := ae_lt (ae_wL s0 8 i0 3 v1) (fun s1 => ae_lt (ae_wR s1 8 i0 4 (some (60, 0))) (fun s3 => ae_lt (ae_wI s3 8 i0 5 (0 : Int32)) (fun s5 => ae_lt (ae_wI s5 8 i0 6 (0 : Int32)) (fun s7 => ae_lt (ae_wI s7 8 i0 7 (1 : Int32)) (fun s9 => ae_lt (ae_wI s9 8 i0 8 (1 : Int32)) (fun s11 => ae_lt (ae_wI s11 8 i0 9 (0 : Int32)) (fun s13 => ae_lt (ae_wI s13 8 i0 10 (0 : Int32)) (fun s15 => some ((), s15)))))))))
set_option maxHeartbeats 4000000 in
set_option maxRecDepth 100000 in
theorem c_X9_restart {l : Launch} {G : ae_G} (d : Nat) {i0 : Fin 32} {v1 : Int64} {s0 ss : ae_S} {rr : Unit} (hF : F_X9_restart i0 v1 s0 = some (rr, ss)) : ae_Met l G d yX9_restart mX9_restart [ae_r (some (8, i0)), ae_l v1] s0 (ae_Po none ss) := by
  refine ae_enter (by decide) rfl (Nat.le_of_ble_eq_true rfl) ?_
  show ae_T l G d mX9_restart (ae_Po none ss) 0 [(0, ae_r (some (8, i0))), (1, ae_l v1)] [] s0
  unfold F_X9_restart at hF
  refine ae_aload_n 0 dX9_restart_0 rfl ?_
  refine ae_lload_n 1 dX9_restart_1 rfl ?_
  obtain ⟨s1, hs1, hF2⟩ := ae_ltI hF
  refine ae_putL (q := (8, i0)) dX9_restart_2 fl_RX9_31 rfl rfl (ae_nmS hs1 ?_)
  refine ae_aload_n 0 dX9_restart_5 rfl ?_
  refine ae_getU8 dX9_restart_6 ww_87 ?_
  obtain ⟨s3, hs3, hF4⟩ := ae_ltI hF2
  refine ae_putO (q := (8, i0)) dX9_restart_9 fl_RX9_28 rfl rfl rfl (ae_nmS hs3 ?_)
  refine ae_aload_n 0 dX9_restart_12 rfl ?_
  refine ae_iconst (0 : Int32) dX9_restart_13 (by decide) ?_
  obtain ⟨s5, hs5, hF6⟩ := ae_ltI hF4
  refine ae_putZ (q := (8, i0)) dX9_restart_14 fl_RX9_35 rfl rfl (by decide) (ae_nmS hs5 ?_)
  refine ae_aload_n 0 dX9_restart_17 rfl ?_
  refine ae_iconst (0 : Int32) dX9_restart_18 (by decide) ?_
  obtain ⟨s7, hs7, hF8⟩ := ae_ltI hF6
  refine ae_putI (q := (8, i0)) dX9_restart_19 fl_RX9_39 rfl rfl (ae_nmS hs7 ?_)
  refine ae_aload_n 0 dX9_restart_22 rfl ?_
  refine ae_iconst (1 : Int32) dX9_restart_23 (by decide) ?_
  obtain ⟨s9, hs9, hF10⟩ := ae_ltI hF8
  refine ae_putI (q := (8, i0)) dX9_restart_24 fl_RX9_43 rfl rfl (ae_nmS hs9 ?_)
  refine ae_aload_n 0 dX9_restart_27 rfl ?_
  refine ae_iconst (1 : Int32) dX9_restart_28 (by decide) ?_
  obtain ⟨s11, hs11, hF12⟩ := ae_ltI hF10
  refine ae_putI (q := (8, i0)) dX9_restart_29 fl_RX9_46 rfl rfl (ae_nmS hs11 ?_)
  refine ae_aload_n 0 dX9_restart_32 rfl ?_
  refine ae_iconst (0 : Int32) dX9_restart_33 (by decide) ?_
  obtain ⟨s13, hs13, hF14⟩ := ae_ltI hF12
  refine ae_putI (q := (8, i0)) dX9_restart_34 fl_RX9_49 rfl rfl (ae_nmS hs13 ?_)
  refine ae_aload_n 0 dX9_restart_37 rfl ?_
  refine ae_iconst (0 : Int32) dX9_restart_38 (by decide) ?_
  obtain ⟨s15, hs15, hF16⟩ := ae_ltI hF14
  refine ae_putI (q := (8, i0)) dX9_restart_39 fl_RX9_52 rfl rfl (ae_nmS hs15 ?_)
  obtain ⟨rfl, rfl⟩ := ae_retI hF16
  exact ae_vret dX9_restart_42 rfl ⟨rfl, rfl⟩
abbrev mX9_endOfRow : ae_M := (RX9, cX9_endOfRow, 1, some .int)
theorem vy_X9_endOfRow : ae_VY yX9_endOfRow mX9_endOfRow 0 := ⟨ww_556, ww_557, ww_5, ww_558, ⟨by decide, by decide, by decide +kernel⟩, by decide⟩
theorem dX9_endOfRow_0 : decode cX9_endOfRow 0 = .ok (.aload_n 0, 1) := by decide +kernel
theorem dX9_endOfRow_1 : decode cX9_endOfRow 1 = .ok (.getfield 39, 3) := by decide +kernel
theorem dX9_endOfRow_4 : decode cX9_endOfRow 4 = .ok (.aload_n 0, 1) := by decide +kernel
theorem dX9_endOfRow_5 : decode cX9_endOfRow 5 = .ok (.getfield 43, 3) := by decide +kernel
theorem dX9_endOfRow_8 : decode cX9_endOfRow 8 = .ok (.iconst 1, 1) := by decide +kernel
theorem dX9_endOfRow_9 : decode cX9_endOfRow 9 = .ok (.isub, 1) := by decide +kernel
theorem dX9_endOfRow_10 : decode cX9_endOfRow 10 = .ok (.aload_n 0, 1) := by decide +kernel
theorem dX9_endOfRow_11 : decode cX9_endOfRow 11 = .ok (.getfield 46, 3) := by decide +kernel
theorem dX9_endOfRow_14 : decode cX9_endOfRow 14 = .ok (.imul, 1) := by decide +kernel
theorem dX9_endOfRow_15 : decode cX9_endOfRow 15 = .ok (.iadd, 1) := by decide +kernel
theorem dX9_endOfRow_16 : decode cX9_endOfRow 16 = .ok (.aload_n 0, 1) := by decide +kernel
theorem dX9_endOfRow_17 : decode cX9_endOfRow 17 = .ok (.getfield 28, 3) := by decide +kernel
theorem dX9_endOfRow_20 : decode cX9_endOfRow 20 = .ok (.getfield 58, 3) := by decide +kernel
theorem dX9_endOfRow_23 : decode cX9_endOfRow 23 = .ok (.iadd, 1) := by decide +kernel
theorem dX9_endOfRow_24 : decode cX9_endOfRow 24 = .ok (.ireturn, 1) := by decide +kernel
def F_X9_endOfRow (i0 : Fin 32) (s0 : ae_S) : Option (Int32 × ae_S) := ae_mo (ae_gk (s0.2.2.2 8 i0 4) 60) none (fun j1 => ae_gd (decide ((j1 : Fin 32).val < 9)) (some (((s0.1 8 i0 6) + (((s0.1 8 i0 7) - (1 : Int32)) * (s0.1 8 i0 8))) + (ae_kByt j1), s0)))
set_option maxHeartbeats 4000000 in
set_option maxRecDepth 100000 in
theorem c_X9_endOfRow {l : Launch} {G : ae_G} (d : Nat) {i0 : Fin 32} {s0 ss : ae_S} {rr : Int32} (hF : F_X9_endOfRow i0 s0 = some (rr, ss)) : ae_Met l G d yX9_endOfRow mX9_endOfRow [ae_r (some (8, i0))] s0 (ae_Po (some (ae_i rr)) ss) := by
  refine ae_enter (by decide) rfl (Nat.le_of_ble_eq_true rfl) ?_
  show ae_T l G d mX9_endOfRow (ae_Po (some (ae_i rr)) ss) 0 [(0, ae_r (some (8, i0)))] [] s0
  unfold F_X9_endOfRow at hF
  refine ae_aload_n 0 dX9_endOfRow_0 rfl ?_
  refine ae_getI (q := (8, i0)) dX9_endOfRow_1 fl_RX9_39 rfl rfl ?_
  refine ae_aload_n 0 dX9_endOfRow_4 rfl ?_
  refine ae_getI (q := (8, i0)) dX9_endOfRow_5 fl_RX9_43 rfl rfl ?_
  refine ae_iconst (1 : Int32) dX9_endOfRow_8 (by decide) ?_
  refine ae_isub dX9_endOfRow_9 ?_
  refine ae_aload_n 0 dX9_endOfRow_10 rfl ?_
  refine ae_getI (q := (8, i0)) dX9_endOfRow_11 fl_RX9_46 rfl rfl ?_
  refine ae_imul dX9_endOfRow_14 ?_
  refine ae_iadd dX9_endOfRow_15 ?_
  refine ae_aload_n 0 dX9_endOfRow_16 rfl ?_
  obtain ⟨j1, hj1, hF2⟩ := ae_moK hF
  refine ae_getO (q := (8, i0)) (some (60, j1)) dX9_endOfRow_17 fl_RX9_28 rfl rfl hj1 ?_
  obtain ⟨hg3, hF4⟩ := ae_gdI hF2
  refine ae_getK (i := j1) dX9_endOfRow_20 (List.mem_of_getElem? (i := 1) rfl) ww_1944 hg3 (ae_nmI (y := ae_kByt j1) rfl ?_)
  refine ae_iadd dX9_endOfRow_23 ?_
  obtain ⟨rfl, rfl⟩ := ae_retI hF4
  exact ae_iret dX9_endOfRow_24 rfl rfl ⟨rfl, rfl⟩
abbrev mX9_fieldNumberOf : ae_M := (RX9, cX9_fieldNumberOf, 4, some .int)
theorem vy_X9_fieldNumberOf : ae_VY yX9_fieldNumberOf mX9_fieldNumberOf 1 := ⟨ww_598, ww_599, ww_5, ww_600, ⟨by decide, by decide, by decide +kernel⟩, by decide⟩
theorem dX9_fieldNumberOf_0 : decode cX9_fieldNumberOf 0 = .ok (.iconst 0, 1) := by decide +kernel
theorem dX9_fieldNumberOf_1 : decode cX9_fieldNumberOf 1 = .ok (.istore_n 3, 1) := by decide +kernel
theorem dX9_fieldNumberOf_2 : decode cX9_fieldNumberOf 2 = .ok (.iload_n 3, 1) := by decide +kernel
theorem dX9_fieldNumberOf_3 : decode cX9_fieldNumberOf 3 = .ok (.aload_n 0, 1) := by decide +kernel
theorem dX9_fieldNumberOf_4 : decode cX9_fieldNumberOf 4 = .ok (.getfield 52, 3) := by decide +kernel
theorem dX9_fieldNumberOf_7 : decode cX9_fieldNumberOf 7 = .ok (.if_icmp .ge 28, 3) := by decide +kernel
theorem dX9_fieldNumberOf_10 : decode cX9_fieldNumberOf 10 = .ok (.iload_n 3, 1) := by decide +kernel
theorem dX9_fieldNumberOf_11 : decode cX9_fieldNumberOf 11 = .ok (.bipush 8, 2) := by decide +kernel
theorem dX9_fieldNumberOf_13 : decode cX9_fieldNumberOf 13 = .ok (.if_icmp .ge 22, 3) := by decide +kernel
theorem dX9_fieldNumberOf_16 : decode cX9_fieldNumberOf 16 = .ok (.aload_n 0, 1) := by decide +kernel
theorem dX9_fieldNumberOf_17 : decode cX9_fieldNumberOf 17 = .ok (.getfield 9, 3) := by decide +kernel
theorem dX9_fieldNumberOf_20 : decode cX9_fieldNumberOf 20 = .ok (.iload_n 3, 1) := by decide +kernel
theorem dX9_fieldNumberOf_21 : decode cX9_fieldNumberOf 21 = .ok (.laload, 1) := by decide +kernel
theorem dX9_fieldNumberOf_22 : decode cX9_fieldNumberOf 22 = .ok (.lload_n 1, 1) := by decide +kernel
theorem dX9_fieldNumberOf_23 : decode cX9_fieldNumberOf 23 = .ok (.lcmp, 1) := by decide +kernel
theorem dX9_fieldNumberOf_24 : decode cX9_fieldNumberOf 24 = .ok (.ifCond .ne 5, 3) := by decide +kernel
theorem dX9_fieldNumberOf_27 : decode cX9_fieldNumberOf 27 = .ok (.iload_n 3, 1) := by decide +kernel
theorem dX9_fieldNumberOf_28 : decode cX9_fieldNumberOf 28 = .ok (.ireturn, 1) := by decide +kernel
theorem dX9_fieldNumberOf_29 : decode cX9_fieldNumberOf 29 = .ok (.iinc 3 1, 3) := by decide +kernel
theorem dX9_fieldNumberOf_32 : decode cX9_fieldNumberOf 32 = .ok (.goto (-30), 3) := by decide +kernel
theorem dX9_fieldNumberOf_35 : decode cX9_fieldNumberOf 35 = .ok (.iconst (-1), 1) := by decide +kernel
theorem dX9_fieldNumberOf_36 : decode cX9_fieldNumberOf 36 = .ok (.ireturn, 1) := by decide +kernel
def F_X9_fieldNumberOf_35 (s0 : ae_S) : Option (Int32 × ae_S) := some ((-1 : Int32), s0)
set_option maxHeartbeats 4000000 in
set_option maxRecDepth 100000 in
theorem t_X9_fieldNumberOf_35 {l : Launch} {G : ae_G} (d : Nat) {rr : Int32} {ss : ae_S} (s0 : ae_S) (hF : F_X9_fieldNumberOf_35 s0 = some (rr, ss)) : ae_T l G d mX9_fieldNumberOf (ae_Po (some (ae_i rr)) ss) 35 [] [] s0 := by
  unfold F_X9_fieldNumberOf_35 at hF
  refine ae_iconst (-1 : Int32) dX9_fieldNumberOf_35 (by decide) ?_
  obtain ⟨rfl, rfl⟩ := ae_retI hF
  exact ae_iret dX9_fieldNumberOf_36 rfl rfl ⟨rfl, rfl⟩
def F_X9_fieldNumberOf_2 : Nat → Fin 32 → Int64 → Int32 → ae_S → Option (Int32 × ae_S)
  | 0, _, _, _, _ => none
  | n + 1, i0, v1, v3, s0 => if (s0.1 8 i0 10) ≤ v3 then (F_X9_fieldNumberOf_35 s0) else (if (8 : Int32) ≤ v3 then (F_X9_fieldNumberOf_35 s0) else (ae_gd (ae_ib v3 8) (if (lg_cmp (s0.2.1 9 i0 v3.toNatClampNeg) v1) = 0 then (some (v3, s0)) else (ae_lt (v3 + (1 : Int32)) (fun x9 => F_X9_fieldNumberOf_2 n i0 v1 x9 s0)))))
set_option maxHeartbeats 4000000 in
set_option maxRecDepth 100000 in
theorem t_X9_fieldNumberOf_2 {l : Launch} {G : ae_G} (d : Nat) {rr : Int32} {ss : ae_S} : ∀ (n : Nat) (i0 : Fin 32) (v1 : Int64) (v3 : Int32) (s0 : ae_S), F_X9_fieldNumberOf_2 n i0 v1 v3 s0 = some (rr, ss) → ae_T l G d mX9_fieldNumberOf (ae_Po (some (ae_i rr)) ss) 2 [(0, ae_r (some (8, i0))), (1, ae_l v1), (3, ae_i v3)] [] s0 := by
  intro n
  induction n with
  | zero =>
    intro i0 v1 v3 s0 hF
    exact absurd (show (none : Option (Int32 × ae_S)) = some (rr, ss) from hF) (by simp)
  | succ n ih =>
    intro i0 v1 v3 s0 hF
    unfold F_X9_fieldNumberOf_2 at hF
    refine ae_iload_n 2 dX9_fieldNumberOf_2 rfl ?_
    refine ae_aload_n 0 dX9_fieldNumberOf_3 rfl ?_
    refine ae_getI (q := (8, i0)) dX9_fieldNumberOf_4 fl_RX9_52 rfl rfl ?_
    refine ae_icmp_ge 35 dX9_fieldNumberOf_7 rfl (fun hb1 => ?_) (fun hb1 => ?_)
    · have hF2 := ae_ifT hb1 hF
      refine ae_pick (lv' := []) [] rfl ?_
      exact t_X9_fieldNumberOf_35 d s0 hF2
    · have hF2 := ae_ifF hb1 hF
      refine ae_iload_n 2 dX9_fieldNumberOf_10 rfl ?_
      refine ae_bipush (8 : Int32) dX9_fieldNumberOf_11 (by decide) ?_
      refine ae_icmp_ge 35 dX9_fieldNumberOf_13 rfl (fun hb3 => ?_) (fun hb3 => ?_)
      · have hF4 := ae_ifT hb3 hF2
        refine ae_pick (lv' := []) [] rfl ?_
        exact t_X9_fieldNumberOf_35 d s0 hF4
      · have hF4 := ae_ifF hb3 hF2
        refine ae_aload_n 0 dX9_fieldNumberOf_16 rfl ?_
        refine ae_getA (q := (8, i0)) (some (9, i0)) dX9_fieldNumberOf_17 fl_RX9_9 rfl rfl rfl ?_
        refine ae_iload_n 2 dX9_fieldNumberOf_20 rfl ?_
        obtain ⟨hg5, hF6⟩ := ae_gdI hF4
        refine ae_lald (q := (9, i0)) dX9_fieldNumberOf_21 rfl rfl (ae_ibI hg5) ?_
        refine ae_lload_n 1 dX9_fieldNumberOf_22 rfl ?_
        refine ae_lcmp dX9_fieldNumberOf_23 ?_
        refine ae_if_ne 29 dX9_fieldNumberOf_24 rfl (fun hb7 => ?_) (fun hb7 => ?_)
        · have hF8 := ae_ifF hb7 hF6
          obtain ⟨x9, hx9, hF10⟩ := ae_ltI hF8
          refine ae_iinc (lv' := [(3, ae_i x9), (0, ae_r (some (8, i0))), (1, ae_l v1)]) 2 (1 : Int32) dX9_fieldNumberOf_29 rfl (by decide) (by decide) (by rw [hx9]; rfl) ?_
          refine ae_goto 2 dX9_fieldNumberOf_32 rfl ?_
          refine ae_pick (lv' := [(0, ae_r (some (8, i0))), (1, ae_l v1), (3, ae_i x9)]) [1, 2, 0] rfl ?_
          exact ih i0 v1 x9 s0 hF10
        · have hF8 := ae_ifT hb7 hF6
          refine ae_iload_n 2 dX9_fieldNumberOf_27 rfl ?_
          obtain ⟨rfl, rfl⟩ := ae_retI hF8
          exact ae_iret dX9_fieldNumberOf_28 rfl rfl ⟨rfl, rfl⟩
def F_X9_fieldNumberOf (i0 : Fin 32) (v1 : Int64) (s0 : ae_S) : Option (Int32 × ae_S) := F_X9_fieldNumberOf_2 ae_fu i0 v1 (0 : Int32) s0
set_option maxHeartbeats 4000000 in
set_option maxRecDepth 100000 in
theorem c_X9_fieldNumberOf {l : Launch} {G : ae_G} (d : Nat) {i0 : Fin 32} {v1 : Int64} {s0 ss : ae_S} {rr : Int32} (hF : F_X9_fieldNumberOf i0 v1 s0 = some (rr, ss)) : ae_Met l G d yX9_fieldNumberOf mX9_fieldNumberOf [ae_r (some (8, i0)), ae_l v1] s0 (ae_Po (some (ae_i rr)) ss) := by
  refine ae_enter (by decide) rfl (Nat.le_of_ble_eq_true rfl) ?_
  show ae_T l G d mX9_fieldNumberOf (ae_Po (some (ae_i rr)) ss) 0 [(0, ae_r (some (8, i0))), (1, ae_l v1)] [] s0
  unfold F_X9_fieldNumberOf at hF
  refine ae_iconst (0 : Int32) dX9_fieldNumberOf_0 (by decide) ?_
  refine ae_istore_n (lv' := [(3, ae_i (0 : Int32)), (0, ae_r (some (8, i0))), (1, ae_l v1)]) dX9_fieldNumberOf_1 (by decide) rfl ?_
  refine ae_pick (lv' := [(0, ae_r (some (8, i0))), (1, ae_l v1), (3, ae_i (0 : Int32))]) [1, 2, 0] rfl ?_
  exact t_X9_fieldNumberOf_2 d ae_fu i0 v1 (0 : Int32) s0 hF
abbrev mX9_addField : ae_M := (RX9, cX9_addField, 5, none)
theorem vy_X9_addField : ae_VY yX9_addField mX9_addField 3 := ⟨ww_613, ww_614, ww_5, ww_615, ⟨by decide, by decide, by decide +kernel⟩, by decide⟩
theorem dX9_addField_0 : decode cX9_addField 0 = .ok (.aload_n 0, 1) := by decide +kernel
theorem dX9_addField_1 : decode cX9_addField 1 = .ok (.getfield 52, 3) := by decide +kernel
theorem dX9_addField_4 : decode cX9_addField 4 = .ok (.bipush 8, 2) := by decide +kernel
theorem dX9_addField_6 : decode cX9_addField 6 = .ok (.if_icmp .ge 44, 3) := by decide +kernel
theorem dX9_addField_9 : decode cX9_addField 9 = .ok (.aload_n 0, 1) := by decide +kernel
theorem dX9_addField_10 : decode cX9_addField 10 = .ok (.getfield 9, 3) := by decide +kernel
theorem dX9_addField_13 : decode cX9_addField 13 = .ok (.aload_n 0, 1) := by decide +kernel
theorem dX9_addField_14 : decode cX9_addField 14 = .ok (.getfield 52, 3) := by decide +kernel
theorem dX9_addField_17 : decode cX9_addField 17 = .ok (.lload_n 1, 1) := by decide +kernel
theorem dX9_addField_18 : decode cX9_addField 18 = .ok (.lastore, 1) := by decide +kernel
theorem dX9_addField_19 : decode cX9_addField 19 = .ok (.aload_n 0, 1) := by decide +kernel
theorem dX9_addField_20 : decode cX9_addField 20 = .ok (.getfield 15, 3) := by decide +kernel
theorem dX9_addField_23 : decode cX9_addField 23 = .ok (.aload_n 0, 1) := by decide +kernel
theorem dX9_addField_24 : decode cX9_addField 24 = .ok (.getfield 52, 3) := by decide +kernel
theorem dX9_addField_27 : decode cX9_addField 27 = .ok (.iload_n 3, 1) := by decide +kernel
theorem dX9_addField_28 : decode cX9_addField 28 = .ok (.iastore, 1) := by decide +kernel
theorem dX9_addField_29 : decode cX9_addField 29 = .ok (.aload_n 0, 1) := by decide +kernel
theorem dX9_addField_30 : decode cX9_addField 30 = .ok (.getfield 19, 3) := by decide +kernel
theorem dX9_addField_33 : decode cX9_addField 33 = .ok (.aload_n 0, 1) := by decide +kernel
theorem dX9_addField_34 : decode cX9_addField 34 = .ok (.getfield 52, 3) := by decide +kernel
theorem dX9_addField_37 : decode cX9_addField 37 = .ok (.iload 4, 2) := by decide +kernel
theorem dX9_addField_39 : decode cX9_addField 39 = .ok (.iastore, 1) := by decide +kernel
theorem dX9_addField_40 : decode cX9_addField 40 = .ok (.aload_n 0, 1) := by decide +kernel
theorem dX9_addField_41 : decode cX9_addField 41 = .ok (.dup, 1) := by decide +kernel
theorem dX9_addField_42 : decode cX9_addField 42 = .ok (.getfield 52, 3) := by decide +kernel
theorem dX9_addField_45 : decode cX9_addField 45 = .ok (.iconst 1, 1) := by decide +kernel
theorem dX9_addField_46 : decode cX9_addField 46 = .ok (.iadd, 1) := by decide +kernel
theorem dX9_addField_47 : decode cX9_addField 47 = .ok (.putfield 52, 3) := by decide +kernel
theorem dX9_addField_50 : decode cX9_addField 50 = .ok (.return_, 1) := by decide +kernel
def F_X9_addField_50 (s0 : ae_S) : Option (Unit × ae_S) := some ((), s0)
set_option maxHeartbeats 4000000 in
set_option maxRecDepth 100000 in
theorem t_X9_addField_50 {l : Launch} {G : ae_G} (d : Nat) {rr : Unit} {ss : ae_S} (s0 : ae_S) (hF : F_X9_addField_50 s0 = some (rr, ss)) : ae_T l G d mX9_addField (ae_Po none ss) 50 [] [] s0 := by
  unfold F_X9_addField_50 at hF
  obtain ⟨rfl, rfl⟩ := ae_retI hF
  exact ae_vret dX9_addField_50 rfl ⟨rfl, rfl⟩
def F_X9_addField (i0 : Fin 32) (v1 : Int64) (v3 : Int32) (v4 : Int32) (s0 : ae_S) : Option (Unit × ae_S) := if (8 : Int32) ≤ (s0.1 8 i0 10) then (F_X9_addField_50 s0) else (ae_gd (ae_ib (s0.1 8 i0 10) 8) (ae_lt (ae_wL s0 9 i0 (s0.1 8 i0 10).toNatClampNeg v1) (fun s5 => ae_gd (ae_ib (s5.1 8 i0 10) 8) (ae_lt (ae_wI s5 10 i0 (s5.1 8 i0 10).toNatClampNeg v3) (fun s9 => ae_gd (ae_ib (s9.1 8 i0 10) 8) (ae_lt (ae_wI s9 11 i0 (s9.1 8 i0 10).toNatClampNeg v4) (fun s13 => ae_lt (ae_wI s13 8 i0 10 ((s13.1 8 i0 10) + (1 : Int32))) (fun s15 => F_X9_addField_50 s15))))))))
set_option maxHeartbeats 4000000 in
set_option maxRecDepth 100000 in
theorem c_X9_addField {l : Launch} {G : ae_G} (d : Nat) {i0 : Fin 32} {v1 : Int64} {v3 : Int32} {v4 : Int32} {s0 ss : ae_S} {rr : Unit} (hF : F_X9_addField i0 v1 v3 v4 s0 = some (rr, ss)) : ae_Met l G d yX9_addField mX9_addField [ae_r (some (8, i0)), ae_l v1, ae_i v3, ae_i v4] s0 (ae_Po none ss) := by
  refine ae_enter (by decide) rfl (Nat.le_of_ble_eq_true rfl) ?_
  show ae_T l G d mX9_addField (ae_Po none ss) 0 [(0, ae_r (some (8, i0))), (1, ae_l v1), (3, ae_i v3), (4, ae_i v4)] [] s0
  unfold F_X9_addField at hF
  refine ae_aload_n 0 dX9_addField_0 rfl ?_
  refine ae_getI (q := (8, i0)) dX9_addField_1 fl_RX9_52 rfl rfl ?_
  refine ae_bipush (8 : Int32) dX9_addField_4 (by decide) ?_
  refine ae_icmp_ge 50 dX9_addField_6 rfl (fun hb1 => ?_) (fun hb1 => ?_)
  · have hF2 := ae_ifT hb1 hF
    refine ae_pick (lv' := []) [] rfl ?_
    exact t_X9_addField_50 d s0 hF2
  · have hF2 := ae_ifF hb1 hF
    refine ae_aload_n 0 dX9_addField_9 rfl ?_
    refine ae_getA (q := (8, i0)) (some (9, i0)) dX9_addField_10 fl_RX9_9 rfl rfl rfl ?_
    refine ae_aload_n 0 dX9_addField_13 rfl ?_
    refine ae_getI (q := (8, i0)) dX9_addField_14 fl_RX9_52 rfl rfl ?_
    refine ae_lload_n 1 dX9_addField_17 rfl ?_
    obtain ⟨hg3, hF4⟩ := ae_gdI hF2
    obtain ⟨s5, hs5, hF6⟩ := ae_ltI hF4
    refine ae_last (q := (9, i0)) dX9_addField_18 rfl rfl (ae_ibI hg3) (ae_nmS hs5 ?_)
    refine ae_aload_n 0 dX9_addField_19 rfl ?_
    refine ae_getA (q := (8, i0)) (some (10, i0)) dX9_addField_20 fl_RX9_15 rfl rfl rfl ?_
    refine ae_aload_n 0 dX9_addField_23 rfl ?_
    refine ae_getI (q := (8, i0)) dX9_addField_24 fl_RX9_52 rfl rfl ?_
    refine ae_iload_n 2 dX9_addField_27 rfl ?_
    obtain ⟨hg7, hF8⟩ := ae_gdI hF6
    obtain ⟨s9, hs9, hF10⟩ := ae_ltI hF8
    refine ae_iast (q := (10, i0)) dX9_addField_28 rfl rfl (ae_ibI hg7) (ae_nmS hs9 ?_)
    refine ae_aload_n 0 dX9_addField_29 rfl ?_
    refine ae_getA (q := (8, i0)) (some (11, i0)) dX9_addField_30 fl_RX9_19 rfl rfl rfl ?_
    refine ae_aload_n 0 dX9_addField_33 rfl ?_
    refine ae_getI (q := (8, i0)) dX9_addField_34 fl_RX9_52 rfl rfl ?_
    refine ae_iload 3 dX9_addField_37 rfl ?_
    obtain ⟨hg11, hF12⟩ := ae_gdI hF10
    obtain ⟨s13, hs13, hF14⟩ := ae_ltI hF12
    refine ae_iast (q := (11, i0)) dX9_addField_39 rfl rfl (ae_ibI hg11) (ae_nmS hs13 ?_)
    refine ae_aload_n 0 dX9_addField_40 rfl ?_
    refine ae_dup dX9_addField_41 rfl ?_
    refine ae_getI (q := (8, i0)) dX9_addField_42 fl_RX9_52 rfl rfl ?_
    refine ae_iconst (1 : Int32) dX9_addField_45 (by decide) ?_
    refine ae_iadd dX9_addField_46 ?_
    obtain ⟨s15, hs15, hF16⟩ := ae_ltI hF14
    refine ae_putI (q := (8, i0)) dX9_addField_47 fl_RX9_52 rfl rfl (ae_nmS hs15 ?_)
    refine ae_pick (lv' := []) [] rfl ?_
    exact t_X9_addField_50 d s15 hF16
abbrev mX9_hasElement : ae_M := (RX9, cX9_hasElement, 3, some .boolean)
theorem vy_X9_hasElement : ae_VY yX9_hasElement mX9_hasElement 1 := ⟨ww_853, ww_854, ww_5, ww_855, ⟨by decide, by decide, by decide +kernel⟩, by decide⟩
theorem dX9_hasElement_0 : decode cX9_hasElement 0 = .ok (.lload_n 1, 1) := by decide +kernel
theorem dX9_hasElement_1 : decode cX9_hasElement 1 = .ok (.lconst 0, 1) := by decide +kernel
theorem dX9_hasElement_2 : decode cX9_hasElement 2 = .ok (.lcmp, 1) := by decide +kernel
theorem dX9_hasElement_3 : decode cX9_hasElement 3 = .ok (.ifCond .lt 17, 3) := by decide +kernel
theorem dX9_hasElement_6 : decode cX9_hasElement 6 = .ok (.lload_n 1, 1) := by decide +kernel
theorem dX9_hasElement_7 : decode cX9_hasElement 7 = .ok (.aload_n 0, 1) := by decide +kernel
theorem dX9_hasElement_8 : decode cX9_hasElement 8 = .ok (.getfield 43, 3) := by decide +kernel
theorem dX9_hasElement_11 : decode cX9_hasElement 11 = .ok (.i2l, 1) := by decide +kernel
theorem dX9_hasElement_12 : decode cX9_hasElement 12 = .ok (.lcmp, 1) := by decide +kernel
theorem dX9_hasElement_13 : decode cX9_hasElement 13 = .ok (.ifCond .ge 7, 3) := by decide +kernel
theorem dX9_hasElement_16 : decode cX9_hasElement 16 = .ok (.iconst 1, 1) := by decide +kernel
theorem dX9_hasElement_17 : decode cX9_hasElement 17 = .ok (.goto 4, 3) := by decide +kernel
theorem dX9_hasElement_20 : decode cX9_hasElement 20 = .ok (.iconst 0, 1) := by decide +kernel
theorem dX9_hasElement_21 : decode cX9_hasElement 21 = .ok (.ireturn, 1) := by decide +kernel
def F_X9_hasElement_21 (t0 : Int32) (s0 : ae_S) : Option (Int32 × ae_S) := ae_gd (ae_zz t0) (some (t0, s0))
set_option maxHeartbeats 4000000 in
set_option maxRecDepth 100000 in
theorem t_X9_hasElement_21 {l : Launch} {G : ae_G} (d : Nat) {rr : Int32} {ss : ae_S} (t0 : Int32) (s0 : ae_S) (hF : F_X9_hasElement_21 t0 s0 = some (rr, ss)) : ae_T l G d mX9_hasElement (ae_Po (some (ae_i rr)) ss) 21 [] [ae_i t0] s0 := by
  unfold F_X9_hasElement_21 at hF
  obtain ⟨hg1, hF2⟩ := ae_gdI hF
  obtain ⟨rfl, rfl⟩ := ae_retI hF2
  exact ae_iret dX9_hasElement_21 rfl (ae_zzN (ae_zzI hg1)) ⟨rfl, rfl⟩
def F_X9_hasElement_20 (s0 : ae_S) : Option (Int32 × ae_S) := F_X9_hasElement_21 (0 : Int32) s0
set_option maxHeartbeats 4000000 in
set_option maxRecDepth 100000 in
theorem t_X9_hasElement_20 {l : Launch} {G : ae_G} (d : Nat) {rr : Int32} {ss : ae_S} (s0 : ae_S) (hF : F_X9_hasElement_20 s0 = some (rr, ss)) : ae_T l G d mX9_hasElement (ae_Po (some (ae_i rr)) ss) 20 [] [] s0 := by
  unfold F_X9_hasElement_20 at hF
  refine ae_iconst (0 : Int32) dX9_hasElement_20 (by decide) ?_
  refine ae_pick (lv' := []) [] rfl ?_
  exact t_X9_hasElement_21 d (0 : Int32) s0 hF
def F_X9_hasElement (i0 : Fin 32) (v1 : Int64) (s0 : ae_S) : Option (Int32 × ae_S) := if (lg_cmp v1 (0 : Int64)) < 0 then (F_X9_hasElement_20 s0) else (if 0 ≤ (lg_cmp v1 ((s0.1 8 i0 7).toInt64)) then (F_X9_hasElement_20 s0) else (F_X9_hasElement_21 (1 : Int32) s0))
set_option maxHeartbeats 4000000 in
set_option maxRecDepth 100000 in
theorem c_X9_hasElement {l : Launch} {G : ae_G} (d : Nat) {i0 : Fin 32} {v1 : Int64} {s0 ss : ae_S} {rr : Int32} (hF : F_X9_hasElement i0 v1 s0 = some (rr, ss)) : ae_Met l G d yX9_hasElement mX9_hasElement [ae_r (some (8, i0)), ae_l v1] s0 (ae_Po (some (ae_i rr)) ss) := by
  refine ae_enter (by decide) rfl (Nat.le_of_ble_eq_true rfl) ?_
  show ae_T l G d mX9_hasElement (ae_Po (some (ae_i rr)) ss) 0 [(0, ae_r (some (8, i0))), (1, ae_l v1)] [] s0
  unfold F_X9_hasElement at hF
  refine ae_lload_n 1 dX9_hasElement_0 rfl ?_
  refine ae_lconst (0 : Int64) dX9_hasElement_1 (by decide) ?_
  refine ae_lcmp dX9_hasElement_2 ?_
  refine ae_if_lt 20 dX9_hasElement_3 rfl (fun hb3 => ?_) (fun hb3 => ?_)
  · have hF4 := ae_ifT hb3 hF
    refine ae_pick (lv' := []) [] rfl ?_
    exact t_X9_hasElement_20 d s0 hF4
  · have hF4 := ae_ifF hb3 hF
    refine ae_lload_n 1 dX9_hasElement_6 rfl ?_
    refine ae_aload_n 0 dX9_hasElement_7 rfl ?_
    refine ae_getI (q := (8, i0)) dX9_hasElement_8 fl_RX9_43 rfl rfl ?_
    refine ae_i2l dX9_hasElement_11 ?_
    refine ae_lcmp dX9_hasElement_12 ?_
    refine ae_if_ge 20 dX9_hasElement_13 rfl (fun hb5 => ?_) (fun hb5 => ?_)
    · have hF6 := ae_ifT hb5 hF4
      refine ae_pick (lv' := []) [] rfl ?_
      exact t_X9_hasElement_20 d s0 hF6
    · have hF6 := ae_ifF hb5 hF4
      refine ae_iconst (1 : Int32) dX9_hasElement_16 (by decide) ?_
      refine ae_goto 21 dX9_hasElement_17 rfl ?_
      refine ae_pick (lv' := []) [] rfl ?_
      exact t_X9_hasElement_21 d (1 : Int32) s0 hF6
abbrev mX9_bitsAt : ae_M := (RX9, cX9_bitsAt, 7, some .long)
theorem vy_X9_bitsAt : ae_VY yX9_bitsAt mX9_bitsAt 2 := ⟨ww_874, ww_875, ww_5, ww_876, ⟨by decide, by decide, by decide +kernel⟩, by decide⟩
theorem dX9_bitsAt_0 : decode cX9_bitsAt 0 = .ok (.aload_n 0, 1) := by decide +kernel
theorem dX9_bitsAt_1 : decode cX9_bitsAt 1 = .ok (.getfield 39, 3) := by decide +kernel
theorem dX9_bitsAt_4 : decode cX9_bitsAt 4 = .ok (.iload_n 2, 1) := by decide +kernel
theorem dX9_bitsAt_5 : decode cX9_bitsAt 5 = .ok (.aload_n 0, 1) := by decide +kernel
theorem dX9_bitsAt_6 : decode cX9_bitsAt 6 = .ok (.getfield 46, 3) := by decide +kernel
theorem dX9_bitsAt_9 : decode cX9_bitsAt 9 = .ok (.imul, 1) := by decide +kernel
theorem dX9_bitsAt_10 : decode cX9_bitsAt 10 = .ok (.iadd, 1) := by decide +kernel
theorem dX9_bitsAt_11 : decode cX9_bitsAt 11 = .ok (.istore_n 3, 1) := by decide +kernel
theorem dX9_bitsAt_12 : decode cX9_bitsAt 12 = .ok (.lconst 0, 1) := by decide +kernel
theorem dX9_bitsAt_13 : decode cX9_bitsAt 13 = .ok (.lstore 4, 2) := by decide +kernel
theorem dX9_bitsAt_15 : decode cX9_bitsAt 15 = .ok (.iconst 0, 1) := by decide +kernel
theorem dX9_bitsAt_16 : decode cX9_bitsAt 16 = .ok (.istore 6, 2) := by decide +kernel
theorem dX9_bitsAt_18 : decode cX9_bitsAt 18 = .ok (.iload 6, 2) := by decide +kernel
theorem dX9_bitsAt_20 : decode cX9_bitsAt 20 = .ok (.aload_n 0, 1) := by decide +kernel
theorem dX9_bitsAt_21 : decode cX9_bitsAt 21 = .ok (.getfield 28, 3) := by decide +kernel
theorem dX9_bitsAt_24 : decode cX9_bitsAt 24 = .ok (.getfield 58, 3) := by decide +kernel
theorem dX9_bitsAt_27 : decode cX9_bitsAt 27 = .ok (.if_icmp .ge 48, 3) := by decide +kernel
theorem dX9_bitsAt_30 : decode cX9_bitsAt 30 = .ok (.lload 4, 2) := by decide +kernel
theorem dX9_bitsAt_32 : decode cX9_bitsAt 32 = .ok (.bipush 8, 2) := by decide +kernel
theorem dX9_bitsAt_34 : decode cX9_bitsAt 34 = .ok (.lshl, 1) := by decide +kernel
theorem dX9_bitsAt_35 : decode cX9_bitsAt 35 = .ok (.aload_n 1, 1) := by decide +kernel
theorem dX9_bitsAt_36 : decode cX9_bitsAt 36 = .ok (.iload_n 3, 1) := by decide +kernel
theorem dX9_bitsAt_37 : decode cX9_bitsAt 37 = .ok (.aload_n 0, 1) := by decide +kernel
theorem dX9_bitsAt_38 : decode cX9_bitsAt 38 = .ok (.getfield 35, 3) := by decide +kernel
theorem dX9_bitsAt_41 : decode cX9_bitsAt 41 = .ok (.ifCond .eq 8, 3) := by decide +kernel
theorem dX9_bitsAt_44 : decode cX9_bitsAt 44 = .ok (.iload 6, 2) := by decide +kernel
theorem dX9_bitsAt_46 : decode cX9_bitsAt 46 = .ok (.goto 15, 3) := by decide +kernel
theorem dX9_bitsAt_49 : decode cX9_bitsAt 49 = .ok (.aload_n 0, 1) := by decide +kernel
theorem dX9_bitsAt_50 : decode cX9_bitsAt 50 = .ok (.getfield 28, 3) := by decide +kernel
theorem dX9_bitsAt_53 : decode cX9_bitsAt 53 = .ok (.getfield 58, 3) := by decide +kernel
theorem dX9_bitsAt_56 : decode cX9_bitsAt 56 = .ok (.iconst 1, 1) := by decide +kernel
theorem dX9_bitsAt_57 : decode cX9_bitsAt 57 = .ok (.isub, 1) := by decide +kernel
theorem dX9_bitsAt_58 : decode cX9_bitsAt 58 = .ok (.iload 6, 2) := by decide +kernel
theorem dX9_bitsAt_60 : decode cX9_bitsAt 60 = .ok (.isub, 1) := by decide +kernel
theorem dX9_bitsAt_61 : decode cX9_bitsAt 61 = .ok (.iadd, 1) := by decide +kernel
theorem dX9_bitsAt_62 : decode cX9_bitsAt 62 = .ok (.invokevirtual 73, 3) := by decide +kernel
theorem dX9_bitsAt_65 : decode cX9_bitsAt 65 = .ok (.i2l, 1) := by decide +kernel
theorem dX9_bitsAt_66 : decode cX9_bitsAt 66 = .ok (.lor, 1) := by decide +kernel
theorem dX9_bitsAt_67 : decode cX9_bitsAt 67 = .ok (.lstore 4, 2) := by decide +kernel
theorem dX9_bitsAt_69 : decode cX9_bitsAt 69 = .ok (.iinc 6 1, 3) := by decide +kernel
theorem dX9_bitsAt_72 : decode cX9_bitsAt 72 = .ok (.goto (-54), 3) := by decide +kernel
theorem dX9_bitsAt_75 : decode cX9_bitsAt 75 = .ok (.lload 4, 2) := by decide +kernel
theorem dX9_bitsAt_77 : decode cX9_bitsAt 77 = .ok (.lreturn, 1) := by decide +kernel
def F_X9_bitsAt_61 (k18 : Fin 32 → Int32 → Int64 → Int32 → ae_S → Option (Int64 × ae_S)) (i0 : Fin 32) (v3 : Int32) (v6 : Int32) (t0 : Int32) (t1 : Int32) (t3 : Int64) (s0 : ae_S) : Option (Int64 × ae_S) := ae_bd (F_X0_get (t1 + t0) s0) (fun (r1 : Int32) s2 => ae_lt (t3 ||| r1.toInt64) (fun x5 => ae_lt (v6 + (1 : Int32)) (fun x7 => k18 i0 v3 x5 x7 s2)))
set_option maxHeartbeats 4000000 in
set_option maxRecDepth 100000 in
theorem t_X9_bitsAt_61 {l : Launch} {G : ae_G} (d : Nat) (k18 : Fin 32 → Int32 → Int64 → Int32 → ae_S → Option (Int64 × ae_S)) {rr : Int64} {ss : ae_S} (hk18 : ∀ (i0 : Fin 32) (v3 : Int32) (v4 : Int64) (v6 : Int32) (s0 : ae_S), k18 i0 v3 v4 v6 s0 = some (rr, ss) → ae_T l G (d + 1) mX9_bitsAt (ae_Po (some (ae_l rr)) ss) 18 [(0, ae_r (some (8, i0))), (1, ae_r (some (3, 0))), (3, ae_i v3), (4, ae_l v4), (6, ae_i v6)] [] s0) (i0 : Fin 32) (v3 : Int32) (v6 : Int32) (t0 : Int32) (t1 : Int32) (t3 : Int64) (s0 : ae_S) (hF : F_X9_bitsAt_61 k18 i0 v3 v6 t0 t1 t3 s0 = some (rr, ss)) : ae_T l G (d + 1) mX9_bitsAt (ae_Po (some (ae_l rr)) ss) 61 [(0, ae_r (some (8, i0))), (1, ae_r (some (3, 0))), (3, ae_i v3), (6, ae_i v6)] [ae_i t0, ae_i t1, ae_r (some (3, 0)), ae_l t3] s0 := by
  unfold F_X9_bitsAt_61 at hF
  refine ae_iadd dX9_bitsAt_61 ?_
  obtain ⟨r1, s2, hc3, hF4⟩ := ae_bdI hF
  refine ae_cV1 (q := (3, 0)) (As := [ae_i (t1 + t0)]) dX9_bitsAt_62 ww_877 vy_X0_get rfl rfl rfl rfl rfl (Nat.le_of_ble_eq_true rfl) (c_X0_get d hc3) ?_
  refine ae_i2l dX9_bitsAt_65 ?_
  refine ae_lor dX9_bitsAt_66 ?_
  obtain ⟨x5, hx5, hF6⟩ := ae_ltI hF4
  refine ae_nmL hx5 ?_
  refine ae_lstore (lv' := [(4, ae_l x5), (0, ae_r (some (8, i0))), (1, ae_r (some (3, 0))), (3, ae_i v3), (6, ae_i v6)]) dX9_bitsAt_67 (by decide) rfl ?_
  obtain ⟨x7, hx7, hF8⟩ := ae_ltI hF6
  refine ae_iinc (lv' := [(6, ae_i x7), (4, ae_l x5), (0, ae_r (some (8, i0))), (1, ae_r (some (3, 0))), (3, ae_i v3)]) 4 (1 : Int32) dX9_bitsAt_69 rfl (by decide) (by decide) (by rw [hx7]; rfl) ?_
  refine ae_goto 18 dX9_bitsAt_72 rfl ?_
  refine ae_pick (lv' := [(0, ae_r (some (8, i0))), (1, ae_r (some (3, 0))), (3, ae_i v3), (4, ae_l x5), (6, ae_i x7)]) [2, 3, 4, 1, 0] rfl ?_
  exact hk18 i0 v3 x5 x7 s2 hF8
def F_X9_bitsAt_18 : Nat → Fin 32 → Int32 → Int64 → Int32 → ae_S → Option (Int64 × ae_S)
  | 0, _, _, _, _, _ => none
  | n + 1, i0, v3, v4, v6, s0 => ae_mo (ae_gk (s0.2.2.2 8 i0 4) 60) none (fun j9 => ae_gd (decide ((j9 : Fin 32).val < 9)) (if (ae_kByt j9) ≤ v6 then (some (v4, s0)) else (if (s0.1 8 i0 5) = 0 then (ae_mo (ae_gk (s0.2.2.2 8 i0 4) 60) none (fun j17 => ae_gd (decide ((j17 : Fin 32).val < 9)) (F_X9_bitsAt_61 (F_X9_bitsAt_18 n) i0 v3 v6 (((ae_kByt j17) - (1 : Int32)) - v6) v3 (v4 <<< ((8 : Int32).toInt64 &&& 63)) s0))) else (F_X9_bitsAt_61 (F_X9_bitsAt_18 n) i0 v3 v6 v6 v3 (v4 <<< ((8 : Int32).toInt64 &&& 63)) s0))))
set_option maxHeartbeats 4000000 in
set_option maxRecDepth 100000 in
theorem t_X9_bitsAt_18 {l : Launch} {G : ae_G} (d : Nat) {rr : Int64} {ss : ae_S} : ∀ (n : Nat) (i0 : Fin 32) (v3 : Int32) (v4 : Int64) (v6 : Int32) (s0 : ae_S), F_X9_bitsAt_18 n i0 v3 v4 v6 s0 = some (rr, ss) → ae_T l G (d + 1) mX9_bitsAt (ae_Po (some (ae_l rr)) ss) 18 [(0, ae_r (some (8, i0))), (1, ae_r (some (3, 0))), (3, ae_i v3), (4, ae_l v4), (6, ae_i v6)] [] s0 := by
  intro n
  induction n with
  | zero =>
    intro i0 v3 v4 v6 s0 hF
    exact absurd (show (none : Option (Int64 × ae_S)) = some (rr, ss) from hF) (by simp)
  | succ n ih =>
    intro i0 v3 v4 v6 s0 hF
    unfold F_X9_bitsAt_18 at hF
    refine ae_iload 4 dX9_bitsAt_18 rfl ?_
    refine ae_aload_n 0 dX9_bitsAt_20 rfl ?_
    obtain ⟨j9, hj9, hF10⟩ := ae_moK hF
    refine ae_getO (q := (8, i0)) (some (60, j9)) dX9_bitsAt_21 fl_RX9_28 rfl rfl hj9 ?_
    obtain ⟨hg11, hF12⟩ := ae_gdI hF10
    refine ae_getK (i := j9) dX9_bitsAt_24 (List.mem_of_getElem? (i := 1) rfl) ww_1944 hg11 (ae_nmI (y := ae_kByt j9) rfl ?_)
    refine ae_icmp_ge 75 dX9_bitsAt_27 rfl (fun hb13 => ?_) (fun hb13 => ?_)
    · have hF14 := ae_ifT hb13 hF12
      refine ae_lload 3 dX9_bitsAt_75 rfl ?_
      obtain ⟨rfl, rfl⟩ := ae_retI hF14
      exact ae_lret dX9_bitsAt_77 rfl ⟨rfl, rfl⟩
    · have hF14 := ae_ifF hb13 hF12
      refine ae_lload 3 dX9_bitsAt_30 rfl ?_
      refine ae_bipush (8 : Int32) dX9_bitsAt_32 (by decide) ?_
      refine ae_lshl dX9_bitsAt_34 ?_
      refine ae_aload_n 1 dX9_bitsAt_35 rfl ?_
      refine ae_iload_n 2 dX9_bitsAt_36 rfl ?_
      refine ae_aload_n 0 dX9_bitsAt_37 rfl ?_
      refine ae_getZ (q := (8, i0)) dX9_bitsAt_38 fl_RX9_35 rfl rfl ?_
      refine ae_if_eq 49 dX9_bitsAt_41 rfl (fun hb15 => ?_) (fun hb15 => ?_)
      · have hF16 := ae_ifT hb15 hF14
        refine ae_aload_n 0 dX9_bitsAt_49 rfl ?_
        obtain ⟨j17, hj17, hF18⟩ := ae_moK hF16
        refine ae_getO (q := (8, i0)) (some (60, j17)) dX9_bitsAt_50 fl_RX9_28 rfl rfl hj17 ?_
        obtain ⟨hg19, hF20⟩ := ae_gdI hF18
        refine ae_getK (i := j17) dX9_bitsAt_53 (List.mem_of_getElem? (i := 1) rfl) ww_1944 hg19 (ae_nmI (y := ae_kByt j17) rfl ?_)
        refine ae_iconst (1 : Int32) dX9_bitsAt_56 (by decide) ?_
        refine ae_isub dX9_bitsAt_57 ?_
        refine ae_iload 4 dX9_bitsAt_58 rfl ?_
        refine ae_isub dX9_bitsAt_60 ?_
        refine ae_pick (lv' := [(0, ae_r (some (8, i0))), (1, ae_r (some (3, 0))), (3, ae_i v3), (6, ae_i v6)]) [0, 1, 2, 4] rfl ?_
        exact t_X9_bitsAt_61 d (F_X9_bitsAt_18 n) ih i0 v3 v6 (((ae_kByt j17) - (1 : Int32)) - v6) v3 (v4 <<< ((8 : Int32).toInt64 &&& 63)) s0 hF20
      · have hF16 := ae_ifF hb15 hF14
        refine ae_iload 4 dX9_bitsAt_44 rfl ?_
        refine ae_goto 61 dX9_bitsAt_46 rfl ?_
        refine ae_pick (lv' := [(0, ae_r (some (8, i0))), (1, ae_r (some (3, 0))), (3, ae_i v3), (6, ae_i v6)]) [0, 1, 2, 4] rfl ?_
        exact t_X9_bitsAt_61 d (F_X9_bitsAt_18 n) ih i0 v3 v6 v6 v3 (v4 <<< ((8 : Int32).toInt64 &&& 63)) s0 hF16
def F_X9_bitsAt (i0 : Fin 32) (v2 : Int32) (s0 : ae_S) : Option (Int64 × ae_S) := ae_lt ((s0.1 8 i0 6) + (v2 * (s0.1 8 i0 8))) (fun x21 => F_X9_bitsAt_18 ae_fu i0 x21 (0 : Int64) (0 : Int32) s0)
set_option maxHeartbeats 4000000 in
set_option maxRecDepth 100000 in
theorem c_X9_bitsAt {l : Launch} {G : ae_G} (d : Nat) {i0 : Fin 32} {v2 : Int32} {s0 ss : ae_S} {rr : Int64} (hF : F_X9_bitsAt i0 v2 s0 = some (rr, ss)) : ae_Met l G (d + 1) yX9_bitsAt mX9_bitsAt [ae_r (some (8, i0)), ae_r (some (3, 0)), ae_i v2] s0 (ae_Po (some (ae_l rr)) ss) := by
  refine ae_enter (by decide) rfl (Nat.le_of_ble_eq_true rfl) ?_
  show ae_T l G (d + 1) mX9_bitsAt (ae_Po (some (ae_l rr)) ss) 0 [(0, ae_r (some (8, i0))), (1, ae_r (some (3, 0))), (2, ae_i v2)] [] s0
  unfold F_X9_bitsAt at hF
  refine ae_aload_n 0 dX9_bitsAt_0 rfl ?_
  refine ae_getI (q := (8, i0)) dX9_bitsAt_1 fl_RX9_39 rfl rfl ?_
  refine ae_iload_n 2 dX9_bitsAt_4 rfl ?_
  refine ae_aload_n 0 dX9_bitsAt_5 rfl ?_
  refine ae_getI (q := (8, i0)) dX9_bitsAt_6 fl_RX9_46 rfl rfl ?_
  refine ae_imul dX9_bitsAt_9 ?_
  refine ae_iadd dX9_bitsAt_10 ?_
  obtain ⟨x21, hx21, hF22⟩ := ae_ltI hF
  refine ae_nmI hx21 ?_
  refine ae_istore_n (lv' := [(3, ae_i x21), (0, ae_r (some (8, i0))), (1, ae_r (some (3, 0))), (2, ae_i v2)]) dX9_bitsAt_11 (by decide) rfl ?_
  refine ae_lconst (0 : Int64) dX9_bitsAt_12 (by decide) ?_
  refine ae_lstore (lv' := [(4, ae_l (0 : Int64)), (3, ae_i x21), (0, ae_r (some (8, i0))), (1, ae_r (some (3, 0))), (2, ae_i v2)]) dX9_bitsAt_13 (by decide) rfl ?_
  refine ae_iconst (0 : Int32) dX9_bitsAt_15 (by decide) ?_
  refine ae_istore (lv' := [(6, ae_i (0 : Int32)), (4, ae_l (0 : Int64)), (3, ae_i x21), (0, ae_r (some (8, i0))), (1, ae_r (some (3, 0))), (2, ae_i v2)]) dX9_bitsAt_16 (by decide) rfl ?_
  refine ae_pick (lv' := [(0, ae_r (some (8, i0))), (1, ae_r (some (3, 0))), (3, ae_i x21), (4, ae_l (0 : Int64)), (6, ae_i (0 : Int32))]) [3, 4, 2, 1, 0] rfl ?_
  exact t_X9_bitsAt_18 d ae_fu i0 x21 (0 : Int64) (0 : Int32) s0 hF22
abbrev mX9_valueOf : ae_M := (RX9, cX9_valueOf, 4, some .long)
theorem vy_X9_valueOf : ae_VY yX9_valueOf mX9_valueOf 1 := ⟨ww_882, ww_883, ww_5, ww_884, ⟨by decide, by decide, by decide +kernel⟩, by decide⟩
theorem dX9_valueOf_0 : decode cX9_valueOf 0 = .ok (.aload_n 0, 1) := by decide +kernel
theorem dX9_valueOf_1 : decode cX9_valueOf 1 = .ok (.getfield 28, 3) := by decide +kernel
theorem dX9_valueOf_4 : decode cX9_valueOf 4 = .ok (.getfield 98, 3) := by decide +kernel
theorem dX9_valueOf_7 : decode cX9_valueOf 7 = .ok (.ifCond .eq 26, 3) := by decide +kernel
theorem dX9_valueOf_10 : decode cX9_valueOf 10 = .ok (.aload_n 0, 1) := by decide +kernel
theorem dX9_valueOf_11 : decode cX9_valueOf 11 = .ok (.getfield 28, 3) := by decide +kernel
theorem dX9_valueOf_14 : decode cX9_valueOf 14 = .ok (.getfield 58, 3) := by decide +kernel
theorem dX9_valueOf_17 : decode cX9_valueOf 17 = .ok (.iconst 4, 1) := by decide +kernel
theorem dX9_valueOf_18 : decode cX9_valueOf 18 = .ok (.if_icmp .ne 10, 3) := by decide +kernel
theorem dX9_valueOf_21 : decode cX9_valueOf 21 = .ok (.lload_n 1, 1) := by decide +kernel
theorem dX9_valueOf_22 : decode cX9_valueOf 22 = .ok (.invokestatic 108, 3) := by decide +kernel
theorem dX9_valueOf_25 : decode cX9_valueOf 25 = .ok (.goto 7, 3) := by decide +kernel
theorem dX9_valueOf_28 : decode cX9_valueOf 28 = .ok (.lload_n 1, 1) := by decide +kernel
theorem dX9_valueOf_29 : decode cX9_valueOf 29 = .ok (.invokestatic 111, 3) := by decide +kernel
theorem dX9_valueOf_32 : decode cX9_valueOf 32 = .ok (.lreturn, 1) := by decide +kernel
theorem dX9_valueOf_33 : decode cX9_valueOf 33 = .ok (.bipush 64, 2) := by decide +kernel
theorem dX9_valueOf_35 : decode cX9_valueOf 35 = .ok (.bipush 8, 2) := by decide +kernel
theorem dX9_valueOf_37 : decode cX9_valueOf 37 = .ok (.aload_n 0, 1) := by decide +kernel
theorem dX9_valueOf_38 : decode cX9_valueOf 38 = .ok (.getfield 28, 3) := by decide +kernel
theorem dX9_valueOf_41 : decode cX9_valueOf 41 = .ok (.getfield 58, 3) := by decide +kernel
theorem dX9_valueOf_44 : decode cX9_valueOf 44 = .ok (.imul, 1) := by decide +kernel
theorem dX9_valueOf_45 : decode cX9_valueOf 45 = .ok (.isub, 1) := by decide +kernel
theorem dX9_valueOf_46 : decode cX9_valueOf 46 = .ok (.istore_n 3, 1) := by decide +kernel
theorem dX9_valueOf_47 : decode cX9_valueOf 47 = .ok (.aload_n 0, 1) := by decide +kernel
theorem dX9_valueOf_48 : decode cX9_valueOf 48 = .ok (.getfield 28, 3) := by decide +kernel
theorem dX9_valueOf_51 : decode cX9_valueOf 51 = .ok (.getfield 114, 3) := by decide +kernel
theorem dX9_valueOf_54 : decode cX9_valueOf 54 = .ok (.ifCond .eq 11, 3) := by decide +kernel
theorem dX9_valueOf_57 : decode cX9_valueOf 57 = .ok (.lload_n 1, 1) := by decide +kernel
theorem dX9_valueOf_58 : decode cX9_valueOf 58 = .ok (.iload_n 3, 1) := by decide +kernel
theorem dX9_valueOf_59 : decode cX9_valueOf 59 = .ok (.lshl, 1) := by decide +kernel
theorem dX9_valueOf_60 : decode cX9_valueOf 60 = .ok (.iload_n 3, 1) := by decide +kernel
theorem dX9_valueOf_61 : decode cX9_valueOf 61 = .ok (.lshr, 1) := by decide +kernel
theorem dX9_valueOf_62 : decode cX9_valueOf 62 = .ok (.goto 4, 3) := by decide +kernel
theorem dX9_valueOf_65 : decode cX9_valueOf 65 = .ok (.lload_n 1, 1) := by decide +kernel
theorem dX9_valueOf_66 : decode cX9_valueOf 66 = .ok (.lreturn, 1) := by decide +kernel
def F_X9_valueOf_66 (t0 : Int64) (s0 : ae_S) : Option (Int64 × ae_S) := some (t0, s0)
set_option maxHeartbeats 4000000 in
set_option maxRecDepth 100000 in
theorem t_X9_valueOf_66 {l : Launch} {G : ae_G} (d : Nat) {rr : Int64} {ss : ae_S} (t0 : Int64) (s0 : ae_S) (hF : F_X9_valueOf_66 t0 s0 = some (rr, ss)) : ae_T l G (d + 4) mX9_valueOf (ae_Po (some (ae_l rr)) ss) 66 [] [ae_l t0] s0 := by
  unfold F_X9_valueOf_66 at hF
  obtain ⟨rfl, rfl⟩ := ae_retI hF
  exact ae_lret dX9_valueOf_66 rfl ⟨rfl, rfl⟩
def F_X9_valueOf_32 (t0 : Int64) (s0 : ae_S) : Option (Int64 × ae_S) := some (t0, s0)
set_option maxHeartbeats 4000000 in
set_option maxRecDepth 100000 in
theorem t_X9_valueOf_32 {l : Launch} {G : ae_G} (d : Nat) {rr : Int64} {ss : ae_S} (t0 : Int64) (s0 : ae_S) (hF : F_X9_valueOf_32 t0 s0 = some (rr, ss)) : ae_T l G (d + 4) mX9_valueOf (ae_Po (some (ae_l rr)) ss) 32 [] [ae_l t0] s0 := by
  unfold F_X9_valueOf_32 at hF
  obtain ⟨rfl, rfl⟩ := ae_retI hF
  exact ae_lret dX9_valueOf_32 rfl ⟨rfl, rfl⟩
def F_X9_valueOf (i0 : Fin 32) (v1 : Int64) (s0 : ae_S) : Option (Int64 × ae_S) := ae_mo (ae_gk (s0.2.2.2 8 i0 4) 60) none (fun j1 => ae_gd (decide ((j1 : Fin 32).val < 9)) (if (ae_kFlo j1) = 0 then (ae_mo (ae_gk (s0.2.2.2 8 i0 4) 60) none (fun j7 => ae_gd (decide ((j7 : Fin 32).val < 9)) (ae_lt ((64 : Int32) - ((8 : Int32) * (ae_kByt j7))) (fun x11 => ae_mo (ae_gk (s0.2.2.2 8 i0 4) 60) none (fun j13 => ae_gd (decide ((j13 : Fin 32).val < 9)) (if (ae_kSgn j13) = 0 then (F_X9_valueOf_66 v1 s0) else (F_X9_valueOf_66 ((v1 <<< (x11.toInt64 &&& 63)) >>> (x11.toInt64 &&& 63)) s0))))))) else (ae_mo (ae_gk (s0.2.2.2 8 i0 4) 60) none (fun j19 => ae_gd (decide ((j19 : Fin 32).val < 9)) (if (ae_kByt j19) = (4 : Int32) then (ae_bd (F_X2_widened v1 s0) (fun (r29 : Int64) s30 => F_X9_valueOf_32 r29 s30)) else (ae_bd (F_X2_plain v1 s0) (fun (r25 : Int64) s26 => F_X9_valueOf_32 r25 s26)))))))
set_option maxHeartbeats 4000000 in
set_option maxRecDepth 100000 in
theorem c_X9_valueOf {l : Launch} {G : ae_G} (d : Nat) {i0 : Fin 32} {v1 : Int64} {s0 ss : ae_S} {rr : Int64} (hF : F_X9_valueOf i0 v1 s0 = some (rr, ss)) : ae_Met l G (d + 4) yX9_valueOf mX9_valueOf [ae_r (some (8, i0)), ae_l v1] s0 (ae_Po (some (ae_l rr)) ss) := by
  refine ae_enter (by decide) rfl (Nat.le_of_ble_eq_true rfl) ?_
  show ae_T l G (d + 4) mX9_valueOf (ae_Po (some (ae_l rr)) ss) 0 [(0, ae_r (some (8, i0))), (1, ae_l v1)] [] s0
  unfold F_X9_valueOf at hF
  refine ae_aload_n 0 dX9_valueOf_0 rfl ?_
  obtain ⟨j1, hj1, hF2⟩ := ae_moK hF
  refine ae_getO (q := (8, i0)) (some (60, j1)) dX9_valueOf_1 fl_RX9_28 rfl rfl hj1 ?_
  obtain ⟨hg3, hF4⟩ := ae_gdI hF2
  refine ae_getK (i := j1) dX9_valueOf_4 (List.mem_of_getElem? (i := 3) rfl) ww_1946 hg3 (ae_nmI (y := ae_kFlo j1) rfl ?_)
  refine ae_if_eq 33 dX9_valueOf_7 rfl (fun hb5 => ?_) (fun hb5 => ?_)
  · have hF6 := ae_ifT hb5 hF4
    refine ae_bipush (64 : Int32) dX9_valueOf_33 (by decide) ?_
    refine ae_bipush (8 : Int32) dX9_valueOf_35 (by decide) ?_
    refine ae_aload_n 0 dX9_valueOf_37 rfl ?_
    obtain ⟨j7, hj7, hF8⟩ := ae_moK hF6
    refine ae_getO (q := (8, i0)) (some (60, j7)) dX9_valueOf_38 fl_RX9_28 rfl rfl hj7 ?_
    obtain ⟨hg9, hF10⟩ := ae_gdI hF8
    refine ae_getK (i := j7) dX9_valueOf_41 (List.mem_of_getElem? (i := 1) rfl) ww_1944 hg9 (ae_nmI (y := ae_kByt j7) rfl ?_)
    refine ae_imul dX9_valueOf_44 ?_
    refine ae_isub dX9_valueOf_45 ?_
    obtain ⟨x11, hx11, hF12⟩ := ae_ltI hF10
    refine ae_nmI hx11 ?_
    refine ae_istore_n (lv' := [(3, ae_i x11), (0, ae_r (some (8, i0))), (1, ae_l v1)]) dX9_valueOf_46 (by decide) rfl ?_
    refine ae_aload_n 1 dX9_valueOf_47 rfl ?_
    obtain ⟨j13, hj13, hF14⟩ := ae_moK hF12
    refine ae_getO (q := (8, i0)) (some (60, j13)) dX9_valueOf_48 fl_RX9_28 rfl rfl hj13 ?_
    obtain ⟨hg15, hF16⟩ := ae_gdI hF14
    refine ae_getK (i := j13) dX9_valueOf_51 (List.mem_of_getElem? (i := 2) rfl) ww_1947 hg15 (ae_nmI (y := ae_kSgn j13) rfl ?_)
    refine ae_if_eq 65 dX9_valueOf_54 rfl (fun hb17 => ?_) (fun hb17 => ?_)
    · have hF18 := ae_ifT hb17 hF16
      refine ae_lload_n 2 dX9_valueOf_65 rfl ?_
      refine ae_pick (lv' := []) [] rfl ?_
      exact t_X9_valueOf_66 d v1 s0 hF18
    · have hF18 := ae_ifF hb17 hF16
      refine ae_lload_n 2 dX9_valueOf_57 rfl ?_
      refine ae_iload_n 0 dX9_valueOf_58 rfl ?_
      refine ae_lshl dX9_valueOf_59 ?_
      refine ae_iload_n 0 dX9_valueOf_60 rfl ?_
      refine ae_lshr dX9_valueOf_61 ?_
      refine ae_goto 66 dX9_valueOf_62 rfl ?_
      refine ae_pick (lv' := []) [] rfl ?_
      exact t_X9_valueOf_66 d ((v1 <<< (x11.toInt64 &&& 63)) >>> (x11.toInt64 &&& 63)) s0 hF18
  · have hF6 := ae_ifF hb5 hF4
    refine ae_aload_n 0 dX9_valueOf_10 rfl ?_
    obtain ⟨j19, hj19, hF20⟩ := ae_moK hF6
    refine ae_getO (q := (8, i0)) (some (60, j19)) dX9_valueOf_11 fl_RX9_28 rfl rfl hj19 ?_
    obtain ⟨hg21, hF22⟩ := ae_gdI hF20
    refine ae_getK (i := j19) dX9_valueOf_14 (List.mem_of_getElem? (i := 1) rfl) ww_1944 hg21 (ae_nmI (y := ae_kByt j19) rfl ?_)
    refine ae_iconst (4 : Int32) dX9_valueOf_17 (by decide) ?_
    refine ae_icmp_ne 28 dX9_valueOf_18 rfl (fun hb23 => ?_) (fun hb23 => ?_)
    · have hF24 := ae_ifF hb23 hF22
      refine ae_lload_n 1 dX9_valueOf_28 rfl ?_
      obtain ⟨r25, s26, hc27, hF28⟩ := ae_bdI hF24
      refine ae_cS1 (As := [ae_l v1]) dX9_valueOf_29 ww_893 vy_X2_plain rfl rfl (Nat.le_of_ble_eq_true rfl) (c_X2_plain (d + 2) hc27) ?_
      refine ae_pick (lv' := []) [] rfl ?_
      exact t_X9_valueOf_32 d r25 s26 hF28
    · have hF24 := ae_ifT hb23 hF22
      refine ae_lload_n 1 dX9_valueOf_21 rfl ?_
      obtain ⟨r29, s30, hc31, hF32⟩ := ae_bdI hF24
      refine ae_cS1 (As := [ae_l v1]) dX9_valueOf_22 ww_885 vy_X2_widened rfl rfl (Nat.le_of_ble_eq_true rfl) (c_X2_widened d hc31) ?_
      refine ae_goto 32 dX9_valueOf_25 rfl ?_
      refine ae_pick (lv' := []) [] rfl ?_
      exact t_X9_valueOf_32 d r29 s30 hF32
abbrev mX9_hasField : ae_M := (RX9, cX9_hasField, 2, some .boolean)
theorem vy_X9_hasField : ae_VY yX9_hasField mX9_hasField 1 := ⟨ww_901, ww_902, ww_5, ww_903, ⟨by decide, by decide, by decide +kernel⟩, by decide⟩
theorem dX9_hasField_0 : decode cX9_hasField 0 = .ok (.iload_n 1, 1) := by decide +kernel
theorem dX9_hasField_1 : decode cX9_hasField 1 = .ok (.ifCond .lt 21, 3) := by decide +kernel
theorem dX9_hasField_4 : decode cX9_hasField 4 = .ok (.iload_n 1, 1) := by decide +kernel
theorem dX9_hasField_5 : decode cX9_hasField 5 = .ok (.aload_n 0, 1) := by decide +kernel
theorem dX9_hasField_6 : decode cX9_hasField 6 = .ok (.getfield 52, 3) := by decide +kernel
theorem dX9_hasField_9 : decode cX9_hasField 9 = .ok (.if_icmp .ge 13, 3) := by decide +kernel
theorem dX9_hasField_12 : decode cX9_hasField 12 = .ok (.iload_n 1, 1) := by decide +kernel
theorem dX9_hasField_13 : decode cX9_hasField 13 = .ok (.bipush 8, 2) := by decide +kernel
theorem dX9_hasField_15 : decode cX9_hasField 15 = .ok (.if_icmp .ge 7, 3) := by decide +kernel
theorem dX9_hasField_18 : decode cX9_hasField 18 = .ok (.iconst 1, 1) := by decide +kernel
theorem dX9_hasField_19 : decode cX9_hasField 19 = .ok (.goto 4, 3) := by decide +kernel
theorem dX9_hasField_22 : decode cX9_hasField 22 = .ok (.iconst 0, 1) := by decide +kernel
theorem dX9_hasField_23 : decode cX9_hasField 23 = .ok (.ireturn, 1) := by decide +kernel
def F_X9_hasField_23 (t0 : Int32) (s0 : ae_S) : Option (Int32 × ae_S) := ae_gd (ae_zz t0) (some (t0, s0))
set_option maxHeartbeats 4000000 in
set_option maxRecDepth 100000 in
theorem t_X9_hasField_23 {l : Launch} {G : ae_G} (d : Nat) {rr : Int32} {ss : ae_S} (t0 : Int32) (s0 : ae_S) (hF : F_X9_hasField_23 t0 s0 = some (rr, ss)) : ae_T l G d mX9_hasField (ae_Po (some (ae_i rr)) ss) 23 [] [ae_i t0] s0 := by
  unfold F_X9_hasField_23 at hF
  obtain ⟨hg1, hF2⟩ := ae_gdI hF
  obtain ⟨rfl, rfl⟩ := ae_retI hF2
  exact ae_iret dX9_hasField_23 rfl (ae_zzN (ae_zzI hg1)) ⟨rfl, rfl⟩
def F_X9_hasField_22 (s0 : ae_S) : Option (Int32 × ae_S) := F_X9_hasField_23 (0 : Int32) s0
set_option maxHeartbeats 4000000 in
set_option maxRecDepth 100000 in
theorem t_X9_hasField_22 {l : Launch} {G : ae_G} (d : Nat) {rr : Int32} {ss : ae_S} (s0 : ae_S) (hF : F_X9_hasField_22 s0 = some (rr, ss)) : ae_T l G d mX9_hasField (ae_Po (some (ae_i rr)) ss) 22 [] [] s0 := by
  unfold F_X9_hasField_22 at hF
  refine ae_iconst (0 : Int32) dX9_hasField_22 (by decide) ?_
  refine ae_pick (lv' := []) [] rfl ?_
  exact t_X9_hasField_23 d (0 : Int32) s0 hF
def F_X9_hasField (i0 : Fin 32) (v1 : Int32) (s0 : ae_S) : Option (Int32 × ae_S) := if v1 < 0 then (F_X9_hasField_22 s0) else (if (s0.1 8 i0 10) ≤ v1 then (F_X9_hasField_22 s0) else (if (8 : Int32) ≤ v1 then (F_X9_hasField_22 s0) else (F_X9_hasField_23 (1 : Int32) s0)))
set_option maxHeartbeats 4000000 in
set_option maxRecDepth 100000 in
theorem c_X9_hasField {l : Launch} {G : ae_G} (d : Nat) {i0 : Fin 32} {v1 : Int32} {s0 ss : ae_S} {rr : Int32} (hF : F_X9_hasField i0 v1 s0 = some (rr, ss)) : ae_Met l G d yX9_hasField mX9_hasField [ae_r (some (8, i0)), ae_i v1] s0 (ae_Po (some (ae_i rr)) ss) := by
  refine ae_enter (by decide) rfl (Nat.le_of_ble_eq_true rfl) ?_
  show ae_T l G d mX9_hasField (ae_Po (some (ae_i rr)) ss) 0 [(0, ae_r (some (8, i0))), (1, ae_i v1)] [] s0
  unfold F_X9_hasField at hF
  refine ae_iload_n 1 dX9_hasField_0 rfl ?_
  refine ae_if_lt 22 dX9_hasField_1 rfl (fun hb3 => ?_) (fun hb3 => ?_)
  · have hF4 := ae_ifT hb3 hF
    refine ae_pick (lv' := []) [] rfl ?_
    exact t_X9_hasField_22 d s0 hF4
  · have hF4 := ae_ifF hb3 hF
    refine ae_iload_n 1 dX9_hasField_4 rfl ?_
    refine ae_aload_n 0 dX9_hasField_5 rfl ?_
    refine ae_getI (q := (8, i0)) dX9_hasField_6 fl_RX9_52 rfl rfl ?_
    refine ae_icmp_ge 22 dX9_hasField_9 rfl (fun hb5 => ?_) (fun hb5 => ?_)
    · have hF6 := ae_ifT hb5 hF4
      refine ae_pick (lv' := []) [] rfl ?_
      exact t_X9_hasField_22 d s0 hF6
    · have hF6 := ae_ifF hb5 hF4
      refine ae_iload_n 1 dX9_hasField_12 rfl ?_
      refine ae_bipush (8 : Int32) dX9_hasField_13 (by decide) ?_
      refine ae_icmp_ge 22 dX9_hasField_15 rfl (fun hb7 => ?_) (fun hb7 => ?_)
      · have hF8 := ae_ifT hb7 hF6
        refine ae_pick (lv' := []) [] rfl ?_
        exact t_X9_hasField_22 d s0 hF8
      · have hF8 := ae_ifF hb7 hF6
        refine ae_iconst (1 : Int32) dX9_hasField_18 (by decide) ?_
        refine ae_goto 23 dX9_hasField_19 rfl ?_
        refine ae_pick (lv' := []) [] rfl ?_
        exact t_X9_hasField_23 d (1 : Int32) s0 hF8
abbrev mX9_maskOf : ae_M := (RX9, cX9_maskOf, 2, some .long)
theorem vy_X9_maskOf : ae_VY yX9_maskOf mX9_maskOf 1 := ⟨ww_906, wq_39, ww_5, ww_907, ⟨by decide, by decide, by decide +kernel⟩, by decide⟩
theorem dX9_maskOf_0 : decode cX9_maskOf 0 = .ok (.lconst 1, 1) := by decide +kernel
theorem dX9_maskOf_1 : decode cX9_maskOf 1 = .ok (.aload_n 0, 1) := by decide +kernel
theorem dX9_maskOf_2 : decode cX9_maskOf 2 = .ok (.getfield 19, 3) := by decide +kernel
theorem dX9_maskOf_5 : decode cX9_maskOf 5 = .ok (.iload_n 1, 1) := by decide +kernel
theorem dX9_maskOf_6 : decode cX9_maskOf 6 = .ok (.iaload, 1) := by decide +kernel
theorem dX9_maskOf_7 : decode cX9_maskOf 7 = .ok (.aload_n 0, 1) := by decide +kernel
theorem dX9_maskOf_8 : decode cX9_maskOf 8 = .ok (.getfield 15, 3) := by decide +kernel
theorem dX9_maskOf_11 : decode cX9_maskOf 11 = .ok (.iload_n 1, 1) := by decide +kernel
theorem dX9_maskOf_12 : decode cX9_maskOf 12 = .ok (.iaload, 1) := by decide +kernel
theorem dX9_maskOf_13 : decode cX9_maskOf 13 = .ok (.isub, 1) := by decide +kernel
theorem dX9_maskOf_14 : decode cX9_maskOf 14 = .ok (.iconst 1, 1) := by decide +kernel
theorem dX9_maskOf_15 : decode cX9_maskOf 15 = .ok (.iadd, 1) := by decide +kernel
theorem dX9_maskOf_16 : decode cX9_maskOf 16 = .ok (.lshl, 1) := by decide +kernel
theorem dX9_maskOf_17 : decode cX9_maskOf 17 = .ok (.lconst 1, 1) := by decide +kernel
theorem dX9_maskOf_18 : decode cX9_maskOf 18 = .ok (.lsub, 1) := by decide +kernel
theorem dX9_maskOf_19 : decode cX9_maskOf 19 = .ok (.lreturn, 1) := by decide +kernel
def F_X9_maskOf (i0 : Fin 32) (v1 : Int32) (s0 : ae_S) : Option (Int64 × ae_S) := ae_gd (ae_ib v1 8) (ae_gd (ae_ib v1 8) (some (((1 : Int64) <<< ((((s0.1 11 i0 v1.toNatClampNeg) - (s0.1 10 i0 v1.toNatClampNeg)) + (1 : Int32)).toInt64 &&& 63)) - (1 : Int64), s0)))
set_option maxHeartbeats 4000000 in
set_option maxRecDepth 100000 in
theorem c_X9_maskOf {l : Launch} {G : ae_G} (d : Nat) {i0 : Fin 32} {v1 : Int32} {s0 ss : ae_S} {rr : Int64} (hF : F_X9_maskOf i0 v1 s0 = some (rr, ss)) : ae_Met l G d yX9_maskOf mX9_maskOf [ae_r (some (8, i0)), ae_i v1] s0 (ae_Po (some (ae_l rr)) ss) := by
  refine ae_enter (by decide) rfl (Nat.le_of_ble_eq_true rfl) ?_
  show ae_T l G d mX9_maskOf (ae_Po (some (ae_l rr)) ss) 0 [(0, ae_r (some (8, i0))), (1, ae_i v1)] [] s0
  unfold F_X9_maskOf at hF
  refine ae_lconst (1 : Int64) dX9_maskOf_0 (by decide) ?_
  refine ae_aload_n 0 dX9_maskOf_1 rfl ?_
  refine ae_getA (q := (8, i0)) (some (11, i0)) dX9_maskOf_2 fl_RX9_19 rfl rfl rfl ?_
  refine ae_iload_n 1 dX9_maskOf_5 rfl ?_
  obtain ⟨hg1, hF2⟩ := ae_gdI hF
  refine ae_iald (q := (11, i0)) dX9_maskOf_6 rfl rfl (ae_ibI hg1) ?_
  refine ae_aload_n 0 dX9_maskOf_7 rfl ?_
  refine ae_getA (q := (8, i0)) (some (10, i0)) dX9_maskOf_8 fl_RX9_15 rfl rfl rfl ?_
  refine ae_iload_n 1 dX9_maskOf_11 rfl ?_
  obtain ⟨hg3, hF4⟩ := ae_gdI hF2
  refine ae_iald (q := (10, i0)) dX9_maskOf_12 rfl rfl (ae_ibI hg3) ?_
  refine ae_isub dX9_maskOf_13 ?_
  refine ae_iconst (1 : Int32) dX9_maskOf_14 (by decide) ?_
  refine ae_iadd dX9_maskOf_15 ?_
  refine ae_lshl dX9_maskOf_16 ?_
  refine ae_lconst (1 : Int64) dX9_maskOf_17 (by decide) ?_
  refine ae_lsub dX9_maskOf_18 ?_
  obtain ⟨rfl, rfl⟩ := ae_retI hF4
  exact ae_lret dX9_maskOf_19 rfl ⟨rfl, rfl⟩
abbrev mX9_fieldOf : ae_M := (RX9, cX9_fieldOf, 4, some .long)
theorem vy_X9_fieldOf : ae_VY yX9_fieldOf mX9_fieldOf 2 := ⟨ww_897, ww_898, ww_5, ww_899, ⟨by decide, by decide, by decide +kernel⟩, by decide⟩
theorem dX9_fieldOf_0 : decode cX9_fieldOf 0 = .ok (.aload_n 0, 1) := by decide +kernel
theorem dX9_fieldOf_1 : decode cX9_fieldOf 1 = .ok (.iload_n 1, 1) := by decide +kernel
theorem dX9_fieldOf_2 : decode cX9_fieldOf 2 = .ok (.invokevirtual 139, 3) := by decide +kernel
theorem dX9_fieldOf_5 : decode cX9_fieldOf 5 = .ok (.ifCond .eq 20, 3) := by decide +kernel
theorem dX9_fieldOf_8 : decode cX9_fieldOf 8 = .ok (.lload_n 2, 1) := by decide +kernel
theorem dX9_fieldOf_9 : decode cX9_fieldOf 9 = .ok (.aload_n 0, 1) := by decide +kernel
theorem dX9_fieldOf_10 : decode cX9_fieldOf 10 = .ok (.getfield 15, 3) := by decide +kernel
theorem dX9_fieldOf_13 : decode cX9_fieldOf 13 = .ok (.iload_n 1, 1) := by decide +kernel
theorem dX9_fieldOf_14 : decode cX9_fieldOf 14 = .ok (.iaload, 1) := by decide +kernel
theorem dX9_fieldOf_15 : decode cX9_fieldOf 15 = .ok (.lushr, 1) := by decide +kernel
theorem dX9_fieldOf_16 : decode cX9_fieldOf 16 = .ok (.aload_n 0, 1) := by decide +kernel
theorem dX9_fieldOf_17 : decode cX9_fieldOf 17 = .ok (.iload_n 1, 1) := by decide +kernel
theorem dX9_fieldOf_18 : decode cX9_fieldOf 18 = .ok (.invokevirtual 142, 3) := by decide +kernel
theorem dX9_fieldOf_21 : decode cX9_fieldOf 21 = .ok (.land, 1) := by decide +kernel
theorem dX9_fieldOf_22 : decode cX9_fieldOf 22 = .ok (.goto 4, 3) := by decide +kernel
theorem dX9_fieldOf_25 : decode cX9_fieldOf 25 = .ok (.lconst 0, 1) := by decide +kernel
theorem dX9_fieldOf_26 : decode cX9_fieldOf 26 = .ok (.lreturn, 1) := by decide +kernel
def F_X9_fieldOf_26 (t0 : Int64) (s0 : ae_S) : Option (Int64 × ae_S) := some (t0, s0)
set_option maxHeartbeats 4000000 in
set_option maxRecDepth 100000 in
theorem t_X9_fieldOf_26 {l : Launch} {G : ae_G} (d : Nat) {rr : Int64} {ss : ae_S} (t0 : Int64) (s0 : ae_S) (hF : F_X9_fieldOf_26 t0 s0 = some (rr, ss)) : ae_T l G (d + 1) mX9_fieldOf (ae_Po (some (ae_l rr)) ss) 26 [] [ae_l t0] s0 := by
  unfold F_X9_fieldOf_26 at hF
  obtain ⟨rfl, rfl⟩ := ae_retI hF
  exact ae_lret dX9_fieldOf_26 rfl ⟨rfl, rfl⟩
def F_X9_fieldOf (i0 : Fin 32) (v1 : Int32) (v2 : Int64) (s0 : ae_S) : Option (Int64 × ae_S) := ae_bd (F_X9_hasField i0 v1 s0) (fun (r1 : Int32) s2 => if r1 = 0 then (F_X9_fieldOf_26 (0 : Int64) s2) else (ae_gd (ae_ib v1 8) (ae_bd (F_X9_maskOf i0 v1 s2) (fun (r9 : Int64) s10 => F_X9_fieldOf_26 (((v2.toUInt64 >>> ((s2.1 10 i0 v1.toNatClampNeg).toInt64.toUInt64 &&& Int64.toUInt64 63)).toInt64) &&& r9) s10))))
set_option maxHeartbeats 4000000 in
set_option maxRecDepth 100000 in
theorem c_X9_fieldOf {l : Launch} {G : ae_G} (d : Nat) {i0 : Fin 32} {v1 : Int32} {v2 : Int64} {s0 ss : ae_S} {rr : Int64} (hF : F_X9_fieldOf i0 v1 v2 s0 = some (rr, ss)) : ae_Met l G (d + 1) yX9_fieldOf mX9_fieldOf [ae_r (some (8, i0)), ae_i v1, ae_l v2] s0 (ae_Po (some (ae_l rr)) ss) := by
  refine ae_enter (by decide) rfl (Nat.le_of_ble_eq_true rfl) ?_
  show ae_T l G (d + 1) mX9_fieldOf (ae_Po (some (ae_l rr)) ss) 0 [(0, ae_r (some (8, i0))), (1, ae_i v1), (2, ae_l v2)] [] s0
  unfold F_X9_fieldOf at hF
  refine ae_aload_n 0 dX9_fieldOf_0 rfl ?_
  refine ae_iload_n 1 dX9_fieldOf_1 rfl ?_
  obtain ⟨r1, s2, hc3, hF4⟩ := ae_bdI hF
  refine ae_cV1 (q := (8, i0)) (As := [ae_i v1]) dX9_fieldOf_2 ww_900 vy_X9_hasField rfl rfl rfl rfl rfl (Nat.le_of_ble_eq_true rfl) (c_X9_hasField d hc3) ?_
  refine ae_if_eq 25 dX9_fieldOf_5 rfl (fun hb5 => ?_) (fun hb5 => ?_)
  · have hF6 := ae_ifT hb5 hF4
    refine ae_lconst (0 : Int64) dX9_fieldOf_25 (by decide) ?_
    refine ae_pick (lv' := []) [] rfl ?_
    exact t_X9_fieldOf_26 d (0 : Int64) s2 hF6
  · have hF6 := ae_ifF hb5 hF4
    refine ae_lload_n 2 dX9_fieldOf_8 rfl ?_
    refine ae_aload_n 0 dX9_fieldOf_9 rfl ?_
    refine ae_getA (q := (8, i0)) (some (10, i0)) dX9_fieldOf_10 fl_RX9_15 rfl rfl rfl ?_
    refine ae_iload_n 1 dX9_fieldOf_13 rfl ?_
    obtain ⟨hg7, hF8⟩ := ae_gdI hF6
    refine ae_iald (q := (10, i0)) dX9_fieldOf_14 rfl rfl (ae_ibI hg7) ?_
    refine ae_lushr dX9_fieldOf_15 ?_
    refine ae_aload_n 0 dX9_fieldOf_16 rfl ?_
    refine ae_iload_n 1 dX9_fieldOf_17 rfl ?_
    obtain ⟨r9, s10, hc11, hF12⟩ := ae_bdI hF8
    refine ae_cV1 (q := (8, i0)) (As := [ae_i v1]) dX9_fieldOf_18 ww_904 vy_X9_maskOf rfl rfl rfl rfl rfl (Nat.le_of_ble_eq_true rfl) (c_X9_maskOf d hc11) ?_
    refine ae_land dX9_fieldOf_21 ?_
    refine ae_goto 26 dX9_fieldOf_22 rfl ?_
    refine ae_pick (lv' := []) [] rfl ?_
    exact t_X9_fieldOf_26 d (((v2.toUInt64 >>> ((s2.1 10 i0 v1.toNatClampNeg).toInt64.toUInt64 &&& Int64.toUInt64 63)).toInt64) &&& r9) s10 hF12
abbrev mX9_lay : ae_M := (RX9, cX9_lay, 7, none)
theorem vy_X9_lay : ae_VY yX9_lay mX9_lay 3 := ⟨ww_913, ww_914, ww_5, ww_915, ⟨by decide, by decide, by decide +kernel⟩, by decide⟩
theorem dX9_lay_0 : decode cX9_lay 0 = .ok (.aload_n 0, 1) := by decide +kernel
theorem dX9_lay_1 : decode cX9_lay 1 = .ok (.getfield 39, 3) := by decide +kernel
theorem dX9_lay_4 : decode cX9_lay 4 = .ok (.iload_n 2, 1) := by decide +kernel
theorem dX9_lay_5 : decode cX9_lay 5 = .ok (.aload_n 0, 1) := by decide +kernel
theorem dX9_lay_6 : decode cX9_lay 6 = .ok (.getfield 46, 3) := by decide +kernel
theorem dX9_lay_9 : decode cX9_lay 9 = .ok (.imul, 1) := by decide +kernel
theorem dX9_lay_10 : decode cX9_lay 10 = .ok (.iadd, 1) := by decide +kernel
theorem dX9_lay_11 : decode cX9_lay 11 = .ok (.istore 5, 2) := by decide +kernel
theorem dX9_lay_13 : decode cX9_lay 13 = .ok (.iconst 0, 1) := by decide +kernel
theorem dX9_lay_14 : decode cX9_lay 14 = .ok (.istore 6, 2) := by decide +kernel
theorem dX9_lay_16 : decode cX9_lay 16 = .ok (.iload 6, 2) := by decide +kernel
theorem dX9_lay_18 : decode cX9_lay 18 = .ok (.aload_n 0, 1) := by decide +kernel
theorem dX9_lay_19 : decode cX9_lay 19 = .ok (.getfield 28, 3) := by decide +kernel
theorem dX9_lay_22 : decode cX9_lay 22 = .ok (.getfield 58, 3) := by decide +kernel
theorem dX9_lay_25 : decode cX9_lay 25 = .ok (.if_icmp .ge 52, 3) := by decide +kernel
theorem dX9_lay_28 : decode cX9_lay 28 = .ok (.aload_n 1, 1) := by decide +kernel
theorem dX9_lay_29 : decode cX9_lay 29 = .ok (.iload 5, 2) := by decide +kernel
theorem dX9_lay_31 : decode cX9_lay 31 = .ok (.aload_n 0, 1) := by decide +kernel
theorem dX9_lay_32 : decode cX9_lay 32 = .ok (.getfield 35, 3) := by decide +kernel
theorem dX9_lay_35 : decode cX9_lay 35 = .ok (.ifCond .eq 18, 3) := by decide +kernel
theorem dX9_lay_38 : decode cX9_lay 38 = .ok (.aload_n 0, 1) := by decide +kernel
theorem dX9_lay_39 : decode cX9_lay 39 = .ok (.getfield 28, 3) := by decide +kernel
theorem dX9_lay_42 : decode cX9_lay 42 = .ok (.getfield 58, 3) := by decide +kernel
theorem dX9_lay_45 : decode cX9_lay 45 = .ok (.iconst 1, 1) := by decide +kernel
theorem dX9_lay_46 : decode cX9_lay 46 = .ok (.isub, 1) := by decide +kernel
theorem dX9_lay_47 : decode cX9_lay 47 = .ok (.iload 6, 2) := by decide +kernel
theorem dX9_lay_49 : decode cX9_lay 49 = .ok (.isub, 1) := by decide +kernel
theorem dX9_lay_50 : decode cX9_lay 50 = .ok (.goto 5, 3) := by decide +kernel
theorem dX9_lay_53 : decode cX9_lay 53 = .ok (.iload 6, 2) := by decide +kernel
theorem dX9_lay_55 : decode cX9_lay 55 = .ok (.iadd, 1) := by decide +kernel
theorem dX9_lay_56 : decode cX9_lay 56 = .ok (.lload_n 3, 1) := by decide +kernel
theorem dX9_lay_57 : decode cX9_lay 57 = .ok (.bipush 8, 2) := by decide +kernel
theorem dX9_lay_59 : decode cX9_lay 59 = .ok (.iload 6, 2) := by decide +kernel
theorem dX9_lay_61 : decode cX9_lay 61 = .ok (.imul, 1) := by decide +kernel
theorem dX9_lay_62 : decode cX9_lay 62 = .ok (.lushr, 1) := by decide +kernel
theorem dX9_lay_63 : decode cX9_lay 63 = .ok (.l2i, 1) := by decide +kernel
theorem dX9_lay_64 : decode cX9_lay 64 = .ok (.sipush 255, 3) := by decide +kernel
theorem dX9_lay_67 : decode cX9_lay 67 = .ok (.iand, 1) := by decide +kernel
theorem dX9_lay_68 : decode cX9_lay 68 = .ok (.invokevirtual 77, 3) := by decide +kernel
theorem dX9_lay_71 : decode cX9_lay 71 = .ok (.iinc 6 1, 3) := by decide +kernel
theorem dX9_lay_74 : decode cX9_lay 74 = .ok (.goto (-58), 3) := by decide +kernel
theorem dX9_lay_77 : decode cX9_lay 77 = .ok (.return_, 1) := by decide +kernel
def F_X9_lay_55 (k16 : Fin 32 → Int64 → Int32 → Int32 → ae_S → Option (Unit × ae_S)) (i0 : Fin 32) (v3 : Int64) (v5 : Int32) (v6 : Int32) (t0 : Int32) (t1 : Int32) (s0 : ae_S) : Option (Unit × ae_S) := ae_bd (F_X0_set (t1 + t0) ((((v3.toUInt64 >>> (((8 : Int32) * v6).toInt64.toUInt64 &&& Int64.toUInt64 63)).toInt64).toInt32) &&& (255 : Int32)) s0) (fun (r1 : Unit) s2 => ae_lt (v6 + (1 : Int32)) (fun x5 => k16 i0 v3 v5 x5 s2))
set_option maxHeartbeats 4000000 in
set_option maxRecDepth 100000 in
theorem t_X9_lay_55 {l : Launch} {G : ae_G} (d : Nat) (k16 : Fin 32 → Int64 → Int32 → Int32 → ae_S → Option (Unit × ae_S)) {rr : Unit} {ss : ae_S} (hk16 : ∀ (i0 : Fin 32) (v3 : Int64) (v5 : Int32) (v6 : Int32) (s0 : ae_S), k16 i0 v3 v5 v6 s0 = some (rr, ss) → ae_T l G (d + 1) mX9_lay (ae_Po none ss) 16 [(0, ae_r (some (8, i0))), (1, ae_r (some (3, 0))), (3, ae_l v3), (5, ae_i v5), (6, ae_i v6)] [] s0) (i0 : Fin 32) (v3 : Int64) (v5 : Int32) (v6 : Int32) (t0 : Int32) (t1 : Int32) (s0 : ae_S) (hF : F_X9_lay_55 k16 i0 v3 v5 v6 t0 t1 s0 = some (rr, ss)) : ae_T l G (d + 1) mX9_lay (ae_Po none ss) 55 [(0, ae_r (some (8, i0))), (1, ae_r (some (3, 0))), (3, ae_l v3), (5, ae_i v5), (6, ae_i v6)] [ae_i t0, ae_i t1, ae_r (some (3, 0))] s0 := by
  unfold F_X9_lay_55 at hF
  refine ae_iadd dX9_lay_55 ?_
  refine ae_lload_n 2 dX9_lay_56 rfl ?_
  refine ae_bipush (8 : Int32) dX9_lay_57 (by decide) ?_
  refine ae_iload 4 dX9_lay_59 rfl ?_
  refine ae_imul dX9_lay_61 ?_
  refine ae_lushr dX9_lay_62 ?_
  refine ae_l2i dX9_lay_63 ?_
  refine ae_sipush (255 : Int32) dX9_lay_64 (by decide) ?_
  refine ae_iand dX9_lay_67 ?_
  obtain ⟨r1, s2, hc3, hF4⟩ := ae_bdI hF
  refine ae_cV0 (q := (3, 0)) (As := [ae_i (t1 + t0), ae_i ((((v3.toUInt64 >>> (((8 : Int32) * v6).toInt64.toUInt64 &&& Int64.toUInt64 63)).toInt64).toInt32) &&& (255 : Int32))]) dX9_lay_68 ww_916 vy_X0_set rfl rfl rfl rfl rfl (Nat.le_of_ble_eq_true rfl) (c_X0_set d hc3) ?_
  obtain ⟨x5, hx5, hF6⟩ := ae_ltI hF4
  refine ae_iinc (lv' := [(6, ae_i x5), (0, ae_r (some (8, i0))), (1, ae_r (some (3, 0))), (3, ae_l v3), (5, ae_i v5)]) 4 (1 : Int32) dX9_lay_71 rfl (by decide) (by decide) (by rw [hx5]; rfl) ?_
  refine ae_goto 16 dX9_lay_74 rfl ?_
  refine ae_pick (lv' := [(0, ae_r (some (8, i0))), (1, ae_r (some (3, 0))), (3, ae_l v3), (5, ae_i v5), (6, ae_i x5)]) [1, 2, 3, 4, 0] rfl ?_
  exact hk16 i0 v3 v5 x5 s2 hF6
def F_X9_lay_16 : Nat → Fin 32 → Int64 → Int32 → Int32 → ae_S → Option (Unit × ae_S)
  | 0, _, _, _, _, _ => none
  | n + 1, i0, v3, v5, v6, s0 => ae_mo (ae_gk (s0.2.2.2 8 i0 4) 60) none (fun j7 => ae_gd (decide ((j7 : Fin 32).val < 9)) (if (ae_kByt j7) ≤ v6 then (some ((), s0)) else (if (s0.1 8 i0 5) = 0 then (F_X9_lay_55 (F_X9_lay_16 n) i0 v3 v5 v6 v6 v5 s0) else (ae_mo (ae_gk (s0.2.2.2 8 i0 4) 60) none (fun j15 => ae_gd (decide ((j15 : Fin 32).val < 9)) (F_X9_lay_55 (F_X9_lay_16 n) i0 v3 v5 v6 (((ae_kByt j15) - (1 : Int32)) - v6) v5 s0))))))
set_option maxHeartbeats 4000000 in
set_option maxRecDepth 100000 in
theorem t_X9_lay_16 {l : Launch} {G : ae_G} (d : Nat) {rr : Unit} {ss : ae_S} : ∀ (n : Nat) (i0 : Fin 32) (v3 : Int64) (v5 : Int32) (v6 : Int32) (s0 : ae_S), F_X9_lay_16 n i0 v3 v5 v6 s0 = some (rr, ss) → ae_T l G (d + 1) mX9_lay (ae_Po none ss) 16 [(0, ae_r (some (8, i0))), (1, ae_r (some (3, 0))), (3, ae_l v3), (5, ae_i v5), (6, ae_i v6)] [] s0 := by
  intro n
  induction n with
  | zero =>
    intro i0 v3 v5 v6 s0 hF
    exact absurd (show (none : Option (Unit × ae_S)) = some (rr, ss) from hF) (by simp)
  | succ n ih =>
    intro i0 v3 v5 v6 s0 hF
    unfold F_X9_lay_16 at hF
    refine ae_iload 4 dX9_lay_16 rfl ?_
    refine ae_aload_n 0 dX9_lay_18 rfl ?_
    obtain ⟨j7, hj7, hF8⟩ := ae_moK hF
    refine ae_getO (q := (8, i0)) (some (60, j7)) dX9_lay_19 fl_RX9_28 rfl rfl hj7 ?_
    obtain ⟨hg9, hF10⟩ := ae_gdI hF8
    refine ae_getK (i := j7) dX9_lay_22 (List.mem_of_getElem? (i := 1) rfl) ww_1944 hg9 (ae_nmI (y := ae_kByt j7) rfl ?_)
    refine ae_icmp_ge 77 dX9_lay_25 rfl (fun hb11 => ?_) (fun hb11 => ?_)
    · have hF12 := ae_ifT hb11 hF10
      obtain ⟨rfl, rfl⟩ := ae_retI hF12
      exact ae_vret dX9_lay_77 rfl ⟨rfl, rfl⟩
    · have hF12 := ae_ifF hb11 hF10
      refine ae_aload_n 1 dX9_lay_28 rfl ?_
      refine ae_iload 3 dX9_lay_29 rfl ?_
      refine ae_aload_n 0 dX9_lay_31 rfl ?_
      refine ae_getZ (q := (8, i0)) dX9_lay_32 fl_RX9_35 rfl rfl ?_
      refine ae_if_eq 53 dX9_lay_35 rfl (fun hb13 => ?_) (fun hb13 => ?_)
      · have hF14 := ae_ifT hb13 hF12
        refine ae_iload 4 dX9_lay_53 rfl ?_
        refine ae_pick (lv' := [(0, ae_r (some (8, i0))), (1, ae_r (some (3, 0))), (3, ae_l v3), (5, ae_i v5), (6, ae_i v6)]) [0, 1, 2, 3, 4] rfl ?_
        exact t_X9_lay_55 d (F_X9_lay_16 n) ih i0 v3 v5 v6 v6 v5 s0 hF14
      · have hF14 := ae_ifF hb13 hF12
        refine ae_aload_n 0 dX9_lay_38 rfl ?_
        obtain ⟨j15, hj15, hF16⟩ := ae_moK hF14
        refine ae_getO (q := (8, i0)) (some (60, j15)) dX9_lay_39 fl_RX9_28 rfl rfl hj15 ?_
        obtain ⟨hg17, hF18⟩ := ae_gdI hF16
        refine ae_getK (i := j15) dX9_lay_42 (List.mem_of_getElem? (i := 1) rfl) ww_1944 hg17 (ae_nmI (y := ae_kByt j15) rfl ?_)
        refine ae_iconst (1 : Int32) dX9_lay_45 (by decide) ?_
        refine ae_isub dX9_lay_46 ?_
        refine ae_iload 4 dX9_lay_47 rfl ?_
        refine ae_isub dX9_lay_49 ?_
        refine ae_goto 55 dX9_lay_50 rfl ?_
        refine ae_pick (lv' := [(0, ae_r (some (8, i0))), (1, ae_r (some (3, 0))), (3, ae_l v3), (5, ae_i v5), (6, ae_i v6)]) [0, 1, 2, 3, 4] rfl ?_
        exact t_X9_lay_55 d (F_X9_lay_16 n) ih i0 v3 v5 v6 (((ae_kByt j15) - (1 : Int32)) - v6) v5 s0 hF18
def F_X9_lay (i0 : Fin 32) (v2 : Int32) (v3 : Int64) (s0 : ae_S) : Option (Unit × ae_S) := ae_lt ((s0.1 8 i0 6) + (v2 * (s0.1 8 i0 8))) (fun x19 => F_X9_lay_16 ae_fu i0 v3 x19 (0 : Int32) s0)
set_option maxHeartbeats 4000000 in
set_option maxRecDepth 100000 in
theorem c_X9_lay {l : Launch} {G : ae_G} (d : Nat) {i0 : Fin 32} {v2 : Int32} {v3 : Int64} {s0 ss : ae_S} {rr : Unit} (hF : F_X9_lay i0 v2 v3 s0 = some (rr, ss)) : ae_Met l G (d + 1) yX9_lay mX9_lay [ae_r (some (8, i0)), ae_r (some (3, 0)), ae_i v2, ae_l v3] s0 (ae_Po none ss) := by
  refine ae_enter (by decide) rfl (Nat.le_of_ble_eq_true rfl) ?_
  show ae_T l G (d + 1) mX9_lay (ae_Po none ss) 0 [(0, ae_r (some (8, i0))), (1, ae_r (some (3, 0))), (2, ae_i v2), (3, ae_l v3)] [] s0
  unfold F_X9_lay at hF
  refine ae_aload_n 0 dX9_lay_0 rfl ?_
  refine ae_getI (q := (8, i0)) dX9_lay_1 fl_RX9_39 rfl rfl ?_
  refine ae_iload_n 2 dX9_lay_4 rfl ?_
  refine ae_aload_n 0 dX9_lay_5 rfl ?_
  refine ae_getI (q := (8, i0)) dX9_lay_6 fl_RX9_46 rfl rfl ?_
  refine ae_imul dX9_lay_9 ?_
  refine ae_iadd dX9_lay_10 ?_
  obtain ⟨x19, hx19, hF20⟩ := ae_ltI hF
  refine ae_nmI hx19 ?_
  refine ae_istore (lv' := [(5, ae_i x19), (0, ae_r (some (8, i0))), (1, ae_r (some (3, 0))), (2, ae_i v2), (3, ae_l v3)]) dX9_lay_11 (by decide) rfl ?_
  refine ae_iconst (0 : Int32) dX9_lay_13 (by decide) ?_
  refine ae_istore (lv' := [(6, ae_i (0 : Int32)), (5, ae_i x19), (0, ae_r (some (8, i0))), (1, ae_r (some (3, 0))), (2, ae_i v2), (3, ae_l v3)]) dX9_lay_14 (by decide) rfl ?_
  refine ae_pick (lv' := [(0, ae_r (some (8, i0))), (1, ae_r (some (3, 0))), (3, ae_l v3), (5, ae_i x19), (6, ae_i (0 : Int32))]) [2, 3, 5, 1, 0] rfl ?_
  exact t_X9_lay_16 d ae_fu i0 v3 x19 (0 : Int32) s0 hF20
abbrev mX9_clearIfRead : ae_M := (RX9, cX9_clearIfRead, 3, none)
theorem vy_X9_clearIfRead : ae_VY yX9_clearIfRead mX9_clearIfRead 2 := ⟨ww_909, ww_910, ww_5, ww_911, ⟨by decide, by decide, by decide +kernel⟩, by decide⟩
theorem dX9_clearIfRead_0 : decode cX9_clearIfRead 0 = .ok (.aload_n 0, 1) := by decide +kernel
theorem dX9_clearIfRead_1 : decode cX9_clearIfRead 1 = .ok (.getfield 49, 3) := by decide +kernel
theorem dX9_clearIfRead_4 : decode cX9_clearIfRead 4 = .ok (.iconst 3, 1) := by decide +kernel
theorem dX9_clearIfRead_5 : decode cX9_clearIfRead 5 = .ok (.if_icmp .ne 10, 3) := by decide +kernel
theorem dX9_clearIfRead_8 : decode cX9_clearIfRead 8 = .ok (.aload_n 0, 1) := by decide +kernel
theorem dX9_clearIfRead_9 : decode cX9_clearIfRead 9 = .ok (.aload_n 1, 1) := by decide +kernel
theorem dX9_clearIfRead_10 : decode cX9_clearIfRead 10 = .ok (.iload_n 2, 1) := by decide +kernel
theorem dX9_clearIfRead_11 : decode cX9_clearIfRead 11 = .ok (.lconst 0, 1) := by decide +kernel
theorem dX9_clearIfRead_12 : decode cX9_clearIfRead 12 = .ok (.invokevirtual 87, 3) := by decide +kernel
theorem dX9_clearIfRead_15 : decode cX9_clearIfRead 15 = .ok (.return_, 1) := by decide +kernel
def F_X9_clearIfRead_15 (s0 : ae_S) : Option (Unit × ae_S) := some ((), s0)
set_option maxHeartbeats 4000000 in
set_option maxRecDepth 100000 in
theorem t_X9_clearIfRead_15 {l : Launch} {G : ae_G} (d : Nat) {rr : Unit} {ss : ae_S} (s0 : ae_S) (hF : F_X9_clearIfRead_15 s0 = some (rr, ss)) : ae_T l G (d + 2) mX9_clearIfRead (ae_Po none ss) 15 [] [] s0 := by
  unfold F_X9_clearIfRead_15 at hF
  obtain ⟨rfl, rfl⟩ := ae_retI hF
  exact ae_vret dX9_clearIfRead_15 rfl ⟨rfl, rfl⟩
def F_X9_clearIfRead (i0 : Fin 32) (v2 : Int32) (s0 : ae_S) : Option (Unit × ae_S) := if (s0.1 8 i0 9) = (3 : Int32) then (ae_bd (F_X9_lay i0 v2 (0 : Int64) s0) (fun (r3 : Unit) s4 => F_X9_clearIfRead_15 s4)) else (F_X9_clearIfRead_15 s0)
set_option maxHeartbeats 4000000 in
set_option maxRecDepth 100000 in
theorem c_X9_clearIfRead {l : Launch} {G : ae_G} (d : Nat) {i0 : Fin 32} {v2 : Int32} {s0 ss : ae_S} {rr : Unit} (hF : F_X9_clearIfRead i0 v2 s0 = some (rr, ss)) : ae_Met l G (d + 2) yX9_clearIfRead mX9_clearIfRead [ae_r (some (8, i0)), ae_r (some (3, 0)), ae_i v2] s0 (ae_Po none ss) := by
  refine ae_enter (by decide) rfl (Nat.le_of_ble_eq_true rfl) ?_
  show ae_T l G (d + 2) mX9_clearIfRead (ae_Po none ss) 0 [(0, ae_r (some (8, i0))), (1, ae_r (some (3, 0))), (2, ae_i v2)] [] s0
  unfold F_X9_clearIfRead at hF
  refine ae_aload_n 0 dX9_clearIfRead_0 rfl ?_
  refine ae_getI (q := (8, i0)) dX9_clearIfRead_1 fl_RX9_49 rfl rfl ?_
  refine ae_iconst (3 : Int32) dX9_clearIfRead_4 (by decide) ?_
  refine ae_icmp_ne 15 dX9_clearIfRead_5 rfl (fun hb1 => ?_) (fun hb1 => ?_)
  · have hF2 := ae_ifF hb1 hF
    refine ae_pick (lv' := []) [] rfl ?_
    exact t_X9_clearIfRead_15 d s0 hF2
  · have hF2 := ae_ifT hb1 hF
    refine ae_aload_n 0 dX9_clearIfRead_8 rfl ?_
    refine ae_aload_n 1 dX9_clearIfRead_9 rfl ?_
    refine ae_iload_n 2 dX9_clearIfRead_10 rfl ?_
    refine ae_lconst (0 : Int64) dX9_clearIfRead_11 (by decide) ?_
    obtain ⟨r3, s4, hc5, hF6⟩ := ae_bdI hF2
    refine ae_cV0 (q := (8, i0)) (As := [ae_r (some (3, 0)), ae_i v2, ae_l (0 : Int64)]) dX9_clearIfRead_12 ww_912 vy_X9_lay rfl rfl rfl rfl rfl (Nat.le_of_ble_eq_true rfl) (c_X9_lay d hc5) ?_
    refine ae_pick (lv' := []) [] rfl ?_
    exact t_X9_clearIfRead_15 d s4 hF6
abbrev mX9_isReadOnly : ae_M := (RX9, cX9_isReadOnly, 1, some .boolean)
theorem vy_X9_isReadOnly : ae_VY yX9_isReadOnly mX9_isReadOnly 0 := ⟨ww_925, ww_926, ww_5, ww_927, ⟨by decide, by decide, by decide +kernel⟩, by decide⟩
theorem dX9_isReadOnly_0 : decode cX9_isReadOnly 0 = .ok (.aload_n 0, 1) := by decide +kernel
theorem dX9_isReadOnly_1 : decode cX9_isReadOnly 1 = .ok (.getfield 49, 3) := by decide +kernel
theorem dX9_isReadOnly_4 : decode cX9_isReadOnly 4 = .ok (.iconst 1, 1) := by decide +kernel
theorem dX9_isReadOnly_5 : decode cX9_isReadOnly 5 = .ok (.if_icmp .ne 7, 3) := by decide +kernel
theorem dX9_isReadOnly_8 : decode cX9_isReadOnly 8 = .ok (.iconst 1, 1) := by decide +kernel
theorem dX9_isReadOnly_9 : decode cX9_isReadOnly 9 = .ok (.goto 4, 3) := by decide +kernel
theorem dX9_isReadOnly_12 : decode cX9_isReadOnly 12 = .ok (.iconst 0, 1) := by decide +kernel
theorem dX9_isReadOnly_13 : decode cX9_isReadOnly 13 = .ok (.ireturn, 1) := by decide +kernel
def F_X9_isReadOnly_13 (t0 : Int32) (s0 : ae_S) : Option (Int32 × ae_S) := ae_gd (ae_zz t0) (some (t0, s0))
set_option maxHeartbeats 4000000 in
set_option maxRecDepth 100000 in
theorem t_X9_isReadOnly_13 {l : Launch} {G : ae_G} (d : Nat) {rr : Int32} {ss : ae_S} (t0 : Int32) (s0 : ae_S) (hF : F_X9_isReadOnly_13 t0 s0 = some (rr, ss)) : ae_T l G d mX9_isReadOnly (ae_Po (some (ae_i rr)) ss) 13 [] [ae_i t0] s0 := by
  unfold F_X9_isReadOnly_13 at hF
  obtain ⟨hg1, hF2⟩ := ae_gdI hF
  obtain ⟨rfl, rfl⟩ := ae_retI hF2
  exact ae_iret dX9_isReadOnly_13 rfl (ae_zzN (ae_zzI hg1)) ⟨rfl, rfl⟩
def F_X9_isReadOnly (i0 : Fin 32) (s0 : ae_S) : Option (Int32 × ae_S) := if (s0.1 8 i0 9) = (1 : Int32) then (F_X9_isReadOnly_13 (1 : Int32) s0) else (F_X9_isReadOnly_13 (0 : Int32) s0)
set_option maxHeartbeats 4000000 in
set_option maxRecDepth 100000 in
theorem c_X9_isReadOnly {l : Launch} {G : ae_G} (d : Nat) {i0 : Fin 32} {s0 ss : ae_S} {rr : Int32} (hF : F_X9_isReadOnly i0 s0 = some (rr, ss)) : ae_Met l G d yX9_isReadOnly mX9_isReadOnly [ae_r (some (8, i0))] s0 (ae_Po (some (ae_i rr)) ss) := by
  refine ae_enter (by decide) rfl (Nat.le_of_ble_eq_true rfl) ?_
  show ae_T l G d mX9_isReadOnly (ae_Po (some (ae_i rr)) ss) 0 [(0, ae_r (some (8, i0)))] [] s0
  unfold F_X9_isReadOnly at hF
  refine ae_aload_n 0 dX9_isReadOnly_0 rfl ?_
  refine ae_getI (q := (8, i0)) dX9_isReadOnly_1 fl_RX9_49 rfl rfl ?_
  refine ae_iconst (1 : Int32) dX9_isReadOnly_4 (by decide) ?_
  refine ae_icmp_ne 12 dX9_isReadOnly_5 rfl (fun hb3 => ?_) (fun hb3 => ?_)
  · have hF4 := ae_ifF hb3 hF
    refine ae_iconst (0 : Int32) dX9_isReadOnly_12 (by decide) ?_
    refine ae_pick (lv' := []) [] rfl ?_
    exact t_X9_isReadOnly_13 d (0 : Int32) s0 hF4
  · have hF4 := ae_ifT hb3 hF
    refine ae_iconst (1 : Int32) dX9_isReadOnly_8 (by decide) ?_
    refine ae_goto 13 dX9_isReadOnly_9 rfl ?_
    refine ae_pick (lv' := []) [] rfl ?_
    exact t_X9_isReadOnly_13 d (1 : Int32) s0 hF4
abbrev mX9_bitsOfFloat : ae_M := (RX9, cX9_bitsOfFloat, 3, some .long)
theorem vy_X9_bitsOfFloat : ae_VY yX9_bitsOfFloat mX9_bitsOfFloat 1 := ⟨ww_933, ww_934, ww_5, ww_935, ⟨by decide, by decide, by decide +kernel⟩, by decide⟩
theorem dX9_bitsOfFloat_0 : decode cX9_bitsOfFloat 0 = .ok (.aload_n 0, 1) := by decide +kernel
theorem dX9_bitsOfFloat_1 : decode cX9_bitsOfFloat 1 = .ok (.getfield 28, 3) := by decide +kernel
theorem dX9_bitsOfFloat_4 : decode cX9_bitsOfFloat 4 = .ok (.getfield 98, 3) := by decide +kernel
theorem dX9_bitsOfFloat_7 : decode cX9_bitsOfFloat 7 = .ok (.ifCond .eq 26, 3) := by decide +kernel
theorem dX9_bitsOfFloat_10 : decode cX9_bitsOfFloat 10 = .ok (.aload_n 0, 1) := by decide +kernel
theorem dX9_bitsOfFloat_11 : decode cX9_bitsOfFloat 11 = .ok (.getfield 28, 3) := by decide +kernel
theorem dX9_bitsOfFloat_14 : decode cX9_bitsOfFloat 14 = .ok (.getfield 58, 3) := by decide +kernel
theorem dX9_bitsOfFloat_17 : decode cX9_bitsOfFloat 17 = .ok (.iconst 4, 1) := by decide +kernel
theorem dX9_bitsOfFloat_18 : decode cX9_bitsOfFloat 18 = .ok (.if_icmp .ne 10, 3) := by decide +kernel
theorem dX9_bitsOfFloat_21 : decode cX9_bitsOfFloat 21 = .ok (.lload_n 1, 1) := by decide +kernel
theorem dX9_bitsOfFloat_22 : decode cX9_bitsOfFloat 22 = .ok (.invokestatic 117, 3) := by decide +kernel
theorem dX9_bitsOfFloat_25 : decode cX9_bitsOfFloat 25 = .ok (.goto 7, 3) := by decide +kernel
theorem dX9_bitsOfFloat_28 : decode cX9_bitsOfFloat 28 = .ok (.lload_n 1, 1) := by decide +kernel
theorem dX9_bitsOfFloat_29 : decode cX9_bitsOfFloat 29 = .ok (.invokestatic 111, 3) := by decide +kernel
theorem dX9_bitsOfFloat_32 : decode cX9_bitsOfFloat 32 = .ok (.lreturn, 1) := by decide +kernel
theorem dX9_bitsOfFloat_33 : decode cX9_bitsOfFloat 33 = .ok (.lload_n 1, 1) := by decide +kernel
theorem dX9_bitsOfFloat_34 : decode cX9_bitsOfFloat 34 = .ok (.invokestatic 126, 3) := by decide +kernel
theorem dX9_bitsOfFloat_37 : decode cX9_bitsOfFloat 37 = .ok (.lreturn, 1) := by decide +kernel
def F_X9_bitsOfFloat_32 (t0 : Int64) (s0 : ae_S) : Option (Int64 × ae_S) := some (t0, s0)
set_option maxHeartbeats 4000000 in
set_option maxRecDepth 100000 in
theorem t_X9_bitsOfFloat_32 {l : Launch} {G : ae_G} (d : Nat) {rr : Int64} {ss : ae_S} (t0 : Int64) (s0 : ae_S) (hF : F_X9_bitsOfFloat_32 t0 s0 = some (rr, ss)) : ae_T l G (d + 4) mX9_bitsOfFloat (ae_Po (some (ae_l rr)) ss) 32 [] [ae_l t0] s0 := by
  unfold F_X9_bitsOfFloat_32 at hF
  obtain ⟨rfl, rfl⟩ := ae_retI hF
  exact ae_lret dX9_bitsOfFloat_32 rfl ⟨rfl, rfl⟩
def F_X9_bitsOfFloat (i0 : Fin 32) (v1 : Int64) (s0 : ae_S) : Option (Int64 × ae_S) := ae_mo (ae_gk (s0.2.2.2 8 i0 4) 60) none (fun j1 => ae_gd (decide ((j1 : Fin 32).val < 9)) (if (ae_kFlo j1) = 0 then (ae_bd (F_X2_toWhole v1 s0) (fun (r7 : Int64) s8 => some (r7, s8))) else (ae_mo (ae_gk (s0.2.2.2 8 i0 4) 60) none (fun j11 => ae_gd (decide ((j11 : Fin 32).val < 9)) (if (ae_kByt j11) = (4 : Int32) then (ae_bd (F_X2_narrowed v1 s0) (fun (r21 : Int64) s22 => F_X9_bitsOfFloat_32 r21 s22)) else (ae_bd (F_X2_plain v1 s0) (fun (r17 : Int64) s18 => F_X9_bitsOfFloat_32 r17 s18)))))))
set_option maxHeartbeats 4000000 in
set_option maxRecDepth 100000 in
theorem c_X9_bitsOfFloat {l : Launch} {G : ae_G} (d : Nat) {i0 : Fin 32} {v1 : Int64} {s0 ss : ae_S} {rr : Int64} (hF : F_X9_bitsOfFloat i0 v1 s0 = some (rr, ss)) : ae_Met l G (d + 4) yX9_bitsOfFloat mX9_bitsOfFloat [ae_r (some (8, i0)), ae_l v1] s0 (ae_Po (some (ae_l rr)) ss) := by
  refine ae_enter (by decide) rfl (Nat.le_of_ble_eq_true rfl) ?_
  show ae_T l G (d + 4) mX9_bitsOfFloat (ae_Po (some (ae_l rr)) ss) 0 [(0, ae_r (some (8, i0))), (1, ae_l v1)] [] s0
  unfold F_X9_bitsOfFloat at hF
  refine ae_aload_n 0 dX9_bitsOfFloat_0 rfl ?_
  obtain ⟨j1, hj1, hF2⟩ := ae_moK hF
  refine ae_getO (q := (8, i0)) (some (60, j1)) dX9_bitsOfFloat_1 fl_RX9_28 rfl rfl hj1 ?_
  obtain ⟨hg3, hF4⟩ := ae_gdI hF2
  refine ae_getK (i := j1) dX9_bitsOfFloat_4 (List.mem_of_getElem? (i := 3) rfl) ww_1946 hg3 (ae_nmI (y := ae_kFlo j1) rfl ?_)
  refine ae_if_eq 33 dX9_bitsOfFloat_7 rfl (fun hb5 => ?_) (fun hb5 => ?_)
  · have hF6 := ae_ifT hb5 hF4
    refine ae_lload_n 1 dX9_bitsOfFloat_33 rfl ?_
    obtain ⟨r7, s8, hc9, hF10⟩ := ae_bdI hF6
    refine ae_cS1 (As := [ae_l v1]) dX9_bitsOfFloat_34 ww_940 vy_X2_toWhole rfl rfl (Nat.le_of_ble_eq_true rfl) (c_X2_toWhole (d + 1) hc9) ?_
    obtain ⟨rfl, rfl⟩ := ae_retI hF10
    exact ae_lret dX9_bitsOfFloat_37 rfl ⟨rfl, rfl⟩
  · have hF6 := ae_ifF hb5 hF4
    refine ae_aload_n 0 dX9_bitsOfFloat_10 rfl ?_
    obtain ⟨j11, hj11, hF12⟩ := ae_moK hF6
    refine ae_getO (q := (8, i0)) (some (60, j11)) dX9_bitsOfFloat_11 fl_RX9_28 rfl rfl hj11 ?_
    obtain ⟨hg13, hF14⟩ := ae_gdI hF12
    refine ae_getK (i := j11) dX9_bitsOfFloat_14 (List.mem_of_getElem? (i := 1) rfl) ww_1944 hg13 (ae_nmI (y := ae_kByt j11) rfl ?_)
    refine ae_iconst (4 : Int32) dX9_bitsOfFloat_17 (by decide) ?_
    refine ae_icmp_ne 28 dX9_bitsOfFloat_18 rfl (fun hb15 => ?_) (fun hb15 => ?_)
    · have hF16 := ae_ifF hb15 hF14
      refine ae_lload_n 1 dX9_bitsOfFloat_28 rfl ?_
      obtain ⟨r17, s18, hc19, hF20⟩ := ae_bdI hF16
      refine ae_cS1 (As := [ae_l v1]) dX9_bitsOfFloat_29 ww_893 vy_X2_plain rfl rfl (Nat.le_of_ble_eq_true rfl) (c_X2_plain (d + 2) hc19) ?_
      refine ae_pick (lv' := []) [] rfl ?_
      exact t_X9_bitsOfFloat_32 d r17 s18 hF20
    · have hF16 := ae_ifT hb15 hF14
      refine ae_lload_n 1 dX9_bitsOfFloat_21 rfl ?_
      obtain ⟨r21, s22, hc23, hF24⟩ := ae_bdI hF16
      refine ae_cS1 (As := [ae_l v1]) dX9_bitsOfFloat_22 ww_936 vy_X2_narrowed rfl rfl (Nat.le_of_ble_eq_true rfl) (c_X2_narrowed d hc23) ?_
      refine ae_goto 32 dX9_bitsOfFloat_25 rfl ?_
      refine ae_pick (lv' := []) [] rfl ?_
      exact t_X9_bitsOfFloat_32 d r21 s22 hF24
abbrev mX9_bitsOfWhole : ae_M := (RX9, cX9_bitsOfWhole, 3, some .long)
theorem vy_X9_bitsOfWhole : ae_VY yX9_bitsOfWhole mX9_bitsOfWhole 1 := ⟨ww_942, ww_943, ww_5, ww_944, ⟨by decide, by decide, by decide +kernel⟩, by decide⟩
theorem dX9_bitsOfWhole_0 : decode cX9_bitsOfWhole 0 = .ok (.aload_n 0, 1) := by decide +kernel
theorem dX9_bitsOfWhole_1 : decode cX9_bitsOfWhole 1 = .ok (.getfield 28, 3) := by decide +kernel
theorem dX9_bitsOfWhole_4 : decode cX9_bitsOfWhole 4 = .ok (.getfield 98, 3) := by decide +kernel
theorem dX9_bitsOfWhole_7 : decode cX9_bitsOfWhole 7 = .ok (.ifCond .eq 26, 3) := by decide +kernel
theorem dX9_bitsOfWhole_10 : decode cX9_bitsOfWhole 10 = .ok (.aload_n 0, 1) := by decide +kernel
theorem dX9_bitsOfWhole_11 : decode cX9_bitsOfWhole 11 = .ok (.getfield 28, 3) := by decide +kernel
theorem dX9_bitsOfWhole_14 : decode cX9_bitsOfWhole 14 = .ok (.getfield 58, 3) := by decide +kernel
theorem dX9_bitsOfWhole_17 : decode cX9_bitsOfWhole 17 = .ok (.iconst 4, 1) := by decide +kernel
theorem dX9_bitsOfWhole_18 : decode cX9_bitsOfWhole 18 = .ok (.if_icmp .ne 10, 3) := by decide +kernel
theorem dX9_bitsOfWhole_21 : decode cX9_bitsOfWhole 21 = .ok (.lload_n 1, 1) := by decide +kernel
theorem dX9_bitsOfWhole_22 : decode cX9_bitsOfWhole 22 = .ok (.invokestatic 120, 3) := by decide +kernel
theorem dX9_bitsOfWhole_25 : decode cX9_bitsOfWhole 25 = .ok (.goto 7, 3) := by decide +kernel
theorem dX9_bitsOfWhole_28 : decode cX9_bitsOfWhole 28 = .ok (.lload_n 1, 1) := by decide +kernel
theorem dX9_bitsOfWhole_29 : decode cX9_bitsOfWhole 29 = .ok (.invokestatic 123, 3) := by decide +kernel
theorem dX9_bitsOfWhole_32 : decode cX9_bitsOfWhole 32 = .ok (.lreturn, 1) := by decide +kernel
theorem dX9_bitsOfWhole_33 : decode cX9_bitsOfWhole 33 = .ok (.lload_n 1, 1) := by decide +kernel
theorem dX9_bitsOfWhole_34 : decode cX9_bitsOfWhole 34 = .ok (.lreturn, 1) := by decide +kernel
def F_X9_bitsOfWhole_32 (t0 : Int64) (s0 : ae_S) : Option (Int64 × ae_S) := some (t0, s0)
set_option maxHeartbeats 4000000 in
set_option maxRecDepth 100000 in
theorem t_X9_bitsOfWhole_32 {l : Launch} {G : ae_G} (d : Nat) {rr : Int64} {ss : ae_S} (t0 : Int64) (s0 : ae_S) (hF : F_X9_bitsOfWhole_32 t0 s0 = some (rr, ss)) : ae_T l G (d + 4) mX9_bitsOfWhole (ae_Po (some (ae_l rr)) ss) 32 [] [ae_l t0] s0 := by
  unfold F_X9_bitsOfWhole_32 at hF
  obtain ⟨rfl, rfl⟩ := ae_retI hF
  exact ae_lret dX9_bitsOfWhole_32 rfl ⟨rfl, rfl⟩
def F_X9_bitsOfWhole (i0 : Fin 32) (v1 : Int64) (s0 : ae_S) : Option (Int64 × ae_S) := ae_mo (ae_gk (s0.2.2.2 8 i0 4) 60) none (fun j1 => ae_gd (decide ((j1 : Fin 32).val < 9)) (if (ae_kFlo j1) = 0 then (some (v1, s0)) else (ae_mo (ae_gk (s0.2.2.2 8 i0 4) 60) none (fun j7 => ae_gd (decide ((j7 : Fin 32).val < 9)) (if (ae_kByt j7) = (4 : Int32) then (ae_bd (F_X2_smallOfWhole v1 s0) (fun (r17 : Int64) s18 => F_X9_bitsOfWhole_32 r17 s18)) else (ae_bd (F_X2_ofWhole v1 s0) (fun (r13 : Int64) s14 => F_X9_bitsOfWhole_32 r13 s14)))))))
set_option maxHeartbeats 4000000 in
set_option maxRecDepth 100000 in
theorem c_X9_bitsOfWhole {l : Launch} {G : ae_G} (d : Nat) {i0 : Fin 32} {v1 : Int64} {s0 ss : ae_S} {rr : Int64} (hF : F_X9_bitsOfWhole i0 v1 s0 = some (rr, ss)) : ae_Met l G (d + 4) yX9_bitsOfWhole mX9_bitsOfWhole [ae_r (some (8, i0)), ae_l v1] s0 (ae_Po (some (ae_l rr)) ss) := by
  refine ae_enter (by decide) rfl (Nat.le_of_ble_eq_true rfl) ?_
  show ae_T l G (d + 4) mX9_bitsOfWhole (ae_Po (some (ae_l rr)) ss) 0 [(0, ae_r (some (8, i0))), (1, ae_l v1)] [] s0
  unfold F_X9_bitsOfWhole at hF
  refine ae_aload_n 0 dX9_bitsOfWhole_0 rfl ?_
  obtain ⟨j1, hj1, hF2⟩ := ae_moK hF
  refine ae_getO (q := (8, i0)) (some (60, j1)) dX9_bitsOfWhole_1 fl_RX9_28 rfl rfl hj1 ?_
  obtain ⟨hg3, hF4⟩ := ae_gdI hF2
  refine ae_getK (i := j1) dX9_bitsOfWhole_4 (List.mem_of_getElem? (i := 3) rfl) ww_1946 hg3 (ae_nmI (y := ae_kFlo j1) rfl ?_)
  refine ae_if_eq 33 dX9_bitsOfWhole_7 rfl (fun hb5 => ?_) (fun hb5 => ?_)
  · have hF6 := ae_ifT hb5 hF4
    refine ae_lload_n 1 dX9_bitsOfWhole_33 rfl ?_
    obtain ⟨rfl, rfl⟩ := ae_retI hF6
    exact ae_lret dX9_bitsOfWhole_34 rfl ⟨rfl, rfl⟩
  · have hF6 := ae_ifF hb5 hF4
    refine ae_aload_n 0 dX9_bitsOfWhole_10 rfl ?_
    obtain ⟨j7, hj7, hF8⟩ := ae_moK hF6
    refine ae_getO (q := (8, i0)) (some (60, j7)) dX9_bitsOfWhole_11 fl_RX9_28 rfl rfl hj7 ?_
    obtain ⟨hg9, hF10⟩ := ae_gdI hF8
    refine ae_getK (i := j7) dX9_bitsOfWhole_14 (List.mem_of_getElem? (i := 1) rfl) ww_1944 hg9 (ae_nmI (y := ae_kByt j7) rfl ?_)
    refine ae_iconst (4 : Int32) dX9_bitsOfWhole_17 (by decide) ?_
    refine ae_icmp_ne 28 dX9_bitsOfWhole_18 rfl (fun hb11 => ?_) (fun hb11 => ?_)
    · have hF12 := ae_ifF hb11 hF10
      refine ae_lload_n 1 dX9_bitsOfWhole_28 rfl ?_
      obtain ⟨r13, s14, hc15, hF16⟩ := ae_bdI hF12
      refine ae_cS1 (As := [ae_l v1]) dX9_bitsOfWhole_29 ww_948 vy_X2_ofWhole rfl rfl (Nat.le_of_ble_eq_true rfl) (c_X2_ofWhole d hc15) ?_
      refine ae_pick (lv' := []) [] rfl ?_
      exact t_X9_bitsOfWhole_32 d r13 s14 hF16
    · have hF12 := ae_ifT hb11 hF10
      refine ae_lload_n 1 dX9_bitsOfWhole_21 rfl ?_
      obtain ⟨r17, s18, hc19, hF20⟩ := ae_bdI hF12
      refine ae_cS1 (As := [ae_l v1]) dX9_bitsOfWhole_22 ww_945 vy_X2_smallOfWhole rfl rfl (Nat.le_of_ble_eq_true rfl) (c_X2_smallOfWhole d hc19) ?_
      refine ae_goto 32 dX9_bitsOfWhole_25 rfl ?_
      refine ae_pick (lv' := []) [] rfl ?_
      exact t_X9_bitsOfWhole_32 d r17 s18 hF20
abbrev mX9_bitsOfValue : ae_M := (RX9, cX9_bitsOfValue, 4, some .long)
theorem vy_X9_bitsOfValue : ae_VY yX9_bitsOfValue mX9_bitsOfValue 2 := ⟨ww_929, ww_930, ww_5, ww_931, ⟨by decide, by decide, by decide +kernel⟩, by decide⟩
theorem dX9_bitsOfValue_0 : decode cX9_bitsOfValue 0 = .ok (.iload_n 3, 1) := by decide +kernel
theorem dX9_bitsOfValue_1 : decode cX9_bitsOfValue 1 = .ok (.ifCond .eq 11, 3) := by decide +kernel
theorem dX9_bitsOfValue_4 : decode cX9_bitsOfValue 4 = .ok (.aload_n 0, 1) := by decide +kernel
theorem dX9_bitsOfValue_5 : decode cX9_bitsOfValue 5 = .ok (.lload_n 1, 1) := by decide +kernel
theorem dX9_bitsOfValue_6 : decode cX9_bitsOfValue 6 = .ok (.invokevirtual 129, 3) := by decide +kernel
theorem dX9_bitsOfValue_9 : decode cX9_bitsOfValue 9 = .ok (.goto 8, 3) := by decide +kernel
theorem dX9_bitsOfValue_12 : decode cX9_bitsOfValue 12 = .ok (.aload_n 0, 1) := by decide +kernel
theorem dX9_bitsOfValue_13 : decode cX9_bitsOfValue 13 = .ok (.lload_n 1, 1) := by decide +kernel
theorem dX9_bitsOfValue_14 : decode cX9_bitsOfValue 14 = .ok (.invokevirtual 132, 3) := by decide +kernel
theorem dX9_bitsOfValue_17 : decode cX9_bitsOfValue 17 = .ok (.lreturn, 1) := by decide +kernel
def F_X9_bitsOfValue_17 (t0 : Int64) (s0 : ae_S) : Option (Int64 × ae_S) := some (t0, s0)
set_option maxHeartbeats 4000000 in
set_option maxRecDepth 100000 in
theorem t_X9_bitsOfValue_17 {l : Launch} {G : ae_G} (d : Nat) {rr : Int64} {ss : ae_S} (t0 : Int64) (s0 : ae_S) (hF : F_X9_bitsOfValue_17 t0 s0 = some (rr, ss)) : ae_T l G (d + 5) mX9_bitsOfValue (ae_Po (some (ae_l rr)) ss) 17 [] [ae_l t0] s0 := by
  unfold F_X9_bitsOfValue_17 at hF
  obtain ⟨rfl, rfl⟩ := ae_retI hF
  exact ae_lret dX9_bitsOfValue_17 rfl ⟨rfl, rfl⟩
def F_X9_bitsOfValue (i0 : Fin 32) (v1 : Int64) (v3 : Int32) (s0 : ae_S) : Option (Int64 × ae_S) := if v3 = 0 then (ae_bd (F_X9_bitsOfWhole i0 v1 s0) (fun (r3 : Int64) s4 => F_X9_bitsOfValue_17 r3 s4)) else (ae_bd (F_X9_bitsOfFloat i0 v1 s0) (fun (r7 : Int64) s8 => F_X9_bitsOfValue_17 r7 s8))
set_option maxHeartbeats 4000000 in
set_option maxRecDepth 100000 in
theorem c_X9_bitsOfValue {l : Launch} {G : ae_G} (d : Nat) {i0 : Fin 32} {v1 : Int64} {v3 : Int32} {s0 ss : ae_S} {rr : Int64} (hF : F_X9_bitsOfValue i0 v1 v3 s0 = some (rr, ss)) : ae_Met l G (d + 5) yX9_bitsOfValue mX9_bitsOfValue [ae_r (some (8, i0)), ae_l v1, ae_i v3] s0 (ae_Po (some (ae_l rr)) ss) := by
  refine ae_enter (by decide) rfl (Nat.le_of_ble_eq_true rfl) ?_
  show ae_T l G (d + 5) mX9_bitsOfValue (ae_Po (some (ae_l rr)) ss) 0 [(0, ae_r (some (8, i0))), (1, ae_l v1), (3, ae_i v3)] [] s0
  unfold F_X9_bitsOfValue at hF
  refine ae_iload_n 2 dX9_bitsOfValue_0 rfl ?_
  refine ae_if_eq 12 dX9_bitsOfValue_1 rfl (fun hb1 => ?_) (fun hb1 => ?_)
  · have hF2 := ae_ifT hb1 hF
    refine ae_aload_n 0 dX9_bitsOfValue_12 rfl ?_
    refine ae_lload_n 1 dX9_bitsOfValue_13 rfl ?_
    obtain ⟨r3, s4, hc5, hF6⟩ := ae_bdI hF2
    refine ae_cV1 (q := (8, i0)) (As := [ae_l v1]) dX9_bitsOfValue_14 ww_941 vy_X9_bitsOfWhole rfl rfl rfl rfl rfl (Nat.le_of_ble_eq_true rfl) (c_X9_bitsOfWhole d hc5) ?_
    refine ae_pick (lv' := []) [] rfl ?_
    exact t_X9_bitsOfValue_17 d r3 s4 hF6
  · have hF2 := ae_ifF hb1 hF
    refine ae_aload_n 0 dX9_bitsOfValue_4 rfl ?_
    refine ae_lload_n 1 dX9_bitsOfValue_5 rfl ?_
    obtain ⟨r7, s8, hc9, hF10⟩ := ae_bdI hF2
    refine ae_cV1 (q := (8, i0)) (As := [ae_l v1]) dX9_bitsOfValue_6 ww_932 vy_X9_bitsOfFloat rfl rfl rfl rfl rfl (Nat.le_of_ble_eq_true rfl) (c_X9_bitsOfFloat d hc9) ?_
    refine ae_goto 17 dX9_bitsOfValue_9 rfl ?_
    refine ae_pick (lv' := []) [] rfl ?_
    exact t_X9_bitsOfValue_17 d r7 s8 hF10
abbrev mX9_put : ae_M := (RX9, cX9_put, 5, none)
theorem vy_X9_put : ae_VY yX9_put mX9_put 3 := ⟨ww_950, ww_951, ww_5, ww_952, ⟨by decide, by decide, by decide +kernel⟩, by decide⟩
theorem dX9_put_0 : decode cX9_put 0 = .ok (.aload_n 0, 1) := by decide +kernel
theorem dX9_put_1 : decode cX9_put 1 = .ok (.aload_n 1, 1) := by decide +kernel
theorem dX9_put_2 : decode cX9_put 2 = .ok (.iload_n 2, 1) := by decide +kernel
theorem dX9_put_3 : decode cX9_put 3 = .ok (.aload_n 0, 1) := by decide +kernel
theorem dX9_put_4 : decode cX9_put 4 = .ok (.getfield 49, 3) := by decide +kernel
theorem dX9_put_7 : decode cX9_put 7 = .ok (.iconst 2, 1) := by decide +kernel
theorem dX9_put_8 : decode cX9_put 8 = .ok (.if_icmp .ne 18, 3) := by decide +kernel
theorem dX9_put_11 : decode cX9_put 11 = .ok (.aload_n 0, 1) := by decide +kernel
theorem dX9_put_12 : decode cX9_put 12 = .ok (.aload_n 1, 1) := by decide +kernel
theorem dX9_put_13 : decode cX9_put 13 = .ok (.iload_n 2, 1) := by decide +kernel
theorem dX9_put_14 : decode cX9_put 14 = .ok (.invokevirtual 81, 3) := by decide +kernel
theorem dX9_put_17 : decode cX9_put 17 = .ok (.lload_n 3, 1) := by decide +kernel
theorem dX9_put_18 : decode cX9_put 18 = .ok (.ldc2_w 85, 3) := by decide +kernel
theorem dX9_put_21 : decode cX9_put 21 = .ok (.lxor, 1) := by decide +kernel
theorem dX9_put_22 : decode cX9_put 22 = .ok (.land, 1) := by decide +kernel
theorem dX9_put_23 : decode cX9_put 23 = .ok (.goto 4, 3) := by decide +kernel
theorem dX9_put_26 : decode cX9_put 26 = .ok (.lload_n 3, 1) := by decide +kernel
theorem dX9_put_27 : decode cX9_put 27 = .ok (.invokevirtual 87, 3) := by decide +kernel
theorem dX9_put_30 : decode cX9_put 30 = .ok (.return_, 1) := by decide +kernel
def F_X9_put_27 (t0 : Int64) (t1 : Int32) (ti3 : Fin 32) (s0 : ae_S) : Option (Unit × ae_S) := ae_bd (F_X9_lay ti3 t1 t0 s0) (fun (r1 : Unit) s2 => some ((), s2))
set_option maxHeartbeats 4000000 in
set_option maxRecDepth 100000 in
theorem t_X9_put_27 {l : Launch} {G : ae_G} (d : Nat) {rr : Unit} {ss : ae_S} (t0 : Int64) (t1 : Int32) (ti3 : Fin 32) (s0 : ae_S) (hF : F_X9_put_27 t0 t1 ti3 s0 = some (rr, ss)) : ae_T l G (d + 2) mX9_put (ae_Po none ss) 27 [] [ae_l t0, ae_i t1, ae_r (some (3, 0)), ae_r (some (8, ti3))] s0 := by
  unfold F_X9_put_27 at hF
  obtain ⟨r1, s2, hc3, hF4⟩ := ae_bdI hF
  refine ae_cV0 (q := (8, ti3)) (As := [ae_r (some (3, 0)), ae_i t1, ae_l t0]) dX9_put_27 ww_912 vy_X9_lay rfl rfl rfl rfl rfl (Nat.le_of_ble_eq_true rfl) (c_X9_lay d hc3) ?_
  obtain ⟨rfl, rfl⟩ := ae_retI hF4
  exact ae_vret dX9_put_30 rfl ⟨rfl, rfl⟩
def F_X9_put (i0 : Fin 32) (v2 : Int32) (v3 : Int64) (s0 : ae_S) : Option (Unit × ae_S) := if (s0.1 8 i0 9) = (2 : Int32) then (ae_bd (F_X9_bitsAt i0 v2 s0) (fun (r7 : Int64) s8 => F_X9_put_27 (r7 &&& (v3 ^^^ (-1 : Int64))) v2 i0 s8)) else (F_X9_put_27 v3 v2 i0 s0)
set_option maxHeartbeats 4000000 in
set_option maxRecDepth 100000 in
theorem c_X9_put {l : Launch} {G : ae_G} (d : Nat) {i0 : Fin 32} {v2 : Int32} {v3 : Int64} {s0 ss : ae_S} {rr : Unit} (hF : F_X9_put i0 v2 v3 s0 = some (rr, ss)) : ae_Met l G (d + 2) yX9_put mX9_put [ae_r (some (8, i0)), ae_r (some (3, 0)), ae_i v2, ae_l v3] s0 (ae_Po none ss) := by
  refine ae_enter (by decide) rfl (Nat.le_of_ble_eq_true rfl) ?_
  show ae_T l G (d + 2) mX9_put (ae_Po none ss) 0 [(0, ae_r (some (8, i0))), (1, ae_r (some (3, 0))), (2, ae_i v2), (3, ae_l v3)] [] s0
  unfold F_X9_put at hF
  refine ae_aload_n 0 dX9_put_0 rfl ?_
  refine ae_aload_n 1 dX9_put_1 rfl ?_
  refine ae_iload_n 2 dX9_put_2 rfl ?_
  refine ae_aload_n 0 dX9_put_3 rfl ?_
  refine ae_getI (q := (8, i0)) dX9_put_4 fl_RX9_49 rfl rfl ?_
  refine ae_iconst (2 : Int32) dX9_put_7 (by decide) ?_
  refine ae_icmp_ne 26 dX9_put_8 rfl (fun hb5 => ?_) (fun hb5 => ?_)
  · have hF6 := ae_ifF hb5 hF
    refine ae_lload_n 3 dX9_put_26 rfl ?_
    refine ae_pick (lv' := []) [] rfl ?_
    exact t_X9_put_27 d v3 v2 i0 s0 hF6
  · have hF6 := ae_ifT hb5 hF
    refine ae_aload_n 0 dX9_put_11 rfl ?_
    refine ae_aload_n 1 dX9_put_12 rfl ?_
    refine ae_iload_n 2 dX9_put_13 rfl ?_
    obtain ⟨r7, s8, hc9, hF10⟩ := ae_bdI hF6
    refine ae_cV1 (q := (8, i0)) (As := [ae_r (some (3, 0)), ae_i v2]) dX9_put_14 ww_953 vy_X9_bitsAt rfl rfl rfl rfl rfl (Nat.le_of_ble_eq_true rfl) (c_X9_bitsAt d hc9) ?_
    refine ae_lload_n 3 dX9_put_17 rfl ?_
    refine ae_ldc2 dX9_put_18 ww_954 ?_
    refine ae_lxor dX9_put_21 ?_
    refine ae_land dX9_put_22 ?_
    refine ae_goto 27 dX9_put_23 rfl ?_
    refine ae_pick (lv' := []) [] rfl ?_
    exact t_X9_put_27 d (r7 &&& (v3 ^^^ (-1 : Int64))) v2 i0 s8 hF10
abbrev mX9_withField : ae_M := (RX9, cX9_withField, 8, some .long)
theorem vy_X9_withField : ae_VY yX9_withField mX9_withField 3 := ⟨ww_956, ww_957, ww_5, ww_958, ⟨by decide, by decide, by decide +kernel⟩, by decide⟩
theorem dX9_withField_0 : decode cX9_withField 0 = .ok (.aload_n 0, 1) := by decide +kernel
theorem dX9_withField_1 : decode cX9_withField 1 = .ok (.iload_n 1, 1) := by decide +kernel
theorem dX9_withField_2 : decode cX9_withField 2 = .ok (.invokevirtual 139, 3) := by decide +kernel
theorem dX9_withField_5 : decode cX9_withField 5 = .ok (.ifCond .ne 5, 3) := by decide +kernel
theorem dX9_withField_8 : decode cX9_withField 8 = .ok (.lload_n 2, 1) := by decide +kernel
theorem dX9_withField_9 : decode cX9_withField 9 = .ok (.lreturn, 1) := by decide +kernel
theorem dX9_withField_10 : decode cX9_withField 10 = .ok (.aload_n 0, 1) := by decide +kernel
theorem dX9_withField_11 : decode cX9_withField 11 = .ok (.iload_n 1, 1) := by decide +kernel
theorem dX9_withField_12 : decode cX9_withField 12 = .ok (.invokevirtual 142, 3) := by decide +kernel
theorem dX9_withField_15 : decode cX9_withField 15 = .ok (.lstore 6, 2) := by decide +kernel
theorem dX9_withField_17 : decode cX9_withField 17 = .ok (.lload_n 2, 1) := by decide +kernel
theorem dX9_withField_18 : decode cX9_withField 18 = .ok (.lload 6, 2) := by decide +kernel
theorem dX9_withField_20 : decode cX9_withField 20 = .ok (.aload_n 0, 1) := by decide +kernel
theorem dX9_withField_21 : decode cX9_withField 21 = .ok (.getfield 15, 3) := by decide +kernel
theorem dX9_withField_24 : decode cX9_withField 24 = .ok (.iload_n 1, 1) := by decide +kernel
theorem dX9_withField_25 : decode cX9_withField 25 = .ok (.iaload, 1) := by decide +kernel
theorem dX9_withField_26 : decode cX9_withField 26 = .ok (.lshl, 1) := by decide +kernel
theorem dX9_withField_27 : decode cX9_withField 27 = .ok (.ldc2_w 85, 3) := by decide +kernel
theorem dX9_withField_30 : decode cX9_withField 30 = .ok (.lxor, 1) := by decide +kernel
theorem dX9_withField_31 : decode cX9_withField 31 = .ok (.land, 1) := by decide +kernel
theorem dX9_withField_32 : decode cX9_withField 32 = .ok (.lload 4, 2) := by decide +kernel
theorem dX9_withField_34 : decode cX9_withField 34 = .ok (.lload 6, 2) := by decide +kernel
theorem dX9_withField_36 : decode cX9_withField 36 = .ok (.land, 1) := by decide +kernel
theorem dX9_withField_37 : decode cX9_withField 37 = .ok (.aload_n 0, 1) := by decide +kernel
theorem dX9_withField_38 : decode cX9_withField 38 = .ok (.getfield 15, 3) := by decide +kernel
theorem dX9_withField_41 : decode cX9_withField 41 = .ok (.iload_n 1, 1) := by decide +kernel
theorem dX9_withField_42 : decode cX9_withField 42 = .ok (.iaload, 1) := by decide +kernel
theorem dX9_withField_43 : decode cX9_withField 43 = .ok (.lshl, 1) := by decide +kernel
theorem dX9_withField_44 : decode cX9_withField 44 = .ok (.lor, 1) := by decide +kernel
theorem dX9_withField_45 : decode cX9_withField 45 = .ok (.lreturn, 1) := by decide +kernel
def F_X9_withField (i0 : Fin 32) (v1 : Int32) (v2 : Int64) (v4 : Int64) (s0 : ae_S) : Option (Int64 × ae_S) := ae_bd (F_X9_hasField i0 v1 s0) (fun (r1 : Int32) s2 => if r1 = 0 then (some (v2, s2)) else (ae_bd (F_X9_maskOf i0 v1 s2) (fun (r7 : Int64) s8 => ae_gd (ae_ib v1 8) (ae_gd (ae_ib v1 8) (some ((v2 &&& ((r7 <<< ((s8.1 10 i0 v1.toNatClampNeg).toInt64 &&& 63)) ^^^ (-1 : Int64))) ||| ((v4 &&& r7) <<< ((s8.1 10 i0 v1.toNatClampNeg).toInt64 &&& 63)), s8))))))
set_option maxHeartbeats 4000000 in
set_option maxRecDepth 100000 in
theorem c_X9_withField {l : Launch} {G : ae_G} (d : Nat) {i0 : Fin 32} {v1 : Int32} {v2 : Int64} {v4 : Int64} {s0 ss : ae_S} {rr : Int64} (hF : F_X9_withField i0 v1 v2 v4 s0 = some (rr, ss)) : ae_Met l G (d + 1) yX9_withField mX9_withField [ae_r (some (8, i0)), ae_i v1, ae_l v2, ae_l v4] s0 (ae_Po (some (ae_l rr)) ss) := by
  refine ae_enter (by decide) rfl (Nat.le_of_ble_eq_true rfl) ?_
  show ae_T l G (d + 1) mX9_withField (ae_Po (some (ae_l rr)) ss) 0 [(0, ae_r (some (8, i0))), (1, ae_i v1), (2, ae_l v2), (4, ae_l v4)] [] s0
  unfold F_X9_withField at hF
  refine ae_aload_n 0 dX9_withField_0 rfl ?_
  refine ae_iload_n 1 dX9_withField_1 rfl ?_
  obtain ⟨r1, s2, hc3, hF4⟩ := ae_bdI hF
  refine ae_cV1 (q := (8, i0)) (As := [ae_i v1]) dX9_withField_2 ww_900 vy_X9_hasField rfl rfl rfl rfl rfl (Nat.le_of_ble_eq_true rfl) (c_X9_hasField d hc3) ?_
  refine ae_if_ne 10 dX9_withField_5 rfl (fun hb5 => ?_) (fun hb5 => ?_)
  · have hF6 := ae_ifF hb5 hF4
    refine ae_aload_n 0 dX9_withField_10 rfl ?_
    refine ae_iload_n 1 dX9_withField_11 rfl ?_
    obtain ⟨r7, s8, hc9, hF10⟩ := ae_bdI hF6
    refine ae_cV1 (q := (8, i0)) (As := [ae_i v1]) dX9_withField_12 ww_904 vy_X9_maskOf rfl rfl rfl rfl rfl (Nat.le_of_ble_eq_true rfl) (c_X9_maskOf d hc9) ?_
    refine ae_lstore (lv' := [(6, ae_l r7), (0, ae_r (some (8, i0))), (1, ae_i v1), (2, ae_l v2), (4, ae_l v4)]) dX9_withField_15 (by decide) rfl ?_
    refine ae_lload_n 3 dX9_withField_17 rfl ?_
    refine ae_lload 0 dX9_withField_18 rfl ?_
    refine ae_aload_n 1 dX9_withField_20 rfl ?_
    refine ae_getA (q := (8, i0)) (some (10, i0)) dX9_withField_21 fl_RX9_15 rfl rfl rfl ?_
    refine ae_iload_n 2 dX9_withField_24 rfl ?_
    obtain ⟨hg11, hF12⟩ := ae_gdI hF10
    refine ae_iald (q := (10, i0)) dX9_withField_25 rfl rfl (ae_ibI hg11) ?_
    refine ae_lshl dX9_withField_26 ?_
    refine ae_ldc2 dX9_withField_27 ww_954 ?_
    refine ae_lxor dX9_withField_30 ?_
    refine ae_land dX9_withField_31 ?_
    refine ae_lload 4 dX9_withField_32 rfl ?_
    refine ae_lload 0 dX9_withField_34 rfl ?_
    refine ae_land dX9_withField_36 ?_
    refine ae_aload_n 1 dX9_withField_37 rfl ?_
    refine ae_getA (q := (8, i0)) (some (10, i0)) dX9_withField_38 fl_RX9_15 rfl rfl rfl ?_
    refine ae_iload_n 2 dX9_withField_41 rfl ?_
    obtain ⟨hg13, hF14⟩ := ae_gdI hF12
    refine ae_iald (q := (10, i0)) dX9_withField_42 rfl rfl (ae_ibI hg13) ?_
    refine ae_lshl dX9_withField_43 ?_
    refine ae_lor dX9_withField_44 ?_
    obtain ⟨rfl, rfl⟩ := ae_retI hF14
    exact ae_lret dX9_withField_45 rfl ⟨rfl, rfl⟩
  · have hF6 := ae_ifT hb5 hF4
    refine ae_lload_n 2 dX9_withField_8 rfl ?_
    obtain ⟨rfl, rfl⟩ := ae_retI hF6
    exact ae_lret dX9_withField_9 rfl ⟨rfl, rfl⟩
abbrev mX9_told : ae_M := (RX9, cX9_told, 2, some .int)
theorem vy_X9_told : ae_VY yX9_told mX9_told 1 := ⟨ww_1059, ww_1060, ww_5, ww_1061, ⟨by decide, by decide, by decide +kernel⟩, by decide⟩
theorem dX9_told_0 : decode cX9_told 0 = .ok (.iload_n 1, 1) := by decide +kernel
theorem dX9_told_1 : decode cX9_told 1 = .ok (.tableswitch 89 0 6 #[43, 51, 64, 69, 74, 79, 84], 43) := by decide +kernel
theorem dX9_told_44 : decode cX9_told 44 = .ok (.aload_n 0, 1) := by decide +kernel
theorem dX9_told_45 : decode cX9_told 45 = .ok (.getfield 28, 3) := by decide +kernel
theorem dX9_told_48 : decode cX9_told 48 = .ok (.getfield 55, 3) := by decide +kernel
theorem dX9_told_51 : decode cX9_told 51 = .ok (.ireturn, 1) := by decide +kernel
theorem dX9_told_52 : decode cX9_told 52 = .ok (.aload_n 0, 1) := by decide +kernel
theorem dX9_told_53 : decode cX9_told 53 = .ok (.getfield 35, 3) := by decide +kernel
theorem dX9_told_56 : decode cX9_told 56 = .ok (.ifCond .eq 7, 3) := by decide +kernel
theorem dX9_told_59 : decode cX9_told 59 = .ok (.iconst 1, 1) := by decide +kernel
theorem dX9_told_60 : decode cX9_told 60 = .ok (.goto 4, 3) := by decide +kernel
theorem dX9_told_63 : decode cX9_told 63 = .ok (.iconst 0, 1) := by decide +kernel
theorem dX9_told_64 : decode cX9_told 64 = .ok (.ireturn, 1) := by decide +kernel
theorem dX9_told_65 : decode cX9_told 65 = .ok (.aload_n 0, 1) := by decide +kernel
theorem dX9_told_66 : decode cX9_told 66 = .ok (.getfield 39, 3) := by decide +kernel
theorem dX9_told_69 : decode cX9_told 69 = .ok (.ireturn, 1) := by decide +kernel
theorem dX9_told_70 : decode cX9_told 70 = .ok (.aload_n 0, 1) := by decide +kernel
theorem dX9_told_71 : decode cX9_told 71 = .ok (.getfield 43, 3) := by decide +kernel
theorem dX9_told_74 : decode cX9_told 74 = .ok (.ireturn, 1) := by decide +kernel
theorem dX9_told_75 : decode cX9_told 75 = .ok (.aload_n 0, 1) := by decide +kernel
theorem dX9_told_76 : decode cX9_told 76 = .ok (.getfield 46, 3) := by decide +kernel
theorem dX9_told_79 : decode cX9_told 79 = .ok (.ireturn, 1) := by decide +kernel
theorem dX9_told_80 : decode cX9_told 80 = .ok (.aload_n 0, 1) := by decide +kernel
theorem dX9_told_81 : decode cX9_told 81 = .ok (.getfield 49, 3) := by decide +kernel
theorem dX9_told_84 : decode cX9_told 84 = .ok (.ireturn, 1) := by decide +kernel
theorem dX9_told_85 : decode cX9_told 85 = .ok (.aload_n 0, 1) := by decide +kernel
theorem dX9_told_86 : decode cX9_told 86 = .ok (.getfield 52, 3) := by decide +kernel
theorem dX9_told_89 : decode cX9_told 89 = .ok (.ireturn, 1) := by decide +kernel
theorem dX9_told_90 : decode cX9_told 90 = .ok (.iconst (-1), 1) := by decide +kernel
theorem dX9_told_91 : decode cX9_told 91 = .ok (.ireturn, 1) := by decide +kernel
def F_X9_told_64 (t0 : Int32) (s0 : ae_S) : Option (Int32 × ae_S) := some (t0, s0)
set_option maxHeartbeats 4000000 in
set_option maxRecDepth 100000 in
theorem t_X9_told_64 {l : Launch} {G : ae_G} (d : Nat) {rr : Int32} {ss : ae_S} (t0 : Int32) (s0 : ae_S) (hF : F_X9_told_64 t0 s0 = some (rr, ss)) : ae_T l G d mX9_told (ae_Po (some (ae_i rr)) ss) 64 [] [ae_i t0] s0 := by
  unfold F_X9_told_64 at hF
  obtain ⟨rfl, rfl⟩ := ae_retI hF
  exact ae_iret dX9_told_64 rfl rfl ⟨rfl, rfl⟩
def F_X9_told (i0 : Fin 32) (v1 : Int32) (s0 : ae_S) : Option (Int32 × ae_S) := if v1 = (0 : Int32) then (ae_mo (ae_gk (s0.2.2.2 8 i0 4) 60) none (fun j3 => ae_gd (decide ((j3 : Fin 32).val < 9)) (some (ae_kNum j3, s0)))) else (if v1 = (1 : Int32) then (if (s0.1 8 i0 5) = 0 then (F_X9_told_64 (0 : Int32) s0) else (F_X9_told_64 (1 : Int32) s0)) else (if v1 = (2 : Int32) then (some (s0.1 8 i0 6, s0)) else (if v1 = (3 : Int32) then (some (s0.1 8 i0 7, s0)) else (if v1 = (4 : Int32) then (some (s0.1 8 i0 8, s0)) else (if v1 = (5 : Int32) then (some (s0.1 8 i0 9, s0)) else (if v1 = (6 : Int32) then (some (s0.1 8 i0 10, s0)) else (some ((-1 : Int32), s0))))))))
set_option maxHeartbeats 4000000 in
set_option maxRecDepth 100000 in
theorem c_X9_told {l : Launch} {G : ae_G} (d : Nat) {i0 : Fin 32} {v1 : Int32} {s0 ss : ae_S} {rr : Int32} (hF : F_X9_told i0 v1 s0 = some (rr, ss)) : ae_Met l G d yX9_told mX9_told [ae_r (some (8, i0)), ae_i v1] s0 (ae_Po (some (ae_i rr)) ss) := by
  refine ae_enter (by decide) rfl (Nat.le_of_ble_eq_true rfl) ?_
  show ae_T l G d mX9_told (ae_Po (some (ae_i rr)) ss) 0 [(0, ae_r (some (8, i0))), (1, ae_i v1)] [] s0
  unfold F_X9_told at hF
  refine ae_iload_n 1 dX9_told_0 rfl ?_
  by_cases hb1 : v1 = (0 : Int32)
  · have hF2 := ae_ifT hb1 hF
    refine ae_tabIn 44 dX9_told_1 (by rw [hb1]; decide) (by rw [hb1]; decide) (by rw [hb1]; rfl) rfl ?_
    refine ae_aload_n 0 dX9_told_44 rfl ?_
    obtain ⟨j3, hj3, hF4⟩ := ae_moK hF2
    refine ae_getO (q := (8, i0)) (some (60, j3)) dX9_told_45 fl_RX9_28 rfl rfl hj3 ?_
    obtain ⟨hg5, hF6⟩ := ae_gdI hF4
    refine ae_getK (i := j3) dX9_told_48 (List.mem_of_getElem? (i := 0) rfl) ww_1949 hg5 (ae_nmI (y := ae_kNum j3) rfl ?_)
    obtain ⟨rfl, rfl⟩ := ae_retI hF6
    exact ae_iret dX9_told_51 rfl rfl ⟨rfl, rfl⟩
  · have hF7 := ae_ifF hb1 hF
    by_cases hb8 : v1 = (1 : Int32)
    · have hF9 := ae_ifT hb8 hF7
      refine ae_tabIn 52 dX9_told_1 (by rw [hb8]; decide) (by rw [hb8]; decide) (by rw [hb8]; rfl) rfl ?_
      refine ae_aload_n 0 dX9_told_52 rfl ?_
      refine ae_getZ (q := (8, i0)) dX9_told_53 fl_RX9_35 rfl rfl ?_
      refine ae_if_eq 63 dX9_told_56 rfl (fun hb10 => ?_) (fun hb10 => ?_)
      · have hF11 := ae_ifT hb10 hF9
        refine ae_iconst (0 : Int32) dX9_told_63 (by decide) ?_
        refine ae_pick (lv' := []) [] rfl ?_
        exact t_X9_told_64 d (0 : Int32) s0 hF11
      · have hF11 := ae_ifF hb10 hF9
        refine ae_iconst (1 : Int32) dX9_told_59 (by decide) ?_
        refine ae_goto 64 dX9_told_60 rfl ?_
        refine ae_pick (lv' := []) [] rfl ?_
        exact t_X9_told_64 d (1 : Int32) s0 hF11
    · have hF12 := ae_ifF hb8 hF7
      by_cases hb13 : v1 = (2 : Int32)
      · have hF14 := ae_ifT hb13 hF12
        refine ae_tabIn 65 dX9_told_1 (by rw [hb13]; decide) (by rw [hb13]; decide) (by rw [hb13]; rfl) rfl ?_
        refine ae_aload_n 0 dX9_told_65 rfl ?_
        refine ae_getI (q := (8, i0)) dX9_told_66 fl_RX9_39 rfl rfl ?_
        obtain ⟨rfl, rfl⟩ := ae_retI hF14
        exact ae_iret dX9_told_69 rfl rfl ⟨rfl, rfl⟩
      · have hF15 := ae_ifF hb13 hF12
        by_cases hb16 : v1 = (3 : Int32)
        · have hF17 := ae_ifT hb16 hF15
          refine ae_tabIn 70 dX9_told_1 (by rw [hb16]; decide) (by rw [hb16]; decide) (by rw [hb16]; rfl) rfl ?_
          refine ae_aload_n 0 dX9_told_70 rfl ?_
          refine ae_getI (q := (8, i0)) dX9_told_71 fl_RX9_43 rfl rfl ?_
          obtain ⟨rfl, rfl⟩ := ae_retI hF17
          exact ae_iret dX9_told_74 rfl rfl ⟨rfl, rfl⟩
        · have hF18 := ae_ifF hb16 hF15
          by_cases hb19 : v1 = (4 : Int32)
          · have hF20 := ae_ifT hb19 hF18
            refine ae_tabIn 75 dX9_told_1 (by rw [hb19]; decide) (by rw [hb19]; decide) (by rw [hb19]; rfl) rfl ?_
            refine ae_aload_n 0 dX9_told_75 rfl ?_
            refine ae_getI (q := (8, i0)) dX9_told_76 fl_RX9_46 rfl rfl ?_
            obtain ⟨rfl, rfl⟩ := ae_retI hF20
            exact ae_iret dX9_told_79 rfl rfl ⟨rfl, rfl⟩
          · have hF21 := ae_ifF hb19 hF18
            by_cases hb22 : v1 = (5 : Int32)
            · have hF23 := ae_ifT hb22 hF21
              refine ae_tabIn 80 dX9_told_1 (by rw [hb22]; decide) (by rw [hb22]; decide) (by rw [hb22]; rfl) rfl ?_
              refine ae_aload_n 0 dX9_told_80 rfl ?_
              refine ae_getI (q := (8, i0)) dX9_told_81 fl_RX9_49 rfl rfl ?_
              obtain ⟨rfl, rfl⟩ := ae_retI hF23
              exact ae_iret dX9_told_84 rfl rfl ⟨rfl, rfl⟩
            · have hF24 := ae_ifF hb22 hF21
              by_cases hb25 : v1 = (6 : Int32)
              · have hF26 := ae_ifT hb25 hF24
                refine ae_tabIn 85 dX9_told_1 (by rw [hb25]; decide) (by rw [hb25]; decide) (by rw [hb25]; rfl) rfl ?_
                refine ae_aload_n 0 dX9_told_85 rfl ?_
                refine ae_getI (q := (8, i0)) dX9_told_86 fl_RX9_52 rfl rfl ?_
                obtain ⟨rfl, rfl⟩ := ae_retI hF26
                exact ae_iret dX9_told_89 rfl rfl ⟨rfl, rfl⟩
              · have hF27 := ae_ifF hb25 hF24
                have hn28 : ¬ (v1).toInt = 0 := lv_neT hb1 (by decide)
                have hn29 : ¬ (v1).toInt = 1 := lv_neT hb8 (by decide)
                have hn30 : ¬ (v1).toInt = 2 := lv_neT hb13 (by decide)
                have hn31 : ¬ (v1).toInt = 3 := lv_neT hb16 (by decide)
                have hn32 : ¬ (v1).toInt = 4 := lv_neT hb19 (by decide)
                have hn33 : ¬ (v1).toInt = 5 := lv_neT hb22 (by decide)
                have hn34 : ¬ (v1).toInt = 6 := lv_neT hb25 (by decide)
                refine ae_tabOut 90 dX9_told_1 (by omega) rfl ?_
                refine ae_iconst (-1 : Int32) dX9_told_90 (by decide) ?_
                obtain ⟨rfl, rfl⟩ := ae_retI hF27
                exact ae_iret dX9_told_91 rfl rfl ⟨rfl, rfl⟩
abbrev mX9_answerOf : ae_M := (RX9, cX9_answerOf, 5, some .long)
theorem vy_X9_answerOf : ae_VY yX9_answerOf mX9_answerOf 1 := ⟨ww_1079, ww_1080, ww_5, ww_1081, ⟨by decide, by decide, by decide +kernel⟩, by decide⟩
theorem dX9_answerOf_0 : decode cX9_answerOf 0 = .ok (.aload_n 0, 1) := by decide +kernel
theorem dX9_answerOf_1 : decode cX9_answerOf 1 = .ok (.lload_n 1, 1) := by decide +kernel
theorem dX9_answerOf_2 : decode cX9_answerOf 2 = .ok (.invokevirtual 91, 3) := by decide +kernel
theorem dX9_answerOf_5 : decode cX9_answerOf 5 = .ok (.lstore_n 3, 1) := by decide +kernel
theorem dX9_answerOf_6 : decode cX9_answerOf 6 = .ok (.aload_n 0, 1) := by decide +kernel
theorem dX9_answerOf_7 : decode cX9_answerOf 7 = .ok (.getfield 28, 3) := by decide +kernel
theorem dX9_answerOf_10 : decode cX9_answerOf 10 = .ok (.getfield 98, 3) := by decide +kernel
theorem dX9_answerOf_13 : decode cX9_answerOf 13 = .ok (.ifCond .eq 23, 3) := by decide +kernel
theorem dX9_answerOf_16 : decode cX9_answerOf 16 = .ok (.aload_n 0, 1) := by decide +kernel
theorem dX9_answerOf_17 : decode cX9_answerOf 17 = .ok (.getfield 28, 3) := by decide +kernel
theorem dX9_answerOf_20 : decode cX9_answerOf 20 = .ok (.getfield 58, 3) := by decide +kernel
theorem dX9_answerOf_23 : decode cX9_answerOf 23 = .ok (.iconst 4, 1) := by decide +kernel
theorem dX9_answerOf_24 : decode cX9_answerOf 24 = .ok (.if_icmp .ne 12, 3) := by decide +kernel
theorem dX9_answerOf_27 : decode cX9_answerOf 27 = .ok (.lload_n 3, 1) := by decide +kernel
theorem dX9_answerOf_28 : decode cX9_answerOf 28 = .ok (.invokestatic 117, 3) := by decide +kernel
theorem dX9_answerOf_31 : decode cX9_answerOf 31 = .ok (.l2i, 1) := by decide +kernel
theorem dX9_answerOf_32 : decode cX9_answerOf 32 = .ok (.i2l, 1) := by decide +kernel
theorem dX9_answerOf_33 : decode cX9_answerOf 33 = .ok (.goto 4, 3) := by decide +kernel
theorem dX9_answerOf_36 : decode cX9_answerOf 36 = .ok (.lload_n 3, 1) := by decide +kernel
theorem dX9_answerOf_37 : decode cX9_answerOf 37 = .ok (.lreturn, 1) := by decide +kernel
def F_X9_answerOf_37 (t0 : Int64) (s0 : ae_S) : Option (Int64 × ae_S) := some (t0, s0)
set_option maxHeartbeats 4000000 in
set_option maxRecDepth 100000 in
theorem t_X9_answerOf_37 {l : Launch} {G : ae_G} (d : Nat) {rr : Int64} {ss : ae_S} (t0 : Int64) (s0 : ae_S) (hF : F_X9_answerOf_37 t0 s0 = some (rr, ss)) : ae_T l G (d + 5) mX9_answerOf (ae_Po (some (ae_l rr)) ss) 37 [] [ae_l t0] s0 := by
  unfold F_X9_answerOf_37 at hF
  obtain ⟨rfl, rfl⟩ := ae_retI hF
  exact ae_lret dX9_answerOf_37 rfl ⟨rfl, rfl⟩
def F_X9_answerOf_36 (v3 : Int64) (s0 : ae_S) : Option (Int64 × ae_S) := F_X9_answerOf_37 v3 s0
set_option maxHeartbeats 4000000 in
set_option maxRecDepth 100000 in
theorem t_X9_answerOf_36 {l : Launch} {G : ae_G} (d : Nat) {rr : Int64} {ss : ae_S} (v3 : Int64) (s0 : ae_S) (hF : F_X9_answerOf_36 v3 s0 = some (rr, ss)) : ae_T l G (d + 5) mX9_answerOf (ae_Po (some (ae_l rr)) ss) 36 [(3, ae_l v3)] [] s0 := by
  unfold F_X9_answerOf_36 at hF
  refine ae_lload_n 0 dX9_answerOf_36 rfl ?_
  refine ae_pick (lv' := []) [] rfl ?_
  exact t_X9_answerOf_37 d v3 s0 hF
def F_X9_answerOf (i0 : Fin 32) (v1 : Int64) (s0 : ae_S) : Option (Int64 × ae_S) := ae_bd (F_X9_valueOf i0 v1 s0) (fun (r1 : Int64) s2 => ae_mo (ae_gk (s2.2.2.2 8 i0 4) 60) none (fun j5 => ae_gd (decide ((j5 : Fin 32).val < 9)) (if (ae_kFlo j5) = 0 then (F_X9_answerOf_36 r1 s2) else (ae_mo (ae_gk (s2.2.2.2 8 i0 4) 60) none (fun j11 => ae_gd (decide ((j11 : Fin 32).val < 9)) (if (ae_kByt j11) = (4 : Int32) then (ae_bd (F_X2_narrowed r1 s2) (fun (r17 : Int64) s18 => F_X9_answerOf_37 r17.toInt32.toInt64 s18)) else (F_X9_answerOf_36 r1 s2)))))))
set_option maxHeartbeats 4000000 in
set_option maxRecDepth 100000 in
theorem c_X9_answerOf {l : Launch} {G : ae_G} (d : Nat) {i0 : Fin 32} {v1 : Int64} {s0 ss : ae_S} {rr : Int64} (hF : F_X9_answerOf i0 v1 s0 = some (rr, ss)) : ae_Met l G (d + 5) yX9_answerOf mX9_answerOf [ae_r (some (8, i0)), ae_l v1] s0 (ae_Po (some (ae_l rr)) ss) := by
  refine ae_enter (by decide) rfl (Nat.le_of_ble_eq_true rfl) ?_
  show ae_T l G (d + 5) mX9_answerOf (ae_Po (some (ae_l rr)) ss) 0 [(0, ae_r (some (8, i0))), (1, ae_l v1)] [] s0
  unfold F_X9_answerOf at hF
  refine ae_aload_n 0 dX9_answerOf_0 rfl ?_
  refine ae_lload_n 1 dX9_answerOf_1 rfl ?_
  obtain ⟨r1, s2, hc3, hF4⟩ := ae_bdI hF
  refine ae_cV1 (q := (8, i0)) (As := [ae_l v1]) dX9_answerOf_2 ww_1082 vy_X9_valueOf rfl rfl rfl rfl rfl (Nat.le_of_ble_eq_true rfl) (c_X9_valueOf d hc3) ?_
  refine ae_lstore_n (lv' := [(3, ae_l r1), (0, ae_r (some (8, i0))), (1, ae_l v1)]) dX9_answerOf_5 (by decide) rfl ?_
  refine ae_aload_n 1 dX9_answerOf_6 rfl ?_
  obtain ⟨j5, hj5, hF6⟩ := ae_moK hF4
  refine ae_getO (q := (8, i0)) (some (60, j5)) dX9_answerOf_7 fl_RX9_28 rfl rfl hj5 ?_
  obtain ⟨hg7, hF8⟩ := ae_gdI hF6
  refine ae_getK (i := j5) dX9_answerOf_10 (List.mem_of_getElem? (i := 3) rfl) ww_1946 hg7 (ae_nmI (y := ae_kFlo j5) rfl ?_)
  refine ae_if_eq 36 dX9_answerOf_13 rfl (fun hb9 => ?_) (fun hb9 => ?_)
  · have hF10 := ae_ifT hb9 hF8
    refine ae_pick (lv' := [(3, ae_l r1)]) [0] rfl ?_
    exact t_X9_answerOf_36 d r1 s2 hF10
  · have hF10 := ae_ifF hb9 hF8
    refine ae_aload_n 1 dX9_answerOf_16 rfl ?_
    obtain ⟨j11, hj11, hF12⟩ := ae_moK hF10
    refine ae_getO (q := (8, i0)) (some (60, j11)) dX9_answerOf_17 fl_RX9_28 rfl rfl hj11 ?_
    obtain ⟨hg13, hF14⟩ := ae_gdI hF12
    refine ae_getK (i := j11) dX9_answerOf_20 (List.mem_of_getElem? (i := 1) rfl) ww_1944 hg13 (ae_nmI (y := ae_kByt j11) rfl ?_)
    refine ae_iconst (4 : Int32) dX9_answerOf_23 (by decide) ?_
    refine ae_icmp_ne 36 dX9_answerOf_24 rfl (fun hb15 => ?_) (fun hb15 => ?_)
    · have hF16 := ae_ifF hb15 hF14
      refine ae_pick (lv' := [(3, ae_l r1)]) [0] rfl ?_
      exact t_X9_answerOf_36 d r1 s2 hF16
    · have hF16 := ae_ifT hb15 hF14
      refine ae_lload_n 0 dX9_answerOf_27 rfl ?_
      obtain ⟨r17, s18, hc19, hF20⟩ := ae_bdI hF16
      refine ae_cS1 (As := [ae_l r1]) dX9_answerOf_28 ww_936 vy_X2_narrowed rfl rfl (Nat.le_of_ble_eq_true rfl) (c_X2_narrowed (d + 1) hc19) ?_
      refine ae_l2i dX9_answerOf_31 ?_
      refine ae_i2l dX9_answerOf_32 ?_
      refine ae_goto 37 dX9_answerOf_33 rfl ?_
      refine ae_pick (lv' := []) [] rfl ?_
      exact t_X9_answerOf_37 d r17.toInt32.toInt64 s18 hF20
abbrev mX9_differsAt : ae_M := (RX9, cX9_differsAt, 4, some .boolean)
theorem vy_X9_differsAt : ae_VY yX9_differsAt mX9_differsAt 2 := ⟨ww_1134, ww_1135, ww_5, ww_1136, ⟨by decide, by decide, by decide +kernel⟩, by decide⟩
theorem dX9_differsAt_0 : decode cX9_differsAt 0 = .ok (.iconst 0, 1) := by decide +kernel
theorem dX9_differsAt_1 : decode cX9_differsAt 1 = .ok (.istore_n 3, 1) := by decide +kernel
theorem dX9_differsAt_2 : decode cX9_differsAt 2 = .ok (.iload_n 3, 1) := by decide +kernel
theorem dX9_differsAt_3 : decode cX9_differsAt 3 = .ok (.aload_n 0, 1) := by decide +kernel
theorem dX9_differsAt_4 : decode cX9_differsAt 4 = .ok (.getfield 28, 3) := by decide +kernel
theorem dX9_differsAt_7 : decode cX9_differsAt 7 = .ok (.getfield 58, 3) := by decide +kernel
theorem dX9_differsAt_10 : decode cX9_differsAt 10 = .ok (.if_icmp .ge 31, 3) := by decide +kernel
theorem dX9_differsAt_13 : decode cX9_differsAt 13 = .ok (.aload_n 1, 1) := by decide +kernel
theorem dX9_differsAt_14 : decode cX9_differsAt 14 = .ok (.aload_n 0, 1) := by decide +kernel
theorem dX9_differsAt_15 : decode cX9_differsAt 15 = .ok (.getfield 39, 3) := by decide +kernel
theorem dX9_differsAt_18 : decode cX9_differsAt 18 = .ok (.iload_n 2, 1) := by decide +kernel
theorem dX9_differsAt_19 : decode cX9_differsAt 19 = .ok (.aload_n 0, 1) := by decide +kernel
theorem dX9_differsAt_20 : decode cX9_differsAt 20 = .ok (.getfield 46, 3) := by decide +kernel
theorem dX9_differsAt_23 : decode cX9_differsAt 23 = .ok (.imul, 1) := by decide +kernel
theorem dX9_differsAt_24 : decode cX9_differsAt 24 = .ok (.iadd, 1) := by decide +kernel
theorem dX9_differsAt_25 : decode cX9_differsAt 25 = .ok (.iload_n 3, 1) := by decide +kernel
theorem dX9_differsAt_26 : decode cX9_differsAt 26 = .ok (.iadd, 1) := by decide +kernel
theorem dX9_differsAt_27 : decode cX9_differsAt 27 = .ok (.invokevirtual 67, 3) := by decide +kernel
theorem dX9_differsAt_30 : decode cX9_differsAt 30 = .ok (.ifCond .eq 5, 3) := by decide +kernel
theorem dX9_differsAt_33 : decode cX9_differsAt 33 = .ok (.iconst 1, 1) := by decide +kernel
theorem dX9_differsAt_34 : decode cX9_differsAt 34 = .ok (.ireturn, 1) := by decide +kernel
theorem dX9_differsAt_35 : decode cX9_differsAt 35 = .ok (.iinc 3 1, 3) := by decide +kernel
theorem dX9_differsAt_38 : decode cX9_differsAt 38 = .ok (.goto (-36), 3) := by decide +kernel
theorem dX9_differsAt_41 : decode cX9_differsAt 41 = .ok (.iconst 0, 1) := by decide +kernel
theorem dX9_differsAt_42 : decode cX9_differsAt 42 = .ok (.ireturn, 1) := by decide +kernel
def F_X9_differsAt_2 : Nat → Fin 32 → Int32 → Int32 → ae_S → Option (Int32 × ae_S)
  | 0, _, _, _, _ => none
  | n + 1, i0, v2, v3, s0 => ae_mo (ae_gk (s0.2.2.2 8 i0 4) 60) none (fun j1 => ae_gd (decide ((j1 : Fin 32).val < 9)) (if (ae_kByt j1) ≤ v3 then (some ((0 : Int32), s0)) else (ae_bd (F_X0_differs (((s0.1 8 i0 6) + (v2 * (s0.1 8 i0 8))) + v3) s0) (fun (r7 : Int32) s8 => if r7 = 0 then (ae_lt (v3 + (1 : Int32)) (fun x13 => F_X9_differsAt_2 n i0 v2 x13 s8)) else (some ((1 : Int32), s8))))))
set_option maxHeartbeats 4000000 in
set_option maxRecDepth 100000 in
theorem t_X9_differsAt_2 {l : Launch} {G : ae_G} (d : Nat) {rr : Int32} {ss : ae_S} : ∀ (n : Nat) (i0 : Fin 32) (v2 : Int32) (v3 : Int32) (s0 : ae_S), F_X9_differsAt_2 n i0 v2 v3 s0 = some (rr, ss) → ae_T l G (d + 1) mX9_differsAt (ae_Po (some (ae_i rr)) ss) 2 [(0, ae_r (some (8, i0))), (1, ae_r (some (3, 0))), (2, ae_i v2), (3, ae_i v3)] [] s0 := by
  intro n
  induction n with
  | zero =>
    intro i0 v2 v3 s0 hF
    exact absurd (show (none : Option (Int32 × ae_S)) = some (rr, ss) from hF) (by simp)
  | succ n ih =>
    intro i0 v2 v3 s0 hF
    unfold F_X9_differsAt_2 at hF
    refine ae_iload_n 3 dX9_differsAt_2 rfl ?_
    refine ae_aload_n 0 dX9_differsAt_3 rfl ?_
    obtain ⟨j1, hj1, hF2⟩ := ae_moK hF
    refine ae_getO (q := (8, i0)) (some (60, j1)) dX9_differsAt_4 fl_RX9_28 rfl rfl hj1 ?_
    obtain ⟨hg3, hF4⟩ := ae_gdI hF2
    refine ae_getK (i := j1) dX9_differsAt_7 (List.mem_of_getElem? (i := 1) rfl) ww_1944 hg3 (ae_nmI (y := ae_kByt j1) rfl ?_)
    refine ae_icmp_ge 41 dX9_differsAt_10 rfl (fun hb5 => ?_) (fun hb5 => ?_)
    · have hF6 := ae_ifT hb5 hF4
      refine ae_iconst (0 : Int32) dX9_differsAt_41 (by decide) ?_
      obtain ⟨rfl, rfl⟩ := ae_retI hF6
      exact ae_iret dX9_differsAt_42 rfl (by decide) ⟨rfl, rfl⟩
    · have hF6 := ae_ifF hb5 hF4
      refine ae_aload_n 1 dX9_differsAt_13 rfl ?_
      refine ae_aload_n 0 dX9_differsAt_14 rfl ?_
      refine ae_getI (q := (8, i0)) dX9_differsAt_15 fl_RX9_39 rfl rfl ?_
      refine ae_iload_n 2 dX9_differsAt_18 rfl ?_
      refine ae_aload_n 0 dX9_differsAt_19 rfl ?_
      refine ae_getI (q := (8, i0)) dX9_differsAt_20 fl_RX9_46 rfl rfl ?_
      refine ae_imul dX9_differsAt_23 ?_
      refine ae_iadd dX9_differsAt_24 ?_
      refine ae_iload_n 3 dX9_differsAt_25 rfl ?_
      refine ae_iadd dX9_differsAt_26 ?_
      obtain ⟨r7, s8, hc9, hF10⟩ := ae_bdI hF6
      refine ae_cV1 (q := (3, 0)) (As := [ae_i (((s0.1 8 i0 6) + (v2 * (s0.1 8 i0 8))) + v3)]) dX9_differsAt_27 ww_1137 vy_X0_differs rfl rfl rfl rfl rfl (Nat.le_of_ble_eq_true rfl) (c_X0_differs d hc9) ?_
      refine ae_if_eq 35 dX9_differsAt_30 rfl (fun hb11 => ?_) (fun hb11 => ?_)
      · have hF12 := ae_ifT hb11 hF10
        obtain ⟨x13, hx13, hF14⟩ := ae_ltI hF12
        refine ae_iinc (lv' := [(3, ae_i x13), (0, ae_r (some (8, i0))), (1, ae_r (some (3, 0))), (2, ae_i v2)]) 3 (1 : Int32) dX9_differsAt_35 rfl (by decide) (by decide) (by rw [hx13]; rfl) ?_
        refine ae_goto 2 dX9_differsAt_38 rfl ?_
        refine ae_pick (lv' := [(0, ae_r (some (8, i0))), (1, ae_r (some (3, 0))), (2, ae_i v2), (3, ae_i x13)]) [1, 2, 3, 0] rfl ?_
        exact ih i0 v2 x13 s8 hF14
      · have hF12 := ae_ifF hb11 hF10
        refine ae_iconst (1 : Int32) dX9_differsAt_33 (by decide) ?_
        obtain ⟨rfl, rfl⟩ := ae_retI hF12
        exact ae_iret dX9_differsAt_34 rfl (by decide) ⟨rfl, rfl⟩
def F_X9_differsAt (i0 : Fin 32) (v2 : Int32) (s0 : ae_S) : Option (Int32 × ae_S) := F_X9_differsAt_2 ae_fu i0 v2 (0 : Int32) s0
set_option maxHeartbeats 4000000 in
set_option maxRecDepth 100000 in
theorem c_X9_differsAt {l : Launch} {G : ae_G} (d : Nat) {i0 : Fin 32} {v2 : Int32} {s0 ss : ae_S} {rr : Int32} (hF : F_X9_differsAt i0 v2 s0 = some (rr, ss)) : ae_Met l G (d + 1) yX9_differsAt mX9_differsAt [ae_r (some (8, i0)), ae_r (some (3, 0)), ae_i v2] s0 (ae_Po (some (ae_i rr)) ss) := by
  refine ae_enter (by decide) rfl (Nat.le_of_ble_eq_true rfl) ?_
  show ae_T l G (d + 1) mX9_differsAt (ae_Po (some (ae_i rr)) ss) 0 [(0, ae_r (some (8, i0))), (1, ae_r (some (3, 0))), (2, ae_i v2)] [] s0
  unfold F_X9_differsAt at hF
  refine ae_iconst (0 : Int32) dX9_differsAt_0 (by decide) ?_
  refine ae_istore_n (lv' := [(3, ae_i (0 : Int32)), (0, ae_r (some (8, i0))), (1, ae_r (some (3, 0))), (2, ae_i v2)]) dX9_differsAt_1 (by decide) rfl ?_
  refine ae_pick (lv' := [(0, ae_r (some (8, i0))), (1, ae_r (some (3, 0))), (2, ae_i v2), (3, ae_i (0 : Int32))]) [1, 2, 3, 0] rfl ?_
  exact t_X9_differsAt_2 d ae_fu i0 v2 (0 : Int32) s0 hF
abbrev mX9_covers : ae_M := (RX9, cX9_covers, 4, some .boolean)
theorem vy_X9_covers : ae_VY yX9_covers mX9_covers 1 := ⟨ww_1143, ww_1144, ww_5, ww_1145, ⟨by decide, by decide, by decide +kernel⟩, by decide⟩
theorem dX9_covers_0 : decode cX9_covers 0 = .ok (.iload_n 1, 1) := by decide +kernel
theorem dX9_covers_1 : decode cX9_covers 1 = .ok (.aload_n 0, 1) := by decide +kernel
theorem dX9_covers_2 : decode cX9_covers 2 = .ok (.getfield 39, 3) := by decide +kernel
theorem dX9_covers_5 : decode cX9_covers 5 = .ok (.isub, 1) := by decide +kernel
theorem dX9_covers_6 : decode cX9_covers 6 = .ok (.istore_n 2, 1) := by decide +kernel
theorem dX9_covers_7 : decode cX9_covers 7 = .ok (.iload_n 2, 1) := by decide +kernel
theorem dX9_covers_8 : decode cX9_covers 8 = .ok (.ifCond .lt 11, 3) := by decide +kernel
theorem dX9_covers_11 : decode cX9_covers 11 = .ok (.aload_n 0, 1) := by decide +kernel
theorem dX9_covers_12 : decode cX9_covers 12 = .ok (.getfield 46, 3) := by decide +kernel
theorem dX9_covers_15 : decode cX9_covers 15 = .ok (.iconst 1, 1) := by decide +kernel
theorem dX9_covers_16 : decode cX9_covers 16 = .ok (.if_icmp .ge 5, 3) := by decide +kernel
theorem dX9_covers_19 : decode cX9_covers 19 = .ok (.iconst 0, 1) := by decide +kernel
theorem dX9_covers_20 : decode cX9_covers 20 = .ok (.ireturn, 1) := by decide +kernel
theorem dX9_covers_21 : decode cX9_covers 21 = .ok (.iload_n 2, 1) := by decide +kernel
theorem dX9_covers_22 : decode cX9_covers 22 = .ok (.aload_n 0, 1) := by decide +kernel
theorem dX9_covers_23 : decode cX9_covers 23 = .ok (.getfield 46, 3) := by decide +kernel
theorem dX9_covers_26 : decode cX9_covers 26 = .ok (.idiv, 1) := by decide +kernel
theorem dX9_covers_27 : decode cX9_covers 27 = .ok (.aload_n 0, 1) := by decide +kernel
theorem dX9_covers_28 : decode cX9_covers 28 = .ok (.getfield 43, 3) := by decide +kernel
theorem dX9_covers_31 : decode cX9_covers 31 = .ok (.iconst 1, 1) := by decide +kernel
theorem dX9_covers_32 : decode cX9_covers 32 = .ok (.isub, 1) := by decide +kernel
theorem dX9_covers_33 : decode cX9_covers 33 = .ok (.invokestatic 61, 3) := by decide +kernel
theorem dX9_covers_36 : decode cX9_covers 36 = .ok (.istore_n 3, 1) := by decide +kernel
theorem dX9_covers_37 : decode cX9_covers 37 = .ok (.iload_n 2, 1) := by decide +kernel
theorem dX9_covers_38 : decode cX9_covers 38 = .ok (.iload_n 3, 1) := by decide +kernel
theorem dX9_covers_39 : decode cX9_covers 39 = .ok (.aload_n 0, 1) := by decide +kernel
theorem dX9_covers_40 : decode cX9_covers 40 = .ok (.getfield 46, 3) := by decide +kernel
theorem dX9_covers_43 : decode cX9_covers 43 = .ok (.imul, 1) := by decide +kernel
theorem dX9_covers_44 : decode cX9_covers 44 = .ok (.isub, 1) := by decide +kernel
theorem dX9_covers_45 : decode cX9_covers 45 = .ok (.aload_n 0, 1) := by decide +kernel
theorem dX9_covers_46 : decode cX9_covers 46 = .ok (.getfield 28, 3) := by decide +kernel
theorem dX9_covers_49 : decode cX9_covers 49 = .ok (.getfield 58, 3) := by decide +kernel
theorem dX9_covers_52 : decode cX9_covers 52 = .ok (.if_icmp .ge 7, 3) := by decide +kernel
theorem dX9_covers_55 : decode cX9_covers 55 = .ok (.iconst 1, 1) := by decide +kernel
theorem dX9_covers_56 : decode cX9_covers 56 = .ok (.goto 4, 3) := by decide +kernel
theorem dX9_covers_59 : decode cX9_covers 59 = .ok (.iconst 0, 1) := by decide +kernel
theorem dX9_covers_60 : decode cX9_covers 60 = .ok (.ireturn, 1) := by decide +kernel
def F_X9_covers_19 (s0 : ae_S) : Option (Int32 × ae_S) := some ((0 : Int32), s0)
set_option maxHeartbeats 4000000 in
set_option maxRecDepth 100000 in
theorem t_X9_covers_19 {l : Launch} {G : ae_G} (d : Nat) {rr : Int32} {ss : ae_S} (s0 : ae_S) (hF : F_X9_covers_19 s0 = some (rr, ss)) : ae_T l G (d + 1) mX9_covers (ae_Po (some (ae_i rr)) ss) 19 [] [] s0 := by
  unfold F_X9_covers_19 at hF
  refine ae_iconst (0 : Int32) dX9_covers_19 (by decide) ?_
  obtain ⟨rfl, rfl⟩ := ae_retI hF
  exact ae_iret dX9_covers_20 rfl (by decide) ⟨rfl, rfl⟩
def F_X9_covers_60 (t0 : Int32) (s0 : ae_S) : Option (Int32 × ae_S) := ae_gd (ae_zz t0) (some (t0, s0))
set_option maxHeartbeats 4000000 in
set_option maxRecDepth 100000 in
theorem t_X9_covers_60 {l : Launch} {G : ae_G} (d : Nat) {rr : Int32} {ss : ae_S} (t0 : Int32) (s0 : ae_S) (hF : F_X9_covers_60 t0 s0 = some (rr, ss)) : ae_T l G (d + 1) mX9_covers (ae_Po (some (ae_i rr)) ss) 60 [] [ae_i t0] s0 := by
  unfold F_X9_covers_60 at hF
  obtain ⟨hg1, hF2⟩ := ae_gdI hF
  obtain ⟨rfl, rfl⟩ := ae_retI hF2
  exact ae_iret dX9_covers_60 rfl (ae_zzN (ae_zzI hg1)) ⟨rfl, rfl⟩
def F_X9_covers (i0 : Fin 32) (v1 : Int32) (s0 : ae_S) : Option (Int32 × ae_S) := ae_lt (v1 - (s0.1 8 i0 6)) (fun x3 => if x3 < 0 then (F_X9_covers_19 s0) else (if (1 : Int32) ≤ (s0.1 8 i0 8) then (ae_gd (!(decide ((s0.1 8 i0 8) = 0))) (ae_lt (if ((s0.1 8 i0 7) - (1 : Int32)) < (x3 / (s0.1 8 i0 8)) then ((s0.1 8 i0 7) - (1 : Int32)) else (x3 / (s0.1 8 i0 8))) (fun x11 => ae_mo (ae_gk (s0.2.2.2 8 i0 4) 60) none (fun j13 => ae_gd (decide ((j13 : Fin 32).val < 9)) (if (ae_kByt j13) ≤ (x3 - (x11 * (s0.1 8 i0 8))) then (F_X9_covers_60 (0 : Int32) s0) else (F_X9_covers_60 (1 : Int32) s0)))))) else (F_X9_covers_19 s0)))
set_option maxHeartbeats 4000000 in
set_option maxRecDepth 100000 in
theorem c_X9_covers {l : Launch} {G : ae_G} (d : Nat) {i0 : Fin 32} {v1 : Int32} {s0 ss : ae_S} {rr : Int32} (hF : F_X9_covers i0 v1 s0 = some (rr, ss)) : ae_Met l G (d + 1) yX9_covers mX9_covers [ae_r (some (8, i0)), ae_i v1] s0 (ae_Po (some (ae_i rr)) ss) := by
  refine ae_enter (by decide) rfl (Nat.le_of_ble_eq_true rfl) ?_
  show ae_T l G (d + 1) mX9_covers (ae_Po (some (ae_i rr)) ss) 0 [(0, ae_r (some (8, i0))), (1, ae_i v1)] [] s0
  unfold F_X9_covers at hF
  refine ae_iload_n 1 dX9_covers_0 rfl ?_
  refine ae_aload_n 0 dX9_covers_1 rfl ?_
  refine ae_getI (q := (8, i0)) dX9_covers_2 fl_RX9_39 rfl rfl ?_
  refine ae_isub dX9_covers_5 ?_
  obtain ⟨x3, hx3, hF4⟩ := ae_ltI hF
  refine ae_nmI hx3 ?_
  refine ae_istore_n (lv' := [(2, ae_i x3), (0, ae_r (some (8, i0))), (1, ae_i v1)]) dX9_covers_6 (by decide) rfl ?_
  refine ae_iload_n 0 dX9_covers_7 rfl ?_
  refine ae_if_lt 19 dX9_covers_8 rfl (fun hb5 => ?_) (fun hb5 => ?_)
  · have hF6 := ae_ifT hb5 hF4
    refine ae_pick (lv' := []) [] rfl ?_
    exact t_X9_covers_19 d s0 hF6
  · have hF6 := ae_ifF hb5 hF4
    refine ae_aload_n 1 dX9_covers_11 rfl ?_
    refine ae_getI (q := (8, i0)) dX9_covers_12 fl_RX9_46 rfl rfl ?_
    refine ae_iconst (1 : Int32) dX9_covers_15 (by decide) ?_
    refine ae_icmp_ge 21 dX9_covers_16 rfl (fun hb7 => ?_) (fun hb7 => ?_)
    · have hF8 := ae_ifT hb7 hF6
      refine ae_iload_n 0 dX9_covers_21 rfl ?_
      refine ae_aload_n 1 dX9_covers_22 rfl ?_
      refine ae_getI (q := (8, i0)) dX9_covers_23 fl_RX9_46 rfl rfl ?_
      obtain ⟨hg9, hF10⟩ := ae_gdI hF8
      refine ae_idiv dX9_covers_26 (by simpa using hg9) ?_
      refine ae_aload_n 1 dX9_covers_27 rfl ?_
      refine ae_getI (q := (8, i0)) dX9_covers_28 fl_RX9_43 rfl rfl ?_
      refine ae_iconst (1 : Int32) dX9_covers_31 (by decide) ?_
      refine ae_isub dX9_covers_32 ?_
      refine ae_mmin dX9_covers_33 ww_1146 ww_1147 ww_21 ww_1148 (Nat.le_of_ble_eq_true rfl) ?_
      obtain ⟨x11, hx11, hF12⟩ := ae_ltI hF10
      refine ae_nmI hx11 ?_
      refine ae_istore_n (lv' := [(3, ae_i x11), (2, ae_i x3), (0, ae_r (some (8, i0))), (1, ae_i v1)]) dX9_covers_36 (by decide) rfl ?_
      refine ae_iload_n 1 dX9_covers_37 rfl ?_
      refine ae_iload_n 0 dX9_covers_38 rfl ?_
      refine ae_aload_n 2 dX9_covers_39 rfl ?_
      refine ae_getI (q := (8, i0)) dX9_covers_40 fl_RX9_46 rfl rfl ?_
      refine ae_imul dX9_covers_43 ?_
      refine ae_isub dX9_covers_44 ?_
      refine ae_aload_n 2 dX9_covers_45 rfl ?_
      obtain ⟨j13, hj13, hF14⟩ := ae_moK hF12
      refine ae_getO (q := (8, i0)) (some (60, j13)) dX9_covers_46 fl_RX9_28 rfl rfl hj13 ?_
      obtain ⟨hg15, hF16⟩ := ae_gdI hF14
      refine ae_getK (i := j13) dX9_covers_49 (List.mem_of_getElem? (i := 1) rfl) ww_1944 hg15 (ae_nmI (y := ae_kByt j13) rfl ?_)
      refine ae_icmp_ge 59 dX9_covers_52 rfl (fun hb17 => ?_) (fun hb17 => ?_)
      · have hF18 := ae_ifT hb17 hF16
        refine ae_iconst (0 : Int32) dX9_covers_59 (by decide) ?_
        refine ae_pick (lv' := []) [] rfl ?_
        exact t_X9_covers_60 d (0 : Int32) s0 hF18
      · have hF18 := ae_ifF hb17 hF16
        refine ae_iconst (1 : Int32) dX9_covers_55 (by decide) ?_
        refine ae_goto 60 dX9_covers_56 rfl ?_
        refine ae_pick (lv' := []) [] rfl ?_
        exact t_X9_covers_60 d (1 : Int32) s0 hF18
    · have hF8 := ae_ifF hb7 hF6
      refine ae_pick (lv' := []) [] rfl ?_
      exact t_X9_covers_19 d s0 hF8
abbrev mX9_bitsInto : ae_M := (RX9, cX9_bitsInto, 4, none)
theorem vy_X9_bitsInto : ae_VY yX9_bitsInto mX9_bitsInto 2 := ⟨ww_1170, ww_1171, ww_5, ww_1172, ⟨by decide, by decide, by decide +kernel⟩, by decide⟩
theorem dX9_bitsInto_0 : decode cX9_bitsInto 0 = .ok (.iconst 0, 1) := by decide +kernel
theorem dX9_bitsInto_1 : decode cX9_bitsInto 1 = .ok (.istore_n 3, 1) := by decide +kernel
theorem dX9_bitsInto_2 : decode cX9_bitsInto 2 = .ok (.iload_n 3, 1) := by decide +kernel
theorem dX9_bitsInto_3 : decode cX9_bitsInto 3 = .ok (.aload_n 0, 1) := by decide +kernel
theorem dX9_bitsInto_4 : decode cX9_bitsInto 4 = .ok (.getfield 43, 3) := by decide +kernel
theorem dX9_bitsInto_7 : decode cX9_bitsInto 7 = .ok (.if_icmp .ge 24, 3) := by decide +kernel
theorem dX9_bitsInto_10 : decode cX9_bitsInto 10 = .ok (.iload_n 3, 1) := by decide +kernel
theorem dX9_bitsInto_11 : decode cX9_bitsInto 11 = .ok (.aload_n 2, 1) := by decide +kernel
theorem dX9_bitsInto_12 : decode cX9_bitsInto 12 = .ok (.arraylength, 1) := by decide +kernel
theorem dX9_bitsInto_13 : decode cX9_bitsInto 13 = .ok (.if_icmp .ge 18, 3) := by decide +kernel
theorem dX9_bitsInto_16 : decode cX9_bitsInto 16 = .ok (.aload_n 2, 1) := by decide +kernel
theorem dX9_bitsInto_17 : decode cX9_bitsInto 17 = .ok (.iload_n 3, 1) := by decide +kernel
theorem dX9_bitsInto_18 : decode cX9_bitsInto 18 = .ok (.aload_n 0, 1) := by decide +kernel
theorem dX9_bitsInto_19 : decode cX9_bitsInto 19 = .ok (.aload_n 1, 1) := by decide +kernel
theorem dX9_bitsInto_20 : decode cX9_bitsInto 20 = .ok (.iload_n 3, 1) := by decide +kernel
theorem dX9_bitsInto_21 : decode cX9_bitsInto 21 = .ok (.invokevirtual 81, 3) := by decide +kernel
theorem dX9_bitsInto_24 : decode cX9_bitsInto 24 = .ok (.lastore, 1) := by decide +kernel
theorem dX9_bitsInto_25 : decode cX9_bitsInto 25 = .ok (.iinc 3 1, 3) := by decide +kernel
theorem dX9_bitsInto_28 : decode cX9_bitsInto 28 = .ok (.goto (-26), 3) := by decide +kernel
theorem dX9_bitsInto_31 : decode cX9_bitsInto 31 = .ok (.return_, 1) := by decide +kernel
def F_X9_bitsInto_31 (s0 : ae_S) : Option (Unit × ae_S) := some ((), s0)
set_option maxHeartbeats 4000000 in
set_option maxRecDepth 100000 in
theorem t_X9_bitsInto_31 {l : Launch} {G : ae_G} (d : Nat) {rr : Unit} {ss : ae_S} (s0 : ae_S) (hF : F_X9_bitsInto_31 s0 = some (rr, ss)) : ae_T l G (d + 2) mX9_bitsInto (ae_Po none ss) 31 [] [] s0 := by
  unfold F_X9_bitsInto_31 at hF
  obtain ⟨rfl, rfl⟩ := ae_retI hF
  exact ae_vret dX9_bitsInto_31 rfl ⟨rfl, rfl⟩
def F_X9_bitsInto_2 : Nat → Fin 32 → Int32 → ae_S → Option (Unit × ae_S)
  | 0, _, _, _ => none
  | n + 1, i0, v3, s0 => if (s0.1 8 i0 7) ≤ v3 then (F_X9_bitsInto_31 s0) else (if (64 : Int32) ≤ v3 then (F_X9_bitsInto_31 s0) else (ae_bd (F_X9_bitsAt i0 v3 s0) (fun (r5 : Int64) s6 => ae_gd (ae_ib v3 64) (ae_lt (ae_wL s6 27 0 v3.toNatClampNeg r5) (fun s11 => ae_lt (v3 + (1 : Int32)) (fun x13 => F_X9_bitsInto_2 n i0 x13 s11))))))
set_option maxHeartbeats 4000000 in
set_option maxRecDepth 100000 in
theorem t_X9_bitsInto_2 {l : Launch} {G : ae_G} (d : Nat) {rr : Unit} {ss : ae_S} : ∀ (n : Nat) (i0 : Fin 32) (v3 : Int32) (s0 : ae_S), F_X9_bitsInto_2 n i0 v3 s0 = some (rr, ss) → ae_T l G (d + 2) mX9_bitsInto (ae_Po none ss) 2 [(0, ae_r (some (8, i0))), (1, ae_r (some (3, 0))), (2, ae_r (some (27, 0))), (3, ae_i v3)] [] s0 := by
  intro n
  induction n with
  | zero =>
    intro i0 v3 s0 hF
    exact absurd (show (none : Option (Unit × ae_S)) = some (rr, ss) from hF) (by simp)
  | succ n ih =>
    intro i0 v3 s0 hF
    unfold F_X9_bitsInto_2 at hF
    refine ae_iload_n 3 dX9_bitsInto_2 rfl ?_
    refine ae_aload_n 0 dX9_bitsInto_3 rfl ?_
    refine ae_getI (q := (8, i0)) dX9_bitsInto_4 fl_RX9_43 rfl rfl ?_
    refine ae_icmp_ge 31 dX9_bitsInto_7 rfl (fun hb1 => ?_) (fun hb1 => ?_)
    · have hF2 := ae_ifT hb1 hF
      refine ae_pick (lv' := []) [] rfl ?_
      exact t_X9_bitsInto_31 d s0 hF2
    · have hF2 := ae_ifF hb1 hF
      refine ae_iload_n 3 dX9_bitsInto_10 rfl ?_
      refine ae_aload_n 2 dX9_bitsInto_11 rfl ?_
      refine ae_alen (q := (27, 0)) (64 : Int32) dX9_bitsInto_12 rfl rfl (by simp [ae_at]) (by decide) ?_
      refine ae_icmp_ge 31 dX9_bitsInto_13 rfl (fun hb3 => ?_) (fun hb3 => ?_)
      · have hF4 := ae_ifT hb3 hF2
        refine ae_pick (lv' := []) [] rfl ?_
        exact t_X9_bitsInto_31 d s0 hF4
      · have hF4 := ae_ifF hb3 hF2
        refine ae_aload_n 2 dX9_bitsInto_16 rfl ?_
        refine ae_iload_n 3 dX9_bitsInto_17 rfl ?_
        refine ae_aload_n 0 dX9_bitsInto_18 rfl ?_
        refine ae_aload_n 1 dX9_bitsInto_19 rfl ?_
        refine ae_iload_n 3 dX9_bitsInto_20 rfl ?_
        obtain ⟨r5, s6, hc7, hF8⟩ := ae_bdI hF4
        refine ae_cV1 (q := (8, i0)) (As := [ae_r (some (3, 0)), ae_i v3]) dX9_bitsInto_21 ww_953 vy_X9_bitsAt rfl rfl rfl rfl rfl (Nat.le_of_ble_eq_true rfl) (c_X9_bitsAt d hc7) ?_
        obtain ⟨hg9, hF10⟩ := ae_gdI hF8
        obtain ⟨s11, hs11, hF12⟩ := ae_ltI hF10
        refine ae_last (q := (27, 0)) dX9_bitsInto_24 rfl rfl (ae_ibI hg9) (ae_nmS hs11 ?_)
        obtain ⟨x13, hx13, hF14⟩ := ae_ltI hF12
        refine ae_iinc (lv' := [(3, ae_i x13), (0, ae_r (some (8, i0))), (1, ae_r (some (3, 0))), (2, ae_r (some (27, 0)))]) 3 (1 : Int32) dX9_bitsInto_25 rfl (by decide) (by decide) (by rw [hx13]; rfl) ?_
        refine ae_goto 2 dX9_bitsInto_28 rfl ?_
        refine ae_pick (lv' := [(0, ae_r (some (8, i0))), (1, ae_r (some (3, 0))), (2, ae_r (some (27, 0))), (3, ae_i x13)]) [1, 2, 3, 0] rfl ?_
        exact ih i0 x13 s11 hF14
def F_X9_bitsInto (i0 : Fin 32) (s0 : ae_S) : Option (Unit × ae_S) := F_X9_bitsInto_2 ae_fu i0 (0 : Int32) s0
set_option maxHeartbeats 4000000 in
set_option maxRecDepth 100000 in
theorem c_X9_bitsInto {l : Launch} {G : ae_G} (d : Nat) {i0 : Fin 32} {s0 ss : ae_S} {rr : Unit} (hF : F_X9_bitsInto i0 s0 = some (rr, ss)) : ae_Met l G (d + 2) yX9_bitsInto mX9_bitsInto [ae_r (some (8, i0)), ae_r (some (3, 0)), ae_r (some (27, 0))] s0 (ae_Po none ss) := by
  refine ae_enter (by decide) rfl (Nat.le_of_ble_eq_true rfl) ?_
  show ae_T l G (d + 2) mX9_bitsInto (ae_Po none ss) 0 [(0, ae_r (some (8, i0))), (1, ae_r (some (3, 0))), (2, ae_r (some (27, 0)))] [] s0
  unfold F_X9_bitsInto at hF
  refine ae_iconst (0 : Int32) dX9_bitsInto_0 (by decide) ?_
  refine ae_istore_n (lv' := [(3, ae_i (0 : Int32)), (0, ae_r (some (8, i0))), (1, ae_r (some (3, 0))), (2, ae_r (some (27, 0)))]) dX9_bitsInto_1 (by decide) rfl ?_
  refine ae_pick (lv' := [(0, ae_r (some (8, i0))), (1, ae_r (some (3, 0))), (2, ae_r (some (27, 0))), (3, ae_i (0 : Int32))]) [1, 2, 3, 0] rfl ?_
  exact t_X9_bitsInto_2 d ae_fu i0 (0 : Int32) s0 hF
abbrev mX9_layRow : ae_M := (RX9, cX9_layRow, 6, none)
theorem vy_X9_layRow : ae_VY yX9_layRow mX9_layRow 3 := ⟨ww_1174, ww_1175, ww_5, ww_1176, ⟨by decide, by decide, by decide +kernel⟩, by decide⟩
theorem dX9_layRow_0 : decode cX9_layRow 0 = .ok (.iconst 0, 1) := by decide +kernel
theorem dX9_layRow_1 : decode cX9_layRow 1 = .ok (.istore 4, 2) := by decide +kernel
theorem dX9_layRow_3 : decode cX9_layRow 3 = .ok (.iload 4, 2) := by decide +kernel
theorem dX9_layRow_5 : decode cX9_layRow 5 = .ok (.aload_n 0, 1) := by decide +kernel
theorem dX9_layRow_6 : decode cX9_layRow 6 = .ok (.getfield 43, 3) := by decide +kernel
theorem dX9_layRow_9 : decode cX9_layRow 9 = .ok (.if_icmp .ge 61, 3) := by decide +kernel
theorem dX9_layRow_12 : decode cX9_layRow 12 = .ok (.iload 4, 2) := by decide +kernel
theorem dX9_layRow_14 : decode cX9_layRow 14 = .ok (.aload_n 2, 1) := by decide +kernel
theorem dX9_layRow_15 : decode cX9_layRow 15 = .ok (.arraylength, 1) := by decide +kernel
theorem dX9_layRow_16 : decode cX9_layRow 16 = .ok (.if_icmp .ge 54, 3) := by decide +kernel
theorem dX9_layRow_19 : decode cX9_layRow 19 = .ok (.aload_n 0, 1) := by decide +kernel
theorem dX9_layRow_20 : decode cX9_layRow 20 = .ok (.getfield 43, 3) := by decide +kernel
theorem dX9_layRow_23 : decode cX9_layRow 23 = .ok (.ifCond .le 15, 3) := by decide +kernel
theorem dX9_layRow_26 : decode cX9_layRow 26 = .ok (.iload 4, 2) := by decide +kernel
theorem dX9_layRow_28 : decode cX9_layRow 28 = .ok (.iload_n 3, 1) := by decide +kernel
theorem dX9_layRow_29 : decode cX9_layRow 29 = .ok (.iadd, 1) := by decide +kernel
theorem dX9_layRow_30 : decode cX9_layRow 30 = .ok (.aload_n 0, 1) := by decide +kernel
theorem dX9_layRow_31 : decode cX9_layRow 31 = .ok (.getfield 43, 3) := by decide +kernel
theorem dX9_layRow_34 : decode cX9_layRow 34 = .ok (.irem, 1) := by decide +kernel
theorem dX9_layRow_35 : decode cX9_layRow 35 = .ok (.goto 4, 3) := by decide +kernel
theorem dX9_layRow_38 : decode cX9_layRow 38 = .ok (.iconst 0, 1) := by decide +kernel
theorem dX9_layRow_39 : decode cX9_layRow 39 = .ok (.istore 5, 2) := by decide +kernel
theorem dX9_layRow_41 : decode cX9_layRow 41 = .ok (.iload 5, 2) := by decide +kernel
theorem dX9_layRow_43 : decode cX9_layRow 43 = .ok (.ifCond .lt 21, 3) := by decide +kernel
theorem dX9_layRow_46 : decode cX9_layRow 46 = .ok (.iload 5, 2) := by decide +kernel
theorem dX9_layRow_48 : decode cX9_layRow 48 = .ok (.aload_n 2, 1) := by decide +kernel
theorem dX9_layRow_49 : decode cX9_layRow 49 = .ok (.arraylength, 1) := by decide +kernel
theorem dX9_layRow_50 : decode cX9_layRow 50 = .ok (.if_icmp .ge 14, 3) := by decide +kernel
theorem dX9_layRow_53 : decode cX9_layRow 53 = .ok (.aload_n 0, 1) := by decide +kernel
theorem dX9_layRow_54 : decode cX9_layRow 54 = .ok (.aload_n 1, 1) := by decide +kernel
theorem dX9_layRow_55 : decode cX9_layRow 55 = .ok (.iload 4, 2) := by decide +kernel
theorem dX9_layRow_57 : decode cX9_layRow 57 = .ok (.aload_n 2, 1) := by decide +kernel
theorem dX9_layRow_58 : decode cX9_layRow 58 = .ok (.iload 5, 2) := by decide +kernel
theorem dX9_layRow_60 : decode cX9_layRow 60 = .ok (.laload, 1) := by decide +kernel
theorem dX9_layRow_61 : decode cX9_layRow 61 = .ok (.invokevirtual 87, 3) := by decide +kernel
theorem dX9_layRow_64 : decode cX9_layRow 64 = .ok (.iinc 4 1, 3) := by decide +kernel
theorem dX9_layRow_67 : decode cX9_layRow 67 = .ok (.goto (-64), 3) := by decide +kernel
theorem dX9_layRow_70 : decode cX9_layRow 70 = .ok (.return_, 1) := by decide +kernel
def F_X9_layRow_70 (s0 : ae_S) : Option (Unit × ae_S) := some ((), s0)
set_option maxHeartbeats 4000000 in
set_option maxRecDepth 100000 in
theorem t_X9_layRow_70 {l : Launch} {G : ae_G} (d : Nat) {rr : Unit} {ss : ae_S} (s0 : ae_S) (hF : F_X9_layRow_70 s0 = some (rr, ss)) : ae_T l G (d + 2) mX9_layRow (ae_Po none ss) 70 [] [] s0 := by
  unfold F_X9_layRow_70 at hF
  obtain ⟨rfl, rfl⟩ := ae_retI hF
  exact ae_vret dX9_layRow_70 rfl ⟨rfl, rfl⟩
def F_X9_layRow_64 (k3 : Fin 32 → Int32 → Int32 → ae_S → Option (Unit × ae_S)) (i0 : Fin 32) (v3 : Int32) (v4 : Int32) (s0 : ae_S) : Option (Unit × ae_S) := ae_lt (v4 + (1 : Int32)) (fun x1 => k3 i0 v3 x1 s0)
set_option maxHeartbeats 4000000 in
set_option maxRecDepth 100000 in
theorem t_X9_layRow_64 {l : Launch} {G : ae_G} (d : Nat) (k3 : Fin 32 → Int32 → Int32 → ae_S → Option (Unit × ae_S)) {rr : Unit} {ss : ae_S} (hk3 : ∀ (i0 : Fin 32) (v3 : Int32) (v4 : Int32) (s0 : ae_S), k3 i0 v3 v4 s0 = some (rr, ss) → ae_T l G (d + 2) mX9_layRow (ae_Po none ss) 3 [(0, ae_r (some (8, i0))), (1, ae_r (some (3, 0))), (2, ae_r (some (27, 0))), (3, ae_i v3), (4, ae_i v4)] [] s0) (i0 : Fin 32) (v3 : Int32) (v4 : Int32) (s0 : ae_S) (hF : F_X9_layRow_64 k3 i0 v3 v4 s0 = some (rr, ss)) : ae_T l G (d + 2) mX9_layRow (ae_Po none ss) 64 [(0, ae_r (some (8, i0))), (1, ae_r (some (3, 0))), (2, ae_r (some (27, 0))), (3, ae_i v3), (4, ae_i v4)] [] s0 := by
  unfold F_X9_layRow_64 at hF
  obtain ⟨x1, hx1, hF2⟩ := ae_ltI hF
  refine ae_iinc (lv' := [(4, ae_i x1), (0, ae_r (some (8, i0))), (1, ae_r (some (3, 0))), (2, ae_r (some (27, 0))), (3, ae_i v3)]) 4 (1 : Int32) dX9_layRow_64 rfl (by decide) (by decide) (by rw [hx1]; rfl) ?_
  refine ae_goto 3 dX9_layRow_67 rfl ?_
  refine ae_pick (lv' := [(0, ae_r (some (8, i0))), (1, ae_r (some (3, 0))), (2, ae_r (some (27, 0))), (3, ae_i v3), (4, ae_i x1)]) [1, 2, 3, 4, 0] rfl ?_
  exact hk3 i0 v3 x1 s0 hF2
def F_X9_layRow_39 (k3 : Fin 32 → Int32 → Int32 → ae_S → Option (Unit × ae_S)) (i0 : Fin 32) (v3 : Int32) (v4 : Int32) (t0 : Int32) (s0 : ae_S) : Option (Unit × ae_S) := if t0 < 0 then (F_X9_layRow_64 k3 i0 v3 v4 s0) else (if (64 : Int32) ≤ t0 then (F_X9_layRow_64 k3 i0 v3 v4 s0) else (ae_gd (ae_ib t0 64) (ae_bd (F_X9_lay i0 v4 (s0.2.1 27 0 t0.toNatClampNeg) s0) (fun (r9 : Unit) s10 => F_X9_layRow_64 k3 i0 v3 v4 s10))))
set_option maxHeartbeats 4000000 in
set_option maxRecDepth 100000 in
theorem t_X9_layRow_39 {l : Launch} {G : ae_G} (d : Nat) (k3 : Fin 32 → Int32 → Int32 → ae_S → Option (Unit × ae_S)) {rr : Unit} {ss : ae_S} (hk3 : ∀ (i0 : Fin 32) (v3 : Int32) (v4 : Int32) (s0 : ae_S), k3 i0 v3 v4 s0 = some (rr, ss) → ae_T l G (d + 2) mX9_layRow (ae_Po none ss) 3 [(0, ae_r (some (8, i0))), (1, ae_r (some (3, 0))), (2, ae_r (some (27, 0))), (3, ae_i v3), (4, ae_i v4)] [] s0) (i0 : Fin 32) (v3 : Int32) (v4 : Int32) (t0 : Int32) (s0 : ae_S) (hF : F_X9_layRow_39 k3 i0 v3 v4 t0 s0 = some (rr, ss)) : ae_T l G (d + 2) mX9_layRow (ae_Po none ss) 39 [(0, ae_r (some (8, i0))), (1, ae_r (some (3, 0))), (2, ae_r (some (27, 0))), (3, ae_i v3), (4, ae_i v4)] [ae_i t0] s0 := by
  unfold F_X9_layRow_39 at hF
  refine ae_istore (lv' := [(5, ae_i t0), (0, ae_r (some (8, i0))), (1, ae_r (some (3, 0))), (2, ae_r (some (27, 0))), (3, ae_i v3), (4, ae_i v4)]) dX9_layRow_39 (by decide) rfl ?_
  refine ae_iload 0 dX9_layRow_41 rfl ?_
  refine ae_if_lt 64 dX9_layRow_43 rfl (fun hb3 => ?_) (fun hb3 => ?_)
  · have hF4 := ae_ifT hb3 hF
    refine ae_pick (lv' := [(0, ae_r (some (8, i0))), (1, ae_r (some (3, 0))), (2, ae_r (some (27, 0))), (3, ae_i v3), (4, ae_i v4)]) [1, 2, 3, 4, 5] rfl ?_
    exact t_X9_layRow_64 d k3 hk3 i0 v3 v4 s0 hF4
  · have hF4 := ae_ifF hb3 hF
    refine ae_iload 0 dX9_layRow_46 rfl ?_
    refine ae_aload_n 3 dX9_layRow_48 rfl ?_
    refine ae_alen (q := (27, 0)) (64 : Int32) dX9_layRow_49 rfl rfl (by simp [ae_at]) (by decide) ?_
    refine ae_icmp_ge 64 dX9_layRow_50 rfl (fun hb5 => ?_) (fun hb5 => ?_)
    · have hF6 := ae_ifT hb5 hF4
      refine ae_pick (lv' := [(0, ae_r (some (8, i0))), (1, ae_r (some (3, 0))), (2, ae_r (some (27, 0))), (3, ae_i v3), (4, ae_i v4)]) [1, 2, 3, 4, 5] rfl ?_
      exact t_X9_layRow_64 d k3 hk3 i0 v3 v4 s0 hF6
    · have hF6 := ae_ifF hb5 hF4
      refine ae_aload_n 1 dX9_layRow_53 rfl ?_
      refine ae_aload_n 2 dX9_layRow_54 rfl ?_
      refine ae_iload 5 dX9_layRow_55 rfl ?_
      refine ae_aload_n 3 dX9_layRow_57 rfl ?_
      refine ae_iload 0 dX9_layRow_58 rfl ?_
      obtain ⟨hg7, hF8⟩ := ae_gdI hF6
      refine ae_lald (q := (27, 0)) dX9_layRow_60 rfl rfl (ae_ibI hg7) ?_
      obtain ⟨r9, s10, hc11, hF12⟩ := ae_bdI hF8
      refine ae_cV0 (q := (8, i0)) (As := [ae_r (some (3, 0)), ae_i v4, ae_l (s0.2.1 27 0 t0.toNatClampNeg)]) dX9_layRow_61 ww_912 vy_X9_lay rfl rfl rfl rfl rfl (Nat.le_of_ble_eq_true rfl) (c_X9_lay d hc11) ?_
      refine ae_pick (lv' := [(0, ae_r (some (8, i0))), (1, ae_r (some (3, 0))), (2, ae_r (some (27, 0))), (3, ae_i v3), (4, ae_i v4)]) [1, 2, 3, 4, 5] rfl ?_
      exact t_X9_layRow_64 d k3 hk3 i0 v3 v4 s10 hF12
def F_X9_layRow_3 : Nat → Fin 32 → Int32 → Int32 → ae_S → Option (Unit × ae_S)
  | 0, _, _, _, _ => none
  | n + 1, i0, v3, v4, s0 => if (s0.1 8 i0 7) ≤ v4 then (F_X9_layRow_70 s0) else (if (64 : Int32) ≤ v4 then (F_X9_layRow_70 s0) else (if (s0.1 8 i0 7) ≤ 0 then (F_X9_layRow_39 (F_X9_layRow_3 n) i0 v3 v4 (0 : Int32) s0) else (ae_gd (!(decide ((s0.1 8 i0 7) = 0))) (F_X9_layRow_39 (F_X9_layRow_3 n) i0 v3 v4 ((v4 + v3) - (v4 + v3) / (s0.1 8 i0 7) * (s0.1 8 i0 7)) s0))))
set_option maxHeartbeats 4000000 in
set_option maxRecDepth 100000 in
theorem t_X9_layRow_3 {l : Launch} {G : ae_G} (d : Nat) {rr : Unit} {ss : ae_S} : ∀ (n : Nat) (i0 : Fin 32) (v3 : Int32) (v4 : Int32) (s0 : ae_S), F_X9_layRow_3 n i0 v3 v4 s0 = some (rr, ss) → ae_T l G (d + 2) mX9_layRow (ae_Po none ss) 3 [(0, ae_r (some (8, i0))), (1, ae_r (some (3, 0))), (2, ae_r (some (27, 0))), (3, ae_i v3), (4, ae_i v4)] [] s0 := by
  intro n
  induction n with
  | zero =>
    intro i0 v3 v4 s0 hF
    exact absurd (show (none : Option (Unit × ae_S)) = some (rr, ss) from hF) (by simp)
  | succ n ih =>
    intro i0 v3 v4 s0 hF
    unfold F_X9_layRow_3 at hF
    refine ae_iload 4 dX9_layRow_3 rfl ?_
    refine ae_aload_n 0 dX9_layRow_5 rfl ?_
    refine ae_getI (q := (8, i0)) dX9_layRow_6 fl_RX9_43 rfl rfl ?_
    refine ae_icmp_ge 70 dX9_layRow_9 rfl (fun hb13 => ?_) (fun hb13 => ?_)
    · have hF14 := ae_ifT hb13 hF
      refine ae_pick (lv' := []) [] rfl ?_
      exact t_X9_layRow_70 d s0 hF14
    · have hF14 := ae_ifF hb13 hF
      refine ae_iload 4 dX9_layRow_12 rfl ?_
      refine ae_aload_n 2 dX9_layRow_14 rfl ?_
      refine ae_alen (q := (27, 0)) (64 : Int32) dX9_layRow_15 rfl rfl (by simp [ae_at]) (by decide) ?_
      refine ae_icmp_ge 70 dX9_layRow_16 rfl (fun hb15 => ?_) (fun hb15 => ?_)
      · have hF16 := ae_ifT hb15 hF14
        refine ae_pick (lv' := []) [] rfl ?_
        exact t_X9_layRow_70 d s0 hF16
      · have hF16 := ae_ifF hb15 hF14
        refine ae_aload_n 0 dX9_layRow_19 rfl ?_
        refine ae_getI (q := (8, i0)) dX9_layRow_20 fl_RX9_43 rfl rfl ?_
        refine ae_if_le 38 dX9_layRow_23 rfl (fun hb17 => ?_) (fun hb17 => ?_)
        · have hF18 := ae_ifT hb17 hF16
          refine ae_iconst (0 : Int32) dX9_layRow_38 (by decide) ?_
          refine ae_pick (lv' := [(0, ae_r (some (8, i0))), (1, ae_r (some (3, 0))), (2, ae_r (some (27, 0))), (3, ae_i v3), (4, ae_i v4)]) [0, 1, 2, 3, 4] rfl ?_
          exact t_X9_layRow_39 d (F_X9_layRow_3 n) ih i0 v3 v4 (0 : Int32) s0 hF18
        · have hF18 := ae_ifF hb17 hF16
          refine ae_iload 4 dX9_layRow_26 rfl ?_
          refine ae_iload_n 3 dX9_layRow_28 rfl ?_
          refine ae_iadd dX9_layRow_29 ?_
          refine ae_aload_n 0 dX9_layRow_30 rfl ?_
          refine ae_getI (q := (8, i0)) dX9_layRow_31 fl_RX9_43 rfl rfl ?_
          obtain ⟨hg19, hF20⟩ := ae_gdI hF18
          refine ae_irem dX9_layRow_34 (by simpa using hg19) ?_
          refine ae_goto 39 dX9_layRow_35 rfl ?_
          refine ae_pick (lv' := [(0, ae_r (some (8, i0))), (1, ae_r (some (3, 0))), (2, ae_r (some (27, 0))), (3, ae_i v3), (4, ae_i v4)]) [0, 1, 2, 3, 4] rfl ?_
          exact t_X9_layRow_39 d (F_X9_layRow_3 n) ih i0 v3 v4 ((v4 + v3) - (v4 + v3) / (s0.1 8 i0 7) * (s0.1 8 i0 7)) s0 hF20
def F_X9_layRow (i0 : Fin 32) (v3 : Int32) (s0 : ae_S) : Option (Unit × ae_S) := F_X9_layRow_3 ae_fu i0 v3 (0 : Int32) s0
set_option maxHeartbeats 4000000 in
set_option maxRecDepth 100000 in
theorem c_X9_layRow {l : Launch} {G : ae_G} (d : Nat) {i0 : Fin 32} {v3 : Int32} {s0 ss : ae_S} {rr : Unit} (hF : F_X9_layRow i0 v3 s0 = some (rr, ss)) : ae_Met l G (d + 2) yX9_layRow mX9_layRow [ae_r (some (8, i0)), ae_r (some (3, 0)), ae_r (some (27, 0)), ae_i v3] s0 (ae_Po none ss) := by
  refine ae_enter (by decide) rfl (Nat.le_of_ble_eq_true rfl) ?_
  show ae_T l G (d + 2) mX9_layRow (ae_Po none ss) 0 [(0, ae_r (some (8, i0))), (1, ae_r (some (3, 0))), (2, ae_r (some (27, 0))), (3, ae_i v3)] [] s0
  unfold F_X9_layRow at hF
  refine ae_iconst (0 : Int32) dX9_layRow_0 (by decide) ?_
  refine ae_istore (lv' := [(4, ae_i (0 : Int32)), (0, ae_r (some (8, i0))), (1, ae_r (some (3, 0))), (2, ae_r (some (27, 0))), (3, ae_i v3)]) dX9_layRow_1 (by decide) rfl ?_
  refine ae_pick (lv' := [(0, ae_r (some (8, i0))), (1, ae_r (some (3, 0))), (2, ae_r (some (27, 0))), (3, ae_i v3), (4, ae_i (0 : Int32))]) [1, 2, 3, 4, 0] rfl ?_
  exact t_X9_layRow_3 d ae_fu i0 v3 (0 : Int32) s0 hF
abbrev mX9_orderOf : ae_M := (RX9, cX9_orderOf, 3, some .long)
theorem vy_X9_orderOf : ae_VY yX9_orderOf mX9_orderOf 1 := ⟨ww_1187, wq_50, ww_5, ww_1188, ⟨by decide, by decide, by decide +kernel⟩, by decide⟩
theorem dX9_orderOf_0 : decode cX9_orderOf 0 = .ok (.aload_n 0, 1) := by decide +kernel
theorem dX9_orderOf_1 : decode cX9_orderOf 1 = .ok (.getfield 28, 3) := by decide +kernel
theorem dX9_orderOf_4 : decode cX9_orderOf 4 = .ok (.getfield 98, 3) := by decide +kernel
theorem dX9_orderOf_7 : decode cX9_orderOf 7 = .ok (.ifCond .eq 10, 3) := by decide +kernel
theorem dX9_orderOf_10 : decode cX9_orderOf 10 = .ok (.lload_n 1, 1) := by decide +kernel
theorem dX9_orderOf_11 : decode cX9_orderOf 11 = .ok (.invokestatic 105, 3) := by decide +kernel
theorem dX9_orderOf_14 : decode cX9_orderOf 14 = .ok (.goto 4, 3) := by decide +kernel
theorem dX9_orderOf_17 : decode cX9_orderOf 17 = .ok (.lload_n 1, 1) := by decide +kernel
theorem dX9_orderOf_18 : decode cX9_orderOf 18 = .ok (.lreturn, 1) := by decide +kernel
def F_X9_orderOf_18 (t0 : Int64) (s0 : ae_S) : Option (Int64 × ae_S) := some (t0, s0)
set_option maxHeartbeats 4000000 in
set_option maxRecDepth 100000 in
theorem t_X9_orderOf_18 {l : Launch} {G : ae_G} (d : Nat) {rr : Int64} {ss : ae_S} (t0 : Int64) (s0 : ae_S) (hF : F_X9_orderOf_18 t0 s0 = some (rr, ss)) : ae_T l G (d + 1) mX9_orderOf (ae_Po (some (ae_l rr)) ss) 18 [] [ae_l t0] s0 := by
  unfold F_X9_orderOf_18 at hF
  obtain ⟨rfl, rfl⟩ := ae_retI hF
  exact ae_lret dX9_orderOf_18 rfl ⟨rfl, rfl⟩
def F_X9_orderOf (i0 : Fin 32) (v1 : Int64) (s0 : ae_S) : Option (Int64 × ae_S) := ae_mo (ae_gk (s0.2.2.2 8 i0 4) 60) none (fun j1 => ae_gd (decide ((j1 : Fin 32).val < 9)) (if (ae_kFlo j1) = 0 then (F_X9_orderOf_18 v1 s0) else (ae_bd (F_X2_orderOf v1 s0) (fun (r7 : Int64) s8 => F_X9_orderOf_18 r7 s8))))
set_option maxHeartbeats 4000000 in
set_option maxRecDepth 100000 in
theorem c_X9_orderOf {l : Launch} {G : ae_G} (d : Nat) {i0 : Fin 32} {v1 : Int64} {s0 ss : ae_S} {rr : Int64} (hF : F_X9_orderOf i0 v1 s0 = some (rr, ss)) : ae_Met l G (d + 1) yX9_orderOf mX9_orderOf [ae_r (some (8, i0)), ae_l v1] s0 (ae_Po (some (ae_l rr)) ss) := by
  refine ae_enter (by decide) rfl (Nat.le_of_ble_eq_true rfl) ?_
  show ae_T l G (d + 1) mX9_orderOf (ae_Po (some (ae_l rr)) ss) 0 [(0, ae_r (some (8, i0))), (1, ae_l v1)] [] s0
  unfold F_X9_orderOf at hF
  refine ae_aload_n 0 dX9_orderOf_0 rfl ?_
  obtain ⟨j1, hj1, hF2⟩ := ae_moK hF
  refine ae_getO (q := (8, i0)) (some (60, j1)) dX9_orderOf_1 fl_RX9_28 rfl rfl hj1 ?_
  obtain ⟨hg3, hF4⟩ := ae_gdI hF2
  refine ae_getK (i := j1) dX9_orderOf_4 (List.mem_of_getElem? (i := 3) rfl) ww_1946 hg3 (ae_nmI (y := ae_kFlo j1) rfl ?_)
  refine ae_if_eq 17 dX9_orderOf_7 rfl (fun hb5 => ?_) (fun hb5 => ?_)
  · have hF6 := ae_ifT hb5 hF4
    refine ae_lload_n 1 dX9_orderOf_17 rfl ?_
    refine ae_pick (lv' := []) [] rfl ?_
    exact t_X9_orderOf_18 d v1 s0 hF6
  · have hF6 := ae_ifF hb5 hF4
    refine ae_lload_n 1 dX9_orderOf_10 rfl ?_
    obtain ⟨r7, s8, hc9, hF10⟩ := ae_bdI hF6
    refine ae_cS1 (As := [ae_l v1]) dX9_orderOf_11 ww_1189 vy_X2_orderOf rfl rfl (Nat.le_of_ble_eq_true rfl) (c_X2_orderOf d hc9) ?_
    refine ae_goto 18 dX9_orderOf_14 rfl ?_
    refine ae_pick (lv' := []) [] rfl ?_
    exact t_X9_orderOf_18 d r7 s8 hF10
abbrev mX9_orderRow : ae_M := (RX9, cX9_orderRow, 7, none)
theorem vy_X9_orderRow : ae_VY yX9_orderRow mX9_orderRow 1 := ⟨ww_1182, ww_1183, ww_5, ww_1184, ⟨by decide, by decide, by decide +kernel⟩, by decide⟩
theorem dX9_orderRow_0 : decode cX9_orderRow 0 = .ok (.iconst 0, 1) := by decide +kernel
theorem dX9_orderRow_1 : decode cX9_orderRow 1 = .ok (.istore_n 2, 1) := by decide +kernel
theorem dX9_orderRow_2 : decode cX9_orderRow 2 = .ok (.iload_n 2, 1) := by decide +kernel
theorem dX9_orderRow_3 : decode cX9_orderRow 3 = .ok (.aload_n 0, 1) := by decide +kernel
theorem dX9_orderRow_4 : decode cX9_orderRow 4 = .ok (.getfield 43, 3) := by decide +kernel
theorem dX9_orderRow_7 : decode cX9_orderRow 7 = .ok (.if_icmp .ge 74, 3) := by decide +kernel
theorem dX9_orderRow_10 : decode cX9_orderRow 10 = .ok (.iload_n 2, 1) := by decide +kernel
theorem dX9_orderRow_11 : decode cX9_orderRow 11 = .ok (.aload_n 1, 1) := by decide +kernel
theorem dX9_orderRow_12 : decode cX9_orderRow 12 = .ok (.arraylength, 1) := by decide +kernel
theorem dX9_orderRow_13 : decode cX9_orderRow 13 = .ok (.if_icmp .ge 68, 3) := by decide +kernel
theorem dX9_orderRow_16 : decode cX9_orderRow 16 = .ok (.aload_n 0, 1) := by decide +kernel
theorem dX9_orderRow_17 : decode cX9_orderRow 17 = .ok (.aload_n 0, 1) := by decide +kernel
theorem dX9_orderRow_18 : decode cX9_orderRow 18 = .ok (.aload_n 1, 1) := by decide +kernel
theorem dX9_orderRow_19 : decode cX9_orderRow 19 = .ok (.iload_n 2, 1) := by decide +kernel
theorem dX9_orderRow_20 : decode cX9_orderRow 20 = .ok (.laload, 1) := by decide +kernel
theorem dX9_orderRow_21 : decode cX9_orderRow 21 = .ok (.invokevirtual 91, 3) := by decide +kernel
theorem dX9_orderRow_24 : decode cX9_orderRow 24 = .ok (.invokevirtual 95, 3) := by decide +kernel
theorem dX9_orderRow_27 : decode cX9_orderRow 27 = .ok (.lstore_n 3, 1) := by decide +kernel
theorem dX9_orderRow_28 : decode cX9_orderRow 28 = .ok (.iload_n 2, 1) := by decide +kernel
theorem dX9_orderRow_29 : decode cX9_orderRow 29 = .ok (.istore 5, 2) := by decide +kernel
theorem dX9_orderRow_31 : decode cX9_orderRow 31 = .ok (.iload_n 2, 1) := by decide +kernel
theorem dX9_orderRow_32 : decode cX9_orderRow 32 = .ok (.iconst 1, 1) := by decide +kernel
theorem dX9_orderRow_33 : decode cX9_orderRow 33 = .ok (.isub, 1) := by decide +kernel
theorem dX9_orderRow_34 : decode cX9_orderRow 34 = .ok (.istore 6, 2) := by decide +kernel
theorem dX9_orderRow_36 : decode cX9_orderRow 36 = .ok (.iload 6, 2) := by decide +kernel
theorem dX9_orderRow_38 : decode cX9_orderRow 38 = .ok (.ifCond .lt 32, 3) := by decide +kernel
theorem dX9_orderRow_41 : decode cX9_orderRow 41 = .ok (.aload_n 1, 1) := by decide +kernel
theorem dX9_orderRow_42 : decode cX9_orderRow 42 = .ok (.iload 6, 2) := by decide +kernel
theorem dX9_orderRow_44 : decode cX9_orderRow 44 = .ok (.laload, 1) := by decide +kernel
theorem dX9_orderRow_45 : decode cX9_orderRow 45 = .ok (.lload_n 3, 1) := by decide +kernel
theorem dX9_orderRow_46 : decode cX9_orderRow 46 = .ok (.lcmp, 1) := by decide +kernel
theorem dX9_orderRow_47 : decode cX9_orderRow 47 = .ok (.ifCond .le 23, 3) := by decide +kernel
theorem dX9_orderRow_50 : decode cX9_orderRow 50 = .ok (.aload_n 1, 1) := by decide +kernel
theorem dX9_orderRow_51 : decode cX9_orderRow 51 = .ok (.iload 6, 2) := by decide +kernel
theorem dX9_orderRow_53 : decode cX9_orderRow 53 = .ok (.iconst 1, 1) := by decide +kernel
theorem dX9_orderRow_54 : decode cX9_orderRow 54 = .ok (.iadd, 1) := by decide +kernel
theorem dX9_orderRow_55 : decode cX9_orderRow 55 = .ok (.aload_n 1, 1) := by decide +kernel
theorem dX9_orderRow_56 : decode cX9_orderRow 56 = .ok (.iload 6, 2) := by decide +kernel
theorem dX9_orderRow_58 : decode cX9_orderRow 58 = .ok (.laload, 1) := by decide +kernel
theorem dX9_orderRow_59 : decode cX9_orderRow 59 = .ok (.lastore, 1) := by decide +kernel
theorem dX9_orderRow_60 : decode cX9_orderRow 60 = .ok (.iload 6, 2) := by decide +kernel
theorem dX9_orderRow_62 : decode cX9_orderRow 62 = .ok (.istore 5, 2) := by decide +kernel
theorem dX9_orderRow_64 : decode cX9_orderRow 64 = .ok (.iinc 6 (-1), 3) := by decide +kernel
theorem dX9_orderRow_67 : decode cX9_orderRow 67 = .ok (.goto (-31), 3) := by decide +kernel
theorem dX9_orderRow_70 : decode cX9_orderRow 70 = .ok (.aload_n 1, 1) := by decide +kernel
theorem dX9_orderRow_71 : decode cX9_orderRow 71 = .ok (.iload 5, 2) := by decide +kernel
theorem dX9_orderRow_73 : decode cX9_orderRow 73 = .ok (.lload_n 3, 1) := by decide +kernel
theorem dX9_orderRow_74 : decode cX9_orderRow 74 = .ok (.lastore, 1) := by decide +kernel
theorem dX9_orderRow_75 : decode cX9_orderRow 75 = .ok (.iinc 2 1, 3) := by decide +kernel
theorem dX9_orderRow_78 : decode cX9_orderRow 78 = .ok (.goto (-76), 3) := by decide +kernel
theorem dX9_orderRow_81 : decode cX9_orderRow 81 = .ok (.iconst 0, 1) := by decide +kernel
theorem dX9_orderRow_82 : decode cX9_orderRow 82 = .ok (.istore_n 2, 1) := by decide +kernel
theorem dX9_orderRow_83 : decode cX9_orderRow 83 = .ok (.iload_n 2, 1) := by decide +kernel
theorem dX9_orderRow_84 : decode cX9_orderRow 84 = .ok (.aload_n 0, 1) := by decide +kernel
theorem dX9_orderRow_85 : decode cX9_orderRow 85 = .ok (.getfield 43, 3) := by decide +kernel
theorem dX9_orderRow_88 : decode cX9_orderRow 88 = .ok (.if_icmp .ge 36, 3) := by decide +kernel
theorem dX9_orderRow_91 : decode cX9_orderRow 91 = .ok (.iload_n 2, 1) := by decide +kernel
theorem dX9_orderRow_92 : decode cX9_orderRow 92 = .ok (.aload_n 1, 1) := by decide +kernel
theorem dX9_orderRow_93 : decode cX9_orderRow 93 = .ok (.arraylength, 1) := by decide +kernel
theorem dX9_orderRow_94 : decode cX9_orderRow 94 = .ok (.if_icmp .ge 30, 3) := by decide +kernel
theorem dX9_orderRow_97 : decode cX9_orderRow 97 = .ok (.aload_n 1, 1) := by decide +kernel
theorem dX9_orderRow_98 : decode cX9_orderRow 98 = .ok (.iload_n 2, 1) := by decide +kernel
theorem dX9_orderRow_99 : decode cX9_orderRow 99 = .ok (.aload_n 0, 1) := by decide +kernel
theorem dX9_orderRow_100 : decode cX9_orderRow 100 = .ok (.aload_n 0, 1) := by decide +kernel
theorem dX9_orderRow_101 : decode cX9_orderRow 101 = .ok (.aload_n 1, 1) := by decide +kernel
theorem dX9_orderRow_102 : decode cX9_orderRow 102 = .ok (.iload_n 2, 1) := by decide +kernel
theorem dX9_orderRow_103 : decode cX9_orderRow 103 = .ok (.laload, 1) := by decide +kernel
theorem dX9_orderRow_104 : decode cX9_orderRow 104 = .ok (.invokevirtual 95, 3) := by decide +kernel
theorem dX9_orderRow_107 : decode cX9_orderRow 107 = .ok (.aload_n 0, 1) := by decide +kernel
theorem dX9_orderRow_108 : decode cX9_orderRow 108 = .ok (.getfield 28, 3) := by decide +kernel
theorem dX9_orderRow_111 : decode cX9_orderRow 111 = .ok (.getfield 98, 3) := by decide +kernel
theorem dX9_orderRow_114 : decode cX9_orderRow 114 = .ok (.invokevirtual 101, 3) := by decide +kernel
theorem dX9_orderRow_117 : decode cX9_orderRow 117 = .ok (.lastore, 1) := by decide +kernel
theorem dX9_orderRow_118 : decode cX9_orderRow 118 = .ok (.iinc 2 1, 3) := by decide +kernel
theorem dX9_orderRow_121 : decode cX9_orderRow 121 = .ok (.goto (-38), 3) := by decide +kernel
theorem dX9_orderRow_124 : decode cX9_orderRow 124 = .ok (.return_, 1) := by decide +kernel
def F_X9_orderRow_124 (s0 : ae_S) : Option (Unit × ae_S) := some ((), s0)
set_option maxHeartbeats 4000000 in
set_option maxRecDepth 100000 in
theorem t_X9_orderRow_124 {l : Launch} {G : ae_G} (d : Nat) {rr : Unit} {ss : ae_S} (s0 : ae_S) (hF : F_X9_orderRow_124 s0 = some (rr, ss)) : ae_T l G (d + 6) mX9_orderRow (ae_Po none ss) 124 [] [] s0 := by
  unfold F_X9_orderRow_124 at hF
  obtain ⟨rfl, rfl⟩ := ae_retI hF
  exact ae_vret dX9_orderRow_124 rfl ⟨rfl, rfl⟩
def F_X9_orderRow_83 : Nat → Fin 32 → Int32 → ae_S → Option (Unit × ae_S)
  | 0, _, _, _ => none
  | n + 1, i0, v2, s0 => if (s0.1 8 i0 7) ≤ v2 then (F_X9_orderRow_124 s0) else (if (64 : Int32) ≤ v2 then (F_X9_orderRow_124 s0) else (ae_gd (ae_ib v2 64) (ae_bd (F_X9_orderOf i0 (s0.2.1 27 0 v2.toNatClampNeg) s0) (fun (r7 : Int64) s8 => ae_mo (ae_gk (s8.2.2.2 8 i0 4) 60) none (fun j11 => ae_gd (decide ((j11 : Fin 32).val < 9)) (ae_bd (F_X9_bitsOfValue i0 r7 (ae_kFlo j11) s8) (fun (r15 : Int64) s16 => ae_gd (ae_ib v2 64) (ae_lt (ae_wL s16 27 0 v2.toNatClampNeg r15) (fun s21 => ae_lt (v2 + (1 : Int32)) (fun x23 => F_X9_orderRow_83 n i0 x23 s21))))))))))
set_option maxHeartbeats 4000000 in
set_option maxRecDepth 100000 in
theorem t_X9_orderRow_83 {l : Launch} {G : ae_G} (d : Nat) {rr : Unit} {ss : ae_S} : ∀ (n : Nat) (i0 : Fin 32) (v2 : Int32) (s0 : ae_S), F_X9_orderRow_83 n i0 v2 s0 = some (rr, ss) → ae_T l G (d + 6) mX9_orderRow (ae_Po none ss) 83 [(0, ae_r (some (8, i0))), (1, ae_r (some (27, 0))), (2, ae_i v2)] [] s0 := by
  intro n
  induction n with
  | zero =>
    intro i0 v2 s0 hF
    exact absurd (show (none : Option (Unit × ae_S)) = some (rr, ss) from hF) (by simp)
  | succ n ih =>
    intro i0 v2 s0 hF
    unfold F_X9_orderRow_83 at hF
    refine ae_iload_n 2 dX9_orderRow_83 rfl ?_
    refine ae_aload_n 0 dX9_orderRow_84 rfl ?_
    refine ae_getI (q := (8, i0)) dX9_orderRow_85 fl_RX9_43 rfl rfl ?_
    refine ae_icmp_ge 124 dX9_orderRow_88 rfl (fun hb1 => ?_) (fun hb1 => ?_)
    · have hF2 := ae_ifT hb1 hF
      refine ae_pick (lv' := []) [] rfl ?_
      exact t_X9_orderRow_124 d s0 hF2
    · have hF2 := ae_ifF hb1 hF
      refine ae_iload_n 2 dX9_orderRow_91 rfl ?_
      refine ae_aload_n 1 dX9_orderRow_92 rfl ?_
      refine ae_alen (q := (27, 0)) (64 : Int32) dX9_orderRow_93 rfl rfl (by simp [ae_at]) (by decide) ?_
      refine ae_icmp_ge 124 dX9_orderRow_94 rfl (fun hb3 => ?_) (fun hb3 => ?_)
      · have hF4 := ae_ifT hb3 hF2
        refine ae_pick (lv' := []) [] rfl ?_
        exact t_X9_orderRow_124 d s0 hF4
      · have hF4 := ae_ifF hb3 hF2
        refine ae_aload_n 1 dX9_orderRow_97 rfl ?_
        refine ae_iload_n 2 dX9_orderRow_98 rfl ?_
        refine ae_aload_n 0 dX9_orderRow_99 rfl ?_
        refine ae_aload_n 0 dX9_orderRow_100 rfl ?_
        refine ae_aload_n 1 dX9_orderRow_101 rfl ?_
        refine ae_iload_n 2 dX9_orderRow_102 rfl ?_
        obtain ⟨hg5, hF6⟩ := ae_gdI hF4
        refine ae_lald (q := (27, 0)) dX9_orderRow_103 rfl rfl (ae_ibI hg5) ?_
        obtain ⟨r7, s8, hc9, hF10⟩ := ae_bdI hF6
        refine ae_cV1 (q := (8, i0)) (As := [ae_l (s0.2.1 27 0 v2.toNatClampNeg)]) dX9_orderRow_104 ww_1185 vy_X9_orderOf rfl rfl rfl rfl rfl (Nat.le_of_ble_eq_true rfl) (c_X9_orderOf (d + 4) hc9) ?_
        refine ae_aload_n 0 dX9_orderRow_107 rfl ?_
        obtain ⟨j11, hj11, hF12⟩ := ae_moK hF10
        refine ae_getO (q := (8, i0)) (some (60, j11)) dX9_orderRow_108 fl_RX9_28 rfl rfl hj11 ?_
        obtain ⟨hg13, hF14⟩ := ae_gdI hF12
        refine ae_getK (i := j11) dX9_orderRow_111 (List.mem_of_getElem? (i := 3) rfl) ww_1946 hg13 (ae_nmI (y := ae_kFlo j11) rfl ?_)
        obtain ⟨r15, s16, hc17, hF18⟩ := ae_bdI hF14
        refine ae_cV1 (q := (8, i0)) (As := [ae_l r7, ae_i (ae_kFlo j11)]) dX9_orderRow_114 ww_1190 vy_X9_bitsOfValue rfl rfl rfl rfl rfl (Nat.le_of_ble_eq_true rfl) (c_X9_bitsOfValue d hc17) ?_
        obtain ⟨hg19, hF20⟩ := ae_gdI hF18
        obtain ⟨s21, hs21, hF22⟩ := ae_ltI hF20
        refine ae_last (q := (27, 0)) dX9_orderRow_117 rfl rfl (ae_ibI hg19) (ae_nmS hs21 ?_)
        obtain ⟨x23, hx23, hF24⟩ := ae_ltI hF22
        refine ae_iinc (lv' := [(2, ae_i x23), (0, ae_r (some (8, i0))), (1, ae_r (some (27, 0)))]) 2 (1 : Int32) dX9_orderRow_118 rfl (by decide) (by decide) (by rw [hx23]; rfl) ?_
        refine ae_goto 83 dX9_orderRow_121 rfl ?_
        refine ae_pick (lv' := [(0, ae_r (some (8, i0))), (1, ae_r (some (27, 0))), (2, ae_i x23)]) [1, 2, 0] rfl ?_
        exact ih i0 x23 s21 hF24
def F_X9_orderRow_81 (i0 : Fin 32) (s0 : ae_S) : Option (Unit × ae_S) := F_X9_orderRow_83 ae_fu i0 (0 : Int32) s0
set_option maxHeartbeats 4000000 in
set_option maxRecDepth 100000 in
theorem t_X9_orderRow_81 {l : Launch} {G : ae_G} (d : Nat) {rr : Unit} {ss : ae_S} (i0 : Fin 32) (s0 : ae_S) (hF : F_X9_orderRow_81 i0 s0 = some (rr, ss)) : ae_T l G (d + 6) mX9_orderRow (ae_Po none ss) 81 [(0, ae_r (some (8, i0))), (1, ae_r (some (27, 0)))] [] s0 := by
  unfold F_X9_orderRow_81 at hF
  refine ae_iconst (0 : Int32) dX9_orderRow_81 (by decide) ?_
  refine ae_istore_n (lv' := [(2, ae_i (0 : Int32)), (0, ae_r (some (8, i0))), (1, ae_r (some (27, 0)))]) dX9_orderRow_82 (by decide) rfl ?_
  refine ae_pick (lv' := [(0, ae_r (some (8, i0))), (1, ae_r (some (27, 0))), (2, ae_i (0 : Int32))]) [1, 2, 0] rfl ?_
  exact t_X9_orderRow_83 d ae_fu i0 (0 : Int32) s0 hF
def F_X9_orderRow_70 (k2 : Fin 32 → Int32 → ae_S → Option (Unit × ae_S)) (i0 : Fin 32) (v2 : Int32) (v3 : Int64) (v5 : Int32) (s0 : ae_S) : Option (Unit × ae_S) := ae_gd (ae_ib v5 64) (ae_lt (ae_wL s0 27 0 v5.toNatClampNeg v3) (fun s27 => ae_lt (v2 + (1 : Int32)) (fun x29 => k2 i0 x29 s27)))
set_option maxHeartbeats 4000000 in
set_option maxRecDepth 100000 in
theorem t_X9_orderRow_70 {l : Launch} {G : ae_G} (d : Nat) (k2 : Fin 32 → Int32 → ae_S → Option (Unit × ae_S)) {rr : Unit} {ss : ae_S} (hk2 : ∀ (i0 : Fin 32) (v2 : Int32) (s0 : ae_S), k2 i0 v2 s0 = some (rr, ss) → ae_T l G (d + 6) mX9_orderRow (ae_Po none ss) 2 [(0, ae_r (some (8, i0))), (1, ae_r (some (27, 0))), (2, ae_i v2)] [] s0) (i0 : Fin 32) (v2 : Int32) (v3 : Int64) (v5 : Int32) (s0 : ae_S) (hF : F_X9_orderRow_70 k2 i0 v2 v3 v5 s0 = some (rr, ss)) : ae_T l G (d + 6) mX9_orderRow (ae_Po none ss) 70 [(0, ae_r (some (8, i0))), (1, ae_r (some (27, 0))), (2, ae_i v2), (3, ae_l v3), (5, ae_i v5)] [] s0 := by
  unfold F_X9_orderRow_70 at hF
  refine ae_aload_n 1 dX9_orderRow_70 rfl ?_
  refine ae_iload 4 dX9_orderRow_71 rfl ?_
  refine ae_lload_n 3 dX9_orderRow_73 rfl ?_
  obtain ⟨hg25, hF26⟩ := ae_gdI hF
  obtain ⟨s27, hs27, hF28⟩ := ae_ltI hF26
  refine ae_last (q := (27, 0)) dX9_orderRow_74 rfl rfl (ae_ibI hg25) (ae_nmS hs27 ?_)
  obtain ⟨x29, hx29, hF30⟩ := ae_ltI hF28
  refine ae_iinc (lv' := [(2, ae_i x29), (0, ae_r (some (8, i0))), (1, ae_r (some (27, 0))), (3, ae_l v3), (5, ae_i v5)]) 2 (1 : Int32) dX9_orderRow_75 rfl (by decide) (by decide) (by rw [hx29]; rfl) ?_
  refine ae_goto 2 dX9_orderRow_78 rfl ?_
  refine ae_pick (lv' := [(0, ae_r (some (8, i0))), (1, ae_r (some (27, 0))), (2, ae_i x29)]) [1, 2, 0] rfl ?_
  exact hk2 i0 x29 s27 hF30
def F_X9_orderRow_36 (k2 : Fin 32 → Int32 → ae_S → Option (Unit × ae_S)) : Nat → Fin 32 → Int32 → Int64 → Int32 → Int32 → ae_S → Option (Unit × ae_S)
  | 0, _, _, _, _, _, _ => none
  | n + 1, i0, v2, v3, v5, v6, s0 => if v6 < 0 then (F_X9_orderRow_70 k2 i0 v2 v3 v5 s0) else (ae_gd (ae_ib v6 64) (if (lg_cmp (s0.2.1 27 0 v6.toNatClampNeg) v3) ≤ 0 then (F_X9_orderRow_70 k2 i0 v2 v3 v5 s0) else (ae_gd (ae_ib v6 64) (ae_gd (ae_ib (v6 + (1 : Int32)) 64) (ae_lt (ae_wL s0 27 0 (v6 + (1 : Int32)).toNatClampNeg (s0.2.1 27 0 v6.toNatClampNeg)) (fun s41 => ae_lt (v6 + (-1 : Int32)) (fun x43 => F_X9_orderRow_36 k2 n i0 v2 v3 v6 x43 s41)))))))
set_option maxHeartbeats 4000000 in
set_option maxRecDepth 100000 in
theorem t_X9_orderRow_36 {l : Launch} {G : ae_G} (d : Nat) (k2 : Fin 32 → Int32 → ae_S → Option (Unit × ae_S)) {rr : Unit} {ss : ae_S} (hk2 : ∀ (i0 : Fin 32) (v2 : Int32) (s0 : ae_S), k2 i0 v2 s0 = some (rr, ss) → ae_T l G (d + 6) mX9_orderRow (ae_Po none ss) 2 [(0, ae_r (some (8, i0))), (1, ae_r (some (27, 0))), (2, ae_i v2)] [] s0) : ∀ (n : Nat) (i0 : Fin 32) (v2 : Int32) (v3 : Int64) (v5 : Int32) (v6 : Int32) (s0 : ae_S), F_X9_orderRow_36 k2 n i0 v2 v3 v5 v6 s0 = some (rr, ss) → ae_T l G (d + 6) mX9_orderRow (ae_Po none ss) 36 [(0, ae_r (some (8, i0))), (1, ae_r (some (27, 0))), (2, ae_i v2), (3, ae_l v3), (5, ae_i v5), (6, ae_i v6)] [] s0 := by
  intro n
  induction n with
  | zero =>
    intro i0 v2 v3 v5 v6 s0 hF
    exact absurd (show (none : Option (Unit × ae_S)) = some (rr, ss) from hF) (by simp)
  | succ n ih =>
    intro i0 v2 v3 v5 v6 s0 hF
    unfold F_X9_orderRow_36 at hF
    refine ae_iload 5 dX9_orderRow_36 rfl ?_
    refine ae_if_lt 70 dX9_orderRow_38 rfl (fun hb31 => ?_) (fun hb31 => ?_)
    · have hF32 := ae_ifT hb31 hF
      refine ae_pick (lv' := [(0, ae_r (some (8, i0))), (1, ae_r (some (27, 0))), (2, ae_i v2), (3, ae_l v3), (5, ae_i v5)]) [0, 1, 2, 3, 4] rfl ?_
      exact t_X9_orderRow_70 d k2 hk2 i0 v2 v3 v5 s0 hF32
    · have hF32 := ae_ifF hb31 hF
      refine ae_aload_n 1 dX9_orderRow_41 rfl ?_
      refine ae_iload 5 dX9_orderRow_42 rfl ?_
      obtain ⟨hg33, hF34⟩ := ae_gdI hF32
      refine ae_lald (q := (27, 0)) dX9_orderRow_44 rfl rfl (ae_ibI hg33) ?_
      refine ae_lload_n 3 dX9_orderRow_45 rfl ?_
      refine ae_lcmp dX9_orderRow_46 ?_
      refine ae_if_le 70 dX9_orderRow_47 rfl (fun hb35 => ?_) (fun hb35 => ?_)
      · have hF36 := ae_ifT hb35 hF34
        refine ae_pick (lv' := [(0, ae_r (some (8, i0))), (1, ae_r (some (27, 0))), (2, ae_i v2), (3, ae_l v3), (5, ae_i v5)]) [0, 1, 2, 3, 4] rfl ?_
        exact t_X9_orderRow_70 d k2 hk2 i0 v2 v3 v5 s0 hF36
      · have hF36 := ae_ifF hb35 hF34
        refine ae_aload_n 1 dX9_orderRow_50 rfl ?_
        refine ae_iload 5 dX9_orderRow_51 rfl ?_
        refine ae_iconst (1 : Int32) dX9_orderRow_53 (by decide) ?_
        refine ae_iadd dX9_orderRow_54 ?_
        refine ae_aload_n 1 dX9_orderRow_55 rfl ?_
        refine ae_iload 5 dX9_orderRow_56 rfl ?_
        obtain ⟨hg37, hF38⟩ := ae_gdI hF36
        refine ae_lald (q := (27, 0)) dX9_orderRow_58 rfl rfl (ae_ibI hg37) ?_
        obtain ⟨hg39, hF40⟩ := ae_gdI hF38
        obtain ⟨s41, hs41, hF42⟩ := ae_ltI hF40
        refine ae_last (q := (27, 0)) dX9_orderRow_59 rfl rfl (ae_ibI hg39) (ae_nmS hs41 ?_)
        refine ae_iload 5 dX9_orderRow_60 rfl ?_
        refine ae_istore (lv' := [(5, ae_i v6), (0, ae_r (some (8, i0))), (1, ae_r (some (27, 0))), (2, ae_i v2), (3, ae_l v3), (6, ae_i v6)]) dX9_orderRow_62 (by decide) rfl ?_
        obtain ⟨x43, hx43, hF44⟩ := ae_ltI hF42
        refine ae_iinc (lv' := [(6, ae_i x43), (5, ae_i v6), (0, ae_r (some (8, i0))), (1, ae_r (some (27, 0))), (2, ae_i v2), (3, ae_l v3)]) 5 (-1 : Int32) dX9_orderRow_64 rfl (by decide) (by decide) (by rw [hx43]; rfl) ?_
        refine ae_goto 36 dX9_orderRow_67 rfl ?_
        refine ae_pick (lv' := [(0, ae_r (some (8, i0))), (1, ae_r (some (27, 0))), (2, ae_i v2), (3, ae_l v3), (5, ae_i v6), (6, ae_i x43)]) [2, 3, 4, 5, 1, 0] rfl ?_
        exact ih i0 v2 v3 v6 x43 s41 hF44
def F_X9_orderRow_2 : Nat → Fin 32 → Int32 → ae_S → Option (Unit × ae_S)
  | 0, _, _, _ => none
  | n + 1, i0, v2, s0 => if (s0.1 8 i0 7) ≤ v2 then (F_X9_orderRow_81 i0 s0) else (if (64 : Int32) ≤ v2 then (F_X9_orderRow_81 i0 s0) else (ae_gd (ae_ib v2 64) (ae_bd (F_X9_valueOf i0 (s0.2.1 27 0 v2.toNatClampNeg) s0) (fun (r51 : Int64) s52 => ae_bd (F_X9_orderOf i0 r51 s52) (fun (r55 : Int64) s56 => ae_lt (v2 - (1 : Int32)) (fun x59 => F_X9_orderRow_36 (F_X9_orderRow_2 n) ae_fu i0 v2 r55 v2 x59 s56))))))
set_option maxHeartbeats 4000000 in
set_option maxRecDepth 100000 in
theorem t_X9_orderRow_2 {l : Launch} {G : ae_G} (d : Nat) {rr : Unit} {ss : ae_S} : ∀ (n : Nat) (i0 : Fin 32) (v2 : Int32) (s0 : ae_S), F_X9_orderRow_2 n i0 v2 s0 = some (rr, ss) → ae_T l G (d + 6) mX9_orderRow (ae_Po none ss) 2 [(0, ae_r (some (8, i0))), (1, ae_r (some (27, 0))), (2, ae_i v2)] [] s0 := by
  intro n
  induction n with
  | zero =>
    intro i0 v2 s0 hF
    exact absurd (show (none : Option (Unit × ae_S)) = some (rr, ss) from hF) (by simp)
  | succ n ih =>
    intro i0 v2 s0 hF
    unfold F_X9_orderRow_2 at hF
    refine ae_iload_n 2 dX9_orderRow_2 rfl ?_
    refine ae_aload_n 0 dX9_orderRow_3 rfl ?_
    refine ae_getI (q := (8, i0)) dX9_orderRow_4 fl_RX9_43 rfl rfl ?_
    refine ae_icmp_ge 81 dX9_orderRow_7 rfl (fun hb45 => ?_) (fun hb45 => ?_)
    · have hF46 := ae_ifT hb45 hF
      refine ae_pick (lv' := [(0, ae_r (some (8, i0))), (1, ae_r (some (27, 0)))]) [0, 1] rfl ?_
      exact t_X9_orderRow_81 d i0 s0 hF46
    · have hF46 := ae_ifF hb45 hF
      refine ae_iload_n 2 dX9_orderRow_10 rfl ?_
      refine ae_aload_n 1 dX9_orderRow_11 rfl ?_
      refine ae_alen (q := (27, 0)) (64 : Int32) dX9_orderRow_12 rfl rfl (by simp [ae_at]) (by decide) ?_
      refine ae_icmp_ge 81 dX9_orderRow_13 rfl (fun hb47 => ?_) (fun hb47 => ?_)
      · have hF48 := ae_ifT hb47 hF46
        refine ae_pick (lv' := [(0, ae_r (some (8, i0))), (1, ae_r (some (27, 0)))]) [0, 1] rfl ?_
        exact t_X9_orderRow_81 d i0 s0 hF48
      · have hF48 := ae_ifF hb47 hF46
        refine ae_aload_n 0 dX9_orderRow_16 rfl ?_
        refine ae_aload_n 0 dX9_orderRow_17 rfl ?_
        refine ae_aload_n 1 dX9_orderRow_18 rfl ?_
        refine ae_iload_n 2 dX9_orderRow_19 rfl ?_
        obtain ⟨hg49, hF50⟩ := ae_gdI hF48
        refine ae_lald (q := (27, 0)) dX9_orderRow_20 rfl rfl (ae_ibI hg49) ?_
        obtain ⟨r51, s52, hc53, hF54⟩ := ae_bdI hF50
        refine ae_cV1 (q := (8, i0)) (As := [ae_l (s0.2.1 27 0 v2.toNatClampNeg)]) dX9_orderRow_21 ww_1082 vy_X9_valueOf rfl rfl rfl rfl rfl (Nat.le_of_ble_eq_true rfl) (c_X9_valueOf (d + 1) hc53) ?_
        obtain ⟨r55, s56, hc57, hF58⟩ := ae_bdI hF54
        refine ae_cV1 (q := (8, i0)) (As := [ae_l r51]) dX9_orderRow_24 ww_1185 vy_X9_orderOf rfl rfl rfl rfl rfl (Nat.le_of_ble_eq_true rfl) (c_X9_orderOf (d + 4) hc57) ?_
        refine ae_lstore_n (lv' := [(3, ae_l r55), (0, ae_r (some (8, i0))), (1, ae_r (some (27, 0))), (2, ae_i v2)]) dX9_orderRow_27 (by decide) rfl ?_
        refine ae_iload_n 3 dX9_orderRow_28 rfl ?_
        refine ae_istore (lv' := [(5, ae_i v2), (3, ae_l r55), (0, ae_r (some (8, i0))), (1, ae_r (some (27, 0))), (2, ae_i v2)]) dX9_orderRow_29 (by decide) rfl ?_
        refine ae_iload_n 4 dX9_orderRow_31 rfl ?_
        refine ae_iconst (1 : Int32) dX9_orderRow_32 (by decide) ?_
        refine ae_isub dX9_orderRow_33 ?_
        obtain ⟨x59, hx59, hF60⟩ := ae_ltI hF58
        refine ae_nmI hx59 ?_
        refine ae_istore (lv' := [(6, ae_i x59), (5, ae_i v2), (3, ae_l r55), (0, ae_r (some (8, i0))), (1, ae_r (some (27, 0))), (2, ae_i v2)]) dX9_orderRow_34 (by decide) rfl ?_
        refine ae_pick (lv' := [(0, ae_r (some (8, i0))), (1, ae_r (some (27, 0))), (2, ae_i v2), (3, ae_l r55), (5, ae_i v2), (6, ae_i x59)]) [3, 4, 5, 2, 1, 0] rfl ?_
        exact t_X9_orderRow_36 d (F_X9_orderRow_2 n) ih ae_fu i0 v2 r55 v2 x59 s56 hF60
def F_X9_orderRow (i0 : Fin 32) (s0 : ae_S) : Option (Unit × ae_S) := F_X9_orderRow_2 ae_fu i0 (0 : Int32) s0
set_option maxHeartbeats 4000000 in
set_option maxRecDepth 100000 in
theorem c_X9_orderRow {l : Launch} {G : ae_G} (d : Nat) {i0 : Fin 32} {s0 ss : ae_S} {rr : Unit} (hF : F_X9_orderRow i0 s0 = some (rr, ss)) : ae_Met l G (d + 6) yX9_orderRow mX9_orderRow [ae_r (some (8, i0)), ae_r (some (27, 0))] s0 (ae_Po none ss) := by
  refine ae_enter (by decide) rfl (Nat.le_of_ble_eq_true rfl) ?_
  show ae_T l G (d + 6) mX9_orderRow (ae_Po none ss) 0 [(0, ae_r (some (8, i0))), (1, ae_r (some (27, 0)))] [] s0
  unfold F_X9_orderRow at hF
  refine ae_iconst (0 : Int32) dX9_orderRow_0 (by decide) ?_
  refine ae_istore_n (lv' := [(2, ae_i (0 : Int32)), (0, ae_r (some (8, i0))), (1, ae_r (some (27, 0)))]) dX9_orderRow_1 (by decide) rfl ?_
  refine ae_pick (lv' := [(0, ae_r (some (8, i0))), (1, ae_r (some (27, 0))), (2, ae_i (0 : Int32))]) [1, 2, 0] rfl ?_
  exact t_X9_orderRow_2 d ae_fu i0 (0 : Int32) s0 hF
abbrev mX9_addHead : ae_M := (RX9, cX9_addHead, 3, none)
theorem vy_X9_addHead : ae_VY yX9_addHead mX9_addHead 1 := ⟨ww_1204, ww_1205, ww_5, ww_1206, ⟨by decide, by decide, by decide +kernel⟩, by decide⟩
theorem dX9_addHead_0 : decode cX9_addHead 0 = .ok (.aload_n 1, 1) := by decide +kernel
theorem dX9_addHead_1 : decode cX9_addHead 1 = .ok (.aload_n 0, 1) := by decide +kernel
theorem dX9_addHead_2 : decode cX9_addHead 2 = .ok (.getfield 31, 3) := by decide +kernel
theorem dX9_addHead_5 : decode cX9_addHead 5 = .ok (.invokevirtual 146, 3) := by decide +kernel
theorem dX9_addHead_8 : decode cX9_addHead 8 = .ok (.aload_n 1, 1) := by decide +kernel
theorem dX9_addHead_9 : decode cX9_addHead 9 = .ok (.bipush 32, 2) := by decide +kernel
theorem dX9_addHead_11 : decode cX9_addHead 11 = .ok (.invokevirtual 152, 3) := by decide +kernel
theorem dX9_addHead_14 : decode cX9_addHead 14 = .ok (.aload_n 1, 1) := by decide +kernel
theorem dX9_addHead_15 : decode cX9_addHead 15 = .ok (.aload_n 0, 1) := by decide +kernel
theorem dX9_addHead_16 : decode cX9_addHead 16 = .ok (.getfield 28, 3) := by decide +kernel
theorem dX9_addHead_19 : decode cX9_addHead 19 = .ok (.getfield 156, 3) := by decide +kernel
theorem dX9_addHead_22 : decode cX9_addHead 22 = .ok (.invokevirtual 160, 3) := by decide +kernel
theorem dX9_addHead_25 : decode cX9_addHead 25 = .ok (.aload_n 0, 1) := by decide +kernel
theorem dX9_addHead_26 : decode cX9_addHead 26 = .ok (.getfield 35, 3) := by decide +kernel
theorem dX9_addHead_29 : decode cX9_addHead 29 = .ok (.ifCond .eq 9, 3) := by decide +kernel
theorem dX9_addHead_32 : decode cX9_addHead 32 = .ok (.aload_n 1, 1) := by decide +kernel
theorem dX9_addHead_33 : decode cX9_addHead 33 = .ok (.ldc 164, 2) := by decide +kernel
theorem dX9_addHead_35 : decode cX9_addHead 35 = .ok (.invokevirtual 160, 3) := by decide +kernel
theorem dX9_addHead_38 : decode cX9_addHead 38 = .ok (.aload_n 1, 1) := by decide +kernel
theorem dX9_addHead_39 : decode cX9_addHead 39 = .ok (.ldc 166, 2) := by decide +kernel
theorem dX9_addHead_41 : decode cX9_addHead 41 = .ok (.invokevirtual 160, 3) := by decide +kernel
theorem dX9_addHead_44 : decode cX9_addHead 44 = .ok (.aload_n 1, 1) := by decide +kernel
theorem dX9_addHead_45 : decode cX9_addHead 45 = .ok (.aload_n 0, 1) := by decide +kernel
theorem dX9_addHead_46 : decode cX9_addHead 46 = .ok (.getfield 39, 3) := by decide +kernel
theorem dX9_addHead_49 : decode cX9_addHead 49 = .ok (.invokevirtual 168, 3) := by decide +kernel
theorem dX9_addHead_52 : decode cX9_addHead 52 = .ok (.aload_n 0, 1) := by decide +kernel
theorem dX9_addHead_53 : decode cX9_addHead 53 = .ok (.getfield 46, 3) := by decide +kernel
theorem dX9_addHead_56 : decode cX9_addHead 56 = .ok (.aload_n 0, 1) := by decide +kernel
theorem dX9_addHead_57 : decode cX9_addHead 57 = .ok (.getfield 28, 3) := by decide +kernel
theorem dX9_addHead_60 : decode cX9_addHead 60 = .ok (.getfield 58, 3) := by decide +kernel
theorem dX9_addHead_63 : decode cX9_addHead 63 = .ok (.if_icmp .eq 7, 3) := by decide +kernel
theorem dX9_addHead_66 : decode cX9_addHead 66 = .ok (.iconst 1, 1) := by decide +kernel
theorem dX9_addHead_67 : decode cX9_addHead 67 = .ok (.goto 4, 3) := by decide +kernel
theorem dX9_addHead_70 : decode cX9_addHead 70 = .ok (.iconst 0, 1) := by decide +kernel
theorem dX9_addHead_71 : decode cX9_addHead 71 = .ok (.istore_n 2, 1) := by decide +kernel
theorem dX9_addHead_72 : decode cX9_addHead 72 = .ok (.aload_n 0, 1) := by decide +kernel
theorem dX9_addHead_73 : decode cX9_addHead 73 = .ok (.getfield 43, 3) := by decide +kernel
theorem dX9_addHead_76 : decode cX9_addHead 76 = .ok (.iconst 1, 1) := by decide +kernel
theorem dX9_addHead_77 : decode cX9_addHead 77 = .ok (.if_icmp .gt 7, 3) := by decide +kernel
theorem dX9_addHead_80 : decode cX9_addHead 80 = .ok (.iload_n 2, 1) := by decide +kernel
theorem dX9_addHead_81 : decode cX9_addHead 81 = .ok (.ifCond .eq 17, 3) := by decide +kernel
theorem dX9_addHead_84 : decode cX9_addHead 84 = .ok (.aload_n 1, 1) := by decide +kernel
theorem dX9_addHead_85 : decode cX9_addHead 85 = .ok (.ldc 171, 2) := by decide +kernel
theorem dX9_addHead_87 : decode cX9_addHead 87 = .ok (.invokevirtual 160, 3) := by decide +kernel
theorem dX9_addHead_90 : decode cX9_addHead 90 = .ok (.aload_n 1, 1) := by decide +kernel
theorem dX9_addHead_91 : decode cX9_addHead 91 = .ok (.aload_n 0, 1) := by decide +kernel
theorem dX9_addHead_92 : decode cX9_addHead 92 = .ok (.getfield 43, 3) := by decide +kernel
theorem dX9_addHead_95 : decode cX9_addHead 95 = .ok (.invokevirtual 168, 3) := by decide +kernel
theorem dX9_addHead_98 : decode cX9_addHead 98 = .ok (.iload_n 2, 1) := by decide +kernel
theorem dX9_addHead_99 : decode cX9_addHead 99 = .ok (.ifCond .eq 17, 3) := by decide +kernel
theorem dX9_addHead_102 : decode cX9_addHead 102 = .ok (.aload_n 1, 1) := by decide +kernel
theorem dX9_addHead_103 : decode cX9_addHead 103 = .ok (.ldc 173, 2) := by decide +kernel
theorem dX9_addHead_105 : decode cX9_addHead 105 = .ok (.invokevirtual 160, 3) := by decide +kernel
theorem dX9_addHead_108 : decode cX9_addHead 108 = .ok (.aload_n 1, 1) := by decide +kernel
theorem dX9_addHead_109 : decode cX9_addHead 109 = .ok (.aload_n 0, 1) := by decide +kernel
theorem dX9_addHead_110 : decode cX9_addHead 110 = .ok (.getfield 46, 3) := by decide +kernel
theorem dX9_addHead_113 : decode cX9_addHead 113 = .ok (.invokevirtual 168, 3) := by decide +kernel
theorem dX9_addHead_116 : decode cX9_addHead 116 = .ok (.aload_n 0, 1) := by decide +kernel
theorem dX9_addHead_117 : decode cX9_addHead 117 = .ok (.getfield 49, 3) := by decide +kernel
theorem dX9_addHead_120 : decode cX9_addHead 120 = .ok (.iconst 1, 1) := by decide +kernel
theorem dX9_addHead_121 : decode cX9_addHead 121 = .ok (.if_icmp .ne 12, 3) := by decide +kernel
theorem dX9_addHead_124 : decode cX9_addHead 124 = .ok (.aload_n 1, 1) := by decide +kernel
theorem dX9_addHead_125 : decode cX9_addHead 125 = .ok (.ldc 175, 2) := by decide +kernel
theorem dX9_addHead_127 : decode cX9_addHead 127 = .ok (.invokevirtual 160, 3) := by decide +kernel
theorem dX9_addHead_130 : decode cX9_addHead 130 = .ok (.goto 34, 3) := by decide +kernel
theorem dX9_addHead_133 : decode cX9_addHead 133 = .ok (.aload_n 0, 1) := by decide +kernel
theorem dX9_addHead_134 : decode cX9_addHead 134 = .ok (.getfield 49, 3) := by decide +kernel
theorem dX9_addHead_137 : decode cX9_addHead 137 = .ok (.iconst 2, 1) := by decide +kernel
theorem dX9_addHead_138 : decode cX9_addHead 138 = .ok (.if_icmp .ne 12, 3) := by decide +kernel
theorem dX9_addHead_141 : decode cX9_addHead 141 = .ok (.aload_n 1, 1) := by decide +kernel
theorem dX9_addHead_142 : decode cX9_addHead 142 = .ok (.ldc 177, 2) := by decide +kernel
theorem dX9_addHead_144 : decode cX9_addHead 144 = .ok (.invokevirtual 160, 3) := by decide +kernel
theorem dX9_addHead_147 : decode cX9_addHead 147 = .ok (.goto 17, 3) := by decide +kernel
theorem dX9_addHead_150 : decode cX9_addHead 150 = .ok (.aload_n 0, 1) := by decide +kernel
theorem dX9_addHead_151 : decode cX9_addHead 151 = .ok (.getfield 49, 3) := by decide +kernel
theorem dX9_addHead_154 : decode cX9_addHead 154 = .ok (.iconst 3, 1) := by decide +kernel
theorem dX9_addHead_155 : decode cX9_addHead 155 = .ok (.if_icmp .ne 9, 3) := by decide +kernel
theorem dX9_addHead_158 : decode cX9_addHead 158 = .ok (.aload_n 1, 1) := by decide +kernel
theorem dX9_addHead_159 : decode cX9_addHead 159 = .ok (.ldc 179, 2) := by decide +kernel
theorem dX9_addHead_161 : decode cX9_addHead 161 = .ok (.invokevirtual 160, 3) := by decide +kernel
theorem dX9_addHead_164 : decode cX9_addHead 164 = .ok (.return_, 1) := by decide +kernel
def F_X9_addHead_164 (s0 : ae_S) : Option (Unit × ae_S) := some ((), s0)
set_option maxHeartbeats 4000000 in
set_option maxRecDepth 100000 in
theorem t_X9_addHead_164 {l : Launch} {G : ae_G} (d : Nat) {rr : Unit} {ss : ae_S} (s0 : ae_S) (hF : F_X9_addHead_164 s0 = some (rr, ss)) : ae_T l G (d + 5) mX9_addHead (ae_Po none ss) 164 [] [] s0 := by
  unfold F_X9_addHead_164 at hF
  obtain ⟨rfl, rfl⟩ := ae_retI hF
  exact ae_vret dX9_addHead_164 rfl ⟨rfl, rfl⟩
def F_X9_addHead_116 (i0 : Fin 32) (i1 : Fin 32) (s0 : ae_S) : Option (Unit × ae_S) := if (s0.1 8 i0 9) = (1 : Int32) then (ae_gd (ae_ok (1, i1)) (ae_bd (F_X7_addWord i1 (13 : Fin 32) s0) (fun (r21 : Unit) s22 => F_X9_addHead_164 s22))) else (if (s0.1 8 i0 9) = (2 : Int32) then (ae_gd (ae_ok (1, i1)) (ae_bd (F_X7_addWord i1 (14 : Fin 32) s0) (fun (r15 : Unit) s16 => F_X9_addHead_164 s16))) else (if (s0.1 8 i0 9) = (3 : Int32) then (ae_gd (ae_ok (1, i1)) (ae_bd (F_X7_addWord i1 (15 : Fin 32) s0) (fun (r9 : Unit) s10 => F_X9_addHead_164 s10))) else (F_X9_addHead_164 s0)))
set_option maxHeartbeats 4000000 in
set_option maxRecDepth 100000 in
theorem t_X9_addHead_116 {l : Launch} {G : ae_G} (d : Nat) {rr : Unit} {ss : ae_S} (i0 : Fin 32) (i1 : Fin 32) (s0 : ae_S) (hF : F_X9_addHead_116 i0 i1 s0 = some (rr, ss)) : ae_T l G (d + 5) mX9_addHead (ae_Po none ss) 116 [(0, ae_r (some (8, i0))), (1, ae_r (some (1, i1)))] [] s0 := by
  unfold F_X9_addHead_116 at hF
  refine ae_aload_n 0 dX9_addHead_116 rfl ?_
  refine ae_getI (q := (8, i0)) dX9_addHead_117 fl_RX9_49 rfl rfl ?_
  refine ae_iconst (1 : Int32) dX9_addHead_120 (by decide) ?_
  refine ae_icmp_ne 133 dX9_addHead_121 rfl (fun hb1 => ?_) (fun hb1 => ?_)
  · have hF2 := ae_ifF hb1 hF
    refine ae_aload_n 0 dX9_addHead_133 rfl ?_
    refine ae_getI (q := (8, i0)) dX9_addHead_134 fl_RX9_49 rfl rfl ?_
    refine ae_iconst (2 : Int32) dX9_addHead_137 (by decide) ?_
    refine ae_icmp_ne 150 dX9_addHead_138 rfl (fun hb3 => ?_) (fun hb3 => ?_)
    · have hF4 := ae_ifF hb3 hF2
      refine ae_aload_n 0 dX9_addHead_150 rfl ?_
      refine ae_getI (q := (8, i0)) dX9_addHead_151 fl_RX9_49 rfl rfl ?_
      refine ae_iconst (3 : Int32) dX9_addHead_154 (by decide) ?_
      refine ae_icmp_ne 164 dX9_addHead_155 rfl (fun hb5 => ?_) (fun hb5 => ?_)
      · have hF6 := ae_ifF hb5 hF4
        refine ae_pick (lv' := []) [] rfl ?_
        exact t_X9_addHead_164 d s0 hF6
      · have hF6 := ae_ifT hb5 hF4
        refine ae_aload_n 1 dX9_addHead_158 rfl ?_
        refine ae_ldcS (i := 15) (tx := " reads") 24 dX9_addHead_159 rfl ?_
        obtain ⟨hg7, hF8⟩ := ae_gdI hF6
        obtain ⟨r9, s10, hc11, hF12⟩ := ae_bdI hF8
        refine ae_cV0 (q := (1, i1)) (As := [ae_r (some (62, 15))]) dX9_addHead_161 ww_1212 vy_X7_addWord hg7 rfl rfl rfl rfl (Nat.le_of_ble_eq_true rfl) (c_X7_addWord d hc11) ?_
        refine ae_pick (lv' := []) [] rfl ?_
        exact t_X9_addHead_164 d s10 hF12
    · have hF4 := ae_ifT hb3 hF2
      refine ae_aload_n 1 dX9_addHead_141 rfl ?_
      refine ae_ldcS (i := 14) (tx := " ones") 23 dX9_addHead_142 rfl ?_
      obtain ⟨hg13, hF14⟩ := ae_gdI hF4
      obtain ⟨r15, s16, hc17, hF18⟩ := ae_bdI hF14
      refine ae_cV0 (q := (1, i1)) (As := [ae_r (some (62, 14))]) dX9_addHead_144 ww_1212 vy_X7_addWord hg13 rfl rfl rfl rfl (Nat.le_of_ble_eq_true rfl) (c_X7_addWord d hc17) ?_
      refine ae_goto 164 dX9_addHead_147 rfl ?_
      refine ae_pick (lv' := []) [] rfl ?_
      exact t_X9_addHead_164 d s16 hF18
  · have hF2 := ae_ifT hb1 hF
    refine ae_aload_n 1 dX9_addHead_124 rfl ?_
    refine ae_ldcS (i := 13) (tx := " ro") 22 dX9_addHead_125 rfl ?_
    obtain ⟨hg19, hF20⟩ := ae_gdI hF2
    obtain ⟨r21, s22, hc23, hF24⟩ := ae_bdI hF20
    refine ae_cV0 (q := (1, i1)) (As := [ae_r (some (62, 13))]) dX9_addHead_127 ww_1212 vy_X7_addWord hg19 rfl rfl rfl rfl (Nat.le_of_ble_eq_true rfl) (c_X7_addWord d hc23) ?_
    refine ae_goto 164 dX9_addHead_130 rfl ?_
    refine ae_pick (lv' := []) [] rfl ?_
    exact t_X9_addHead_164 d s22 hF24
def F_X9_addHead_98 (i0 : Fin 32) (i1 : Fin 32) (v2 : Int32) (s0 : ae_S) : Option (Unit × ae_S) := if v2 = 0 then (F_X9_addHead_116 i0 i1 s0) else (ae_gd (ae_ok (1, i1)) (ae_bd (F_X7_addWord i1 (12 : Fin 32) s0) (fun (r29 : Unit) s30 => ae_bd (F_X7_addNumber i1 (s30.1 8 i0 8) s30) (fun (r33 : Unit) s34 => F_X9_addHead_116 i0 i1 s34))))
set_option maxHeartbeats 4000000 in
set_option maxRecDepth 100000 in
theorem t_X9_addHead_98 {l : Launch} {G : ae_G} (d : Nat) {rr : Unit} {ss : ae_S} (i0 : Fin 32) (i1 : Fin 32) (v2 : Int32) (s0 : ae_S) (hF : F_X9_addHead_98 i0 i1 v2 s0 = some (rr, ss)) : ae_T l G (d + 5) mX9_addHead (ae_Po none ss) 98 [(0, ae_r (some (8, i0))), (1, ae_r (some (1, i1))), (2, ae_i v2)] [] s0 := by
  unfold F_X9_addHead_98 at hF
  refine ae_iload_n 2 dX9_addHead_98 rfl ?_
  refine ae_if_eq 116 dX9_addHead_99 rfl (fun hb25 => ?_) (fun hb25 => ?_)
  · have hF26 := ae_ifT hb25 hF
    refine ae_pick (lv' := [(0, ae_r (some (8, i0))), (1, ae_r (some (1, i1)))]) [0, 1] rfl ?_
    exact t_X9_addHead_116 d i0 i1 s0 hF26
  · have hF26 := ae_ifF hb25 hF
    refine ae_aload_n 1 dX9_addHead_102 rfl ?_
    refine ae_ldcS (i := 12) (tx := " by ") 21 dX9_addHead_103 rfl ?_
    obtain ⟨hg27, hF28⟩ := ae_gdI hF26
    obtain ⟨r29, s30, hc31, hF32⟩ := ae_bdI hF28
    refine ae_cV0 (q := (1, i1)) (As := [ae_r (some (62, 12))]) dX9_addHead_105 ww_1212 vy_X7_addWord hg27 rfl rfl rfl rfl (Nat.le_of_ble_eq_true rfl) (c_X7_addWord d hc31) ?_
    refine ae_aload_n 1 dX9_addHead_108 rfl ?_
    refine ae_aload_n 0 dX9_addHead_109 rfl ?_
    refine ae_getI (q := (8, i0)) dX9_addHead_110 fl_RX9_46 rfl rfl ?_
    obtain ⟨r33, s34, hc35, hF36⟩ := ae_bdI hF32
    refine ae_cV0 (q := (1, i1)) (As := [ae_i (s30.1 8 i0 8)]) dX9_addHead_113 ww_1220 vy_X7_addNumber hg27 rfl rfl rfl rfl (Nat.le_of_ble_eq_true rfl) (c_X7_addNumber (d + 3) hc35) ?_
    refine ae_pick (lv' := [(0, ae_r (some (8, i0))), (1, ae_r (some (1, i1)))]) [0, 1] rfl ?_
    exact t_X9_addHead_116 d i0 i1 s34 hF36
def F_X9_addHead_84 (i0 : Fin 32) (i1 : Fin 32) (v2 : Int32) (s0 : ae_S) : Option (Unit × ae_S) := ae_gd (ae_ok (1, i1)) (ae_bd (F_X7_addWord i1 (11 : Fin 32) s0) (fun (r39 : Unit) s40 => ae_bd (F_X7_addNumber i1 (s40.1 8 i0 7) s40) (fun (r43 : Unit) s44 => F_X9_addHead_98 i0 i1 v2 s44)))
set_option maxHeartbeats 4000000 in
set_option maxRecDepth 100000 in
theorem t_X9_addHead_84 {l : Launch} {G : ae_G} (d : Nat) {rr : Unit} {ss : ae_S} (i0 : Fin 32) (i1 : Fin 32) (v2 : Int32) (s0 : ae_S) (hF : F_X9_addHead_84 i0 i1 v2 s0 = some (rr, ss)) : ae_T l G (d + 5) mX9_addHead (ae_Po none ss) 84 [(0, ae_r (some (8, i0))), (1, ae_r (some (1, i1))), (2, ae_i v2)] [] s0 := by
  unfold F_X9_addHead_84 at hF
  refine ae_aload_n 1 dX9_addHead_84 rfl ?_
  refine ae_ldcS (i := 11) (tx := " x ") 20 dX9_addHead_85 rfl ?_
  obtain ⟨hg37, hF38⟩ := ae_gdI hF
  obtain ⟨r39, s40, hc41, hF42⟩ := ae_bdI hF38
  refine ae_cV0 (q := (1, i1)) (As := [ae_r (some (62, 11))]) dX9_addHead_87 ww_1212 vy_X7_addWord hg37 rfl rfl rfl rfl (Nat.le_of_ble_eq_true rfl) (c_X7_addWord d hc41) ?_
  refine ae_aload_n 1 dX9_addHead_90 rfl ?_
  refine ae_aload_n 0 dX9_addHead_91 rfl ?_
  refine ae_getI (q := (8, i0)) dX9_addHead_92 fl_RX9_43 rfl rfl ?_
  obtain ⟨r43, s44, hc45, hF46⟩ := ae_bdI hF42
  refine ae_cV0 (q := (1, i1)) (As := [ae_i (s40.1 8 i0 7)]) dX9_addHead_95 ww_1220 vy_X7_addNumber hg37 rfl rfl rfl rfl (Nat.le_of_ble_eq_true rfl) (c_X7_addNumber (d + 3) hc45) ?_
  refine ae_pick (lv' := [(0, ae_r (some (8, i0))), (1, ae_r (some (1, i1))), (2, ae_i v2)]) [0, 1, 2] rfl ?_
  exact t_X9_addHead_98 d i0 i1 v2 s44 hF46
def F_X9_addHead_71 (i0 : Fin 32) (i1 : Fin 32) (t0 : Int32) (s0 : ae_S) : Option (Unit × ae_S) := if (1 : Int32) < (s0.1 8 i0 7) then (F_X9_addHead_84 i0 i1 t0 s0) else (if t0 = 0 then (F_X9_addHead_98 i0 i1 t0 s0) else (F_X9_addHead_84 i0 i1 t0 s0))
set_option maxHeartbeats 4000000 in
set_option maxRecDepth 100000 in
theorem t_X9_addHead_71 {l : Launch} {G : ae_G} (d : Nat) {rr : Unit} {ss : ae_S} (i0 : Fin 32) (i1 : Fin 32) (t0 : Int32) (s0 : ae_S) (hF : F_X9_addHead_71 i0 i1 t0 s0 = some (rr, ss)) : ae_T l G (d + 5) mX9_addHead (ae_Po none ss) 71 [(0, ae_r (some (8, i0))), (1, ae_r (some (1, i1)))] [ae_i t0] s0 := by
  unfold F_X9_addHead_71 at hF
  refine ae_istore_n (lv' := [(2, ae_i t0), (0, ae_r (some (8, i0))), (1, ae_r (some (1, i1)))]) dX9_addHead_71 (by decide) rfl ?_
  refine ae_aload_n 1 dX9_addHead_72 rfl ?_
  refine ae_getI (q := (8, i0)) dX9_addHead_73 fl_RX9_43 rfl rfl ?_
  refine ae_iconst (1 : Int32) dX9_addHead_76 (by decide) ?_
  refine ae_icmp_gt 84 dX9_addHead_77 rfl (fun hb47 => ?_) (fun hb47 => ?_)
  · have hF48 := ae_ifT hb47 hF
    refine ae_pick (lv' := [(0, ae_r (some (8, i0))), (1, ae_r (some (1, i1))), (2, ae_i t0)]) [1, 2, 0] rfl ?_
    exact t_X9_addHead_84 d i0 i1 t0 s0 hF48
  · have hF48 := ae_ifF hb47 hF
    refine ae_iload_n 0 dX9_addHead_80 rfl ?_
    refine ae_if_eq 98 dX9_addHead_81 rfl (fun hb49 => ?_) (fun hb49 => ?_)
    · have hF50 := ae_ifT hb49 hF48
      refine ae_pick (lv' := [(0, ae_r (some (8, i0))), (1, ae_r (some (1, i1))), (2, ae_i t0)]) [1, 2, 0] rfl ?_
      exact t_X9_addHead_98 d i0 i1 t0 s0 hF50
    · have hF50 := ae_ifF hb49 hF48
      refine ae_pick (lv' := [(0, ae_r (some (8, i0))), (1, ae_r (some (1, i1))), (2, ae_i t0)]) [1, 2, 0] rfl ?_
      exact t_X9_addHead_84 d i0 i1 t0 s0 hF50
def F_X9_addHead_38 (i0 : Fin 32) (i1 : Fin 32) (s0 : ae_S) : Option (Unit × ae_S) := ae_gd (ae_ok (1, i1)) (ae_bd (F_X7_addWord i1 (10 : Fin 32) s0) (fun (r53 : Unit) s54 => ae_bd (F_X7_addNumber i1 (s54.1 8 i0 6) s54) (fun (r57 : Unit) s58 => ae_mo (ae_gk (s58.2.2.2 8 i0 4) 60) none (fun j61 => ae_gd (decide ((j61 : Fin 32).val < 9)) (if (s58.1 8 i0 8) = (ae_kByt j61) then (F_X9_addHead_71 i0 i1 (0 : Int32) s58) else (F_X9_addHead_71 i0 i1 (1 : Int32) s58))))))
set_option maxHeartbeats 4000000 in
set_option maxRecDepth 100000 in
theorem t_X9_addHead_38 {l : Launch} {G : ae_G} (d : Nat) {rr : Unit} {ss : ae_S} (i0 : Fin 32) (i1 : Fin 32) (s0 : ae_S) (hF : F_X9_addHead_38 i0 i1 s0 = some (rr, ss)) : ae_T l G (d + 5) mX9_addHead (ae_Po none ss) 38 [(0, ae_r (some (8, i0))), (1, ae_r (some (1, i1)))] [] s0 := by
  unfold F_X9_addHead_38 at hF
  refine ae_aload_n 1 dX9_addHead_38 rfl ?_
  refine ae_ldcS (i := 10) (tx := " at ") 19 dX9_addHead_39 rfl ?_
  obtain ⟨hg51, hF52⟩ := ae_gdI hF
  obtain ⟨r53, s54, hc55, hF56⟩ := ae_bdI hF52
  refine ae_cV0 (q := (1, i1)) (As := [ae_r (some (62, 10))]) dX9_addHead_41 ww_1212 vy_X7_addWord hg51 rfl rfl rfl rfl (Nat.le_of_ble_eq_true rfl) (c_X7_addWord d hc55) ?_
  refine ae_aload_n 1 dX9_addHead_44 rfl ?_
  refine ae_aload_n 0 dX9_addHead_45 rfl ?_
  refine ae_getI (q := (8, i0)) dX9_addHead_46 fl_RX9_39 rfl rfl ?_
  obtain ⟨r57, s58, hc59, hF60⟩ := ae_bdI hF56
  refine ae_cV0 (q := (1, i1)) (As := [ae_i (s54.1 8 i0 6)]) dX9_addHead_49 ww_1220 vy_X7_addNumber hg51 rfl rfl rfl rfl (Nat.le_of_ble_eq_true rfl) (c_X7_addNumber (d + 3) hc59) ?_
  refine ae_aload_n 0 dX9_addHead_52 rfl ?_
  refine ae_getI (q := (8, i0)) dX9_addHead_53 fl_RX9_46 rfl rfl ?_
  refine ae_aload_n 0 dX9_addHead_56 rfl ?_
  obtain ⟨j61, hj61, hF62⟩ := ae_moK hF60
  refine ae_getO (q := (8, i0)) (some (60, j61)) dX9_addHead_57 fl_RX9_28 rfl rfl hj61 ?_
  obtain ⟨hg63, hF64⟩ := ae_gdI hF62
  refine ae_getK (i := j61) dX9_addHead_60 (List.mem_of_getElem? (i := 1) rfl) ww_1944 hg63 (ae_nmI (y := ae_kByt j61) rfl ?_)
  refine ae_icmp_eq 70 dX9_addHead_63 rfl (fun hb65 => ?_) (fun hb65 => ?_)
  · have hF66 := ae_ifT hb65 hF64
    refine ae_iconst (0 : Int32) dX9_addHead_70 (by decide) ?_
    refine ae_pick (lv' := [(0, ae_r (some (8, i0))), (1, ae_r (some (1, i1)))]) [0, 1] rfl ?_
    exact t_X9_addHead_71 d i0 i1 (0 : Int32) s58 hF66
  · have hF66 := ae_ifF hb65 hF64
    refine ae_iconst (1 : Int32) dX9_addHead_66 (by decide) ?_
    refine ae_goto 71 dX9_addHead_67 rfl ?_
    refine ae_pick (lv' := [(0, ae_r (some (8, i0))), (1, ae_r (some (1, i1)))]) [0, 1] rfl ?_
    exact t_X9_addHead_71 d i0 i1 (1 : Int32) s58 hF66
def F_X9_addHead (i0 : Fin 32) (i1 : Fin 32) (s0 : ae_S) : Option (Unit × ae_S) := ae_gd (ae_ok (1, i1)) (ae_bd (F_X7_addPacked i1 (s0.2.1 8 i0 3) s0) (fun (r69 : Unit) s70 => ae_bd (F_X7_add i1 (32 : Int32) s70) (fun (r73 : Unit) s74 => ae_mo (ae_gk (s74.2.2.2 8 i0 4) 60) none (fun j77 => ae_gd (decide ((j77 : Fin 32).val < 9)) (ae_bd (F_X7_addWord i1 (ae_kw (j77 : Fin 32).val) s74) (fun (r81 : Unit) s82 => if (s82.1 8 i0 5) = 0 then (F_X9_addHead_38 i0 i1 s82) else (ae_bd (F_X7_addWord i1 (9 : Fin 32) s82) (fun (r87 : Unit) s88 => F_X9_addHead_38 i0 i1 s88))))))))
set_option maxHeartbeats 4000000 in
set_option maxRecDepth 100000 in
theorem c_X9_addHead {l : Launch} {G : ae_G} (d : Nat) {i0 : Fin 32} {i1 : Fin 32} {s0 ss : ae_S} {rr : Unit} (hF : F_X9_addHead i0 i1 s0 = some (rr, ss)) : ae_Met l G (d + 5) yX9_addHead mX9_addHead [ae_r (some (8, i0)), ae_r (some (1, i1))] s0 (ae_Po none ss) := by
  refine ae_enter (by decide) rfl (Nat.le_of_ble_eq_true rfl) ?_
  show ae_T l G (d + 5) mX9_addHead (ae_Po none ss) 0 [(0, ae_r (some (8, i0))), (1, ae_r (some (1, i1)))] [] s0
  unfold F_X9_addHead at hF
  refine ae_aload_n 1 dX9_addHead_0 rfl ?_
  refine ae_aload_n 0 dX9_addHead_1 rfl ?_
  refine ae_getL (q := (8, i0)) dX9_addHead_2 fl_RX9_31 rfl rfl ?_
  obtain ⟨hg67, hF68⟩ := ae_gdI hF
  obtain ⟨r69, s70, hc71, hF72⟩ := ae_bdI hF68
  refine ae_cV0 (q := (1, i1)) (As := [ae_l (s0.2.1 8 i0 3)]) dX9_addHead_5 ww_1207 vy_X7_addPacked hg67 rfl rfl rfl rfl (Nat.le_of_ble_eq_true rfl) (c_X7_addPacked (d + 3) hc71) ?_
  refine ae_aload_n 1 dX9_addHead_8 rfl ?_
  refine ae_bipush (32 : Int32) dX9_addHead_9 (by decide) ?_
  obtain ⟨r73, s74, hc75, hF76⟩ := ae_bdI hF72
  refine ae_cV0 (q := (1, i1)) (As := [ae_i (32 : Int32)]) dX9_addHead_11 ww_1211 vy_X7_add hg67 rfl rfl rfl rfl (Nat.le_of_ble_eq_true rfl) (c_X7_add (d + 4) hc75) ?_
  refine ae_aload_n 1 dX9_addHead_14 rfl ?_
  refine ae_aload_n 0 dX9_addHead_15 rfl ?_
  obtain ⟨j77, hj77, hF78⟩ := ae_moK hF76
  refine ae_getO (q := (8, i0)) (some (60, j77)) dX9_addHead_16 fl_RX9_28 rfl rfl hj77 ?_
  obtain ⟨hg79, hF80⟩ := ae_gdI hF78
  refine ae_getKw (i := j77) dX9_addHead_19 ww_1952 hg79 ?_
  obtain ⟨r81, s82, hc83, hF84⟩ := ae_bdI hF80
  refine ae_cV0 (q := (1, i1)) (As := [ae_r (some (62, (ae_kw (j77 : Fin 32).val)))]) dX9_addHead_22 ww_1212 vy_X7_addWord hg67 rfl rfl rfl rfl (Nat.le_of_ble_eq_true rfl) (c_X7_addWord d hc83) ?_
  refine ae_aload_n 0 dX9_addHead_25 rfl ?_
  refine ae_getZ (q := (8, i0)) dX9_addHead_26 fl_RX9_35 rfl rfl ?_
  refine ae_if_eq 38 dX9_addHead_29 rfl (fun hb85 => ?_) (fun hb85 => ?_)
  · have hF86 := ae_ifT hb85 hF84
    refine ae_pick (lv' := [(0, ae_r (some (8, i0))), (1, ae_r (some (1, i1)))]) [0, 1] rfl ?_
    exact t_X9_addHead_38 d i0 i1 s82 hF86
  · have hF86 := ae_ifF hb85 hF84
    refine ae_aload_n 1 dX9_addHead_32 rfl ?_
    refine ae_ldcS (i := 9) (tx := " big") 18 dX9_addHead_33 rfl ?_
    obtain ⟨r87, s88, hc89, hF90⟩ := ae_bdI hF86
    refine ae_cV0 (q := (1, i1)) (As := [ae_r (some (62, 9))]) dX9_addHead_35 ww_1212 vy_X7_addWord hg67 rfl rfl rfl rfl (Nat.le_of_ble_eq_true rfl) (c_X7_addWord d hc89) ?_
    refine ae_pick (lv' := [(0, ae_r (some (8, i0))), (1, ae_r (some (1, i1)))]) [0, 1] rfl ?_
    exact t_X9_addHead_38 d i0 i1 s88 hF90
abbrev mX9_addFields : ae_M := (RX9, cX9_addFields, 3, none)
theorem vy_X9_addFields : ae_VY yX9_addFields mX9_addFields 1 := ⟨ww_1230, ww_1231, ww_5, ww_1232, ⟨by decide, by decide, by decide +kernel⟩, by decide⟩
theorem dX9_addFields_0 : decode cX9_addFields 0 = .ok (.aload_n 0, 1) := by decide +kernel
theorem dX9_addFields_1 : decode cX9_addFields 1 = .ok (.getfield 52, 3) := by decide +kernel
theorem dX9_addFields_4 : decode cX9_addFields 4 = .ok (.ifCond .ne 4, 3) := by decide +kernel
theorem dX9_addFields_7 : decode cX9_addFields 7 = .ok (.return_, 1) := by decide +kernel
theorem dX9_addFields_8 : decode cX9_addFields 8 = .ok (.iconst 0, 1) := by decide +kernel
theorem dX9_addFields_9 : decode cX9_addFields 9 = .ok (.istore_n 2, 1) := by decide +kernel
theorem dX9_addFields_10 : decode cX9_addFields 10 = .ok (.iload_n 2, 1) := by decide +kernel
theorem dX9_addFields_11 : decode cX9_addFields 11 = .ok (.aload_n 0, 1) := by decide +kernel
theorem dX9_addFields_12 : decode cX9_addFields 12 = .ok (.getfield 52, 3) := by decide +kernel
theorem dX9_addFields_15 : decode cX9_addFields 15 = .ok (.if_icmp .ge 72, 3) := by decide +kernel
theorem dX9_addFields_18 : decode cX9_addFields 18 = .ok (.iload_n 2, 1) := by decide +kernel
theorem dX9_addFields_19 : decode cX9_addFields 19 = .ok (.bipush 8, 2) := by decide +kernel
theorem dX9_addFields_21 : decode cX9_addFields 21 = .ok (.if_icmp .ge 66, 3) := by decide +kernel
theorem dX9_addFields_24 : decode cX9_addFields 24 = .ok (.aload_n 1, 1) := by decide +kernel
theorem dX9_addFields_25 : decode cX9_addFields 25 = .ok (.iload_n 2, 1) := by decide +kernel
theorem dX9_addFields_26 : decode cX9_addFields 26 = .ok (.ifCond .ne 8, 3) := by decide +kernel
theorem dX9_addFields_29 : decode cX9_addFields 29 = .ok (.bipush 123, 2) := by decide +kernel
theorem dX9_addFields_31 : decode cX9_addFields 31 = .ok (.goto 5, 3) := by decide +kernel
theorem dX9_addFields_34 : decode cX9_addFields 34 = .ok (.bipush 44, 2) := by decide +kernel
theorem dX9_addFields_36 : decode cX9_addFields 36 = .ok (.invokevirtual 152, 3) := by decide +kernel
theorem dX9_addFields_39 : decode cX9_addFields 39 = .ok (.aload_n 1, 1) := by decide +kernel
theorem dX9_addFields_40 : decode cX9_addFields 40 = .ok (.aload_n 0, 1) := by decide +kernel
theorem dX9_addFields_41 : decode cX9_addFields 41 = .ok (.getfield 9, 3) := by decide +kernel
theorem dX9_addFields_44 : decode cX9_addFields 44 = .ok (.iload_n 2, 1) := by decide +kernel
theorem dX9_addFields_45 : decode cX9_addFields 45 = .ok (.laload, 1) := by decide +kernel
theorem dX9_addFields_46 : decode cX9_addFields 46 = .ok (.invokevirtual 146, 3) := by decide +kernel
theorem dX9_addFields_49 : decode cX9_addFields 49 = .ok (.aload_n 1, 1) := by decide +kernel
theorem dX9_addFields_50 : decode cX9_addFields 50 = .ok (.bipush 58, 2) := by decide +kernel
theorem dX9_addFields_52 : decode cX9_addFields 52 = .ok (.invokevirtual 152, 3) := by decide +kernel
theorem dX9_addFields_55 : decode cX9_addFields 55 = .ok (.aload_n 1, 1) := by decide +kernel
theorem dX9_addFields_56 : decode cX9_addFields 56 = .ok (.aload_n 0, 1) := by decide +kernel
theorem dX9_addFields_57 : decode cX9_addFields 57 = .ok (.getfield 15, 3) := by decide +kernel
theorem dX9_addFields_60 : decode cX9_addFields 60 = .ok (.iload_n 2, 1) := by decide +kernel
theorem dX9_addFields_61 : decode cX9_addFields 61 = .ok (.iaload, 1) := by decide +kernel
theorem dX9_addFields_62 : decode cX9_addFields 62 = .ok (.invokevirtual 168, 3) := by decide +kernel
theorem dX9_addFields_65 : decode cX9_addFields 65 = .ok (.aload_n 1, 1) := by decide +kernel
theorem dX9_addFields_66 : decode cX9_addFields 66 = .ok (.bipush 45, 2) := by decide +kernel
theorem dX9_addFields_68 : decode cX9_addFields 68 = .ok (.invokevirtual 152, 3) := by decide +kernel
theorem dX9_addFields_71 : decode cX9_addFields 71 = .ok (.aload_n 1, 1) := by decide +kernel
theorem dX9_addFields_72 : decode cX9_addFields 72 = .ok (.aload_n 0, 1) := by decide +kernel
theorem dX9_addFields_73 : decode cX9_addFields 73 = .ok (.getfield 19, 3) := by decide +kernel
theorem dX9_addFields_76 : decode cX9_addFields 76 = .ok (.iload_n 2, 1) := by decide +kernel
theorem dX9_addFields_77 : decode cX9_addFields 77 = .ok (.iaload, 1) := by decide +kernel
theorem dX9_addFields_78 : decode cX9_addFields 78 = .ok (.invokevirtual 168, 3) := by decide +kernel
theorem dX9_addFields_81 : decode cX9_addFields 81 = .ok (.iinc 2 1, 3) := by decide +kernel
theorem dX9_addFields_84 : decode cX9_addFields 84 = .ok (.goto (-74), 3) := by decide +kernel
theorem dX9_addFields_87 : decode cX9_addFields 87 = .ok (.aload_n 1, 1) := by decide +kernel
theorem dX9_addFields_88 : decode cX9_addFields 88 = .ok (.bipush 125, 2) := by decide +kernel
theorem dX9_addFields_90 : decode cX9_addFields 90 = .ok (.invokevirtual 152, 3) := by decide +kernel
theorem dX9_addFields_93 : decode cX9_addFields 93 = .ok (.return_, 1) := by decide +kernel
def F_X9_addFields_87 (i1 : Fin 32) (s0 : ae_S) : Option (Unit × ae_S) := ae_gd (ae_ok (1, i1)) (ae_bd (F_X7_add i1 (125 : Int32) s0) (fun (r3 : Unit) s4 => some ((), s4)))
set_option maxHeartbeats 4000000 in
set_option maxRecDepth 100000 in
theorem t_X9_addFields_87 {l : Launch} {G : ae_G} (d : Nat) {rr : Unit} {ss : ae_S} (i1 : Fin 32) (s0 : ae_S) (hF : F_X9_addFields_87 i1 s0 = some (rr, ss)) : ae_T l G (d + 2) mX9_addFields (ae_Po none ss) 87 [(1, ae_r (some (1, i1)))] [] s0 := by
  unfold F_X9_addFields_87 at hF
  refine ae_aload_n 0 dX9_addFields_87 rfl ?_
  refine ae_bipush (125 : Int32) dX9_addFields_88 (by decide) ?_
  obtain ⟨hg1, hF2⟩ := ae_gdI hF
  obtain ⟨r3, s4, hc5, hF6⟩ := ae_bdI hF2
  refine ae_cV0 (q := (1, i1)) (As := [ae_i (125 : Int32)]) dX9_addFields_90 ww_1211 vy_X7_add hg1 rfl rfl rfl rfl (Nat.le_of_ble_eq_true rfl) (c_X7_add (d + 1) hc5) ?_
  obtain ⟨rfl, rfl⟩ := ae_retI hF6
  exact ae_vret dX9_addFields_93 rfl ⟨rfl, rfl⟩
def F_X9_addFields_36 (k10 : Fin 32 → Fin 32 → Int32 → ae_S → Option (Unit × ae_S)) (i0 : Fin 32) (i1 : Fin 32) (v2 : Int32) (t0 : Int32) (ti1 : Fin 32) (s0 : ae_S) : Option (Unit × ae_S) := ae_gd (ae_ok (1, ti1)) (ae_bd (F_X7_add ti1 t0 s0) (fun (r9 : Unit) s10 => ae_gd (ae_ib v2 8) (ae_gd (ae_ok (1, i1)) (ae_bd (F_X7_addPacked i1 (s10.2.1 9 i0 v2.toNatClampNeg) s10) (fun (r17 : Unit) s18 => ae_bd (F_X7_add i1 (58 : Int32) s18) (fun (r21 : Unit) s22 => ae_gd (ae_ib v2 8) (ae_bd (F_X7_addNumber i1 (s22.1 10 i0 v2.toNatClampNeg) s22) (fun (r27 : Unit) s28 => ae_bd (F_X7_add i1 (45 : Int32) s28) (fun (r31 : Unit) s32 => ae_gd (ae_ib v2 8) (ae_bd (F_X7_addNumber i1 (s32.1 11 i0 v2.toNatClampNeg) s32) (fun (r37 : Unit) s38 => ae_lt (v2 + (1 : Int32)) (fun x41 => k10 i0 i1 x41 s38))))))))))))
set_option maxHeartbeats 4000000 in
set_option maxRecDepth 100000 in
theorem t_X9_addFields_36 {l : Launch} {G : ae_G} (d : Nat) (k10 : Fin 32 → Fin 32 → Int32 → ae_S → Option (Unit × ae_S)) {rr : Unit} {ss : ae_S} (hk10 : ∀ (i0 : Fin 32) (i1 : Fin 32) (v2 : Int32) (s0 : ae_S), k10 i0 i1 v2 s0 = some (rr, ss) → ae_T l G (d + 2) mX9_addFields (ae_Po none ss) 10 [(0, ae_r (some (8, i0))), (1, ae_r (some (1, i1))), (2, ae_i v2)] [] s0) (i0 : Fin 32) (i1 : Fin 32) (v2 : Int32) (t0 : Int32) (ti1 : Fin 32) (s0 : ae_S) (hF : F_X9_addFields_36 k10 i0 i1 v2 t0 ti1 s0 = some (rr, ss)) : ae_T l G (d + 2) mX9_addFields (ae_Po none ss) 36 [(0, ae_r (some (8, i0))), (1, ae_r (some (1, i1))), (2, ae_i v2)] [ae_i t0, ae_r (some (1, ti1))] s0 := by
  unfold F_X9_addFields_36 at hF
  obtain ⟨hg7, hF8⟩ := ae_gdI hF
  obtain ⟨r9, s10, hc11, hF12⟩ := ae_bdI hF8
  refine ae_cV0 (q := (1, ti1)) (As := [ae_i t0]) dX9_addFields_36 ww_1211 vy_X7_add hg7 rfl rfl rfl rfl (Nat.le_of_ble_eq_true rfl) (c_X7_add (d + 1) hc11) ?_
  refine ae_aload_n 1 dX9_addFields_39 rfl ?_
  refine ae_aload_n 0 dX9_addFields_40 rfl ?_
  refine ae_getA (q := (8, i0)) (some (9, i0)) dX9_addFields_41 fl_RX9_9 rfl rfl rfl ?_
  refine ae_iload_n 2 dX9_addFields_44 rfl ?_
  obtain ⟨hg13, hF14⟩ := ae_gdI hF12
  refine ae_lald (q := (9, i0)) dX9_addFields_45 rfl rfl (ae_ibI hg13) ?_
  obtain ⟨hg15, hF16⟩ := ae_gdI hF14
  obtain ⟨r17, s18, hc19, hF20⟩ := ae_bdI hF16
  refine ae_cV0 (q := (1, i1)) (As := [ae_l (s10.2.1 9 i0 v2.toNatClampNeg)]) dX9_addFields_46 ww_1207 vy_X7_addPacked hg15 rfl rfl rfl rfl (Nat.le_of_ble_eq_true rfl) (c_X7_addPacked d hc19) ?_
  refine ae_aload_n 1 dX9_addFields_49 rfl ?_
  refine ae_bipush (58 : Int32) dX9_addFields_50 (by decide) ?_
  obtain ⟨r21, s22, hc23, hF24⟩ := ae_bdI hF20
  refine ae_cV0 (q := (1, i1)) (As := [ae_i (58 : Int32)]) dX9_addFields_52 ww_1211 vy_X7_add hg15 rfl rfl rfl rfl (Nat.le_of_ble_eq_true rfl) (c_X7_add (d + 1) hc23) ?_
  refine ae_aload_n 1 dX9_addFields_55 rfl ?_
  refine ae_aload_n 0 dX9_addFields_56 rfl ?_
  refine ae_getA (q := (8, i0)) (some (10, i0)) dX9_addFields_57 fl_RX9_15 rfl rfl rfl ?_
  refine ae_iload_n 2 dX9_addFields_60 rfl ?_
  obtain ⟨hg25, hF26⟩ := ae_gdI hF24
  refine ae_iald (q := (10, i0)) dX9_addFields_61 rfl rfl (ae_ibI hg25) ?_
  obtain ⟨r27, s28, hc29, hF30⟩ := ae_bdI hF26
  refine ae_cV0 (q := (1, i1)) (As := [ae_i (s22.1 10 i0 v2.toNatClampNeg)]) dX9_addFields_62 ww_1220 vy_X7_addNumber hg15 rfl rfl rfl rfl (Nat.le_of_ble_eq_true rfl) (c_X7_addNumber d hc29) ?_
  refine ae_aload_n 1 dX9_addFields_65 rfl ?_
  refine ae_bipush (45 : Int32) dX9_addFields_66 (by decide) ?_
  obtain ⟨r31, s32, hc33, hF34⟩ := ae_bdI hF30
  refine ae_cV0 (q := (1, i1)) (As := [ae_i (45 : Int32)]) dX9_addFields_68 ww_1211 vy_X7_add hg15 rfl rfl rfl rfl (Nat.le_of_ble_eq_true rfl) (c_X7_add (d + 1) hc33) ?_
  refine ae_aload_n 1 dX9_addFields_71 rfl ?_
  refine ae_aload_n 0 dX9_addFields_72 rfl ?_
  refine ae_getA (q := (8, i0)) (some (11, i0)) dX9_addFields_73 fl_RX9_19 rfl rfl rfl ?_
  refine ae_iload_n 2 dX9_addFields_76 rfl ?_
  obtain ⟨hg35, hF36⟩ := ae_gdI hF34
  refine ae_iald (q := (11, i0)) dX9_addFields_77 rfl rfl (ae_ibI hg35) ?_
  obtain ⟨r37, s38, hc39, hF40⟩ := ae_bdI hF36
  refine ae_cV0 (q := (1, i1)) (As := [ae_i (s32.1 11 i0 v2.toNatClampNeg)]) dX9_addFields_78 ww_1220 vy_X7_addNumber hg15 rfl rfl rfl rfl (Nat.le_of_ble_eq_true rfl) (c_X7_addNumber d hc39) ?_
  obtain ⟨x41, hx41, hF42⟩ := ae_ltI hF40
  refine ae_iinc (lv' := [(2, ae_i x41), (0, ae_r (some (8, i0))), (1, ae_r (some (1, i1)))]) 2 (1 : Int32) dX9_addFields_81 rfl (by decide) (by decide) (by rw [hx41]; rfl) ?_
  refine ae_goto 10 dX9_addFields_84 rfl ?_
  refine ae_pick (lv' := [(0, ae_r (some (8, i0))), (1, ae_r (some (1, i1))), (2, ae_i x41)]) [1, 2, 0] rfl ?_
  exact hk10 i0 i1 x41 s38 hF42
def F_X9_addFields_10 : Nat → Fin 32 → Fin 32 → Int32 → ae_S → Option (Unit × ae_S)
  | 0, _, _, _, _ => none
  | n + 1, i0, i1, v2, s0 => if (s0.1 8 i0 10) ≤ v2 then (F_X9_addFields_87 i1 s0) else (if (8 : Int32) ≤ v2 then (F_X9_addFields_87 i1 s0) else (if v2 = 0 then (F_X9_addFields_36 (F_X9_addFields_10 n) i0 i1 v2 (123 : Int32) i1 s0) else (F_X9_addFields_36 (F_X9_addFields_10 n) i0 i1 v2 (44 : Int32) i1 s0)))
set_option maxHeartbeats 4000000 in
set_option maxRecDepth 100000 in
theorem t_X9_addFields_10 {l : Launch} {G : ae_G} (d : Nat) {rr : Unit} {ss : ae_S} : ∀ (n : Nat) (i0 : Fin 32) (i1 : Fin 32) (v2 : Int32) (s0 : ae_S), F_X9_addFields_10 n i0 i1 v2 s0 = some (rr, ss) → ae_T l G (d + 2) mX9_addFields (ae_Po none ss) 10 [(0, ae_r (some (8, i0))), (1, ae_r (some (1, i1))), (2, ae_i v2)] [] s0 := by
  intro n
  induction n with
  | zero =>
    intro i0 i1 v2 s0 hF
    exact absurd (show (none : Option (Unit × ae_S)) = some (rr, ss) from hF) (by simp)
  | succ n ih =>
    intro i0 i1 v2 s0 hF
    unfold F_X9_addFields_10 at hF
    refine ae_iload_n 2 dX9_addFields_10 rfl ?_
    refine ae_aload_n 0 dX9_addFields_11 rfl ?_
    refine ae_getI (q := (8, i0)) dX9_addFields_12 fl_RX9_52 rfl rfl ?_
    refine ae_icmp_ge 87 dX9_addFields_15 rfl (fun hb43 => ?_) (fun hb43 => ?_)
    · have hF44 := ae_ifT hb43 hF
      refine ae_pick (lv' := [(1, ae_r (some (1, i1)))]) [1] rfl ?_
      exact t_X9_addFields_87 d i1 s0 hF44
    · have hF44 := ae_ifF hb43 hF
      refine ae_iload_n 2 dX9_addFields_18 rfl ?_
      refine ae_bipush (8 : Int32) dX9_addFields_19 (by decide) ?_
      refine ae_icmp_ge 87 dX9_addFields_21 rfl (fun hb45 => ?_) (fun hb45 => ?_)
      · have hF46 := ae_ifT hb45 hF44
        refine ae_pick (lv' := [(1, ae_r (some (1, i1)))]) [1] rfl ?_
        exact t_X9_addFields_87 d i1 s0 hF46
      · have hF46 := ae_ifF hb45 hF44
        refine ae_aload_n 1 dX9_addFields_24 rfl ?_
        refine ae_iload_n 2 dX9_addFields_25 rfl ?_
        refine ae_if_ne 34 dX9_addFields_26 rfl (fun hb47 => ?_) (fun hb47 => ?_)
        · have hF48 := ae_ifF hb47 hF46
          refine ae_bipush (44 : Int32) dX9_addFields_34 (by decide) ?_
          refine ae_pick (lv' := [(0, ae_r (some (8, i0))), (1, ae_r (some (1, i1))), (2, ae_i v2)]) [0, 1, 2] rfl ?_
          exact t_X9_addFields_36 d (F_X9_addFields_10 n) ih i0 i1 v2 (44 : Int32) i1 s0 hF48
        · have hF48 := ae_ifT hb47 hF46
          refine ae_bipush (123 : Int32) dX9_addFields_29 (by decide) ?_
          refine ae_goto 36 dX9_addFields_31 rfl ?_
          refine ae_pick (lv' := [(0, ae_r (some (8, i0))), (1, ae_r (some (1, i1))), (2, ae_i v2)]) [0, 1, 2] rfl ?_
          exact t_X9_addFields_36 d (F_X9_addFields_10 n) ih i0 i1 v2 (123 : Int32) i1 s0 hF48
def F_X9_addFields (i0 : Fin 32) (i1 : Fin 32) (s0 : ae_S) : Option (Unit × ae_S) := if (s0.1 8 i0 10) = 0 then (some ((), s0)) else (F_X9_addFields_10 ae_fu i0 i1 (0 : Int32) s0)
set_option maxHeartbeats 4000000 in
set_option maxRecDepth 100000 in
theorem c_X9_addFields {l : Launch} {G : ae_G} (d : Nat) {i0 : Fin 32} {i1 : Fin 32} {s0 ss : ae_S} {rr : Unit} (hF : F_X9_addFields i0 i1 s0 = some (rr, ss)) : ae_Met l G (d + 2) yX9_addFields mX9_addFields [ae_r (some (8, i0)), ae_r (some (1, i1))] s0 (ae_Po none ss) := by
  refine ae_enter (by decide) rfl (Nat.le_of_ble_eq_true rfl) ?_
  show ae_T l G (d + 2) mX9_addFields (ae_Po none ss) 0 [(0, ae_r (some (8, i0))), (1, ae_r (some (1, i1)))] [] s0
  unfold F_X9_addFields at hF
  refine ae_aload_n 0 dX9_addFields_0 rfl ?_
  refine ae_getI (q := (8, i0)) dX9_addFields_1 fl_RX9_52 rfl rfl ?_
  refine ae_if_ne 8 dX9_addFields_4 rfl (fun hb49 => ?_) (fun hb49 => ?_)
  · have hF50 := ae_ifF hb49 hF
    refine ae_iconst (0 : Int32) dX9_addFields_8 (by decide) ?_
    refine ae_istore_n (lv' := [(2, ae_i (0 : Int32)), (0, ae_r (some (8, i0))), (1, ae_r (some (1, i1)))]) dX9_addFields_9 (by decide) rfl ?_
    refine ae_pick (lv' := [(0, ae_r (some (8, i0))), (1, ae_r (some (1, i1))), (2, ae_i (0 : Int32))]) [1, 2, 0] rfl ?_
    exact t_X9_addFields_10 d ae_fu i0 i1 (0 : Int32) s0 hF50
  · have hF50 := ae_ifT hb49 hF
    obtain ⟨rfl, rfl⟩ := ae_retI hF50
    exact ae_vret dX9_addFields_7 rfl ⟨rfl, rfl⟩
abbrev mX9_isAlike : ae_M := (RX9, cX9_isAlike, 7, some .boolean)
theorem vy_X9_isAlike : ae_VY yX9_isAlike mX9_isAlike 2 := ⟨ww_1247, ww_1248, ww_5, ww_1249, ⟨by decide, by decide, by decide +kernel⟩, by decide⟩
theorem dX9_isAlike_0 : decode cX9_isAlike 0 = .ok (.aload_n 0, 1) := by decide +kernel
theorem dX9_isAlike_1 : decode cX9_isAlike 1 = .ok (.lload_n 1, 1) := by decide +kernel
theorem dX9_isAlike_2 : decode cX9_isAlike 2 = .ok (.invokevirtual 91, 3) := by decide +kernel
theorem dX9_isAlike_5 : decode cX9_isAlike 5 = .ok (.lstore 5, 2) := by decide +kernel
theorem dX9_isAlike_7 : decode cX9_isAlike 7 = .ok (.aload_n 0, 1) := by decide +kernel
theorem dX9_isAlike_8 : decode cX9_isAlike 8 = .ok (.getfield 28, 3) := by decide +kernel
theorem dX9_isAlike_11 : decode cX9_isAlike 11 = .ok (.getfield 98, 3) := by decide +kernel
theorem dX9_isAlike_14 : decode cX9_isAlike 14 = .ok (.ifCond .eq 15, 3) := by decide +kernel
theorem dX9_isAlike_17 : decode cX9_isAlike 17 = .ok (.lload 5, 2) := by decide +kernel
theorem dX9_isAlike_19 : decode cX9_isAlike 19 = .ok (.lload_n 3, 1) := by decide +kernel
theorem dX9_isAlike_20 : decode cX9_isAlike 20 = .ok (.invokestatic 123, 3) := by decide +kernel
theorem dX9_isAlike_23 : decode cX9_isAlike 23 = .ok (.invokestatic 135, 3) := by decide +kernel
theorem dX9_isAlike_26 : decode cX9_isAlike 26 = .ok (.goto 15, 3) := by decide +kernel
theorem dX9_isAlike_29 : decode cX9_isAlike 29 = .ok (.lload 5, 2) := by decide +kernel
theorem dX9_isAlike_31 : decode cX9_isAlike 31 = .ok (.lload_n 3, 1) := by decide +kernel
theorem dX9_isAlike_32 : decode cX9_isAlike 32 = .ok (.lcmp, 1) := by decide +kernel
theorem dX9_isAlike_33 : decode cX9_isAlike 33 = .ok (.ifCond .ne 7, 3) := by decide +kernel
theorem dX9_isAlike_36 : decode cX9_isAlike 36 = .ok (.iconst 1, 1) := by decide +kernel
theorem dX9_isAlike_37 : decode cX9_isAlike 37 = .ok (.goto 4, 3) := by decide +kernel
theorem dX9_isAlike_40 : decode cX9_isAlike 40 = .ok (.iconst 0, 1) := by decide +kernel
theorem dX9_isAlike_41 : decode cX9_isAlike 41 = .ok (.ireturn, 1) := by decide +kernel
def F_X9_isAlike_41 (t0 : Int32) (s0 : ae_S) : Option (Int32 × ae_S) := ae_gd (ae_zz t0) (some (t0, s0))
set_option maxHeartbeats 4000000 in
set_option maxRecDepth 100000 in
theorem t_X9_isAlike_41 {l : Launch} {G : ae_G} (d : Nat) {rr : Int32} {ss : ae_S} (t0 : Int32) (s0 : ae_S) (hF : F_X9_isAlike_41 t0 s0 = some (rr, ss)) : ae_T l G (d + 5) mX9_isAlike (ae_Po (some (ae_i rr)) ss) 41 [] [ae_i t0] s0 := by
  unfold F_X9_isAlike_41 at hF
  obtain ⟨hg1, hF2⟩ := ae_gdI hF
  obtain ⟨rfl, rfl⟩ := ae_retI hF2
  exact ae_iret dX9_isAlike_41 rfl (ae_zzN (ae_zzI hg1)) ⟨rfl, rfl⟩
def F_X9_isAlike (i0 : Fin 32) (v1 : Int64) (v3 : Int64) (s0 : ae_S) : Option (Int32 × ae_S) := ae_bd (F_X9_valueOf i0 v1 s0) (fun (r3 : Int64) s4 => ae_mo (ae_gk (s4.2.2.2 8 i0 4) 60) none (fun j7 => ae_gd (decide ((j7 : Fin 32).val < 9)) (if (ae_kFlo j7) = 0 then (if (lg_cmp r3 v3) = 0 then (F_X9_isAlike_41 (1 : Int32) s4) else (F_X9_isAlike_41 (0 : Int32) s4)) else (ae_bd (F_X2_ofWhole v3 s4) (fun (r15 : Int64) s16 => ae_bd (F_X2_alike r3 r15 s16) (fun (r19 : Int32) s20 => F_X9_isAlike_41 r19 s20))))))
set_option maxHeartbeats 4000000 in
set_option maxRecDepth 100000 in
theorem c_X9_isAlike {l : Launch} {G : ae_G} (d : Nat) {i0 : Fin 32} {v1 : Int64} {v3 : Int64} {s0 ss : ae_S} {rr : Int32} (hF : F_X9_isAlike i0 v1 v3 s0 = some (rr, ss)) : ae_Met l G (d + 5) yX9_isAlike mX9_isAlike [ae_r (some (8, i0)), ae_l v1, ae_l v3] s0 (ae_Po (some (ae_i rr)) ss) := by
  refine ae_enter (by decide) rfl (Nat.le_of_ble_eq_true rfl) ?_
  show ae_T l G (d + 5) mX9_isAlike (ae_Po (some (ae_i rr)) ss) 0 [(0, ae_r (some (8, i0))), (1, ae_l v1), (3, ae_l v3)] [] s0
  unfold F_X9_isAlike at hF
  refine ae_aload_n 0 dX9_isAlike_0 rfl ?_
  refine ae_lload_n 1 dX9_isAlike_1 rfl ?_
  obtain ⟨r3, s4, hc5, hF6⟩ := ae_bdI hF
  refine ae_cV1 (q := (8, i0)) (As := [ae_l v1]) dX9_isAlike_2 ww_1082 vy_X9_valueOf rfl rfl rfl rfl rfl (Nat.le_of_ble_eq_true rfl) (c_X9_valueOf d hc5) ?_
  refine ae_lstore (lv' := [(5, ae_l r3), (0, ae_r (some (8, i0))), (1, ae_l v1), (3, ae_l v3)]) dX9_isAlike_5 (by decide) rfl ?_
  refine ae_aload_n 1 dX9_isAlike_7 rfl ?_
  obtain ⟨j7, hj7, hF8⟩ := ae_moK hF6
  refine ae_getO (q := (8, i0)) (some (60, j7)) dX9_isAlike_8 fl_RX9_28 rfl rfl hj7 ?_
  obtain ⟨hg9, hF10⟩ := ae_gdI hF8
  refine ae_getK (i := j7) dX9_isAlike_11 (List.mem_of_getElem? (i := 3) rfl) ww_1946 hg9 (ae_nmI (y := ae_kFlo j7) rfl ?_)
  refine ae_if_eq 29 dX9_isAlike_14 rfl (fun hb11 => ?_) (fun hb11 => ?_)
  · have hF12 := ae_ifT hb11 hF10
    refine ae_lload 0 dX9_isAlike_29 rfl ?_
    refine ae_lload_n 3 dX9_isAlike_31 rfl ?_
    refine ae_lcmp dX9_isAlike_32 ?_
    refine ae_if_ne 40 dX9_isAlike_33 rfl (fun hb13 => ?_) (fun hb13 => ?_)
    · have hF14 := ae_ifF hb13 hF12
      refine ae_iconst (0 : Int32) dX9_isAlike_40 (by decide) ?_
      refine ae_pick (lv' := []) [] rfl ?_
      exact t_X9_isAlike_41 d (0 : Int32) s4 hF14
    · have hF14 := ae_ifT hb13 hF12
      refine ae_iconst (1 : Int32) dX9_isAlike_36 (by decide) ?_
      refine ae_goto 41 dX9_isAlike_37 rfl ?_
      refine ae_pick (lv' := []) [] rfl ?_
      exact t_X9_isAlike_41 d (1 : Int32) s4 hF14
  · have hF12 := ae_ifF hb11 hF10
    refine ae_lload 0 dX9_isAlike_17 rfl ?_
    refine ae_lload_n 3 dX9_isAlike_19 rfl ?_
    obtain ⟨r15, s16, hc17, hF18⟩ := ae_bdI hF12
    refine ae_cS1 (As := [ae_l v3]) dX9_isAlike_20 ww_948 vy_X2_ofWhole rfl rfl (Nat.le_of_ble_eq_true rfl) (c_X2_ofWhole (d + 1) hc17) ?_
    obtain ⟨r19, s20, hc21, hF22⟩ := ae_bdI hF18
    refine ae_cS1 (As := [ae_l r3, ae_l r15]) dX9_isAlike_23 ww_1250 vy_X2_alike rfl rfl (Nat.le_of_ble_eq_true rfl) (c_X2_alike (d + 3) hc21) ?_
    refine ae_goto 41 dX9_isAlike_26 rfl ?_
    refine ae_pick (lv' := []) [] rfl ?_
    exact t_X9_isAlike_41 d r19 s20 hF22
