/-! methods as functions: X12_isIn X12_memory X12_begins X12_ends X12_undo X12_at X12_poke X12_changed X12_four X12_feed X12_end X12_isRead X12_packed X12_isWord X12_accessHere X12_bytesOf X12_fails X12_kindHere X12_isOwn X12_isName X12_isSign X12_isDigit X12_isLetter X12_see X12_next X12_one X12_placeOf X12_isFine X12_readsNumber X12_takes X12_readField X12_readFields X12_readRow X12_readView X12_starts X12_views -/
theorem fl_RX12_9 : ae_FL RX12 9 10 1 (.array .int) true := ⟨_, _, _, rfl, by decide, ww_1299, rfl, rfl, rfl⟩
theorem fl_RX12_18 : ae_FL RX12 18 10 3 (.array .boolean) true := ⟨_, _, _, rfl, by decide, ww_1301, rfl, rfl, rfl⟩
theorem fl_RX12_100 : ae_FL RX12 100 10 0 (.int) false := ⟨_, _, _, rfl, by decide, ww_1298, rfl, rfl, rfl⟩
theorem fl_RX12_109 : ae_FL RX12 109 10 17 (.int) false := ⟨_, _, _, rfl, by decide, ww_1315, rfl, rfl, rfl⟩
theorem fl_RX12_112 : ae_FL RX12 112 10 5 (.int) false := ⟨_, _, _, rfl, by decide, ww_1303, rfl, rfl, rfl⟩
theorem fl_RX12_15 : ae_FL RX12 15 10 2 (.array .int) true := ⟨_, _, _, rfl, by decide, ww_1300, rfl, rfl, rfl⟩
theorem fl_RX12_22 : ae_FL RX12 22 10 4 (.array .int) true := ⟨_, _, _, rfl, by decide, ww_1302, rfl, rfl, rfl⟩
theorem fl_RX12_59 : ae_FL RX12 59 10 19 (.array .int) true := ⟨_, _, _, rfl, by decide, ww_1317, rfl, rfl, rfl⟩
theorem fl_RX12_126 : ae_FL RX12 126 10 20 (.int) false := ⟨_, _, _, rfl, by decide, ww_1318, rfl, rfl, rfl⟩
theorem fl_RX12_62 : ae_FL RX12 62 10 22 (.int) false := ⟨_, _, _, rfl, by decide, ww_1320, rfl, rfl, rfl⟩
theorem fl_RX12_169 : ae_FL RX12 169 10 23 (.int) false := ⟨_, _, _, rfl, by decide, ww_1321, rfl, rfl, rfl⟩
theorem fl_RX12_172 : ae_FL RX12 172 10 24 (.int) false := ⟨_, _, _, rfl, by decide, ww_1322, rfl, rfl, rfl⟩
theorem fl_RX12_286 : ae_FL RX12 286 10 21 (.int) false := ⟨_, _, _, rfl, by decide, ww_1319, rfl, rfl, rfl⟩
theorem fl_RX12_143 : ae_FL RX12 143 10 25 (.int) false := ⟨_, _, _, rfl, by decide, ww_1323, rfl, rfl, rfl⟩
theorem fl_RX12_149 : ae_FL RX12 149 10 28 (.long) false := ⟨_, _, _, rfl, by decide, ww_1326, rfl, rfl, rfl⟩
theorem fl_RX12_133 : ae_FL RX12 133 10 27 (.int) false := ⟨_, _, _, rfl, by decide, ww_1325, rfl, rfl, rfl⟩
theorem fl_RX12_140 : ae_FL RX12 140 10 26 (.int) false := ⟨_, _, _, rfl, by decide, ww_1324, rfl, rfl, rfl⟩
theorem fl_RX12_166 : ae_FL RX12 166 10 31 (.int) false := ⟨_, _, _, rfl, by decide, ww_1329, rfl, rfl, rfl⟩
theorem fl_RX12_156 : ae_FL RX12 156 10 29 (.long) false := ⟨_, _, _, rfl, by decide, ww_1327, rfl, rfl, rfl⟩
theorem fl_RX12_163 : ae_FL RX12 163 10 30 (.int) false := ⟨_, _, _, rfl, by decide, ww_1328, rfl, rfl, rfl⟩
theorem fl_RX12_25 : ae_FL RX12 25 10 6 (.array .long) true := ⟨_, _, _, rfl, by decide, ww_1304, rfl, rfl, rfl⟩
theorem fl_RX12_29 : ae_FL RX12 29 10 7 (.array .int) true := ⟨_, _, _, rfl, by decide, ww_1305, rfl, rfl, rfl⟩
theorem fl_RX12_47 : ae_FL RX12 47 10 13 (.array .int) true := ⟨_, _, _, rfl, by decide, ww_1311, rfl, rfl, rfl⟩
theorem fl_RX12_50 : ae_FL RX12 50 10 14 (.array .long) true := ⟨_, _, _, rfl, by decide, ww_1312, rfl, rfl, rfl⟩
theorem fl_RX12_53 : ae_FL RX12 53 10 15 (.array .int) true := ⟨_, _, _, rfl, by decide, ww_1313, rfl, rfl, rfl⟩
theorem fl_RX12_56 : ae_FL RX12 56 10 16 (.array .int) true := ⟨_, _, _, rfl, by decide, ww_1314, rfl, rfl, rfl⟩
theorem fl_RX12_35 : ae_FL RX12 35 10 9 (.array .int) true := ⟨_, _, _, rfl, by decide, ww_1307, rfl, rfl, rfl⟩
theorem fl_RX12_38 : ae_FL RX12 38 10 10 (.array .int) true := ⟨_, _, _, rfl, by decide, ww_1308, rfl, rfl, rfl⟩
theorem fl_RX12_41 : ae_FL RX12 41 10 11 (.array .int) true := ⟨_, _, _, rfl, by decide, ww_1309, rfl, rfl, rfl⟩
theorem fl_RX12_32 : ae_FL RX12 32 10 8 (.array .int) true := ⟨_, _, _, rfl, by decide, ww_1306, rfl, rfl, rfl⟩
theorem fl_RX12_44 : ae_FL RX12 44 10 12 (.array .int) true := ⟨_, _, _, rfl, by decide, ww_1310, rfl, rfl, rfl⟩
theorem fl_RX12_251 : ae_FL RX12 251 10 18 (.int) false := ⟨_, _, _, rfl, by decide, ww_1316, rfl, rfl, rfl⟩
abbrev mX12_isIn : ae_M := (RX12, cX12_isIn, 6, some .boolean)
theorem vy_X12_isIn : ae_SY yX12_isIn mX12_isIn 3 := ⟨ww_1462, ww_13, ww_1463, ⟨by decide, by decide, by decide +kernel⟩, by decide⟩
theorem dX12_isIn_0 : decode cX12_isIn 0 = .ok (.lload_n 0, 1) := by decide +kernel
theorem dX12_isIn_1 : decode cX12_isIn 1 = .ok (.lload_n 2, 1) := by decide +kernel
theorem dX12_isIn_2 : decode cX12_isIn 2 = .ok (.lcmp, 1) := by decide +kernel
theorem dX12_isIn_3 : decode cX12_isIn 3 = .ok (.ifCond .lt 14, 3) := by decide +kernel
theorem dX12_isIn_6 : decode cX12_isIn 6 = .ok (.lload_n 0, 1) := by decide +kernel
theorem dX12_isIn_7 : decode cX12_isIn 7 = .ok (.lload 4, 2) := by decide +kernel
theorem dX12_isIn_9 : decode cX12_isIn 9 = .ok (.lcmp, 1) := by decide +kernel
theorem dX12_isIn_10 : decode cX12_isIn 10 = .ok (.ifCond .gt 7, 3) := by decide +kernel
theorem dX12_isIn_13 : decode cX12_isIn 13 = .ok (.iconst 1, 1) := by decide +kernel
theorem dX12_isIn_14 : decode cX12_isIn 14 = .ok (.goto 4, 3) := by decide +kernel
theorem dX12_isIn_17 : decode cX12_isIn 17 = .ok (.iconst 0, 1) := by decide +kernel
theorem dX12_isIn_18 : decode cX12_isIn 18 = .ok (.ireturn, 1) := by decide +kernel
def F_X12_isIn_18 (t0 : Int32) (s0 : ae_S) : Option (Int32 × ae_S) := ae_gd (ae_zz t0) (some (t0, s0))
set_option maxHeartbeats 4000000 in
set_option maxRecDepth 100000 in
theorem t_X12_isIn_18 {l : Launch} {G : ae_G} (d : Nat) {rr : Int32} {ss : ae_S} (t0 : Int32) (s0 : ae_S) (hF : F_X12_isIn_18 t0 s0 = some (rr, ss)) : ae_T l G d mX12_isIn (ae_Po (some (ae_i rr)) ss) 18 [] [ae_i t0] s0 := by
  unfold F_X12_isIn_18 at hF
  obtain ⟨hg1, hF2⟩ := ae_gdI hF
  obtain ⟨rfl, rfl⟩ := ae_retI hF2
  exact ae_iret dX12_isIn_18 rfl (ae_zzN (ae_zzI hg1)) ⟨rfl, rfl⟩
def F_X12_isIn_17 (s0 : ae_S) : Option (Int32 × ae_S) := F_X12_isIn_18 (0 : Int32) s0
set_option maxHeartbeats 4000000 in
set_option maxRecDepth 100000 in
theorem t_X12_isIn_17 {l : Launch} {G : ae_G} (d : Nat) {rr : Int32} {ss : ae_S} (s0 : ae_S) (hF : F_X12_isIn_17 s0 = some (rr, ss)) : ae_T l G d mX12_isIn (ae_Po (some (ae_i rr)) ss) 17 [] [] s0 := by
  unfold F_X12_isIn_17 at hF
  refine ae_iconst (0 : Int32) dX12_isIn_17 (by decide) ?_
  refine ae_pick (lv' := []) [] rfl ?_
  exact t_X12_isIn_18 d (0 : Int32) s0 hF
def F_X12_isIn (v0 : Int64) (v2 : Int64) (v4 : Int64) (s0 : ae_S) : Option (Int32 × ae_S) := if (lg_cmp v0 v2) < 0 then (F_X12_isIn_17 s0) else (if 0 < (lg_cmp v0 v4) then (F_X12_isIn_17 s0) else (F_X12_isIn_18 (1 : Int32) s0))
set_option maxHeartbeats 4000000 in
set_option maxRecDepth 100000 in
theorem c_X12_isIn {l : Launch} {G : ae_G} (d : Nat) {v0 : Int64} {v2 : Int64} {v4 : Int64} {s0 ss : ae_S} {rr : Int32} (hF : F_X12_isIn v0 v2 v4 s0 = some (rr, ss)) : ae_Met l G d yX12_isIn mX12_isIn [ae_l v0, ae_l v2, ae_l v4] s0 (ae_Po (some (ae_i rr)) ss) := by
  refine ae_enter (by decide) rfl (Nat.le_of_ble_eq_true rfl) ?_
  show ae_T l G d mX12_isIn (ae_Po (some (ae_i rr)) ss) 0 [(0, ae_l v0), (2, ae_l v2), (4, ae_l v4)] [] s0
  unfold F_X12_isIn at hF
  refine ae_lload_n 0 dX12_isIn_0 rfl ?_
  refine ae_lload_n 1 dX12_isIn_1 rfl ?_
  refine ae_lcmp dX12_isIn_2 ?_
  refine ae_if_lt 17 dX12_isIn_3 rfl (fun hb3 => ?_) (fun hb3 => ?_)
  · have hF4 := ae_ifT hb3 hF
    refine ae_pick (lv' := []) [] rfl ?_
    exact t_X12_isIn_17 d s0 hF4
  · have hF4 := ae_ifF hb3 hF
    refine ae_lload_n 0 dX12_isIn_6 rfl ?_
    refine ae_lload 2 dX12_isIn_7 rfl ?_
    refine ae_lcmp dX12_isIn_9 ?_
    refine ae_if_gt 17 dX12_isIn_10 rfl (fun hb5 => ?_) (fun hb5 => ?_)
    · have hF6 := ae_ifT hb5 hF4
      refine ae_pick (lv' := []) [] rfl ?_
      exact t_X12_isIn_17 d s0 hF6
    · have hF6 := ae_ifF hb5 hF4
      refine ae_iconst (1 : Int32) dX12_isIn_13 (by decide) ?_
      refine ae_goto 18 dX12_isIn_14 rfl ?_
      refine ae_pick (lv' := []) [] rfl ?_
      exact t_X12_isIn_18 d (1 : Int32) s0 hF6
abbrev mX12_memory : ae_M := (RX12, cX12_memory, 3, some .boolean)
theorem vy_X12_memory : ae_VY yX12_memory mX12_memory 1 := ⟨ww_1457, ww_1458, ww_13, ww_1459, ⟨by decide, by decide, by decide +kernel⟩, by decide⟩
theorem dX12_memory_0 : decode cX12_memory 0 = .ok (.iload_n 1, 1) := by decide +kernel
theorem dX12_memory_1 : decode cX12_memory 1 = .ok (.i2l, 1) := by decide +kernel
theorem dX12_memory_2 : decode cX12_memory 2 = .ok (.lconst 1, 1) := by decide +kernel
theorem dX12_memory_3 : decode cX12_memory 3 = .ok (.ldc2_w 103, 3) := by decide +kernel
theorem dX12_memory_6 : decode cX12_memory 6 = .ok (.invokestatic 105, 3) := by decide +kernel
theorem dX12_memory_9 : decode cX12_memory 9 = .ok (.ifCond .ne 5, 3) := by decide +kernel
theorem dX12_memory_12 : decode cX12_memory 12 = .ok (.iconst 0, 1) := by decide +kernel
theorem dX12_memory_13 : decode cX12_memory 13 = .ok (.ireturn, 1) := by decide +kernel
theorem dX12_memory_14 : decode cX12_memory 14 = .ok (.aload_n 0, 1) := by decide +kernel
theorem dX12_memory_15 : decode cX12_memory 15 = .ok (.iload_n 1, 1) := by decide +kernel
theorem dX12_memory_16 : decode cX12_memory 16 = .ok (.putfield 100, 3) := by decide +kernel
theorem dX12_memory_19 : decode cX12_memory 19 = .ok (.iconst 0, 1) := by decide +kernel
theorem dX12_memory_20 : decode cX12_memory 20 = .ok (.istore_n 2, 1) := by decide +kernel
theorem dX12_memory_21 : decode cX12_memory 21 = .ok (.iload_n 2, 1) := by decide +kernel
theorem dX12_memory_22 : decode cX12_memory 22 = .ok (.sipush 256, 3) := by decide +kernel
theorem dX12_memory_25 : decode cX12_memory 25 = .ok (.if_icmp .ge 23, 3) := by decide +kernel
theorem dX12_memory_28 : decode cX12_memory 28 = .ok (.aload_n 0, 1) := by decide +kernel
theorem dX12_memory_29 : decode cX12_memory 29 = .ok (.getfield 9, 3) := by decide +kernel
theorem dX12_memory_32 : decode cX12_memory 32 = .ok (.iload_n 2, 1) := by decide +kernel
theorem dX12_memory_33 : decode cX12_memory 33 = .ok (.iconst 0, 1) := by decide +kernel
theorem dX12_memory_34 : decode cX12_memory 34 = .ok (.iastore, 1) := by decide +kernel
theorem dX12_memory_35 : decode cX12_memory 35 = .ok (.aload_n 0, 1) := by decide +kernel
theorem dX12_memory_36 : decode cX12_memory 36 = .ok (.getfield 18, 3) := by decide +kernel
theorem dX12_memory_39 : decode cX12_memory 39 = .ok (.iload_n 2, 1) := by decide +kernel
theorem dX12_memory_40 : decode cX12_memory 40 = .ok (.iconst 0, 1) := by decide +kernel
theorem dX12_memory_41 : decode cX12_memory 41 = .ok (.bastore, 1) := by decide +kernel
theorem dX12_memory_42 : decode cX12_memory 42 = .ok (.iinc 2 1, 3) := by decide +kernel
theorem dX12_memory_45 : decode cX12_memory 45 = .ok (.goto (-24), 3) := by decide +kernel
theorem dX12_memory_48 : decode cX12_memory 48 = .ok (.aload_n 0, 1) := by decide +kernel
theorem dX12_memory_49 : decode cX12_memory 49 = .ok (.iconst 0, 1) := by decide +kernel
theorem dX12_memory_50 : decode cX12_memory 50 = .ok (.putfield 109, 3) := by decide +kernel
theorem dX12_memory_53 : decode cX12_memory 53 = .ok (.aload_n 0, 1) := by decide +kernel
theorem dX12_memory_54 : decode cX12_memory 54 = .ok (.iconst 0, 1) := by decide +kernel
theorem dX12_memory_55 : decode cX12_memory 55 = .ok (.putfield 112, 3) := by decide +kernel
theorem dX12_memory_58 : decode cX12_memory 58 = .ok (.iconst 1, 1) := by decide +kernel
theorem dX12_memory_59 : decode cX12_memory 59 = .ok (.ireturn, 1) := by decide +kernel
def F_X12_memory_21 : Nat → Int32 → ae_S → Option (Int32 × ae_S)
  | 0, _, _ => none
  | n + 1, v2, s0 => if (256 : Int32) ≤ v2 then (ae_lt (ae_wI s0 30 0 17 (0 : Int32)) (fun s3 => ae_lt (ae_wI s3 30 0 5 (0 : Int32)) (fun s5 => some ((1 : Int32), s5)))) else (ae_gd (ae_ib v2 256) (ae_lt (ae_wI s0 31 0 v2.toNatClampNeg (0 : Int32)) (fun s9 => ae_gd (ae_ib v2 256) (ae_lt (ae_wI s9 33 0 v2.toNatClampNeg (0 : Int32)) (fun s13 => ae_lt (v2 + (1 : Int32)) (fun x15 => F_X12_memory_21 n x15 s13))))))
set_option maxHeartbeats 4000000 in
set_option maxRecDepth 100000 in
theorem t_X12_memory_21 {l : Launch} {G : ae_G} (d : Nat) {rr : Int32} {ss : ae_S} : ∀ (n : Nat) (v2 : Int32) (s0 : ae_S), F_X12_memory_21 n v2 s0 = some (rr, ss) → ae_T l G (d + 1) mX12_memory (ae_Po (some (ae_i rr)) ss) 21 [(0, ae_r (some (30, 0))), (2, ae_i v2)] [] s0 := by
  intro n
  induction n with
  | zero =>
    intro v2 s0 hF
    exact absurd (show (none : Option (Int32 × ae_S)) = some (rr, ss) from hF) (by simp)
  | succ n ih =>
    intro v2 s0 hF
    unfold F_X12_memory_21 at hF
    refine ae_iload_n 1 dX12_memory_21 rfl ?_
    refine ae_sipush (256 : Int32) dX12_memory_22 (by decide) ?_
    refine ae_icmp_ge 48 dX12_memory_25 rfl (fun hb1 => ?_) (fun hb1 => ?_)
    · have hF2 := ae_ifT hb1 hF
      refine ae_aload_n 0 dX12_memory_48 rfl ?_
      refine ae_iconst (0 : Int32) dX12_memory_49 (by decide) ?_
      obtain ⟨s3, hs3, hF4⟩ := ae_ltI hF2
      refine ae_putI (q := (30, 0)) dX12_memory_50 fl_RX12_109 rfl rfl (ae_nmS hs3 ?_)
      refine ae_aload_n 0 dX12_memory_53 rfl ?_
      refine ae_iconst (0 : Int32) dX12_memory_54 (by decide) ?_
      obtain ⟨s5, hs5, hF6⟩ := ae_ltI hF4
      refine ae_putI (q := (30, 0)) dX12_memory_55 fl_RX12_112 rfl rfl (ae_nmS hs5 ?_)
      refine ae_iconst (1 : Int32) dX12_memory_58 (by decide) ?_
      obtain ⟨rfl, rfl⟩ := ae_retI hF6
      exact ae_iret dX12_memory_59 rfl (by decide) ⟨rfl, rfl⟩
    · have hF2 := ae_ifF hb1 hF
      refine ae_aload_n 0 dX12_memory_28 rfl ?_
      refine ae_getA (q := (30, 0)) (some (31, 0)) dX12_memory_29 fl_RX12_9 rfl rfl rfl ?_
      refine ae_iload_n 1 dX12_memory_32 rfl ?_
      refine ae_iconst (0 : Int32) dX12_memory_33 (by decide) ?_
      obtain ⟨hg7, hF8⟩ := ae_gdI hF2
      obtain ⟨s9, hs9, hF10⟩ := ae_ltI hF8
      refine ae_iast (q := (31, 0)) dX12_memory_34 rfl rfl (ae_ibI hg7) (ae_nmS hs9 ?_)
      refine ae_aload_n 0 dX12_memory_35 rfl ?_
      refine ae_getA (q := (30, 0)) (some (33, 0)) dX12_memory_36 fl_RX12_18 rfl rfl rfl ?_
      refine ae_iload_n 1 dX12_memory_39 rfl ?_
      refine ae_iconst (0 : Int32) dX12_memory_40 (by decide) ?_
      obtain ⟨hg11, hF12⟩ := ae_gdI hF10
      obtain ⟨s13, hs13, hF14⟩ := ae_ltI hF12
      refine ae_zast (q := (33, 0)) dX12_memory_41 rfl rfl (ae_ibI hg11) (by decide) (ae_nmS hs13 ?_)
      obtain ⟨x15, hx15, hF16⟩ := ae_ltI hF14
      refine ae_iinc (lv' := [(2, ae_i x15), (0, ae_r (some (30, 0)))]) 1 (1 : Int32) dX12_memory_42 rfl (by decide) (by decide) (by rw [hx15]; rfl) ?_
      refine ae_goto 21 dX12_memory_45 rfl ?_
      refine ae_pick (lv' := [(0, ae_r (some (30, 0))), (2, ae_i x15)]) [1, 0] rfl ?_
      exact ih x15 s13 hF16
def F_X12_memory (v1 : Int32) (s0 : ae_S) : Option (Int32 × ae_S) := ae_bd (F_X12_isIn v1.toInt64 (1 : Int64) (256 : Int64) s0) (fun (r17 : Int32) s18 => if r17 = 0 then (some ((0 : Int32), s18)) else (ae_lt (ae_wI s18 30 0 0 v1) (fun s23 => F_X12_memory_21 ae_fu (0 : Int32) s23)))
set_option maxHeartbeats 4000000 in
set_option maxRecDepth 100000 in
theorem c_X12_memory {l : Launch} {G : ae_G} (d : Nat) {v1 : Int32} {s0 ss : ae_S} {rr : Int32} (hF : F_X12_memory v1 s0 = some (rr, ss)) : ae_Met l G (d + 1) yX12_memory mX12_memory [ae_r (some (30, 0)), ae_i v1] s0 (ae_Po (some (ae_i rr)) ss) := by
  refine ae_enter (by decide) rfl (Nat.le_of_ble_eq_true rfl) ?_
  show ae_T l G (d + 1) mX12_memory (ae_Po (some (ae_i rr)) ss) 0 [(0, ae_r (some (30, 0))), (1, ae_i v1)] [] s0
  unfold F_X12_memory at hF
  refine ae_iload_n 1 dX12_memory_0 rfl ?_
  refine ae_i2l dX12_memory_1 ?_
  refine ae_lconst (1 : Int64) dX12_memory_2 (by decide) ?_
  refine ae_ldc2 dX12_memory_3 ww_1460 ?_
  obtain ⟨r17, s18, hc19, hF20⟩ := ae_bdI hF
  refine ae_cS1 (As := [ae_l v1.toInt64, ae_l (1 : Int64), ae_l (256 : Int64)]) dX12_memory_6 ww_1461 vy_X12_isIn rfl rfl (Nat.le_of_ble_eq_true rfl) (c_X12_isIn d hc19) ?_
  refine ae_if_ne 14 dX12_memory_9 rfl (fun hb21 => ?_) (fun hb21 => ?_)
  · have hF22 := ae_ifF hb21 hF20
    refine ae_aload_n 0 dX12_memory_14 rfl ?_
    refine ae_iload_n 1 dX12_memory_15 rfl ?_
    obtain ⟨s23, hs23, hF24⟩ := ae_ltI hF22
    refine ae_putI (q := (30, 0)) dX12_memory_16 fl_RX12_100 rfl rfl (ae_nmS hs23 ?_)
    refine ae_iconst (0 : Int32) dX12_memory_19 (by decide) ?_
    refine ae_istore_n (lv' := [(2, ae_i (0 : Int32)), (0, ae_r (some (30, 0))), (1, ae_i v1)]) dX12_memory_20 (by decide) rfl ?_
    refine ae_pick (lv' := [(0, ae_r (some (30, 0))), (2, ae_i (0 : Int32))]) [1, 0] rfl ?_
    exact t_X12_memory_21 d ae_fu (0 : Int32) s23 hF24
  · have hF22 := ae_ifT hb21 hF20
    refine ae_iconst (0 : Int32) dX12_memory_12 (by decide) ?_
    obtain ⟨rfl, rfl⟩ := ae_retI hF22
    exact ae_iret dX12_memory_13 rfl (by decide) ⟨rfl, rfl⟩
abbrev mX12_begins : ae_M := (RX12, cX12_begins, 2, none)
theorem vy_X12_begins : ae_VY yX12_begins mX12_begins 0 := ⟨ww_1470, wq_52, ww_13, ww_1471, ⟨by decide, by decide, by decide +kernel⟩, by decide⟩
theorem dX12_begins_0 : decode cX12_begins 0 = .ok (.iconst 0, 1) := by decide +kernel
theorem dX12_begins_1 : decode cX12_begins 1 = .ok (.istore_n 1, 1) := by decide +kernel
theorem dX12_begins_2 : decode cX12_begins 2 = .ok (.iload_n 1, 1) := by decide +kernel
theorem dX12_begins_3 : decode cX12_begins 3 = .ok (.aload_n 0, 1) := by decide +kernel
theorem dX12_begins_4 : decode cX12_begins 4 = .ok (.getfield 100, 3) := by decide +kernel
theorem dX12_begins_7 : decode cX12_begins 7 = .ok (.if_icmp .ge 21, 3) := by decide +kernel
theorem dX12_begins_10 : decode cX12_begins 10 = .ok (.aload_n 0, 1) := by decide +kernel
theorem dX12_begins_11 : decode cX12_begins 11 = .ok (.getfield 15, 3) := by decide +kernel
theorem dX12_begins_14 : decode cX12_begins 14 = .ok (.iload_n 1, 1) := by decide +kernel
theorem dX12_begins_15 : decode cX12_begins 15 = .ok (.aload_n 0, 1) := by decide +kernel
theorem dX12_begins_16 : decode cX12_begins 16 = .ok (.getfield 9, 3) := by decide +kernel
theorem dX12_begins_19 : decode cX12_begins 19 = .ok (.iload_n 1, 1) := by decide +kernel
theorem dX12_begins_20 : decode cX12_begins 20 = .ok (.iaload, 1) := by decide +kernel
theorem dX12_begins_21 : decode cX12_begins 21 = .ok (.iastore, 1) := by decide +kernel
theorem dX12_begins_22 : decode cX12_begins 22 = .ok (.iinc 1 1, 3) := by decide +kernel
theorem dX12_begins_25 : decode cX12_begins 25 = .ok (.goto (-23), 3) := by decide +kernel
theorem dX12_begins_28 : decode cX12_begins 28 = .ok (.return_, 1) := by decide +kernel
def F_X12_begins_2 : Nat → Int32 → ae_S → Option (Unit × ae_S)
  | 0, _, _ => none
  | n + 1, v1, s0 => if (s0.1 30 0 0) ≤ v1 then (some ((), s0)) else (ae_gd (ae_ib v1 256) (ae_gd (ae_ib v1 256) (ae_lt (ae_wI s0 32 0 v1.toNatClampNeg (s0.1 31 0 v1.toNatClampNeg)) (fun s7 => ae_lt (v1 + (1 : Int32)) (fun x9 => F_X12_begins_2 n x9 s7)))))
set_option maxHeartbeats 4000000 in
set_option maxRecDepth 100000 in
theorem t_X12_begins_2 {l : Launch} {G : ae_G} (d : Nat) {rr : Unit} {ss : ae_S} : ∀ (n : Nat) (v1 : Int32) (s0 : ae_S), F_X12_begins_2 n v1 s0 = some (rr, ss) → ae_T l G d mX12_begins (ae_Po none ss) 2 [(0, ae_r (some (30, 0))), (1, ae_i v1)] [] s0 := by
  intro n
  induction n with
  | zero =>
    intro v1 s0 hF
    exact absurd (show (none : Option (Unit × ae_S)) = some (rr, ss) from hF) (by simp)
  | succ n ih =>
    intro v1 s0 hF
    unfold F_X12_begins_2 at hF
    refine ae_iload_n 1 dX12_begins_2 rfl ?_
    refine ae_aload_n 0 dX12_begins_3 rfl ?_
    refine ae_getI (q := (30, 0)) dX12_begins_4 fl_RX12_100 rfl rfl ?_
    refine ae_icmp_ge 28 dX12_begins_7 rfl (fun hb1 => ?_) (fun hb1 => ?_)
    · have hF2 := ae_ifT hb1 hF
      obtain ⟨rfl, rfl⟩ := ae_retI hF2
      exact ae_vret dX12_begins_28 rfl ⟨rfl, rfl⟩
    · have hF2 := ae_ifF hb1 hF
      refine ae_aload_n 0 dX12_begins_10 rfl ?_
      refine ae_getA (q := (30, 0)) (some (32, 0)) dX12_begins_11 fl_RX12_15 rfl rfl rfl ?_
      refine ae_iload_n 1 dX12_begins_14 rfl ?_
      refine ae_aload_n 0 dX12_begins_15 rfl ?_
      refine ae_getA (q := (30, 0)) (some (31, 0)) dX12_begins_16 fl_RX12_9 rfl rfl rfl ?_
      refine ae_iload_n 1 dX12_begins_19 rfl ?_
      obtain ⟨hg3, hF4⟩ := ae_gdI hF2
      refine ae_iald (q := (31, 0)) dX12_begins_20 rfl rfl (ae_ibI hg3) ?_
      obtain ⟨hg5, hF6⟩ := ae_gdI hF4
      obtain ⟨s7, hs7, hF8⟩ := ae_ltI hF6
      refine ae_iast (q := (32, 0)) dX12_begins_21 rfl rfl (ae_ibI hg5) (ae_nmS hs7 ?_)
      obtain ⟨x9, hx9, hF10⟩ := ae_ltI hF8
      refine ae_iinc (lv' := [(1, ae_i x9), (0, ae_r (some (30, 0)))]) 1 (1 : Int32) dX12_begins_22 rfl (by decide) (by decide) (by rw [hx9]; rfl) ?_
      refine ae_goto 2 dX12_begins_25 rfl ?_
      refine ae_pick (lv' := [(0, ae_r (some (30, 0))), (1, ae_i x9)]) [1, 0] rfl ?_
      exact ih x9 s7 hF10
def F_X12_begins (s0 : ae_S) : Option (Unit × ae_S) := F_X12_begins_2 ae_fu (0 : Int32) s0
set_option maxHeartbeats 4000000 in
set_option maxRecDepth 100000 in
theorem c_X12_begins {l : Launch} {G : ae_G} (d : Nat) {s0 ss : ae_S} {rr : Unit} (hF : F_X12_begins s0 = some (rr, ss)) : ae_Met l G d yX12_begins mX12_begins [ae_r (some (30, 0))] s0 (ae_Po none ss) := by
  refine ae_enter (by decide) rfl (Nat.le_of_ble_eq_true rfl) ?_
  show ae_T l G d mX12_begins (ae_Po none ss) 0 [(0, ae_r (some (30, 0)))] [] s0
  unfold F_X12_begins at hF
  refine ae_iconst (0 : Int32) dX12_begins_0 (by decide) ?_
  refine ae_istore_n (lv' := [(1, ae_i (0 : Int32)), (0, ae_r (some (30, 0)))]) dX12_begins_1 (by decide) rfl ?_
  refine ae_pick (lv' := [(0, ae_r (some (30, 0))), (1, ae_i (0 : Int32))]) [1, 0] rfl ?_
  exact t_X12_begins_2 d ae_fu (0 : Int32) s0 hF
abbrev mX12_ends : ae_M := (RX12, cX12_ends, 4, none)
theorem vy_X12_ends : ae_VY yX12_ends mX12_ends 1 := ⟨ww_1474, wq_53, ww_13, ww_1475, ⟨by decide, by decide, by decide +kernel⟩, by decide⟩
theorem dX12_ends_0 : decode cX12_ends 0 = .ok (.iconst 0, 1) := by decide +kernel
theorem dX12_ends_1 : decode cX12_ends 1 = .ok (.istore_n 2, 1) := by decide +kernel
theorem dX12_ends_2 : decode cX12_ends 2 = .ok (.iconst 0, 1) := by decide +kernel
theorem dX12_ends_3 : decode cX12_ends 3 = .ok (.istore_n 3, 1) := by decide +kernel
theorem dX12_ends_4 : decode cX12_ends 4 = .ok (.iload_n 3, 1) := by decide +kernel
theorem dX12_ends_5 : decode cX12_ends 5 = .ok (.sipush 256, 3) := by decide +kernel
theorem dX12_ends_8 : decode cX12_ends 8 = .ok (.if_icmp .ge 62, 3) := by decide +kernel
theorem dX12_ends_11 : decode cX12_ends 11 = .ok (.aload_n 0, 1) := by decide +kernel
theorem dX12_ends_12 : decode cX12_ends 12 = .ok (.getfield 18, 3) := by decide +kernel
theorem dX12_ends_15 : decode cX12_ends 15 = .ok (.iload_n 3, 1) := by decide +kernel
theorem dX12_ends_16 : decode cX12_ends 16 = .ok (.iload_n 3, 1) := by decide +kernel
theorem dX12_ends_17 : decode cX12_ends 17 = .ok (.aload_n 0, 1) := by decide +kernel
theorem dX12_ends_18 : decode cX12_ends 18 = .ok (.getfield 100, 3) := by decide +kernel
theorem dX12_ends_21 : decode cX12_ends 21 = .ok (.if_icmp .ge 22, 3) := by decide +kernel
theorem dX12_ends_24 : decode cX12_ends 24 = .ok (.aload_n 0, 1) := by decide +kernel
theorem dX12_ends_25 : decode cX12_ends 25 = .ok (.getfield 9, 3) := by decide +kernel
theorem dX12_ends_28 : decode cX12_ends 28 = .ok (.iload_n 3, 1) := by decide +kernel
theorem dX12_ends_29 : decode cX12_ends 29 = .ok (.iaload, 1) := by decide +kernel
theorem dX12_ends_30 : decode cX12_ends 30 = .ok (.aload_n 0, 1) := by decide +kernel
theorem dX12_ends_31 : decode cX12_ends 31 = .ok (.getfield 15, 3) := by decide +kernel
theorem dX12_ends_34 : decode cX12_ends 34 = .ok (.iload_n 3, 1) := by decide +kernel
theorem dX12_ends_35 : decode cX12_ends 35 = .ok (.iaload, 1) := by decide +kernel
theorem dX12_ends_36 : decode cX12_ends 36 = .ok (.if_icmp .eq 7, 3) := by decide +kernel
theorem dX12_ends_39 : decode cX12_ends 39 = .ok (.iconst 1, 1) := by decide +kernel
theorem dX12_ends_40 : decode cX12_ends 40 = .ok (.goto 4, 3) := by decide +kernel
theorem dX12_ends_43 : decode cX12_ends 43 = .ok (.iconst 0, 1) := by decide +kernel
theorem dX12_ends_44 : decode cX12_ends 44 = .ok (.bastore, 1) := by decide +kernel
theorem dX12_ends_45 : decode cX12_ends 45 = .ok (.iload_n 2, 1) := by decide +kernel
theorem dX12_ends_46 : decode cX12_ends 46 = .ok (.ifCond .ne 12, 3) := by decide +kernel
theorem dX12_ends_49 : decode cX12_ends 49 = .ok (.aload_n 0, 1) := by decide +kernel
theorem dX12_ends_50 : decode cX12_ends 50 = .ok (.getfield 18, 3) := by decide +kernel
theorem dX12_ends_53 : decode cX12_ends 53 = .ok (.iload_n 3, 1) := by decide +kernel
theorem dX12_ends_54 : decode cX12_ends 54 = .ok (.baload, 1) := by decide +kernel
theorem dX12_ends_55 : decode cX12_ends 55 = .ok (.ifCond .eq 7, 3) := by decide +kernel
theorem dX12_ends_58 : decode cX12_ends 58 = .ok (.iconst 1, 1) := by decide +kernel
theorem dX12_ends_59 : decode cX12_ends 59 = .ok (.goto 4, 3) := by decide +kernel
theorem dX12_ends_62 : decode cX12_ends 62 = .ok (.iconst 0, 1) := by decide +kernel
theorem dX12_ends_63 : decode cX12_ends 63 = .ok (.istore_n 2, 1) := by decide +kernel
theorem dX12_ends_64 : decode cX12_ends 64 = .ok (.iinc 3 1, 3) := by decide +kernel
theorem dX12_ends_67 : decode cX12_ends 67 = .ok (.goto (-63), 3) := by decide +kernel
theorem dX12_ends_70 : decode cX12_ends 70 = .ok (.iload_n 2, 1) := by decide +kernel
theorem dX12_ends_71 : decode cX12_ends 71 = .ok (.ifCond .eq 7, 3) := by decide +kernel
theorem dX12_ends_74 : decode cX12_ends 74 = .ok (.iload_n 1, 1) := by decide +kernel
theorem dX12_ends_75 : decode cX12_ends 75 = .ok (.ifCond .ne 4, 3) := by decide +kernel
theorem dX12_ends_78 : decode cX12_ends 78 = .ok (.return_, 1) := by decide +kernel
theorem dX12_ends_79 : decode cX12_ends 79 = .ok (.aload_n 0, 1) := by decide +kernel
theorem dX12_ends_80 : decode cX12_ends 80 = .ok (.getfield 112, 3) := by decide +kernel
theorem dX12_ends_83 : decode cX12_ends 83 = .ok (.bipush 8, 2) := by decide +kernel
theorem dX12_ends_85 : decode cX12_ends 85 = .ok (.if_icmp .ne 44, 3) := by decide +kernel
theorem dX12_ends_88 : decode cX12_ends 88 = .ok (.iconst 0, 1) := by decide +kernel
theorem dX12_ends_89 : decode cX12_ends 89 = .ok (.istore_n 3, 1) := by decide +kernel
theorem dX12_ends_90 : decode cX12_ends 90 = .ok (.iload_n 3, 1) := by decide +kernel
theorem dX12_ends_91 : decode cX12_ends 91 = .ok (.sipush 1792, 3) := by decide +kernel
theorem dX12_ends_94 : decode cX12_ends 94 = .ok (.if_icmp .ge 25, 3) := by decide +kernel
theorem dX12_ends_97 : decode cX12_ends 97 = .ok (.aload_n 0, 1) := by decide +kernel
theorem dX12_ends_98 : decode cX12_ends 98 = .ok (.getfield 22, 3) := by decide +kernel
theorem dX12_ends_101 : decode cX12_ends 101 = .ok (.iload_n 3, 1) := by decide +kernel
theorem dX12_ends_102 : decode cX12_ends 102 = .ok (.aload_n 0, 1) := by decide +kernel
theorem dX12_ends_103 : decode cX12_ends 103 = .ok (.getfield 22, 3) := by decide +kernel
theorem dX12_ends_106 : decode cX12_ends 106 = .ok (.iload_n 3, 1) := by decide +kernel
theorem dX12_ends_107 : decode cX12_ends 107 = .ok (.sipush 256, 3) := by decide +kernel
theorem dX12_ends_110 : decode cX12_ends 110 = .ok (.iadd, 1) := by decide +kernel
theorem dX12_ends_111 : decode cX12_ends 111 = .ok (.iaload, 1) := by decide +kernel
theorem dX12_ends_112 : decode cX12_ends 112 = .ok (.iastore, 1) := by decide +kernel
theorem dX12_ends_113 : decode cX12_ends 113 = .ok (.iinc 3 1, 3) := by decide +kernel
theorem dX12_ends_116 : decode cX12_ends 116 = .ok (.goto (-26), 3) := by decide +kernel
theorem dX12_ends_119 : decode cX12_ends 119 = .ok (.aload_n 0, 1) := by decide +kernel
theorem dX12_ends_120 : decode cX12_ends 120 = .ok (.dup, 1) := by decide +kernel
theorem dX12_ends_121 : decode cX12_ends 121 = .ok (.getfield 112, 3) := by decide +kernel
theorem dX12_ends_124 : decode cX12_ends 124 = .ok (.iconst 1, 1) := by decide +kernel
theorem dX12_ends_125 : decode cX12_ends 125 = .ok (.isub, 1) := by decide +kernel
theorem dX12_ends_126 : decode cX12_ends 126 = .ok (.putfield 112, 3) := by decide +kernel
theorem dX12_ends_129 : decode cX12_ends 129 = .ok (.iconst 0, 1) := by decide +kernel
theorem dX12_ends_130 : decode cX12_ends 130 = .ok (.istore_n 3, 1) := by decide +kernel
theorem dX12_ends_131 : decode cX12_ends 131 = .ok (.iload_n 3, 1) := by decide +kernel
theorem dX12_ends_132 : decode cX12_ends 132 = .ok (.aload_n 0, 1) := by decide +kernel
theorem dX12_ends_133 : decode cX12_ends 133 = .ok (.getfield 100, 3) := by decide +kernel
theorem dX12_ends_136 : decode cX12_ends 136 = .ok (.if_icmp .ge 30, 3) := by decide +kernel
theorem dX12_ends_139 : decode cX12_ends 139 = .ok (.aload_n 0, 1) := by decide +kernel
theorem dX12_ends_140 : decode cX12_ends 140 = .ok (.getfield 22, 3) := by decide +kernel
theorem dX12_ends_143 : decode cX12_ends 143 = .ok (.sipush 256, 3) := by decide +kernel
theorem dX12_ends_146 : decode cX12_ends 146 = .ok (.aload_n 0, 1) := by decide +kernel
theorem dX12_ends_147 : decode cX12_ends 147 = .ok (.getfield 112, 3) := by decide +kernel
theorem dX12_ends_150 : decode cX12_ends 150 = .ok (.imul, 1) := by decide +kernel
theorem dX12_ends_151 : decode cX12_ends 151 = .ok (.iload_n 3, 1) := by decide +kernel
theorem dX12_ends_152 : decode cX12_ends 152 = .ok (.iadd, 1) := by decide +kernel
theorem dX12_ends_153 : decode cX12_ends 153 = .ok (.aload_n 0, 1) := by decide +kernel
theorem dX12_ends_154 : decode cX12_ends 154 = .ok (.getfield 15, 3) := by decide +kernel
theorem dX12_ends_157 : decode cX12_ends 157 = .ok (.iload_n 3, 1) := by decide +kernel
theorem dX12_ends_158 : decode cX12_ends 158 = .ok (.iaload, 1) := by decide +kernel
theorem dX12_ends_159 : decode cX12_ends 159 = .ok (.iastore, 1) := by decide +kernel
theorem dX12_ends_160 : decode cX12_ends 160 = .ok (.iinc 3 1, 3) := by decide +kernel
theorem dX12_ends_163 : decode cX12_ends 163 = .ok (.goto (-32), 3) := by decide +kernel
theorem dX12_ends_166 : decode cX12_ends 166 = .ok (.aload_n 0, 1) := by decide +kernel
theorem dX12_ends_167 : decode cX12_ends 167 = .ok (.dup, 1) := by decide +kernel
theorem dX12_ends_168 : decode cX12_ends 168 = .ok (.getfield 112, 3) := by decide +kernel
theorem dX12_ends_171 : decode cX12_ends 171 = .ok (.iconst 1, 1) := by decide +kernel
theorem dX12_ends_172 : decode cX12_ends 172 = .ok (.iadd, 1) := by decide +kernel
theorem dX12_ends_173 : decode cX12_ends 173 = .ok (.putfield 112, 3) := by decide +kernel
theorem dX12_ends_176 : decode cX12_ends 176 = .ok (.return_, 1) := by decide +kernel
def F_X12_ends_78 (s0 : ae_S) : Option (Unit × ae_S) := some ((), s0)
set_option maxHeartbeats 4000000 in
set_option maxRecDepth 100000 in
theorem t_X12_ends_78 {l : Launch} {G : ae_G} (d : Nat) {rr : Unit} {ss : ae_S} (s0 : ae_S) (hF : F_X12_ends_78 s0 = some (rr, ss)) : ae_T l G d mX12_ends (ae_Po none ss) 78 [] [] s0 := by
  unfold F_X12_ends_78 at hF
  obtain ⟨rfl, rfl⟩ := ae_retI hF
  exact ae_vret dX12_ends_78 rfl ⟨rfl, rfl⟩
def F_X12_ends_131 : Nat → Int32 → ae_S → Option (Unit × ae_S)
  | 0, _, _ => none
  | n + 1, v3, s0 => if (s0.1 30 0 0) ≤ v3 then (ae_lt (ae_wI s0 30 0 5 ((s0.1 30 0 5) + (1 : Int32))) (fun s3 => some ((), s3))) else (ae_gd (ae_ib v3 256) (ae_gd (ae_ib (((256 : Int32) * (s0.1 30 0 5)) + v3) 2048) (ae_lt (ae_wI s0 34 0 (((256 : Int32) * (s0.1 30 0 5)) + v3).toNatClampNeg (s0.1 32 0 v3.toNatClampNeg)) (fun s9 => ae_lt (v3 + (1 : Int32)) (fun x11 => F_X12_ends_131 n x11 s9)))))
set_option maxHeartbeats 4000000 in
set_option maxRecDepth 100000 in
theorem t_X12_ends_131 {l : Launch} {G : ae_G} (d : Nat) {rr : Unit} {ss : ae_S} : ∀ (n : Nat) (v3 : Int32) (s0 : ae_S), F_X12_ends_131 n v3 s0 = some (rr, ss) → ae_T l G d mX12_ends (ae_Po none ss) 131 [(0, ae_r (some (30, 0))), (3, ae_i v3)] [] s0 := by
  intro n
  induction n with
  | zero =>
    intro v3 s0 hF
    exact absurd (show (none : Option (Unit × ae_S)) = some (rr, ss) from hF) (by simp)
  | succ n ih =>
    intro v3 s0 hF
    unfold F_X12_ends_131 at hF
    refine ae_iload_n 1 dX12_ends_131 rfl ?_
    refine ae_aload_n 0 dX12_ends_132 rfl ?_
    refine ae_getI (q := (30, 0)) dX12_ends_133 fl_RX12_100 rfl rfl ?_
    refine ae_icmp_ge 166 dX12_ends_136 rfl (fun hb1 => ?_) (fun hb1 => ?_)
    · have hF2 := ae_ifT hb1 hF
      refine ae_aload_n 0 dX12_ends_166 rfl ?_
      refine ae_dup dX12_ends_167 rfl ?_
      refine ae_getI (q := (30, 0)) dX12_ends_168 fl_RX12_112 rfl rfl ?_
      refine ae_iconst (1 : Int32) dX12_ends_171 (by decide) ?_
      refine ae_iadd dX12_ends_172 ?_
      obtain ⟨s3, hs3, hF4⟩ := ae_ltI hF2
      refine ae_putI (q := (30, 0)) dX12_ends_173 fl_RX12_112 rfl rfl (ae_nmS hs3 ?_)
      obtain ⟨rfl, rfl⟩ := ae_retI hF4
      exact ae_vret dX12_ends_176 rfl ⟨rfl, rfl⟩
    · have hF2 := ae_ifF hb1 hF
      refine ae_aload_n 0 dX12_ends_139 rfl ?_
      refine ae_getA (q := (30, 0)) (some (34, 0)) dX12_ends_140 fl_RX12_22 rfl rfl rfl ?_
      refine ae_sipush (256 : Int32) dX12_ends_143 (by decide) ?_
      refine ae_aload_n 0 dX12_ends_146 rfl ?_
      refine ae_getI (q := (30, 0)) dX12_ends_147 fl_RX12_112 rfl rfl ?_
      refine ae_imul dX12_ends_150 ?_
      refine ae_iload_n 1 dX12_ends_151 rfl ?_
      refine ae_iadd dX12_ends_152 ?_
      refine ae_aload_n 0 dX12_ends_153 rfl ?_
      refine ae_getA (q := (30, 0)) (some (32, 0)) dX12_ends_154 fl_RX12_15 rfl rfl rfl ?_
      refine ae_iload_n 1 dX12_ends_157 rfl ?_
      obtain ⟨hg5, hF6⟩ := ae_gdI hF2
      refine ae_iald (q := (32, 0)) dX12_ends_158 rfl rfl (ae_ibI hg5) ?_
      obtain ⟨hg7, hF8⟩ := ae_gdI hF6
      obtain ⟨s9, hs9, hF10⟩ := ae_ltI hF8
      refine ae_iast (q := (34, 0)) dX12_ends_159 rfl rfl (ae_ibI hg7) (ae_nmS hs9 ?_)
      obtain ⟨x11, hx11, hF12⟩ := ae_ltI hF10
      refine ae_iinc (lv' := [(3, ae_i x11), (0, ae_r (some (30, 0)))]) 1 (1 : Int32) dX12_ends_160 rfl (by decide) (by decide) (by rw [hx11]; rfl) ?_
      refine ae_goto 131 dX12_ends_163 rfl ?_
      refine ae_pick (lv' := [(0, ae_r (some (30, 0))), (3, ae_i x11)]) [1, 0] rfl ?_
      exact ih x11 s9 hF12
def F_X12_ends_129 (s0 : ae_S) : Option (Unit × ae_S) := F_X12_ends_131 ae_fu (0 : Int32) s0
set_option maxHeartbeats 4000000 in
set_option maxRecDepth 100000 in
theorem t_X12_ends_129 {l : Launch} {G : ae_G} (d : Nat) {rr : Unit} {ss : ae_S} (s0 : ae_S) (hF : F_X12_ends_129 s0 = some (rr, ss)) : ae_T l G d mX12_ends (ae_Po none ss) 129 [(0, ae_r (some (30, 0)))] [] s0 := by
  unfold F_X12_ends_129 at hF
  refine ae_iconst (0 : Int32) dX12_ends_129 (by decide) ?_
  refine ae_istore_n (lv' := [(3, ae_i (0 : Int32)), (0, ae_r (some (30, 0)))]) dX12_ends_130 (by decide) rfl ?_
  refine ae_pick (lv' := [(0, ae_r (some (30, 0))), (3, ae_i (0 : Int32))]) [1, 0] rfl ?_
  exact t_X12_ends_131 d ae_fu (0 : Int32) s0 hF
def F_X12_ends_90 : Nat → Int32 → ae_S → Option (Unit × ae_S)
  | 0, _, _ => none
  | n + 1, v3, s0 => if (1792 : Int32) ≤ v3 then (ae_lt (ae_wI s0 30 0 5 ((s0.1 30 0 5) - (1 : Int32))) (fun s15 => F_X12_ends_129 s15)) else (ae_gd (ae_ib (v3 + (256 : Int32)) 2048) (ae_gd (ae_ib v3 2048) (ae_lt (ae_wI s0 34 0 v3.toNatClampNeg (s0.1 34 0 (v3 + (256 : Int32)).toNatClampNeg)) (fun s21 => ae_lt (v3 + (1 : Int32)) (fun x23 => F_X12_ends_90 n x23 s21)))))
set_option maxHeartbeats 4000000 in
set_option maxRecDepth 100000 in
theorem t_X12_ends_90 {l : Launch} {G : ae_G} (d : Nat) {rr : Unit} {ss : ae_S} : ∀ (n : Nat) (v3 : Int32) (s0 : ae_S), F_X12_ends_90 n v3 s0 = some (rr, ss) → ae_T l G d mX12_ends (ae_Po none ss) 90 [(0, ae_r (some (30, 0))), (3, ae_i v3)] [] s0 := by
  intro n
  induction n with
  | zero =>
    intro v3 s0 hF
    exact absurd (show (none : Option (Unit × ae_S)) = some (rr, ss) from hF) (by simp)
  | succ n ih =>
    intro v3 s0 hF
    unfold F_X12_ends_90 at hF
    refine ae_iload_n 1 dX12_ends_90 rfl ?_
    refine ae_sipush (1792 : Int32) dX12_ends_91 (by decide) ?_
    refine ae_icmp_ge 119 dX12_ends_94 rfl (fun hb13 => ?_) (fun hb13 => ?_)
    · have hF14 := ae_ifT hb13 hF
      refine ae_aload_n 0 dX12_ends_119 rfl ?_
      refine ae_dup dX12_ends_120 rfl ?_
      refine ae_getI (q := (30, 0)) dX12_ends_121 fl_RX12_112 rfl rfl ?_
      refine ae_iconst (1 : Int32) dX12_ends_124 (by decide) ?_
      refine ae_isub dX12_ends_125 ?_
      obtain ⟨s15, hs15, hF16⟩ := ae_ltI hF14
      refine ae_putI (q := (30, 0)) dX12_ends_126 fl_RX12_112 rfl rfl (ae_nmS hs15 ?_)
      refine ae_pick (lv' := [(0, ae_r (some (30, 0)))]) [0] rfl ?_
      exact t_X12_ends_129 d s15 hF16
    · have hF14 := ae_ifF hb13 hF
      refine ae_aload_n 0 dX12_ends_97 rfl ?_
      refine ae_getA (q := (30, 0)) (some (34, 0)) dX12_ends_98 fl_RX12_22 rfl rfl rfl ?_
      refine ae_iload_n 1 dX12_ends_101 rfl ?_
      refine ae_aload_n 0 dX12_ends_102 rfl ?_
      refine ae_getA (q := (30, 0)) (some (34, 0)) dX12_ends_103 fl_RX12_22 rfl rfl rfl ?_
      refine ae_iload_n 1 dX12_ends_106 rfl ?_
      refine ae_sipush (256 : Int32) dX12_ends_107 (by decide) ?_
      refine ae_iadd dX12_ends_110 ?_
      obtain ⟨hg17, hF18⟩ := ae_gdI hF14
      refine ae_iald (q := (34, 0)) dX12_ends_111 rfl rfl (ae_ibI hg17) ?_
      obtain ⟨hg19, hF20⟩ := ae_gdI hF18
      obtain ⟨s21, hs21, hF22⟩ := ae_ltI hF20
      refine ae_iast (q := (34, 0)) dX12_ends_112 rfl rfl (ae_ibI hg19) (ae_nmS hs21 ?_)
      obtain ⟨x23, hx23, hF24⟩ := ae_ltI hF22
      refine ae_iinc (lv' := [(3, ae_i x23), (0, ae_r (some (30, 0)))]) 1 (1 : Int32) dX12_ends_113 rfl (by decide) (by decide) (by rw [hx23]; rfl) ?_
      refine ae_goto 90 dX12_ends_116 rfl ?_
      refine ae_pick (lv' := [(0, ae_r (some (30, 0))), (3, ae_i x23)]) [1, 0] rfl ?_
      exact ih x23 s21 hF24
def F_X12_ends_63 (k4 : Int32 → Int32 → Int32 → ae_S → Option (Unit × ae_S)) (v1 : Int32) (v3 : Int32) (t0 : Int32) (s0 : ae_S) : Option (Unit × ae_S) := ae_lt (v3 + (1 : Int32)) (fun x25 => k4 v1 t0 x25 s0)
set_option maxHeartbeats 4000000 in
set_option maxRecDepth 100000 in
theorem t_X12_ends_63 {l : Launch} {G : ae_G} (d : Nat) (k4 : Int32 → Int32 → Int32 → ae_S → Option (Unit × ae_S)) {rr : Unit} {ss : ae_S} (hk4 : ∀ (v1 : Int32) (v2 : Int32) (v3 : Int32) (s0 : ae_S), k4 v1 v2 v3 s0 = some (rr, ss) → ae_T l G d mX12_ends (ae_Po none ss) 4 [(0, ae_r (some (30, 0))), (1, ae_i v1), (2, ae_i v2), (3, ae_i v3)] [] s0) (v1 : Int32) (v3 : Int32) (t0 : Int32) (s0 : ae_S) (hF : F_X12_ends_63 k4 v1 v3 t0 s0 = some (rr, ss)) : ae_T l G d mX12_ends (ae_Po none ss) 63 [(0, ae_r (some (30, 0))), (1, ae_i v1), (3, ae_i v3)] [ae_i t0] s0 := by
  unfold F_X12_ends_63 at hF
  refine ae_istore_n (lv' := [(2, ae_i t0), (0, ae_r (some (30, 0))), (1, ae_i v1), (3, ae_i v3)]) dX12_ends_63 (by decide) rfl ?_
  obtain ⟨x25, hx25, hF26⟩ := ae_ltI hF
  refine ae_iinc (lv' := [(3, ae_i x25), (2, ae_i t0), (0, ae_r (some (30, 0))), (1, ae_i v1)]) 3 (1 : Int32) dX12_ends_64 rfl (by decide) (by decide) (by rw [hx25]; rfl) ?_
  refine ae_goto 4 dX12_ends_67 rfl ?_
  refine ae_pick (lv' := [(0, ae_r (some (30, 0))), (1, ae_i v1), (2, ae_i t0), (3, ae_i x25)]) [2, 3, 1, 0] rfl ?_
  exact hk4 v1 t0 x25 s0 hF26
def F_X12_ends_58 (k4 : Int32 → Int32 → Int32 → ae_S → Option (Unit × ae_S)) (v1 : Int32) (v3 : Int32) (s0 : ae_S) : Option (Unit × ae_S) := F_X12_ends_63 k4 v1 v3 (1 : Int32) s0
set_option maxHeartbeats 4000000 in
set_option maxRecDepth 100000 in
theorem t_X12_ends_58 {l : Launch} {G : ae_G} (d : Nat) (k4 : Int32 → Int32 → Int32 → ae_S → Option (Unit × ae_S)) {rr : Unit} {ss : ae_S} (hk4 : ∀ (v1 : Int32) (v2 : Int32) (v3 : Int32) (s0 : ae_S), k4 v1 v2 v3 s0 = some (rr, ss) → ae_T l G d mX12_ends (ae_Po none ss) 4 [(0, ae_r (some (30, 0))), (1, ae_i v1), (2, ae_i v2), (3, ae_i v3)] [] s0) (v1 : Int32) (v3 : Int32) (s0 : ae_S) (hF : F_X12_ends_58 k4 v1 v3 s0 = some (rr, ss)) : ae_T l G d mX12_ends (ae_Po none ss) 58 [(0, ae_r (some (30, 0))), (1, ae_i v1), (3, ae_i v3)] [] s0 := by
  unfold F_X12_ends_58 at hF
  refine ae_iconst (1 : Int32) dX12_ends_58 (by decide) ?_
  refine ae_goto 63 dX12_ends_59 rfl ?_
  refine ae_pick (lv' := [(0, ae_r (some (30, 0))), (1, ae_i v1), (3, ae_i v3)]) [0, 1, 2] rfl ?_
  exact t_X12_ends_63 d k4 hk4 v1 v3 (1 : Int32) s0 hF
def F_X12_ends_44 (k4 : Int32 → Int32 → Int32 → ae_S → Option (Unit × ae_S)) (v1 : Int32) (v2 : Int32) (v3 : Int32) (t0 : Int32) (t1 : Int32) (s0 : ae_S) : Option (Unit × ae_S) := ae_gd (ae_ib t1 256) (ae_gd (ae_zz t0) (ae_lt (ae_wI s0 33 0 t1.toNatClampNeg t0) (fun s31 => if v2 = 0 then (ae_gd (ae_ib v3 256) (if (s31.1 33 0 v3.toNatClampNeg) = 0 then (F_X12_ends_63 k4 v1 v3 (0 : Int32) s31) else (F_X12_ends_58 k4 v1 v3 s31))) else (F_X12_ends_58 k4 v1 v3 s31))))
set_option maxHeartbeats 4000000 in
set_option maxRecDepth 100000 in
theorem t_X12_ends_44 {l : Launch} {G : ae_G} (d : Nat) (k4 : Int32 → Int32 → Int32 → ae_S → Option (Unit × ae_S)) {rr : Unit} {ss : ae_S} (hk4 : ∀ (v1 : Int32) (v2 : Int32) (v3 : Int32) (s0 : ae_S), k4 v1 v2 v3 s0 = some (rr, ss) → ae_T l G d mX12_ends (ae_Po none ss) 4 [(0, ae_r (some (30, 0))), (1, ae_i v1), (2, ae_i v2), (3, ae_i v3)] [] s0) (v1 : Int32) (v2 : Int32) (v3 : Int32) (t0 : Int32) (t1 : Int32) (s0 : ae_S) (hF : F_X12_ends_44 k4 v1 v2 v3 t0 t1 s0 = some (rr, ss)) : ae_T l G d mX12_ends (ae_Po none ss) 44 [(0, ae_r (some (30, 0))), (1, ae_i v1), (2, ae_i v2), (3, ae_i v3)] [ae_i t0, ae_i t1, ae_r (some (33, 0))] s0 := by
  unfold F_X12_ends_44 at hF
  obtain ⟨hg27, hF28⟩ := ae_gdI hF
  obtain ⟨hg29, hF30⟩ := ae_gdI hF28
  obtain ⟨s31, hs31, hF32⟩ := ae_ltI hF30
  refine ae_zast (q := (33, 0)) dX12_ends_44 rfl rfl (ae_ibI hg27) (ae_zzI hg29) (ae_nmS hs31 ?_)
  refine ae_iload_n 2 dX12_ends_45 rfl ?_
  refine ae_if_ne 58 dX12_ends_46 rfl (fun hb33 => ?_) (fun hb33 => ?_)
  · have hF34 := ae_ifF hb33 hF32
    refine ae_pick (lv' := [(0, ae_r (some (30, 0))), (1, ae_i v1), (3, ae_i v3)]) [0, 1, 3] rfl ?_
    exact t_X12_ends_58 d k4 hk4 v1 v3 s31 hF34
  · have hF34 := ae_ifT hb33 hF32
    refine ae_aload_n 0 dX12_ends_49 rfl ?_
    refine ae_getA (q := (30, 0)) (some (33, 0)) dX12_ends_50 fl_RX12_18 rfl rfl rfl ?_
    refine ae_iload_n 3 dX12_ends_53 rfl ?_
    obtain ⟨hg35, hF36⟩ := ae_gdI hF34
    refine ae_zald (q := (33, 0)) dX12_ends_54 rfl rfl (ae_ibI hg35) ?_
    refine ae_if_eq 62 dX12_ends_55 rfl (fun hb37 => ?_) (fun hb37 => ?_)
    · have hF38 := ae_ifT hb37 hF36
      refine ae_iconst (0 : Int32) dX12_ends_62 (by decide) ?_
      refine ae_pick (lv' := [(0, ae_r (some (30, 0))), (1, ae_i v1), (3, ae_i v3)]) [0, 1, 3] rfl ?_
      exact t_X12_ends_63 d k4 hk4 v1 v3 (0 : Int32) s31 hF38
    · have hF38 := ae_ifF hb37 hF36
      refine ae_pick (lv' := [(0, ae_r (some (30, 0))), (1, ae_i v1), (3, ae_i v3)]) [0, 1, 3] rfl ?_
      exact t_X12_ends_58 d k4 hk4 v1 v3 s31 hF38
def F_X12_ends_43 (k4 : Int32 → Int32 → Int32 → ae_S → Option (Unit × ae_S)) (v1 : Int32) (v2 : Int32) (v3 : Int32) (t0 : Int32) (s0 : ae_S) : Option (Unit × ae_S) := F_X12_ends_44 k4 v1 v2 v3 (0 : Int32) t0 s0
set_option maxHeartbeats 4000000 in
set_option maxRecDepth 100000 in
theorem t_X12_ends_43 {l : Launch} {G : ae_G} (d : Nat) (k4 : Int32 → Int32 → Int32 → ae_S → Option (Unit × ae_S)) {rr : Unit} {ss : ae_S} (hk4 : ∀ (v1 : Int32) (v2 : Int32) (v3 : Int32) (s0 : ae_S), k4 v1 v2 v3 s0 = some (rr, ss) → ae_T l G d mX12_ends (ae_Po none ss) 4 [(0, ae_r (some (30, 0))), (1, ae_i v1), (2, ae_i v2), (3, ae_i v3)] [] s0) (v1 : Int32) (v2 : Int32) (v3 : Int32) (t0 : Int32) (s0 : ae_S) (hF : F_X12_ends_43 k4 v1 v2 v3 t0 s0 = some (rr, ss)) : ae_T l G d mX12_ends (ae_Po none ss) 43 [(0, ae_r (some (30, 0))), (1, ae_i v1), (2, ae_i v2), (3, ae_i v3)] [ae_i t0, ae_r (some (33, 0))] s0 := by
  unfold F_X12_ends_43 at hF
  refine ae_iconst (0 : Int32) dX12_ends_43 (by decide) ?_
  refine ae_pick (lv' := [(0, ae_r (some (30, 0))), (1, ae_i v1), (2, ae_i v2), (3, ae_i v3)]) [0, 1, 2, 3] rfl ?_
  exact t_X12_ends_44 d k4 hk4 v1 v2 v3 (0 : Int32) t0 s0 hF
def F_X12_ends_4 : Nat → Int32 → Int32 → Int32 → ae_S → Option (Unit × ae_S)
  | 0, _, _, _, _ => none
  | n + 1, v1, v2, v3, s0 => if (256 : Int32) ≤ v3 then (if v2 = 0 then (F_X12_ends_78 s0) else (if v1 = 0 then (F_X12_ends_78 s0) else (if (s0.1 30 0 5) = (8 : Int32) then (F_X12_ends_90 ae_fu (0 : Int32) s0) else (F_X12_ends_129 s0)))) else (if (s0.1 30 0 0) ≤ v3 then (F_X12_ends_43 (F_X12_ends_4 n) v1 v2 v3 v3 s0) else (ae_gd (ae_ib v3 256) (ae_gd (ae_ib v3 256) (if (s0.1 31 0 v3.toNatClampNeg) = (s0.1 32 0 v3.toNatClampNeg) then (F_X12_ends_43 (F_X12_ends_4 n) v1 v2 v3 v3 s0) else (F_X12_ends_44 (F_X12_ends_4 n) v1 v2 v3 (1 : Int32) v3 s0)))))
set_option maxHeartbeats 4000000 in
set_option maxRecDepth 100000 in
theorem t_X12_ends_4 {l : Launch} {G : ae_G} (d : Nat) {rr : Unit} {ss : ae_S} : ∀ (n : Nat) (v1 : Int32) (v2 : Int32) (v3 : Int32) (s0 : ae_S), F_X12_ends_4 n v1 v2 v3 s0 = some (rr, ss) → ae_T l G d mX12_ends (ae_Po none ss) 4 [(0, ae_r (some (30, 0))), (1, ae_i v1), (2, ae_i v2), (3, ae_i v3)] [] s0 := by
  intro n
  induction n with
  | zero =>
    intro v1 v2 v3 s0 hF
    exact absurd (show (none : Option (Unit × ae_S)) = some (rr, ss) from hF) (by simp)
  | succ n ih =>
    intro v1 v2 v3 s0 hF
    unfold F_X12_ends_4 at hF
    refine ae_iload_n 3 dX12_ends_4 rfl ?_
    refine ae_sipush (256 : Int32) dX12_ends_5 (by decide) ?_
    refine ae_icmp_ge 70 dX12_ends_8 rfl (fun hb39 => ?_) (fun hb39 => ?_)
    · have hF40 := ae_ifT hb39 hF
      refine ae_iload_n 2 dX12_ends_70 rfl ?_
      refine ae_if_eq 78 dX12_ends_71 rfl (fun hb41 => ?_) (fun hb41 => ?_)
      · have hF42 := ae_ifT hb41 hF40
        refine ae_pick (lv' := []) [] rfl ?_
        exact t_X12_ends_78 d s0 hF42
      · have hF42 := ae_ifF hb41 hF40
        refine ae_iload_n 1 dX12_ends_74 rfl ?_
        refine ae_if_ne 79 dX12_ends_75 rfl (fun hb43 => ?_) (fun hb43 => ?_)
        · have hF44 := ae_ifF hb43 hF42
          refine ae_aload_n 0 dX12_ends_79 rfl ?_
          refine ae_getI (q := (30, 0)) dX12_ends_80 fl_RX12_112 rfl rfl ?_
          refine ae_bipush (8 : Int32) dX12_ends_83 (by decide) ?_
          refine ae_icmp_ne 129 dX12_ends_85 rfl (fun hb45 => ?_) (fun hb45 => ?_)
          · have hF46 := ae_ifF hb45 hF44
            refine ae_pick (lv' := [(0, ae_r (some (30, 0)))]) [0] rfl ?_
            exact t_X12_ends_129 d s0 hF46
          · have hF46 := ae_ifT hb45 hF44
            refine ae_iconst (0 : Int32) dX12_ends_88 (by decide) ?_
            refine ae_istore_n (lv' := [(3, ae_i (0 : Int32)), (0, ae_r (some (30, 0))), (1, ae_i v1), (2, ae_i v2)]) dX12_ends_89 (by decide) rfl ?_
            refine ae_pick (lv' := [(0, ae_r (some (30, 0))), (3, ae_i (0 : Int32))]) [1, 0] rfl ?_
            exact t_X12_ends_90 d ae_fu (0 : Int32) s0 hF46
        · have hF44 := ae_ifT hb43 hF42
          refine ae_pick (lv' := []) [] rfl ?_
          exact t_X12_ends_78 d s0 hF44
    · have hF40 := ae_ifF hb39 hF
      refine ae_aload_n 0 dX12_ends_11 rfl ?_
      refine ae_getA (q := (30, 0)) (some (33, 0)) dX12_ends_12 fl_RX12_18 rfl rfl rfl ?_
      refine ae_iload_n 3 dX12_ends_15 rfl ?_
      refine ae_iload_n 3 dX12_ends_16 rfl ?_
      refine ae_aload_n 0 dX12_ends_17 rfl ?_
      refine ae_getI (q := (30, 0)) dX12_ends_18 fl_RX12_100 rfl rfl ?_
      refine ae_icmp_ge 43 dX12_ends_21 rfl (fun hb47 => ?_) (fun hb47 => ?_)
      · have hF48 := ae_ifT hb47 hF40
        refine ae_pick (lv' := [(0, ae_r (some (30, 0))), (1, ae_i v1), (2, ae_i v2), (3, ae_i v3)]) [0, 1, 2, 3] rfl ?_
        exact t_X12_ends_43 d (F_X12_ends_4 n) ih v1 v2 v3 v3 s0 hF48
      · have hF48 := ae_ifF hb47 hF40
        refine ae_aload_n 0 dX12_ends_24 rfl ?_
        refine ae_getA (q := (30, 0)) (some (31, 0)) dX12_ends_25 fl_RX12_9 rfl rfl rfl ?_
        refine ae_iload_n 3 dX12_ends_28 rfl ?_
        obtain ⟨hg49, hF50⟩ := ae_gdI hF48
        refine ae_iald (q := (31, 0)) dX12_ends_29 rfl rfl (ae_ibI hg49) ?_
        refine ae_aload_n 0 dX12_ends_30 rfl ?_
        refine ae_getA (q := (30, 0)) (some (32, 0)) dX12_ends_31 fl_RX12_15 rfl rfl rfl ?_
        refine ae_iload_n 3 dX12_ends_34 rfl ?_
        obtain ⟨hg51, hF52⟩ := ae_gdI hF50
        refine ae_iald (q := (32, 0)) dX12_ends_35 rfl rfl (ae_ibI hg51) ?_
        refine ae_icmp_eq 43 dX12_ends_36 rfl (fun hb53 => ?_) (fun hb53 => ?_)
        · have hF54 := ae_ifT hb53 hF52
          refine ae_pick (lv' := [(0, ae_r (some (30, 0))), (1, ae_i v1), (2, ae_i v2), (3, ae_i v3)]) [0, 1, 2, 3] rfl ?_
          exact t_X12_ends_43 d (F_X12_ends_4 n) ih v1 v2 v3 v3 s0 hF54
        · have hF54 := ae_ifF hb53 hF52
          refine ae_iconst (1 : Int32) dX12_ends_39 (by decide) ?_
          refine ae_goto 44 dX12_ends_40 rfl ?_
          refine ae_pick (lv' := [(0, ae_r (some (30, 0))), (1, ae_i v1), (2, ae_i v2), (3, ae_i v3)]) [0, 1, 2, 3] rfl ?_
          exact t_X12_ends_44 d (F_X12_ends_4 n) ih v1 v2 v3 (1 : Int32) v3 s0 hF54
def F_X12_ends (v1 : Int32) (s0 : ae_S) : Option (Unit × ae_S) := F_X12_ends_4 ae_fu v1 (0 : Int32) (0 : Int32) s0
set_option maxHeartbeats 4000000 in
set_option maxRecDepth 100000 in
theorem c_X12_ends {l : Launch} {G : ae_G} (d : Nat) {v1 : Int32} {s0 ss : ae_S} {rr : Unit} (hF : F_X12_ends v1 s0 = some (rr, ss)) : ae_Met l G d yX12_ends mX12_ends [ae_r (some (30, 0)), ae_i v1] s0 (ae_Po none ss) := by
  refine ae_enter (by decide) rfl (Nat.le_of_ble_eq_true rfl) ?_
  show ae_T l G d mX12_ends (ae_Po none ss) 0 [(0, ae_r (some (30, 0))), (1, ae_i v1)] [] s0
  unfold F_X12_ends at hF
  refine ae_iconst (0 : Int32) dX12_ends_0 (by decide) ?_
  refine ae_istore_n (lv' := [(2, ae_i (0 : Int32)), (0, ae_r (some (30, 0))), (1, ae_i v1)]) dX12_ends_1 (by decide) rfl ?_
  refine ae_iconst (0 : Int32) dX12_ends_2 (by decide) ?_
  refine ae_istore_n (lv' := [(3, ae_i (0 : Int32)), (2, ae_i (0 : Int32)), (0, ae_r (some (30, 0))), (1, ae_i v1)]) dX12_ends_3 (by decide) rfl ?_
  refine ae_pick (lv' := [(0, ae_r (some (30, 0))), (1, ae_i v1), (2, ae_i (0 : Int32)), (3, ae_i (0 : Int32))]) [2, 3, 1, 0] rfl ?_
  exact t_X12_ends_4 d ae_fu v1 (0 : Int32) (0 : Int32) s0 hF
abbrev mX12_undo : ae_M := (RX12, cX12_undo, 2, some .boolean)
theorem vy_X12_undo : ae_VY yX12_undo mX12_undo 0 := ⟨ww_1465, ww_1466, ww_13, ww_1467, ⟨by decide, by decide, by decide +kernel⟩, by decide⟩
theorem dX12_undo_0 : decode cX12_undo 0 = .ok (.aload_n 0, 1) := by decide +kernel
theorem dX12_undo_1 : decode cX12_undo 1 = .ok (.getfield 112, 3) := by decide +kernel
theorem dX12_undo_4 : decode cX12_undo 4 = .ok (.ifCond .ne 5, 3) := by decide +kernel
theorem dX12_undo_7 : decode cX12_undo 7 = .ok (.iconst 0, 1) := by decide +kernel
theorem dX12_undo_8 : decode cX12_undo 8 = .ok (.ireturn, 1) := by decide +kernel
theorem dX12_undo_9 : decode cX12_undo 9 = .ok (.aload_n 0, 1) := by decide +kernel
theorem dX12_undo_10 : decode cX12_undo 10 = .ok (.invokevirtual 115, 3) := by decide +kernel
theorem dX12_undo_13 : decode cX12_undo 13 = .ok (.aload_n 0, 1) := by decide +kernel
theorem dX12_undo_14 : decode cX12_undo 14 = .ok (.dup, 1) := by decide +kernel
theorem dX12_undo_15 : decode cX12_undo 15 = .ok (.getfield 112, 3) := by decide +kernel
theorem dX12_undo_18 : decode cX12_undo 18 = .ok (.iconst 1, 1) := by decide +kernel
theorem dX12_undo_19 : decode cX12_undo 19 = .ok (.isub, 1) := by decide +kernel
theorem dX12_undo_20 : decode cX12_undo 20 = .ok (.putfield 112, 3) := by decide +kernel
theorem dX12_undo_23 : decode cX12_undo 23 = .ok (.iconst 0, 1) := by decide +kernel
theorem dX12_undo_24 : decode cX12_undo 24 = .ok (.istore_n 1, 1) := by decide +kernel
theorem dX12_undo_25 : decode cX12_undo 25 = .ok (.iload_n 1, 1) := by decide +kernel
theorem dX12_undo_26 : decode cX12_undo 26 = .ok (.aload_n 0, 1) := by decide +kernel
theorem dX12_undo_27 : decode cX12_undo 27 = .ok (.getfield 100, 3) := by decide +kernel
theorem dX12_undo_30 : decode cX12_undo 30 = .ok (.if_icmp .ge 30, 3) := by decide +kernel
theorem dX12_undo_33 : decode cX12_undo 33 = .ok (.aload_n 0, 1) := by decide +kernel
theorem dX12_undo_34 : decode cX12_undo 34 = .ok (.getfield 9, 3) := by decide +kernel
theorem dX12_undo_37 : decode cX12_undo 37 = .ok (.iload_n 1, 1) := by decide +kernel
theorem dX12_undo_38 : decode cX12_undo 38 = .ok (.aload_n 0, 1) := by decide +kernel
theorem dX12_undo_39 : decode cX12_undo 39 = .ok (.getfield 22, 3) := by decide +kernel
theorem dX12_undo_42 : decode cX12_undo 42 = .ok (.sipush 256, 3) := by decide +kernel
theorem dX12_undo_45 : decode cX12_undo 45 = .ok (.aload_n 0, 1) := by decide +kernel
theorem dX12_undo_46 : decode cX12_undo 46 = .ok (.getfield 112, 3) := by decide +kernel
theorem dX12_undo_49 : decode cX12_undo 49 = .ok (.imul, 1) := by decide +kernel
theorem dX12_undo_50 : decode cX12_undo 50 = .ok (.iload_n 1, 1) := by decide +kernel
theorem dX12_undo_51 : decode cX12_undo 51 = .ok (.iadd, 1) := by decide +kernel
theorem dX12_undo_52 : decode cX12_undo 52 = .ok (.iaload, 1) := by decide +kernel
theorem dX12_undo_53 : decode cX12_undo 53 = .ok (.iastore, 1) := by decide +kernel
theorem dX12_undo_54 : decode cX12_undo 54 = .ok (.iinc 1 1, 3) := by decide +kernel
theorem dX12_undo_57 : decode cX12_undo 57 = .ok (.goto (-32), 3) := by decide +kernel
theorem dX12_undo_60 : decode cX12_undo 60 = .ok (.aload_n 0, 1) := by decide +kernel
theorem dX12_undo_61 : decode cX12_undo 61 = .ok (.iconst 0, 1) := by decide +kernel
theorem dX12_undo_62 : decode cX12_undo 62 = .ok (.invokevirtual 118, 3) := by decide +kernel
theorem dX12_undo_65 : decode cX12_undo 65 = .ok (.iconst 1, 1) := by decide +kernel
theorem dX12_undo_66 : decode cX12_undo 66 = .ok (.ireturn, 1) := by decide +kernel
def F_X12_undo_25 : Nat → Int32 → ae_S → Option (Int32 × ae_S)
  | 0, _, _ => none
  | n + 1, v1, s0 => if (s0.1 30 0 0) ≤ v1 then (ae_bd (F_X12_ends (0 : Int32) s0) (fun (r3 : Unit) s4 => some ((1 : Int32), s4))) else (ae_gd (ae_ib (((256 : Int32) * (s0.1 30 0 5)) + v1) 2048) (ae_gd (ae_ib v1 256) (ae_lt (ae_wI s0 31 0 v1.toNatClampNeg (s0.1 34 0 (((256 : Int32) * (s0.1 30 0 5)) + v1).toNatClampNeg)) (fun s11 => ae_lt (v1 + (1 : Int32)) (fun x13 => F_X12_undo_25 n x13 s11)))))
set_option maxHeartbeats 4000000 in
set_option maxRecDepth 100000 in
theorem t_X12_undo_25 {l : Launch} {G : ae_G} (d : Nat) {rr : Int32} {ss : ae_S} : ∀ (n : Nat) (v1 : Int32) (s0 : ae_S), F_X12_undo_25 n v1 s0 = some (rr, ss) → ae_T l G (d + 1) mX12_undo (ae_Po (some (ae_i rr)) ss) 25 [(0, ae_r (some (30, 0))), (1, ae_i v1)] [] s0 := by
  intro n
  induction n with
  | zero =>
    intro v1 s0 hF
    exact absurd (show (none : Option (Int32 × ae_S)) = some (rr, ss) from hF) (by simp)
  | succ n ih =>
    intro v1 s0 hF
    unfold F_X12_undo_25 at hF
    refine ae_iload_n 1 dX12_undo_25 rfl ?_
    refine ae_aload_n 0 dX12_undo_26 rfl ?_
    refine ae_getI (q := (30, 0)) dX12_undo_27 fl_RX12_100 rfl rfl ?_
    refine ae_icmp_ge 60 dX12_undo_30 rfl (fun hb1 => ?_) (fun hb1 => ?_)
    · have hF2 := ae_ifT hb1 hF
      refine ae_aload_n 0 dX12_undo_60 rfl ?_
      refine ae_iconst (0 : Int32) dX12_undo_61 (by decide) ?_
      obtain ⟨r3, s4, hc5, hF6⟩ := ae_bdI hF2
      refine ae_cV0 (q := (30, 0)) (As := [ae_i (0 : Int32)]) dX12_undo_62 ww_1472 vy_X12_ends rfl rfl rfl rfl rfl (Nat.le_of_ble_eq_true rfl) (c_X12_ends d hc5) ?_
      refine ae_iconst (1 : Int32) dX12_undo_65 (by decide) ?_
      obtain ⟨rfl, rfl⟩ := ae_retI hF6
      exact ae_iret dX12_undo_66 rfl (by decide) ⟨rfl, rfl⟩
    · have hF2 := ae_ifF hb1 hF
      refine ae_aload_n 0 dX12_undo_33 rfl ?_
      refine ae_getA (q := (30, 0)) (some (31, 0)) dX12_undo_34 fl_RX12_9 rfl rfl rfl ?_
      refine ae_iload_n 1 dX12_undo_37 rfl ?_
      refine ae_aload_n 0 dX12_undo_38 rfl ?_
      refine ae_getA (q := (30, 0)) (some (34, 0)) dX12_undo_39 fl_RX12_22 rfl rfl rfl ?_
      refine ae_sipush (256 : Int32) dX12_undo_42 (by decide) ?_
      refine ae_aload_n 0 dX12_undo_45 rfl ?_
      refine ae_getI (q := (30, 0)) dX12_undo_46 fl_RX12_112 rfl rfl ?_
      refine ae_imul dX12_undo_49 ?_
      refine ae_iload_n 1 dX12_undo_50 rfl ?_
      refine ae_iadd dX12_undo_51 ?_
      obtain ⟨hg7, hF8⟩ := ae_gdI hF2
      refine ae_iald (q := (34, 0)) dX12_undo_52 rfl rfl (ae_ibI hg7) ?_
      obtain ⟨hg9, hF10⟩ := ae_gdI hF8
      obtain ⟨s11, hs11, hF12⟩ := ae_ltI hF10
      refine ae_iast (q := (31, 0)) dX12_undo_53 rfl rfl (ae_ibI hg9) (ae_nmS hs11 ?_)
      obtain ⟨x13, hx13, hF14⟩ := ae_ltI hF12
      refine ae_iinc (lv' := [(1, ae_i x13), (0, ae_r (some (30, 0)))]) 1 (1 : Int32) dX12_undo_54 rfl (by decide) (by decide) (by rw [hx13]; rfl) ?_
      refine ae_goto 25 dX12_undo_57 rfl ?_
      refine ae_pick (lv' := [(0, ae_r (some (30, 0))), (1, ae_i x13)]) [1, 0] rfl ?_
      exact ih x13 s11 hF14
def F_X12_undo (s0 : ae_S) : Option (Int32 × ae_S) := if (s0.1 30 0 5) = 0 then (some ((0 : Int32), s0)) else (ae_bd (F_X12_begins s0) (fun (r17 : Unit) s18 => ae_lt (ae_wI s18 30 0 5 ((s18.1 30 0 5) - (1 : Int32))) (fun s21 => F_X12_undo_25 ae_fu (0 : Int32) s21)))
set_option maxHeartbeats 4000000 in
set_option maxRecDepth 100000 in
theorem c_X12_undo {l : Launch} {G : ae_G} (d : Nat) {s0 ss : ae_S} {rr : Int32} (hF : F_X12_undo s0 = some (rr, ss)) : ae_Met l G (d + 1) yX12_undo mX12_undo [ae_r (some (30, 0))] s0 (ae_Po (some (ae_i rr)) ss) := by
  refine ae_enter (by decide) rfl (Nat.le_of_ble_eq_true rfl) ?_
  show ae_T l G (d + 1) mX12_undo (ae_Po (some (ae_i rr)) ss) 0 [(0, ae_r (some (30, 0)))] [] s0
  unfold F_X12_undo at hF
  refine ae_aload_n 0 dX12_undo_0 rfl ?_
  refine ae_getI (q := (30, 0)) dX12_undo_1 fl_RX12_112 rfl rfl ?_
  refine ae_if_ne 9 dX12_undo_4 rfl (fun hb15 => ?_) (fun hb15 => ?_)
  · have hF16 := ae_ifF hb15 hF
    refine ae_aload_n 0 dX12_undo_9 rfl ?_
    obtain ⟨r17, s18, hc19, hF20⟩ := ae_bdI hF16
    refine ae_cV0 (q := (30, 0)) (As := []) dX12_undo_10 ww_1468 vy_X12_begins rfl rfl rfl rfl rfl (Nat.le_of_ble_eq_true rfl) (c_X12_begins d hc19) ?_
    refine ae_aload_n 0 dX12_undo_13 rfl ?_
    refine ae_dup dX12_undo_14 rfl ?_
    refine ae_getI (q := (30, 0)) dX12_undo_15 fl_RX12_112 rfl rfl ?_
    refine ae_iconst (1 : Int32) dX12_undo_18 (by decide) ?_
    refine ae_isub dX12_undo_19 ?_
    obtain ⟨s21, hs21, hF22⟩ := ae_ltI hF20
    refine ae_putI (q := (30, 0)) dX12_undo_20 fl_RX12_112 rfl rfl (ae_nmS hs21 ?_)
    refine ae_iconst (0 : Int32) dX12_undo_23 (by decide) ?_
    refine ae_istore_n (lv' := [(1, ae_i (0 : Int32)), (0, ae_r (some (30, 0)))]) dX12_undo_24 (by decide) rfl ?_
    refine ae_pick (lv' := [(0, ae_r (some (30, 0))), (1, ae_i (0 : Int32))]) [1, 0] rfl ?_
    exact t_X12_undo_25 d ae_fu (0 : Int32) s21 hF22
  · have hF16 := ae_ifT hb15 hF
    refine ae_iconst (0 : Int32) dX12_undo_7 (by decide) ?_
    obtain ⟨rfl, rfl⟩ := ae_retI hF16
    exact ae_iret dX12_undo_8 rfl (by decide) ⟨rfl, rfl⟩
abbrev mX12_at : ae_M := (RX12, cX12_at, 2, some .int)
theorem vy_X12_at : ae_VY yX12_at mX12_at 1 := ⟨ww_1477, ww_1478, ww_13, ww_1479, ⟨by decide, by decide, by decide +kernel⟩, by decide⟩
theorem dX12_at_0 : decode cX12_at 0 = .ok (.iload_n 1, 1) := by decide +kernel
theorem dX12_at_1 : decode cX12_at 1 = .ok (.i2l, 1) := by decide +kernel
theorem dX12_at_2 : decode cX12_at 2 = .ok (.lconst 0, 1) := by decide +kernel
theorem dX12_at_3 : decode cX12_at 3 = .ok (.aload_n 0, 1) := by decide +kernel
theorem dX12_at_4 : decode cX12_at 4 = .ok (.getfield 100, 3) := by decide +kernel
theorem dX12_at_7 : decode cX12_at 7 = .ok (.iconst 1, 1) := by decide +kernel
theorem dX12_at_8 : decode cX12_at 8 = .ok (.isub, 1) := by decide +kernel
theorem dX12_at_9 : decode cX12_at 9 = .ok (.i2l, 1) := by decide +kernel
theorem dX12_at_10 : decode cX12_at 10 = .ok (.invokestatic 105, 3) := by decide +kernel
theorem dX12_at_13 : decode cX12_at 13 = .ok (.ifCond .eq 12, 3) := by decide +kernel
theorem dX12_at_16 : decode cX12_at 16 = .ok (.aload_n 0, 1) := by decide +kernel
theorem dX12_at_17 : decode cX12_at 17 = .ok (.getfield 9, 3) := by decide +kernel
theorem dX12_at_20 : decode cX12_at 20 = .ok (.iload_n 1, 1) := by decide +kernel
theorem dX12_at_21 : decode cX12_at 21 = .ok (.iaload, 1) := by decide +kernel
theorem dX12_at_22 : decode cX12_at 22 = .ok (.goto 4, 3) := by decide +kernel
theorem dX12_at_25 : decode cX12_at 25 = .ok (.iconst (-1), 1) := by decide +kernel
theorem dX12_at_26 : decode cX12_at 26 = .ok (.ireturn, 1) := by decide +kernel
def F_X12_at_26 (t0 : Int32) (s0 : ae_S) : Option (Int32 × ae_S) := some (t0, s0)
set_option maxHeartbeats 4000000 in
set_option maxRecDepth 100000 in
theorem t_X12_at_26 {l : Launch} {G : ae_G} (d : Nat) {rr : Int32} {ss : ae_S} (t0 : Int32) (s0 : ae_S) (hF : F_X12_at_26 t0 s0 = some (rr, ss)) : ae_T l G (d + 1) mX12_at (ae_Po (some (ae_i rr)) ss) 26 [] [ae_i t0] s0 := by
  unfold F_X12_at_26 at hF
  obtain ⟨rfl, rfl⟩ := ae_retI hF
  exact ae_iret dX12_at_26 rfl rfl ⟨rfl, rfl⟩
def F_X12_at (v1 : Int32) (s0 : ae_S) : Option (Int32 × ae_S) := ae_bd (F_X12_isIn v1.toInt64 (0 : Int64) (((s0.1 30 0 0) - (1 : Int32)).toInt64) s0) (fun (r1 : Int32) s2 => if r1 = 0 then (F_X12_at_26 (-1 : Int32) s2) else (ae_gd (ae_ib v1 256) (F_X12_at_26 (s2.1 31 0 v1.toNatClampNeg) s2)))
set_option maxHeartbeats 4000000 in
set_option maxRecDepth 100000 in
theorem c_X12_at {l : Launch} {G : ae_G} (d : Nat) {v1 : Int32} {s0 ss : ae_S} {rr : Int32} (hF : F_X12_at v1 s0 = some (rr, ss)) : ae_Met l G (d + 1) yX12_at mX12_at [ae_r (some (30, 0)), ae_i v1] s0 (ae_Po (some (ae_i rr)) ss) := by
  refine ae_enter (by decide) rfl (Nat.le_of_ble_eq_true rfl) ?_
  show ae_T l G (d + 1) mX12_at (ae_Po (some (ae_i rr)) ss) 0 [(0, ae_r (some (30, 0))), (1, ae_i v1)] [] s0
  unfold F_X12_at at hF
  refine ae_iload_n 1 dX12_at_0 rfl ?_
  refine ae_i2l dX12_at_1 ?_
  refine ae_lconst (0 : Int64) dX12_at_2 (by decide) ?_
  refine ae_aload_n 0 dX12_at_3 rfl ?_
  refine ae_getI (q := (30, 0)) dX12_at_4 fl_RX12_100 rfl rfl ?_
  refine ae_iconst (1 : Int32) dX12_at_7 (by decide) ?_
  refine ae_isub dX12_at_8 ?_
  refine ae_i2l dX12_at_9 ?_
  obtain ⟨r1, s2, hc3, hF4⟩ := ae_bdI hF
  refine ae_cS1 (As := [ae_l v1.toInt64, ae_l (0 : Int64), ae_l (((s0.1 30 0 0) - (1 : Int32)).toInt64)]) dX12_at_10 ww_1461 vy_X12_isIn rfl rfl (Nat.le_of_ble_eq_true rfl) (c_X12_isIn d hc3) ?_
  refine ae_if_eq 25 dX12_at_13 rfl (fun hb5 => ?_) (fun hb5 => ?_)
  · have hF6 := ae_ifT hb5 hF4
    refine ae_iconst (-1 : Int32) dX12_at_25 (by decide) ?_
    refine ae_pick (lv' := []) [] rfl ?_
    exact t_X12_at_26 d (-1 : Int32) s2 hF6
  · have hF6 := ae_ifF hb5 hF4
    refine ae_aload_n 0 dX12_at_16 rfl ?_
    refine ae_getA (q := (30, 0)) (some (31, 0)) dX12_at_17 fl_RX12_9 rfl rfl rfl ?_
    refine ae_iload_n 1 dX12_at_20 rfl ?_
    obtain ⟨hg7, hF8⟩ := ae_gdI hF6
    refine ae_iald (q := (31, 0)) dX12_at_21 rfl rfl (ae_ibI hg7) ?_
    refine ae_goto 26 dX12_at_22 rfl ?_
    refine ae_pick (lv' := []) [] rfl ?_
    exact t_X12_at_26 d (s2.1 31 0 v1.toNatClampNeg) s2 hF8
abbrev mX12_poke : ae_M := (RX12, cX12_poke, 3, some .boolean)
theorem vy_X12_poke : ae_VY yX12_poke mX12_poke 2 := ⟨ww_1481, ww_1482, ww_13, ww_1483, ⟨by decide, by decide, by decide +kernel⟩, by decide⟩
theorem dX12_poke_0 : decode cX12_poke 0 = .ok (.iload_n 1, 1) := by decide +kernel
theorem dX12_poke_1 : decode cX12_poke 1 = .ok (.i2l, 1) := by decide +kernel
theorem dX12_poke_2 : decode cX12_poke 2 = .ok (.lconst 0, 1) := by decide +kernel
theorem dX12_poke_3 : decode cX12_poke 3 = .ok (.aload_n 0, 1) := by decide +kernel
theorem dX12_poke_4 : decode cX12_poke 4 = .ok (.getfield 100, 3) := by decide +kernel
theorem dX12_poke_7 : decode cX12_poke 7 = .ok (.iconst 1, 1) := by decide +kernel
theorem dX12_poke_8 : decode cX12_poke 8 = .ok (.isub, 1) := by decide +kernel
theorem dX12_poke_9 : decode cX12_poke 9 = .ok (.i2l, 1) := by decide +kernel
theorem dX12_poke_10 : decode cX12_poke 10 = .ok (.invokestatic 105, 3) := by decide +kernel
theorem dX12_poke_13 : decode cX12_poke 13 = .ok (.ifCond .ne 5, 3) := by decide +kernel
theorem dX12_poke_16 : decode cX12_poke 16 = .ok (.iconst 0, 1) := by decide +kernel
theorem dX12_poke_17 : decode cX12_poke 17 = .ok (.ireturn, 1) := by decide +kernel
theorem dX12_poke_18 : decode cX12_poke 18 = .ok (.aload_n 0, 1) := by decide +kernel
theorem dX12_poke_19 : decode cX12_poke 19 = .ok (.invokevirtual 115, 3) := by decide +kernel
theorem dX12_poke_22 : decode cX12_poke 22 = .ok (.aload_n 0, 1) := by decide +kernel
theorem dX12_poke_23 : decode cX12_poke 23 = .ok (.getfield 9, 3) := by decide +kernel
theorem dX12_poke_26 : decode cX12_poke 26 = .ok (.iload_n 1, 1) := by decide +kernel
theorem dX12_poke_27 : decode cX12_poke 27 = .ok (.iload_n 2, 1) := by decide +kernel
theorem dX12_poke_28 : decode cX12_poke 28 = .ok (.sipush 255, 3) := by decide +kernel
theorem dX12_poke_31 : decode cX12_poke 31 = .ok (.iand, 1) := by decide +kernel
theorem dX12_poke_32 : decode cX12_poke 32 = .ok (.iastore, 1) := by decide +kernel
theorem dX12_poke_33 : decode cX12_poke 33 = .ok (.aload_n 0, 1) := by decide +kernel
theorem dX12_poke_34 : decode cX12_poke 34 = .ok (.iconst 1, 1) := by decide +kernel
theorem dX12_poke_35 : decode cX12_poke 35 = .ok (.invokevirtual 118, 3) := by decide +kernel
theorem dX12_poke_38 : decode cX12_poke 38 = .ok (.iconst 1, 1) := by decide +kernel
theorem dX12_poke_39 : decode cX12_poke 39 = .ok (.ireturn, 1) := by decide +kernel
def F_X12_poke (v1 : Int32) (v2 : Int32) (s0 : ae_S) : Option (Int32 × ae_S) := ae_bd (F_X12_isIn v1.toInt64 (0 : Int64) (((s0.1 30 0 0) - (1 : Int32)).toInt64) s0) (fun (r1 : Int32) s2 => if r1 = 0 then (some ((0 : Int32), s2)) else (ae_bd (F_X12_begins s2) (fun (r7 : Unit) s8 => ae_gd (ae_ib v1 256) (ae_lt (ae_wI s8 31 0 v1.toNatClampNeg (v2 &&& (255 : Int32))) (fun s13 => ae_bd (F_X12_ends (1 : Int32) s13) (fun (r15 : Unit) s16 => some ((1 : Int32), s16)))))))
set_option maxHeartbeats 4000000 in
set_option maxRecDepth 100000 in
theorem c_X12_poke {l : Launch} {G : ae_G} (d : Nat) {v1 : Int32} {v2 : Int32} {s0 ss : ae_S} {rr : Int32} (hF : F_X12_poke v1 v2 s0 = some (rr, ss)) : ae_Met l G (d + 1) yX12_poke mX12_poke [ae_r (some (30, 0)), ae_i v1, ae_i v2] s0 (ae_Po (some (ae_i rr)) ss) := by
  refine ae_enter (by decide) rfl (Nat.le_of_ble_eq_true rfl) ?_
  show ae_T l G (d + 1) mX12_poke (ae_Po (some (ae_i rr)) ss) 0 [(0, ae_r (some (30, 0))), (1, ae_i v1), (2, ae_i v2)] [] s0
  unfold F_X12_poke at hF
  refine ae_iload_n 1 dX12_poke_0 rfl ?_
  refine ae_i2l dX12_poke_1 ?_
  refine ae_lconst (0 : Int64) dX12_poke_2 (by decide) ?_
  refine ae_aload_n 0 dX12_poke_3 rfl ?_
  refine ae_getI (q := (30, 0)) dX12_poke_4 fl_RX12_100 rfl rfl ?_
  refine ae_iconst (1 : Int32) dX12_poke_7 (by decide) ?_
  refine ae_isub dX12_poke_8 ?_
  refine ae_i2l dX12_poke_9 ?_
  obtain ⟨r1, s2, hc3, hF4⟩ := ae_bdI hF
  refine ae_cS1 (As := [ae_l v1.toInt64, ae_l (0 : Int64), ae_l (((s0.1 30 0 0) - (1 : Int32)).toInt64)]) dX12_poke_10 ww_1461 vy_X12_isIn rfl rfl (Nat.le_of_ble_eq_true rfl) (c_X12_isIn d hc3) ?_
  refine ae_if_ne 18 dX12_poke_13 rfl (fun hb5 => ?_) (fun hb5 => ?_)
  · have hF6 := ae_ifF hb5 hF4
    refine ae_aload_n 0 dX12_poke_18 rfl ?_
    obtain ⟨r7, s8, hc9, hF10⟩ := ae_bdI hF6
    refine ae_cV0 (q := (30, 0)) (As := []) dX12_poke_19 ww_1468 vy_X12_begins rfl rfl rfl rfl rfl (Nat.le_of_ble_eq_true rfl) (c_X12_begins d hc9) ?_
    refine ae_aload_n 0 dX12_poke_22 rfl ?_
    refine ae_getA (q := (30, 0)) (some (31, 0)) dX12_poke_23 fl_RX12_9 rfl rfl rfl ?_
    refine ae_iload_n 1 dX12_poke_26 rfl ?_
    refine ae_iload_n 2 dX12_poke_27 rfl ?_
    refine ae_sipush (255 : Int32) dX12_poke_28 (by decide) ?_
    refine ae_iand dX12_poke_31 ?_
    obtain ⟨hg11, hF12⟩ := ae_gdI hF10
    obtain ⟨s13, hs13, hF14⟩ := ae_ltI hF12
    refine ae_iast (q := (31, 0)) dX12_poke_32 rfl rfl (ae_ibI hg11) (ae_nmS hs13 ?_)
    refine ae_aload_n 0 dX12_poke_33 rfl ?_
    refine ae_iconst (1 : Int32) dX12_poke_34 (by decide) ?_
    obtain ⟨r15, s16, hc17, hF18⟩ := ae_bdI hF14
    refine ae_cV0 (q := (30, 0)) (As := [ae_i (1 : Int32)]) dX12_poke_35 ww_1472 vy_X12_ends rfl rfl rfl rfl rfl (Nat.le_of_ble_eq_true rfl) (c_X12_ends d hc17) ?_
    refine ae_iconst (1 : Int32) dX12_poke_38 (by decide) ?_
    obtain ⟨rfl, rfl⟩ := ae_retI hF18
    exact ae_iret dX12_poke_39 rfl (by decide) ⟨rfl, rfl⟩
  · have hF6 := ae_ifT hb5 hF4
    refine ae_iconst (0 : Int32) dX12_poke_16 (by decide) ?_
    obtain ⟨rfl, rfl⟩ := ae_retI hF6
    exact ae_iret dX12_poke_17 rfl (by decide) ⟨rfl, rfl⟩
abbrev mX12_changed : ae_M := (RX12, cX12_changed, 4, some .int)
theorem vy_X12_changed : ae_VY yX12_changed mX12_changed 1 := ⟨ww_1485, ww_1486, ww_13, ww_1487, ⟨by decide, by decide, by decide +kernel⟩, by decide⟩
theorem dX12_changed_0 : decode cX12_changed 0 = .ok (.iconst 0, 1) := by decide +kernel
theorem dX12_changed_1 : decode cX12_changed 1 = .ok (.istore_n 2, 1) := by decide +kernel
theorem dX12_changed_2 : decode cX12_changed 2 = .ok (.iconst 0, 1) := by decide +kernel
theorem dX12_changed_3 : decode cX12_changed 3 = .ok (.istore_n 3, 1) := by decide +kernel
theorem dX12_changed_4 : decode cX12_changed 4 = .ok (.iload_n 3, 1) := by decide +kernel
theorem dX12_changed_5 : decode cX12_changed 5 = .ok (.aload_n 0, 1) := by decide +kernel
theorem dX12_changed_6 : decode cX12_changed 6 = .ok (.getfield 100, 3) := by decide +kernel
theorem dX12_changed_9 : decode cX12_changed 9 = .ok (.if_icmp .ge 31, 3) := by decide +kernel
theorem dX12_changed_12 : decode cX12_changed 12 = .ok (.aload_n 0, 1) := by decide +kernel
theorem dX12_changed_13 : decode cX12_changed 13 = .ok (.getfield 18, 3) := by decide +kernel
theorem dX12_changed_16 : decode cX12_changed 16 = .ok (.iload_n 3, 1) := by decide +kernel
theorem dX12_changed_17 : decode cX12_changed 17 = .ok (.baload, 1) := by decide +kernel
theorem dX12_changed_18 : decode cX12_changed 18 = .ok (.ifCond .ne 6, 3) := by decide +kernel
theorem dX12_changed_21 : decode cX12_changed 21 = .ok (.goto 13, 3) := by decide +kernel
theorem dX12_changed_24 : decode cX12_changed 24 = .ok (.iload_n 2, 1) := by decide +kernel
theorem dX12_changed_25 : decode cX12_changed 25 = .ok (.iload_n 1, 1) := by decide +kernel
theorem dX12_changed_26 : decode cX12_changed 26 = .ok (.if_icmp .ne 5, 3) := by decide +kernel
theorem dX12_changed_29 : decode cX12_changed 29 = .ok (.iload_n 3, 1) := by decide +kernel
theorem dX12_changed_30 : decode cX12_changed 30 = .ok (.ireturn, 1) := by decide +kernel
theorem dX12_changed_31 : decode cX12_changed 31 = .ok (.iinc 2 1, 3) := by decide +kernel
theorem dX12_changed_34 : decode cX12_changed 34 = .ok (.iinc 3 1, 3) := by decide +kernel
theorem dX12_changed_37 : decode cX12_changed 37 = .ok (.goto (-33), 3) := by decide +kernel
theorem dX12_changed_40 : decode cX12_changed 40 = .ok (.iload_n 1, 1) := by decide +kernel
theorem dX12_changed_41 : decode cX12_changed 41 = .ok (.iconst (-1), 1) := by decide +kernel
theorem dX12_changed_42 : decode cX12_changed 42 = .ok (.if_icmp .ne 7, 3) := by decide +kernel
theorem dX12_changed_45 : decode cX12_changed 45 = .ok (.iload_n 2, 1) := by decide +kernel
theorem dX12_changed_46 : decode cX12_changed 46 = .ok (.goto 4, 3) := by decide +kernel
theorem dX12_changed_49 : decode cX12_changed 49 = .ok (.iconst (-1), 1) := by decide +kernel
theorem dX12_changed_50 : decode cX12_changed 50 = .ok (.ireturn, 1) := by decide +kernel
def F_X12_changed_50 (t0 : Int32) (s0 : ae_S) : Option (Int32 × ae_S) := some (t0, s0)
set_option maxHeartbeats 4000000 in
set_option maxRecDepth 100000 in
theorem t_X12_changed_50 {l : Launch} {G : ae_G} (d : Nat) {rr : Int32} {ss : ae_S} (t0 : Int32) (s0 : ae_S) (hF : F_X12_changed_50 t0 s0 = some (rr, ss)) : ae_T l G d mX12_changed (ae_Po (some (ae_i rr)) ss) 50 [] [ae_i t0] s0 := by
  unfold F_X12_changed_50 at hF
  obtain ⟨rfl, rfl⟩ := ae_retI hF
  exact ae_iret dX12_changed_50 rfl rfl ⟨rfl, rfl⟩
def F_X12_changed_34 (k4 : Int32 → Int32 → Int32 → ae_S → Option (Int32 × ae_S)) (v1 : Int32) (v2 : Int32) (v3 : Int32) (s0 : ae_S) : Option (Int32 × ae_S) := ae_lt (v3 + (1 : Int32)) (fun x1 => k4 v1 v2 x1 s0)
set_option maxHeartbeats 4000000 in
set_option maxRecDepth 100000 in
theorem t_X12_changed_34 {l : Launch} {G : ae_G} (d : Nat) (k4 : Int32 → Int32 → Int32 → ae_S → Option (Int32 × ae_S)) {rr : Int32} {ss : ae_S} (hk4 : ∀ (v1 : Int32) (v2 : Int32) (v3 : Int32) (s0 : ae_S), k4 v1 v2 v3 s0 = some (rr, ss) → ae_T l G d mX12_changed (ae_Po (some (ae_i rr)) ss) 4 [(0, ae_r (some (30, 0))), (1, ae_i v1), (2, ae_i v2), (3, ae_i v3)] [] s0) (v1 : Int32) (v2 : Int32) (v3 : Int32) (s0 : ae_S) (hF : F_X12_changed_34 k4 v1 v2 v3 s0 = some (rr, ss)) : ae_T l G d mX12_changed (ae_Po (some (ae_i rr)) ss) 34 [(0, ae_r (some (30, 0))), (1, ae_i v1), (2, ae_i v2), (3, ae_i v3)] [] s0 := by
  unfold F_X12_changed_34 at hF
  obtain ⟨x1, hx1, hF2⟩ := ae_ltI hF
  refine ae_iinc (lv' := [(3, ae_i x1), (0, ae_r (some (30, 0))), (1, ae_i v1), (2, ae_i v2)]) 3 (1 : Int32) dX12_changed_34 rfl (by decide) (by decide) (by rw [hx1]; rfl) ?_
  refine ae_goto 4 dX12_changed_37 rfl ?_
  refine ae_pick (lv' := [(0, ae_r (some (30, 0))), (1, ae_i v1), (2, ae_i v2), (3, ae_i x1)]) [1, 2, 3, 0] rfl ?_
  exact hk4 v1 v2 x1 s0 hF2
def F_X12_changed_4 : Nat → Int32 → Int32 → Int32 → ae_S → Option (Int32 × ae_S)
  | 0, _, _, _, _ => none
  | n + 1, v1, v2, v3, s0 => if (s0.1 30 0 0) ≤ v3 then (if v1 = (-1 : Int32) then (F_X12_changed_50 v2 s0) else (F_X12_changed_50 (-1 : Int32) s0)) else (ae_gd (ae_ib v3 256) (if (s0.1 33 0 v3.toNatClampNeg) = 0 then (F_X12_changed_34 (F_X12_changed_4 n) v1 v2 v3 s0) else (if v2 = v1 then (some (v3, s0)) else (ae_lt (v2 + (1 : Int32)) (fun x13 => F_X12_changed_34 (F_X12_changed_4 n) v1 x13 v3 s0)))))
set_option maxHeartbeats 4000000 in
set_option maxRecDepth 100000 in
theorem t_X12_changed_4 {l : Launch} {G : ae_G} (d : Nat) {rr : Int32} {ss : ae_S} : ∀ (n : Nat) (v1 : Int32) (v2 : Int32) (v3 : Int32) (s0 : ae_S), F_X12_changed_4 n v1 v2 v3 s0 = some (rr, ss) → ae_T l G d mX12_changed (ae_Po (some (ae_i rr)) ss) 4 [(0, ae_r (some (30, 0))), (1, ae_i v1), (2, ae_i v2), (3, ae_i v3)] [] s0 := by
  intro n
  induction n with
  | zero =>
    intro v1 v2 v3 s0 hF
    exact absurd (show (none : Option (Int32 × ae_S)) = some (rr, ss) from hF) (by simp)
  | succ n ih =>
    intro v1 v2 v3 s0 hF
    unfold F_X12_changed_4 at hF
    refine ae_iload_n 3 dX12_changed_4 rfl ?_
    refine ae_aload_n 0 dX12_changed_5 rfl ?_
    refine ae_getI (q := (30, 0)) dX12_changed_6 fl_RX12_100 rfl rfl ?_
    refine ae_icmp_ge 40 dX12_changed_9 rfl (fun hb3 => ?_) (fun hb3 => ?_)
    · have hF4 := ae_ifT hb3 hF
      refine ae_iload_n 1 dX12_changed_40 rfl ?_
      refine ae_iconst (-1 : Int32) dX12_changed_41 (by decide) ?_
      refine ae_icmp_ne 49 dX12_changed_42 rfl (fun hb5 => ?_) (fun hb5 => ?_)
      · have hF6 := ae_ifF hb5 hF4
        refine ae_iconst (-1 : Int32) dX12_changed_49 (by decide) ?_
        refine ae_pick (lv' := []) [] rfl ?_
        exact t_X12_changed_50 d (-1 : Int32) s0 hF6
      · have hF6 := ae_ifT hb5 hF4
        refine ae_iload_n 2 dX12_changed_45 rfl ?_
        refine ae_goto 50 dX12_changed_46 rfl ?_
        refine ae_pick (lv' := []) [] rfl ?_
        exact t_X12_changed_50 d v2 s0 hF6
    · have hF4 := ae_ifF hb3 hF
      refine ae_aload_n 0 dX12_changed_12 rfl ?_
      refine ae_getA (q := (30, 0)) (some (33, 0)) dX12_changed_13 fl_RX12_18 rfl rfl rfl ?_
      refine ae_iload_n 3 dX12_changed_16 rfl ?_
      obtain ⟨hg7, hF8⟩ := ae_gdI hF4
      refine ae_zald (q := (33, 0)) dX12_changed_17 rfl rfl (ae_ibI hg7) ?_
      refine ae_if_ne 24 dX12_changed_18 rfl (fun hb9 => ?_) (fun hb9 => ?_)
      · have hF10 := ae_ifF hb9 hF8
        refine ae_iload_n 2 dX12_changed_24 rfl ?_
        refine ae_iload_n 1 dX12_changed_25 rfl ?_
        refine ae_icmp_ne 31 dX12_changed_26 rfl (fun hb11 => ?_) (fun hb11 => ?_)
        · have hF12 := ae_ifF hb11 hF10
          obtain ⟨x13, hx13, hF14⟩ := ae_ltI hF12
          refine ae_iinc (lv' := [(2, ae_i x13), (0, ae_r (some (30, 0))), (1, ae_i v1), (3, ae_i v3)]) 2 (1 : Int32) dX12_changed_31 rfl (by decide) (by decide) (by rw [hx13]; rfl) ?_
          refine ae_pick (lv' := [(0, ae_r (some (30, 0))), (1, ae_i v1), (2, ae_i x13), (3, ae_i v3)]) [1, 2, 0, 3] rfl ?_
          exact t_X12_changed_34 d (F_X12_changed_4 n) ih v1 x13 v3 s0 hF14
        · have hF12 := ae_ifT hb11 hF10
          refine ae_iload_n 3 dX12_changed_29 rfl ?_
          obtain ⟨rfl, rfl⟩ := ae_retI hF12
          exact ae_iret dX12_changed_30 rfl rfl ⟨rfl, rfl⟩
      · have hF10 := ae_ifT hb9 hF8
        refine ae_goto 34 dX12_changed_21 rfl ?_
        refine ae_pick (lv' := [(0, ae_r (some (30, 0))), (1, ae_i v1), (2, ae_i v2), (3, ae_i v3)]) [0, 1, 2, 3] rfl ?_
        exact t_X12_changed_34 d (F_X12_changed_4 n) ih v1 v2 v3 s0 hF10
def F_X12_changed (v1 : Int32) (s0 : ae_S) : Option (Int32 × ae_S) := F_X12_changed_4 ae_fu v1 (0 : Int32) (0 : Int32) s0
set_option maxHeartbeats 4000000 in
set_option maxRecDepth 100000 in
theorem c_X12_changed {l : Launch} {G : ae_G} (d : Nat) {v1 : Int32} {s0 ss : ae_S} {rr : Int32} (hF : F_X12_changed v1 s0 = some (rr, ss)) : ae_Met l G d yX12_changed mX12_changed [ae_r (some (30, 0)), ae_i v1] s0 (ae_Po (some (ae_i rr)) ss) := by
  refine ae_enter (by decide) rfl (Nat.le_of_ble_eq_true rfl) ?_
  show ae_T l G d mX12_changed (ae_Po (some (ae_i rr)) ss) 0 [(0, ae_r (some (30, 0))), (1, ae_i v1)] [] s0
  unfold F_X12_changed at hF
  refine ae_iconst (0 : Int32) dX12_changed_0 (by decide) ?_
  refine ae_istore_n (lv' := [(2, ae_i (0 : Int32)), (0, ae_r (some (30, 0))), (1, ae_i v1)]) dX12_changed_1 (by decide) rfl ?_
  refine ae_iconst (0 : Int32) dX12_changed_2 (by decide) ?_
  refine ae_istore_n (lv' := [(3, ae_i (0 : Int32)), (2, ae_i (0 : Int32)), (0, ae_r (some (30, 0))), (1, ae_i v1)]) dX12_changed_3 (by decide) rfl ?_
  refine ae_pick (lv' := [(0, ae_r (some (30, 0))), (1, ae_i v1), (2, ae_i (0 : Int32)), (3, ae_i (0 : Int32))]) [2, 3, 1, 0] rfl ?_
  exact t_X12_changed_4 d ae_fu v1 (0 : Int32) (0 : Int32) s0 hF
abbrev mX12_four : ae_M := (RX12, cX12_four, 3, none)
theorem vy_X12_four : ae_VY yX12_four mX12_four 1 := ⟨ww_1494, wq_54, ww_13, ww_1495, ⟨by decide, by decide, by decide +kernel⟩, by decide⟩
theorem dX12_four_0 : decode cX12_four 0 = .ok (.bipush 24, 2) := by decide +kernel
theorem dX12_four_2 : decode cX12_four 2 = .ok (.istore_n 2, 1) := by decide +kernel
theorem dX12_four_3 : decode cX12_four 3 = .ok (.iload_n 2, 1) := by decide +kernel
theorem dX12_four_4 : decode cX12_four 4 = .ok (.ifCond .lt 35, 3) := by decide +kernel
theorem dX12_four_7 : decode cX12_four 7 = .ok (.aload_n 0, 1) := by decide +kernel
theorem dX12_four_8 : decode cX12_four 8 = .ok (.getfield 59, 3) := by decide +kernel
theorem dX12_four_11 : decode cX12_four 11 = .ok (.aload_n 0, 1) := by decide +kernel
theorem dX12_four_12 : decode cX12_four 12 = .ok (.getfield 126, 3) := by decide +kernel
theorem dX12_four_15 : decode cX12_four 15 = .ok (.iload_n 1, 1) := by decide +kernel
theorem dX12_four_16 : decode cX12_four 16 = .ok (.iload_n 2, 1) := by decide +kernel
theorem dX12_four_17 : decode cX12_four 17 = .ok (.ishr, 1) := by decide +kernel
theorem dX12_four_18 : decode cX12_four 18 = .ok (.sipush 255, 3) := by decide +kernel
theorem dX12_four_21 : decode cX12_four 21 = .ok (.iand, 1) := by decide +kernel
theorem dX12_four_22 : decode cX12_four 22 = .ok (.iastore, 1) := by decide +kernel
theorem dX12_four_23 : decode cX12_four 23 = .ok (.aload_n 0, 1) := by decide +kernel
theorem dX12_four_24 : decode cX12_four 24 = .ok (.dup, 1) := by decide +kernel
theorem dX12_four_25 : decode cX12_four 25 = .ok (.getfield 126, 3) := by decide +kernel
theorem dX12_four_28 : decode cX12_four 28 = .ok (.iconst 1, 1) := by decide +kernel
theorem dX12_four_29 : decode cX12_four 29 = .ok (.iadd, 1) := by decide +kernel
theorem dX12_four_30 : decode cX12_four 30 = .ok (.putfield 126, 3) := by decide +kernel
theorem dX12_four_33 : decode cX12_four 33 = .ok (.iinc 2 (-8), 3) := by decide +kernel
theorem dX12_four_36 : decode cX12_four 36 = .ok (.goto (-33), 3) := by decide +kernel
theorem dX12_four_39 : decode cX12_four 39 = .ok (.return_, 1) := by decide +kernel
def F_X12_four_3 : Nat → Int32 → Int32 → ae_S → Option (Unit × ae_S)
  | 0, _, _, _ => none
  | n + 1, v1, v2, s0 => if v2 < 0 then (some ((), s0)) else (ae_gd (ae_ib (s0.1 30 0 20) 500) (ae_lt (ae_wI s0 46 0 (s0.1 30 0 20).toNatClampNeg ((v1 >>> (v2 &&& 31)) &&& (255 : Int32))) (fun s5 => ae_lt (ae_wI s5 30 0 20 ((s5.1 30 0 20) + (1 : Int32))) (fun s7 => ae_lt (v2 + (-8 : Int32)) (fun x9 => F_X12_four_3 n v1 x9 s7)))))
set_option maxHeartbeats 4000000 in
set_option maxRecDepth 100000 in
theorem t_X12_four_3 {l : Launch} {G : ae_G} (d : Nat) {rr : Unit} {ss : ae_S} : ∀ (n : Nat) (v1 : Int32) (v2 : Int32) (s0 : ae_S), F_X12_four_3 n v1 v2 s0 = some (rr, ss) → ae_T l G d mX12_four (ae_Po none ss) 3 [(0, ae_r (some (30, 0))), (1, ae_i v1), (2, ae_i v2)] [] s0 := by
  intro n
  induction n with
  | zero =>
    intro v1 v2 s0 hF
    exact absurd (show (none : Option (Unit × ae_S)) = some (rr, ss) from hF) (by simp)
  | succ n ih =>
    intro v1 v2 s0 hF
    unfold F_X12_four_3 at hF
    refine ae_iload_n 2 dX12_four_3 rfl ?_
    refine ae_if_lt 39 dX12_four_4 rfl (fun hb1 => ?_) (fun hb1 => ?_)
    · have hF2 := ae_ifT hb1 hF
      obtain ⟨rfl, rfl⟩ := ae_retI hF2
      exact ae_vret dX12_four_39 rfl ⟨rfl, rfl⟩
    · have hF2 := ae_ifF hb1 hF
      refine ae_aload_n 0 dX12_four_7 rfl ?_
      refine ae_getA (q := (30, 0)) (some (46, 0)) dX12_four_8 fl_RX12_59 rfl rfl rfl ?_
      refine ae_aload_n 0 dX12_four_11 rfl ?_
      refine ae_getI (q := (30, 0)) dX12_four_12 fl_RX12_126 rfl rfl ?_
      refine ae_iload_n 1 dX12_four_15 rfl ?_
      refine ae_iload_n 2 dX12_four_16 rfl ?_
      refine ae_ishr dX12_four_17 ?_
      refine ae_sipush (255 : Int32) dX12_four_18 (by decide) ?_
      refine ae_iand dX12_four_21 ?_
      obtain ⟨hg3, hF4⟩ := ae_gdI hF2
      obtain ⟨s5, hs5, hF6⟩ := ae_ltI hF4
      refine ae_iast (q := (46, 0)) dX12_four_22 rfl rfl (ae_ibI hg3) (ae_nmS hs5 ?_)
      refine ae_aload_n 0 dX12_four_23 rfl ?_
      refine ae_dup dX12_four_24 rfl ?_
      refine ae_getI (q := (30, 0)) dX12_four_25 fl_RX12_126 rfl rfl ?_
      refine ae_iconst (1 : Int32) dX12_four_28 (by decide) ?_
      refine ae_iadd dX12_four_29 ?_
      obtain ⟨s7, hs7, hF8⟩ := ae_ltI hF6
      refine ae_putI (q := (30, 0)) dX12_four_30 fl_RX12_126 rfl rfl (ae_nmS hs7 ?_)
      obtain ⟨x9, hx9, hF10⟩ := ae_ltI hF8
      refine ae_iinc (lv' := [(2, ae_i x9), (0, ae_r (some (30, 0))), (1, ae_i v1)]) 2 (-8 : Int32) dX12_four_33 rfl (by decide) (by decide) (by rw [hx9]; rfl) ?_
      refine ae_goto 3 dX12_four_36 rfl ?_
      refine ae_pick (lv' := [(0, ae_r (some (30, 0))), (1, ae_i v1), (2, ae_i x9)]) [1, 2, 0] rfl ?_
      exact ih v1 x9 s7 hF10
def F_X12_four (v1 : Int32) (s0 : ae_S) : Option (Unit × ae_S) := F_X12_four_3 ae_fu v1 (24 : Int32) s0
set_option maxHeartbeats 4000000 in
set_option maxRecDepth 100000 in
theorem c_X12_four {l : Launch} {G : ae_G} (d : Nat) {v1 : Int32} {s0 ss : ae_S} {rr : Unit} (hF : F_X12_four v1 s0 = some (rr, ss)) : ae_Met l G d yX12_four mX12_four [ae_r (some (30, 0)), ae_i v1] s0 (ae_Po none ss) := by
  refine ae_enter (by decide) rfl (Nat.le_of_ble_eq_true rfl) ?_
  show ae_T l G d mX12_four (ae_Po none ss) 0 [(0, ae_r (some (30, 0))), (1, ae_i v1)] [] s0
  unfold F_X12_four at hF
  refine ae_bipush (24 : Int32) dX12_four_0 (by decide) ?_
  refine ae_istore_n (lv' := [(2, ae_i (24 : Int32)), (0, ae_r (some (30, 0))), (1, ae_i v1)]) dX12_four_2 (by decide) rfl ?_
  refine ae_pick (lv' := [(0, ae_r (some (30, 0))), (1, ae_i v1), (2, ae_i (24 : Int32))]) [1, 2, 0] rfl ?_
  exact t_X12_four_3 d ae_fu v1 (24 : Int32) s0 hF
abbrev mX12_feed : ae_M := (RX12, cX12_feed, 6, some .int)
theorem vy_X12_feed : ae_VY yX12_feed mX12_feed 5 := ⟨ww_1489, ww_1490, ww_13, ww_1491, ⟨by decide, by decide, by decide +kernel⟩, by decide⟩
theorem dX12_feed_0 : decode cX12_feed 0 = .ok (.aload_n 0, 1) := by decide +kernel
theorem dX12_feed_1 : decode cX12_feed 1 = .ok (.getfield 126, 3) := by decide +kernel
theorem dX12_feed_4 : decode cX12_feed 4 = .ok (.bipush 20, 2) := by decide +kernel
theorem dX12_feed_6 : decode cX12_feed 6 = .ok (.iadd, 1) := by decide +kernel
theorem dX12_feed_7 : decode cX12_feed 7 = .ok (.sipush 500, 3) := by decide +kernel
theorem dX12_feed_10 : decode cX12_feed 10 = .ok (.if_icmp .le 5, 3) := by decide +kernel
theorem dX12_feed_13 : decode cX12_feed 13 = .ok (.iconst (-1), 1) := by decide +kernel
theorem dX12_feed_14 : decode cX12_feed 14 = .ok (.ireturn, 1) := by decide +kernel
theorem dX12_feed_15 : decode cX12_feed 15 = .ok (.aload_n 0, 1) := by decide +kernel
theorem dX12_feed_16 : decode cX12_feed 16 = .ok (.iload_n 1, 1) := by decide +kernel
theorem dX12_feed_17 : decode cX12_feed 17 = .ok (.invokevirtual 129, 3) := by decide +kernel
theorem dX12_feed_20 : decode cX12_feed 20 = .ok (.aload_n 0, 1) := by decide +kernel
theorem dX12_feed_21 : decode cX12_feed 21 = .ok (.iload_n 2, 1) := by decide +kernel
theorem dX12_feed_22 : decode cX12_feed 22 = .ok (.invokevirtual 129, 3) := by decide +kernel
theorem dX12_feed_25 : decode cX12_feed 25 = .ok (.aload_n 0, 1) := by decide +kernel
theorem dX12_feed_26 : decode cX12_feed 26 = .ok (.iload_n 3, 1) := by decide +kernel
theorem dX12_feed_27 : decode cX12_feed 27 = .ok (.invokevirtual 129, 3) := by decide +kernel
theorem dX12_feed_30 : decode cX12_feed 30 = .ok (.aload_n 0, 1) := by decide +kernel
theorem dX12_feed_31 : decode cX12_feed 31 = .ok (.iload 4, 2) := by decide +kernel
theorem dX12_feed_33 : decode cX12_feed 33 = .ok (.invokevirtual 129, 3) := by decide +kernel
theorem dX12_feed_36 : decode cX12_feed 36 = .ok (.aload_n 0, 1) := by decide +kernel
theorem dX12_feed_37 : decode cX12_feed 37 = .ok (.iload 5, 2) := by decide +kernel
theorem dX12_feed_39 : decode cX12_feed 39 = .ok (.invokevirtual 129, 3) := by decide +kernel
theorem dX12_feed_42 : decode cX12_feed 42 = .ok (.aload_n 0, 1) := by decide +kernel
theorem dX12_feed_43 : decode cX12_feed 43 = .ok (.getfield 126, 3) := by decide +kernel
theorem dX12_feed_46 : decode cX12_feed 46 = .ok (.ireturn, 1) := by decide +kernel
def F_X12_feed (v1 : Int32) (v2 : Int32) (v3 : Int32) (v4 : Int32) (v5 : Int32) (s0 : ae_S) : Option (Int32 × ae_S) := if ((s0.1 30 0 20) + (20 : Int32)) ≤ (500 : Int32) then (ae_bd (F_X12_four v1 s0) (fun (r3 : Unit) s4 => ae_bd (F_X12_four v2 s4) (fun (r7 : Unit) s8 => ae_bd (F_X12_four v3 s8) (fun (r11 : Unit) s12 => ae_bd (F_X12_four v4 s12) (fun (r15 : Unit) s16 => ae_bd (F_X12_four v5 s16) (fun (r19 : Unit) s20 => some (s20.1 30 0 20, s20))))))) else (some ((-1 : Int32), s0))
set_option maxHeartbeats 4000000 in
set_option maxRecDepth 100000 in
theorem c_X12_feed {l : Launch} {G : ae_G} (d : Nat) {v1 : Int32} {v2 : Int32} {v3 : Int32} {v4 : Int32} {v5 : Int32} {s0 ss : ae_S} {rr : Int32} (hF : F_X12_feed v1 v2 v3 v4 v5 s0 = some (rr, ss)) : ae_Met l G (d + 1) yX12_feed mX12_feed [ae_r (some (30, 0)), ae_i v1, ae_i v2, ae_i v3, ae_i v4, ae_i v5] s0 (ae_Po (some (ae_i rr)) ss) := by
  refine ae_enter (by decide) rfl (Nat.le_of_ble_eq_true rfl) ?_
  show ae_T l G (d + 1) mX12_feed (ae_Po (some (ae_i rr)) ss) 0 [(0, ae_r (some (30, 0))), (1, ae_i v1), (2, ae_i v2), (3, ae_i v3), (4, ae_i v4), (5, ae_i v5)] [] s0
  unfold F_X12_feed at hF
  refine ae_aload_n 0 dX12_feed_0 rfl ?_
  refine ae_getI (q := (30, 0)) dX12_feed_1 fl_RX12_126 rfl rfl ?_
  refine ae_bipush (20 : Int32) dX12_feed_4 (by decide) ?_
  refine ae_iadd dX12_feed_6 ?_
  refine ae_sipush (500 : Int32) dX12_feed_7 (by decide) ?_
  refine ae_icmp_le 15 dX12_feed_10 rfl (fun hb1 => ?_) (fun hb1 => ?_)
  · have hF2 := ae_ifT hb1 hF
    refine ae_aload_n 0 dX12_feed_15 rfl ?_
    refine ae_iload_n 1 dX12_feed_16 rfl ?_
    obtain ⟨r3, s4, hc5, hF6⟩ := ae_bdI hF2
    refine ae_cV0 (q := (30, 0)) (As := [ae_i v1]) dX12_feed_17 ww_1492 vy_X12_four rfl rfl rfl rfl rfl (Nat.le_of_ble_eq_true rfl) (c_X12_four d hc5) ?_
    refine ae_aload_n 0 dX12_feed_20 rfl ?_
    refine ae_iload_n 2 dX12_feed_21 rfl ?_
    obtain ⟨r7, s8, hc9, hF10⟩ := ae_bdI hF6
    refine ae_cV0 (q := (30, 0)) (As := [ae_i v2]) dX12_feed_22 ww_1492 vy_X12_four rfl rfl rfl rfl rfl (Nat.le_of_ble_eq_true rfl) (c_X12_four d hc9) ?_
    refine ae_aload_n 0 dX12_feed_25 rfl ?_
    refine ae_iload_n 3 dX12_feed_26 rfl ?_
    obtain ⟨r11, s12, hc13, hF14⟩ := ae_bdI hF10
    refine ae_cV0 (q := (30, 0)) (As := [ae_i v3]) dX12_feed_27 ww_1492 vy_X12_four rfl rfl rfl rfl rfl (Nat.le_of_ble_eq_true rfl) (c_X12_four d hc13) ?_
    refine ae_aload_n 0 dX12_feed_30 rfl ?_
    refine ae_iload 4 dX12_feed_31 rfl ?_
    obtain ⟨r15, s16, hc17, hF18⟩ := ae_bdI hF14
    refine ae_cV0 (q := (30, 0)) (As := [ae_i v4]) dX12_feed_33 ww_1492 vy_X12_four rfl rfl rfl rfl rfl (Nat.le_of_ble_eq_true rfl) (c_X12_four d hc17) ?_
    refine ae_aload_n 0 dX12_feed_36 rfl ?_
    refine ae_iload 5 dX12_feed_37 rfl ?_
    obtain ⟨r19, s20, hc21, hF22⟩ := ae_bdI hF18
    refine ae_cV0 (q := (30, 0)) (As := [ae_i v5]) dX12_feed_39 ww_1492 vy_X12_four rfl rfl rfl rfl rfl (Nat.le_of_ble_eq_true rfl) (c_X12_four d hc21) ?_
    refine ae_aload_n 0 dX12_feed_42 rfl ?_
    refine ae_getI (q := (30, 0)) dX12_feed_43 fl_RX12_126 rfl rfl ?_
    obtain ⟨rfl, rfl⟩ := ae_retI hF22
    exact ae_iret dX12_feed_46 rfl rfl ⟨rfl, rfl⟩
  · have hF2 := ae_ifF hb1 hF
    refine ae_iconst (-1 : Int32) dX12_feed_13 (by decide) ?_
    obtain ⟨rfl, rfl⟩ := ae_retI hF2
    exact ae_iret dX12_feed_14 rfl rfl ⟨rfl, rfl⟩
abbrev mX12_end : ae_M := (RX12, cX12_end, 2, some .boolean)
theorem vy_X12_end : ae_VY yX12_end mX12_end 1 := ⟨ww_1497, ww_1498, ww_13, ww_1499, ⟨by decide, by decide, by decide +kernel⟩, by decide⟩
theorem dX12_end_0 : decode cX12_end 0 = .ok (.iload_n 1, 1) := by decide +kernel
theorem dX12_end_1 : decode cX12_end 1 = .ok (.i2l, 1) := by decide +kernel
theorem dX12_end_2 : decode cX12_end 2 = .ok (.lconst 0, 1) := by decide +kernel
theorem dX12_end_3 : decode cX12_end 3 = .ok (.aload_n 0, 1) := by decide +kernel
theorem dX12_end_4 : decode cX12_end 4 = .ok (.getfield 126, 3) := by decide +kernel
theorem dX12_end_7 : decode cX12_end 7 = .ok (.i2l, 1) := by decide +kernel
theorem dX12_end_8 : decode cX12_end 8 = .ok (.invokestatic 105, 3) := by decide +kernel
theorem dX12_end_11 : decode cX12_end 11 = .ok (.ifCond .ne 5, 3) := by decide +kernel
theorem dX12_end_14 : decode cX12_end 14 = .ok (.iconst 0, 1) := by decide +kernel
theorem dX12_end_15 : decode cX12_end 15 = .ok (.ireturn, 1) := by decide +kernel
theorem dX12_end_16 : decode cX12_end 16 = .ok (.aload_n 0, 1) := by decide +kernel
theorem dX12_end_17 : decode cX12_end 17 = .ok (.iload_n 1, 1) := by decide +kernel
theorem dX12_end_18 : decode cX12_end 18 = .ok (.putfield 126, 3) := by decide +kernel
theorem dX12_end_21 : decode cX12_end 21 = .ok (.iconst 1, 1) := by decide +kernel
theorem dX12_end_22 : decode cX12_end 22 = .ok (.ireturn, 1) := by decide +kernel
def F_X12_end (v1 : Int32) (s0 : ae_S) : Option (Int32 × ae_S) := ae_bd (F_X12_isIn v1.toInt64 (0 : Int64) ((s0.1 30 0 20).toInt64) s0) (fun (r1 : Int32) s2 => if r1 = 0 then (some ((0 : Int32), s2)) else (ae_lt (ae_wI s2 30 0 20 v1) (fun s7 => some ((1 : Int32), s7))))
set_option maxHeartbeats 4000000 in
set_option maxRecDepth 100000 in
theorem c_X12_end {l : Launch} {G : ae_G} (d : Nat) {v1 : Int32} {s0 ss : ae_S} {rr : Int32} (hF : F_X12_end v1 s0 = some (rr, ss)) : ae_Met l G (d + 1) yX12_end mX12_end [ae_r (some (30, 0)), ae_i v1] s0 (ae_Po (some (ae_i rr)) ss) := by
  refine ae_enter (by decide) rfl (Nat.le_of_ble_eq_true rfl) ?_
  show ae_T l G (d + 1) mX12_end (ae_Po (some (ae_i rr)) ss) 0 [(0, ae_r (some (30, 0))), (1, ae_i v1)] [] s0
  unfold F_X12_end at hF
  refine ae_iload_n 1 dX12_end_0 rfl ?_
  refine ae_i2l dX12_end_1 ?_
  refine ae_lconst (0 : Int64) dX12_end_2 (by decide) ?_
  refine ae_aload_n 0 dX12_end_3 rfl ?_
  refine ae_getI (q := (30, 0)) dX12_end_4 fl_RX12_126 rfl rfl ?_
  refine ae_i2l dX12_end_7 ?_
  obtain ⟨r1, s2, hc3, hF4⟩ := ae_bdI hF
  refine ae_cS1 (As := [ae_l v1.toInt64, ae_l (0 : Int64), ae_l ((s0.1 30 0 20).toInt64)]) dX12_end_8 ww_1461 vy_X12_isIn rfl rfl (Nat.le_of_ble_eq_true rfl) (c_X12_isIn d hc3) ?_
  refine ae_if_ne 16 dX12_end_11 rfl (fun hb5 => ?_) (fun hb5 => ?_)
  · have hF6 := ae_ifF hb5 hF4
    refine ae_aload_n 0 dX12_end_16 rfl ?_
    refine ae_iload_n 1 dX12_end_17 rfl ?_
    obtain ⟨s7, hs7, hF8⟩ := ae_ltI hF6
    refine ae_putI (q := (30, 0)) dX12_end_18 fl_RX12_126 rfl rfl (ae_nmS hs7 ?_)
    refine ae_iconst (1 : Int32) dX12_end_21 (by decide) ?_
    obtain ⟨rfl, rfl⟩ := ae_retI hF8
    exact ae_iret dX12_end_22 rfl (by decide) ⟨rfl, rfl⟩
  · have hF6 := ae_ifT hb5 hF4
    refine ae_iconst (0 : Int32) dX12_end_14 (by decide) ?_
    obtain ⟨rfl, rfl⟩ := ae_retI hF6
    exact ae_iret dX12_end_15 rfl (by decide) ⟨rfl, rfl⟩
abbrev mX12_isRead : ae_M := (RX12, cX12_isRead, 1, some .boolean)
theorem vy_X12_isRead : ae_VY yX12_isRead mX12_isRead 0 := ⟨ww_1617, wq_73, ww_13, ww_1618, ⟨by decide, by decide, by decide +kernel⟩, by decide⟩
theorem dX12_isRead_0 : decode cX12_isRead 0 = .ok (.aload_n 0, 1) := by decide +kernel
theorem dX12_isRead_1 : decode cX12_isRead 1 = .ok (.iconst 0, 1) := by decide +kernel
theorem dX12_isRead_2 : decode cX12_isRead 2 = .ok (.putfield 126, 3) := by decide +kernel
theorem dX12_isRead_5 : decode cX12_isRead 5 = .ok (.aload_n 0, 1) := by decide +kernel
theorem dX12_isRead_6 : decode cX12_isRead 6 = .ok (.aload_n 0, 1) := by decide +kernel
theorem dX12_isRead_7 : decode cX12_isRead 7 = .ok (.getfield 169, 3) := by decide +kernel
theorem dX12_isRead_10 : decode cX12_isRead 10 = .ok (.putfield 286, 3) := by decide +kernel
theorem dX12_isRead_13 : decode cX12_isRead 13 = .ok (.aload_n 0, 1) := by decide +kernel
theorem dX12_isRead_14 : decode cX12_isRead 14 = .ok (.aload_n 0, 1) := by decide +kernel
theorem dX12_isRead_15 : decode cX12_isRead 15 = .ok (.getfield 172, 3) := by decide +kernel
theorem dX12_isRead_18 : decode cX12_isRead 18 = .ok (.putfield 62, 3) := by decide +kernel
theorem dX12_isRead_21 : decode cX12_isRead 21 = .ok (.aload_n 0, 1) := by decide +kernel
theorem dX12_isRead_22 : decode cX12_isRead 22 = .ok (.getfield 169, 3) := by decide +kernel
theorem dX12_isRead_25 : decode cX12_isRead 25 = .ok (.ifCond .ne 7, 3) := by decide +kernel
theorem dX12_isRead_28 : decode cX12_isRead 28 = .ok (.iconst 1, 1) := by decide +kernel
theorem dX12_isRead_29 : decode cX12_isRead 29 = .ok (.goto 4, 3) := by decide +kernel
theorem dX12_isRead_32 : decode cX12_isRead 32 = .ok (.iconst 0, 1) := by decide +kernel
theorem dX12_isRead_33 : decode cX12_isRead 33 = .ok (.ireturn, 1) := by decide +kernel
def F_X12_isRead_33 (t0 : Int32) (s0 : ae_S) : Option (Int32 × ae_S) := ae_gd (ae_zz t0) (some (t0, s0))
set_option maxHeartbeats 4000000 in
set_option maxRecDepth 100000 in
theorem t_X12_isRead_33 {l : Launch} {G : ae_G} (d : Nat) {rr : Int32} {ss : ae_S} (t0 : Int32) (s0 : ae_S) (hF : F_X12_isRead_33 t0 s0 = some (rr, ss)) : ae_T l G d mX12_isRead (ae_Po (some (ae_i rr)) ss) 33 [] [ae_i t0] s0 := by
  unfold F_X12_isRead_33 at hF
  obtain ⟨hg1, hF2⟩ := ae_gdI hF
  obtain ⟨rfl, rfl⟩ := ae_retI hF2
  exact ae_iret dX12_isRead_33 rfl (ae_zzN (ae_zzI hg1)) ⟨rfl, rfl⟩
def F_X12_isRead (s0 : ae_S) : Option (Int32 × ae_S) := ae_lt (ae_wI s0 30 0 20 (0 : Int32)) (fun s3 => ae_lt (ae_wI s3 30 0 21 (s3.1 30 0 23)) (fun s5 => ae_lt (ae_wI s5 30 0 22 (s5.1 30 0 24)) (fun s7 => if (s7.1 30 0 23) = 0 then (F_X12_isRead_33 (1 : Int32) s7) else (F_X12_isRead_33 (0 : Int32) s7))))
set_option maxHeartbeats 4000000 in
set_option maxRecDepth 100000 in
theorem c_X12_isRead {l : Launch} {G : ae_G} (d : Nat) {s0 ss : ae_S} {rr : Int32} (hF : F_X12_isRead s0 = some (rr, ss)) : ae_Met l G d yX12_isRead mX12_isRead [ae_r (some (30, 0))] s0 (ae_Po (some (ae_i rr)) ss) := by
  refine ae_enter (by decide) rfl (Nat.le_of_ble_eq_true rfl) ?_
  show ae_T l G d mX12_isRead (ae_Po (some (ae_i rr)) ss) 0 [(0, ae_r (some (30, 0)))] [] s0
  unfold F_X12_isRead at hF
  refine ae_aload_n 0 dX12_isRead_0 rfl ?_
  refine ae_iconst (0 : Int32) dX12_isRead_1 (by decide) ?_
  obtain ⟨s3, hs3, hF4⟩ := ae_ltI hF
  refine ae_putI (q := (30, 0)) dX12_isRead_2 fl_RX12_126 rfl rfl (ae_nmS hs3 ?_)
  refine ae_aload_n 0 dX12_isRead_5 rfl ?_
  refine ae_aload_n 0 dX12_isRead_6 rfl ?_
  refine ae_getI (q := (30, 0)) dX12_isRead_7 fl_RX12_169 rfl rfl ?_
  obtain ⟨s5, hs5, hF6⟩ := ae_ltI hF4
  refine ae_putI (q := (30, 0)) dX12_isRead_10 fl_RX12_286 rfl rfl (ae_nmS hs5 ?_)
  refine ae_aload_n 0 dX12_isRead_13 rfl ?_
  refine ae_aload_n 0 dX12_isRead_14 rfl ?_
  refine ae_getI (q := (30, 0)) dX12_isRead_15 fl_RX12_172 rfl rfl ?_
  obtain ⟨s7, hs7, hF8⟩ := ae_ltI hF6
  refine ae_putI (q := (30, 0)) dX12_isRead_18 fl_RX12_62 rfl rfl (ae_nmS hs7 ?_)
  refine ae_aload_n 0 dX12_isRead_21 rfl ?_
  refine ae_getI (q := (30, 0)) dX12_isRead_22 fl_RX12_169 rfl rfl ?_
  refine ae_if_ne 32 dX12_isRead_25 rfl (fun hb9 => ?_) (fun hb9 => ?_)
  · have hF10 := ae_ifF hb9 hF8
    refine ae_iconst (0 : Int32) dX12_isRead_32 (by decide) ?_
    refine ae_pick (lv' := []) [] rfl ?_
    exact t_X12_isRead_33 d (0 : Int32) s7 hF10
  · have hF10 := ae_ifT hb9 hF8
    refine ae_iconst (1 : Int32) dX12_isRead_28 (by decide) ?_
    refine ae_goto 33 dX12_isRead_29 rfl ?_
    refine ae_pick (lv' := []) [] rfl ?_
    exact t_X12_isRead_33 d (1 : Int32) s7 hF10
abbrev mX12_packed : ae_M := (RX12, cX12_packed, 4, some .long)
theorem vy_X12_packed : ae_SY yX12_packed mX12_packed 1 := ⟨ww_1542, ww_13, ww_1543, ⟨by decide, by decide, by decide +kernel⟩, by decide⟩
theorem dX12_packed_0 : decode cX12_packed 0 = .ok (.lconst 0, 1) := by decide +kernel
theorem dX12_packed_1 : decode cX12_packed 1 = .ok (.lstore_n 1, 1) := by decide +kernel
theorem dX12_packed_2 : decode cX12_packed 2 = .ok (.iconst 0, 1) := by decide +kernel
theorem dX12_packed_3 : decode cX12_packed 3 = .ok (.istore_n 3, 1) := by decide +kernel
theorem dX12_packed_4 : decode cX12_packed 4 = .ok (.iload_n 3, 1) := by decide +kernel
theorem dX12_packed_5 : decode cX12_packed 5 = .ok (.aload_n 0, 1) := by decide +kernel
theorem dX12_packed_6 : decode cX12_packed 6 = .ok (.invokevirtual 175, 3) := by decide +kernel
theorem dX12_packed_9 : decode cX12_packed 9 = .ok (.if_icmp .ge 21, 3) := by decide +kernel
theorem dX12_packed_12 : decode cX12_packed 12 = .ok (.lload_n 1, 1) := by decide +kernel
theorem dX12_packed_13 : decode cX12_packed 13 = .ok (.bipush 8, 2) := by decide +kernel
theorem dX12_packed_15 : decode cX12_packed 15 = .ok (.lshl, 1) := by decide +kernel
theorem dX12_packed_16 : decode cX12_packed 16 = .ok (.aload_n 0, 1) := by decide +kernel
theorem dX12_packed_17 : decode cX12_packed 17 = .ok (.iload_n 3, 1) := by decide +kernel
theorem dX12_packed_18 : decode cX12_packed 18 = .ok (.invokevirtual 181, 3) := by decide +kernel
theorem dX12_packed_21 : decode cX12_packed 21 = .ok (.i2l, 1) := by decide +kernel
theorem dX12_packed_22 : decode cX12_packed 22 = .ok (.lor, 1) := by decide +kernel
theorem dX12_packed_23 : decode cX12_packed 23 = .ok (.lstore_n 1, 1) := by decide +kernel
theorem dX12_packed_24 : decode cX12_packed 24 = .ok (.iinc 3 1, 3) := by decide +kernel
theorem dX12_packed_27 : decode cX12_packed 27 = .ok (.goto (-23), 3) := by decide +kernel
theorem dX12_packed_30 : decode cX12_packed 30 = .ok (.lload_n 1, 1) := by decide +kernel
theorem dX12_packed_31 : decode cX12_packed 31 = .ok (.lreturn, 1) := by decide +kernel
def F_X12_packed_4 : Nat → Fin 32 → Int64 → Int32 → ae_S → Option (Int64 × ae_S)
  | 0, _, _, _, _ => none
  | n + 1, i0, v1, v3, s0 => ae_gd (decide ((i0 : Fin 32).val < 28)) (if (Int32.ofNat (ae_sln i0)) ≤ v3 then (some (v1, s0)) else (ae_gd (ae_ib v3 (ae_sln i0)) (ae_lt ((v1 <<< ((8 : Int32).toInt64 &&& 63)) ||| ((ae_sch i0 v3.toNatClampNeg).toInt64)) (fun x7 => ae_lt (v3 + (1 : Int32)) (fun x9 => F_X12_packed_4 n i0 x7 x9 s0)))))
set_option maxHeartbeats 4000000 in
set_option maxRecDepth 100000 in
theorem t_X12_packed_4 {l : Launch} {G : ae_G} (d : Nat) {rr : Int64} {ss : ae_S} : ∀ (n : Nat) (i0 : Fin 32) (v1 : Int64) (v3 : Int32) (s0 : ae_S), F_X12_packed_4 n i0 v1 v3 s0 = some (rr, ss) → ae_T l G (d + 4) mX12_packed (ae_Po (some (ae_l rr)) ss) 4 [(0, ae_r (some (62, i0))), (1, ae_l v1), (3, ae_i v3)] [] s0 := by
  intro n
  induction n with
  | zero =>
    intro i0 v1 v3 s0 hF
    exact absurd (show (none : Option (Int64 × ae_S)) = some (rr, ss) from hF) (by simp)
  | succ n ih =>
    intro i0 v1 v3 s0 hF
    unfold F_X12_packed_4 at hF
    refine ae_iload_n 2 dX12_packed_4 rfl ?_
    refine ae_aload_n 0 dX12_packed_5 rfl ?_
    obtain ⟨hg1, hF2⟩ := ae_gdI hF
    refine ae_strlen (i := i0) hg1 dX12_packed_6 ww_1544 (Nat.le_of_ble_eq_true rfl) ?_
    refine ae_icmp_ge 30 dX12_packed_9 rfl (fun hb3 => ?_) (fun hb3 => ?_)
    · have hF4 := ae_ifT hb3 hF2
      refine ae_lload_n 1 dX12_packed_30 rfl ?_
      obtain ⟨rfl, rfl⟩ := ae_retI hF4
      exact ae_lret dX12_packed_31 rfl ⟨rfl, rfl⟩
    · have hF4 := ae_ifF hb3 hF2
      refine ae_lload_n 1 dX12_packed_12 rfl ?_
      refine ae_bipush (8 : Int32) dX12_packed_13 (by decide) ?_
      refine ae_lshl dX12_packed_15 ?_
      refine ae_aload_n 0 dX12_packed_16 rfl ?_
      refine ae_iload_n 2 dX12_packed_17 rfl ?_
      obtain ⟨hg5, hF6⟩ := ae_gdI hF4
      refine ae_strchar (i := i0) hg1 (ae_ibI hg5) dX12_packed_18 ww_1545 (Nat.le_of_ble_eq_true rfl) ?_
      refine ae_i2l dX12_packed_21 ?_
      refine ae_lor dX12_packed_22 ?_
      obtain ⟨x7, hx7, hF8⟩ := ae_ltI hF6
      refine ae_nmL hx7 ?_
      refine ae_lstore_n (lv' := [(1, ae_l x7), (0, ae_r (some (62, i0))), (3, ae_i v3)]) dX12_packed_23 (by decide) rfl ?_
      obtain ⟨x9, hx9, hF10⟩ := ae_ltI hF8
      refine ae_iinc (lv' := [(3, ae_i x9), (1, ae_l x7), (0, ae_r (some (62, i0)))]) 2 (1 : Int32) dX12_packed_24 rfl (by decide) (by decide) (by rw [hx9]; rfl) ?_
      refine ae_goto 4 dX12_packed_27 rfl ?_
      refine ae_pick (lv' := [(0, ae_r (some (62, i0))), (1, ae_l x7), (3, ae_i x9)]) [2, 1, 0] rfl ?_
      exact ih i0 x7 x9 s0 hF10
def F_X12_packed (i0 : Fin 32) (s0 : ae_S) : Option (Int64 × ae_S) := F_X12_packed_4 ae_fu i0 (0 : Int64) (0 : Int32) s0
set_option maxHeartbeats 4000000 in
set_option maxRecDepth 100000 in
theorem c_X12_packed {l : Launch} {G : ae_G} (d : Nat) {i0 : Fin 32} {s0 ss : ae_S} {rr : Int64} (hF : F_X12_packed i0 s0 = some (rr, ss)) : ae_Met l G (d + 4) yX12_packed mX12_packed [ae_r (some (62, i0))] s0 (ae_Po (some (ae_l rr)) ss) := by
  refine ae_enter (by decide) rfl (Nat.le_of_ble_eq_true rfl) ?_
  show ae_T l G (d + 4) mX12_packed (ae_Po (some (ae_l rr)) ss) 0 [(0, ae_r (some (62, i0)))] [] s0
  unfold F_X12_packed at hF
  refine ae_lconst (0 : Int64) dX12_packed_0 (by decide) ?_
  refine ae_lstore_n (lv' := [(1, ae_l (0 : Int64)), (0, ae_r (some (62, i0)))]) dX12_packed_1 (by decide) rfl ?_
  refine ae_iconst (0 : Int32) dX12_packed_2 (by decide) ?_
  refine ae_istore_n (lv' := [(3, ae_i (0 : Int32)), (1, ae_l (0 : Int64)), (0, ae_r (some (62, i0)))]) dX12_packed_3 (by decide) rfl ?_
  refine ae_pick (lv' := [(0, ae_r (some (62, i0))), (1, ae_l (0 : Int64)), (3, ae_i (0 : Int32))]) [2, 1, 0] rfl ?_
  exact t_X12_packed_4 d ae_fu i0 (0 : Int64) (0 : Int32) s0 hF
abbrev mX12_isWord : ae_M := (RX12, cX12_isWord, 2, some .boolean)
theorem vy_X12_isWord : ae_VY yX12_isWord mX12_isWord 1 := ⟨ww_1539, wq_61, ww_13, ww_1540, ⟨by decide, by decide, by decide +kernel⟩, by decide⟩
theorem dX12_isWord_0 : decode cX12_isWord 0 = .ok (.aload_n 0, 1) := by decide +kernel
theorem dX12_isWord_1 : decode cX12_isWord 1 = .ok (.getfield 143, 3) := by decide +kernel
theorem dX12_isWord_4 : decode cX12_isWord 4 = .ok (.iconst 1, 1) := by decide +kernel
theorem dX12_isWord_5 : decode cX12_isWord 5 = .ok (.if_icmp .ne 19, 3) := by decide +kernel
theorem dX12_isWord_8 : decode cX12_isWord 8 = .ok (.aload_n 0, 1) := by decide +kernel
theorem dX12_isWord_9 : decode cX12_isWord 9 = .ok (.getfield 149, 3) := by decide +kernel
theorem dX12_isWord_12 : decode cX12_isWord 12 = .ok (.aload_n 1, 1) := by decide +kernel
theorem dX12_isWord_13 : decode cX12_isWord 13 = .ok (.invokestatic 185, 3) := by decide +kernel
theorem dX12_isWord_16 : decode cX12_isWord 16 = .ok (.lcmp, 1) := by decide +kernel
theorem dX12_isWord_17 : decode cX12_isWord 17 = .ok (.ifCond .ne 7, 3) := by decide +kernel
theorem dX12_isWord_20 : decode cX12_isWord 20 = .ok (.iconst 1, 1) := by decide +kernel
theorem dX12_isWord_21 : decode cX12_isWord 21 = .ok (.goto 4, 3) := by decide +kernel
theorem dX12_isWord_24 : decode cX12_isWord 24 = .ok (.iconst 0, 1) := by decide +kernel
theorem dX12_isWord_25 : decode cX12_isWord 25 = .ok (.ireturn, 1) := by decide +kernel
def F_X12_isWord_25 (t0 : Int32) (s0 : ae_S) : Option (Int32 × ae_S) := ae_gd (ae_zz t0) (some (t0, s0))
set_option maxHeartbeats 4000000 in
set_option maxRecDepth 100000 in
theorem t_X12_isWord_25 {l : Launch} {G : ae_G} (d : Nat) {rr : Int32} {ss : ae_S} (t0 : Int32) (s0 : ae_S) (hF : F_X12_isWord_25 t0 s0 = some (rr, ss)) : ae_T l G (d + 5) mX12_isWord (ae_Po (some (ae_i rr)) ss) 25 [] [ae_i t0] s0 := by
  unfold F_X12_isWord_25 at hF
  obtain ⟨hg1, hF2⟩ := ae_gdI hF
  obtain ⟨rfl, rfl⟩ := ae_retI hF2
  exact ae_iret dX12_isWord_25 rfl (ae_zzN (ae_zzI hg1)) ⟨rfl, rfl⟩
def F_X12_isWord_24 (s0 : ae_S) : Option (Int32 × ae_S) := F_X12_isWord_25 (0 : Int32) s0
set_option maxHeartbeats 4000000 in
set_option maxRecDepth 100000 in
theorem t_X12_isWord_24 {l : Launch} {G : ae_G} (d : Nat) {rr : Int32} {ss : ae_S} (s0 : ae_S) (hF : F_X12_isWord_24 s0 = some (rr, ss)) : ae_T l G (d + 5) mX12_isWord (ae_Po (some (ae_i rr)) ss) 24 [] [] s0 := by
  unfold F_X12_isWord_24 at hF
  refine ae_iconst (0 : Int32) dX12_isWord_24 (by decide) ?_
  refine ae_pick (lv' := []) [] rfl ?_
  exact t_X12_isWord_25 d (0 : Int32) s0 hF
def F_X12_isWord (i1 : Fin 32) (s0 : ae_S) : Option (Int32 × ae_S) := if (s0.1 30 0 25) = (1 : Int32) then (ae_bd (F_X12_packed i1 s0) (fun (r5 : Int64) s6 => if (lg_cmp (s0.2.1 30 0 28) r5) = 0 then (F_X12_isWord_25 (1 : Int32) s6) else (F_X12_isWord_24 s6))) else (F_X12_isWord_24 s0)
set_option maxHeartbeats 4000000 in
set_option maxRecDepth 100000 in
theorem c_X12_isWord {l : Launch} {G : ae_G} (d : Nat) {i1 : Fin 32} {s0 ss : ae_S} {rr : Int32} (hF : F_X12_isWord i1 s0 = some (rr, ss)) : ae_Met l G (d + 5) yX12_isWord mX12_isWord [ae_r (some (30, 0)), ae_r (some (62, i1))] s0 (ae_Po (some (ae_i rr)) ss) := by
  refine ae_enter (by decide) rfl (Nat.le_of_ble_eq_true rfl) ?_
  show ae_T l G (d + 5) mX12_isWord (ae_Po (some (ae_i rr)) ss) 0 [(0, ae_r (some (30, 0))), (1, ae_r (some (62, i1)))] [] s0
  unfold F_X12_isWord at hF
  refine ae_aload_n 0 dX12_isWord_0 rfl ?_
  refine ae_getI (q := (30, 0)) dX12_isWord_1 fl_RX12_143 rfl rfl ?_
  refine ae_iconst (1 : Int32) dX12_isWord_4 (by decide) ?_
  refine ae_icmp_ne 24 dX12_isWord_5 rfl (fun hb3 => ?_) (fun hb3 => ?_)
  · have hF4 := ae_ifF hb3 hF
    refine ae_pick (lv' := []) [] rfl ?_
    exact t_X12_isWord_24 d s0 hF4
  · have hF4 := ae_ifT hb3 hF
    refine ae_aload_n 0 dX12_isWord_8 rfl ?_
    refine ae_getL (q := (30, 0)) dX12_isWord_9 fl_RX12_149 rfl rfl ?_
    refine ae_aload_n 1 dX12_isWord_12 rfl ?_
    obtain ⟨r5, s6, hc7, hF8⟩ := ae_bdI hF4
    refine ae_cS1 (As := [ae_r (some (62, i1))]) dX12_isWord_13 ww_1541 vy_X12_packed rfl rfl (Nat.le_of_ble_eq_true rfl) (c_X12_packed d hc7) ?_
    refine ae_lcmp dX12_isWord_16 ?_
    refine ae_if_ne 24 dX12_isWord_17 rfl (fun hb9 => ?_) (fun hb9 => ?_)
    · have hF10 := ae_ifF hb9 hF8
      refine ae_pick (lv' := []) [] rfl ?_
      exact t_X12_isWord_24 d s6 hF10
    · have hF10 := ae_ifT hb9 hF8
      refine ae_iconst (1 : Int32) dX12_isWord_20 (by decide) ?_
      refine ae_goto 25 dX12_isWord_21 rfl ?_
      refine ae_pick (lv' := []) [] rfl ?_
      exact t_X12_isWord_25 d (1 : Int32) s6 hF10
abbrev mX12_accessHere : ae_M := (RX12, cX12_accessHere, 1, some .int)
theorem vy_X12_accessHere : ae_VY yX12_accessHere mX12_accessHere 0 := ⟨ww_1551, wq_62, ww_13, ww_1552, ⟨by decide, by decide, by decide +kernel⟩, by decide⟩
theorem dX12_accessHere_0 : decode cX12_accessHere 0 = .ok (.aload_n 0, 1) := by decide +kernel
theorem dX12_accessHere_1 : decode cX12_accessHere 1 = .ok (.ldc 225, 2) := by decide +kernel
theorem dX12_accessHere_3 : decode cX12_accessHere 3 = .ok (.invokevirtual 205, 3) := by decide +kernel
theorem dX12_accessHere_6 : decode cX12_accessHere 6 = .ok (.ifCond .eq 7, 3) := by decide +kernel
theorem dX12_accessHere_9 : decode cX12_accessHere 9 = .ok (.iconst 1, 1) := by decide +kernel
theorem dX12_accessHere_10 : decode cX12_accessHere 10 = .ok (.goto 30, 3) := by decide +kernel
theorem dX12_accessHere_13 : decode cX12_accessHere 13 = .ok (.aload_n 0, 1) := by decide +kernel
theorem dX12_accessHere_14 : decode cX12_accessHere 14 = .ok (.ldc 227, 2) := by decide +kernel
theorem dX12_accessHere_16 : decode cX12_accessHere 16 = .ok (.invokevirtual 205, 3) := by decide +kernel
theorem dX12_accessHere_19 : decode cX12_accessHere 19 = .ok (.ifCond .eq 7, 3) := by decide +kernel
theorem dX12_accessHere_22 : decode cX12_accessHere 22 = .ok (.iconst 2, 1) := by decide +kernel
theorem dX12_accessHere_23 : decode cX12_accessHere 23 = .ok (.goto 17, 3) := by decide +kernel
theorem dX12_accessHere_26 : decode cX12_accessHere 26 = .ok (.aload_n 0, 1) := by decide +kernel
theorem dX12_accessHere_27 : decode cX12_accessHere 27 = .ok (.ldc 229, 2) := by decide +kernel
theorem dX12_accessHere_29 : decode cX12_accessHere 29 = .ok (.invokevirtual 205, 3) := by decide +kernel
theorem dX12_accessHere_32 : decode cX12_accessHere 32 = .ok (.ifCond .eq 7, 3) := by decide +kernel
theorem dX12_accessHere_35 : decode cX12_accessHere 35 = .ok (.iconst 3, 1) := by decide +kernel
theorem dX12_accessHere_36 : decode cX12_accessHere 36 = .ok (.goto 4, 3) := by decide +kernel
theorem dX12_accessHere_39 : decode cX12_accessHere 39 = .ok (.iconst 0, 1) := by decide +kernel
theorem dX12_accessHere_40 : decode cX12_accessHere 40 = .ok (.ireturn, 1) := by decide +kernel
def F_X12_accessHere_40 (t0 : Int32) (s0 : ae_S) : Option (Int32 × ae_S) := some (t0, s0)
set_option maxHeartbeats 4000000 in
set_option maxRecDepth 100000 in
theorem t_X12_accessHere_40 {l : Launch} {G : ae_G} (d : Nat) {rr : Int32} {ss : ae_S} (t0 : Int32) (s0 : ae_S) (hF : F_X12_accessHere_40 t0 s0 = some (rr, ss)) : ae_T l G (d + 6) mX12_accessHere (ae_Po (some (ae_i rr)) ss) 40 [] [ae_i t0] s0 := by
  unfold F_X12_accessHere_40 at hF
  obtain ⟨rfl, rfl⟩ := ae_retI hF
  exact ae_iret dX12_accessHere_40 rfl rfl ⟨rfl, rfl⟩
def F_X12_accessHere (s0 : ae_S) : Option (Int32 × ae_S) := ae_bd (F_X12_isWord (4 : Fin 32) s0) (fun (r1 : Int32) s2 => if r1 = 0 then (ae_bd (F_X12_isWord (5 : Fin 32) s2) (fun (r7 : Int32) s8 => if r7 = 0 then (ae_bd (F_X12_isWord (6 : Fin 32) s8) (fun (r13 : Int32) s14 => if r13 = 0 then (F_X12_accessHere_40 (0 : Int32) s14) else (F_X12_accessHere_40 (3 : Int32) s14))) else (F_X12_accessHere_40 (2 : Int32) s8))) else (F_X12_accessHere_40 (1 : Int32) s2))
set_option maxHeartbeats 4000000 in
set_option maxRecDepth 100000 in
theorem c_X12_accessHere {l : Launch} {G : ae_G} (d : Nat) {s0 ss : ae_S} {rr : Int32} (hF : F_X12_accessHere s0 = some (rr, ss)) : ae_Met l G (d + 6) yX12_accessHere mX12_accessHere [ae_r (some (30, 0))] s0 (ae_Po (some (ae_i rr)) ss) := by
  refine ae_enter (by decide) rfl (Nat.le_of_ble_eq_true rfl) ?_
  show ae_T l G (d + 6) mX12_accessHere (ae_Po (some (ae_i rr)) ss) 0 [(0, ae_r (some (30, 0)))] [] s0
  unfold F_X12_accessHere at hF
  refine ae_aload_n 0 dX12_accessHere_0 rfl ?_
  refine ae_ldcS (i := 4) (tx := "ro") 29 dX12_accessHere_1 rfl ?_
  obtain ⟨r1, s2, hc3, hF4⟩ := ae_bdI hF
  refine ae_cV1 (q := (30, 0)) (As := [ae_r (some (62, 4))]) dX12_accessHere_3 ww_1537 vy_X12_isWord rfl rfl rfl rfl rfl (Nat.le_of_ble_eq_true rfl) (c_X12_isWord d hc3) ?_
  refine ae_if_eq 13 dX12_accessHere_6 rfl (fun hb5 => ?_) (fun hb5 => ?_)
  · have hF6 := ae_ifT hb5 hF4
    refine ae_aload_n 0 dX12_accessHere_13 rfl ?_
    refine ae_ldcS (i := 5) (tx := "ones") 30 dX12_accessHere_14 rfl ?_
    obtain ⟨r7, s8, hc9, hF10⟩ := ae_bdI hF6
    refine ae_cV1 (q := (30, 0)) (As := [ae_r (some (62, 5))]) dX12_accessHere_16 ww_1537 vy_X12_isWord rfl rfl rfl rfl rfl (Nat.le_of_ble_eq_true rfl) (c_X12_isWord d hc9) ?_
    refine ae_if_eq 26 dX12_accessHere_19 rfl (fun hb11 => ?_) (fun hb11 => ?_)
    · have hF12 := ae_ifT hb11 hF10
      refine ae_aload_n 0 dX12_accessHere_26 rfl ?_
      refine ae_ldcS (i := 6) (tx := "reads") 31 dX12_accessHere_27 rfl ?_
      obtain ⟨r13, s14, hc15, hF16⟩ := ae_bdI hF12
      refine ae_cV1 (q := (30, 0)) (As := [ae_r (some (62, 6))]) dX12_accessHere_29 ww_1537 vy_X12_isWord rfl rfl rfl rfl rfl (Nat.le_of_ble_eq_true rfl) (c_X12_isWord d hc15) ?_
      refine ae_if_eq 39 dX12_accessHere_32 rfl (fun hb17 => ?_) (fun hb17 => ?_)
      · have hF18 := ae_ifT hb17 hF16
        refine ae_iconst (0 : Int32) dX12_accessHere_39 (by decide) ?_
        refine ae_pick (lv' := []) [] rfl ?_
        exact t_X12_accessHere_40 d (0 : Int32) s14 hF18
      · have hF18 := ae_ifF hb17 hF16
        refine ae_iconst (3 : Int32) dX12_accessHere_35 (by decide) ?_
        refine ae_goto 40 dX12_accessHere_36 rfl ?_
        refine ae_pick (lv' := []) [] rfl ?_
        exact t_X12_accessHere_40 d (3 : Int32) s14 hF18
    · have hF12 := ae_ifF hb11 hF10
      refine ae_iconst (2 : Int32) dX12_accessHere_22 (by decide) ?_
      refine ae_goto 40 dX12_accessHere_23 rfl ?_
      refine ae_pick (lv' := []) [] rfl ?_
      exact t_X12_accessHere_40 d (2 : Int32) s8 hF12
  · have hF6 := ae_ifF hb5 hF4
    refine ae_iconst (1 : Int32) dX12_accessHere_9 (by decide) ?_
    refine ae_goto 40 dX12_accessHere_10 rfl ?_
    refine ae_pick (lv' := []) [] rfl ?_
    exact t_X12_accessHere_40 d (1 : Int32) s2 hF6
abbrev mX12_bytesOf : ae_M := (RX12, cX12_bytesOf, 1, some .int)
theorem vy_X12_bytesOf : ae_SY yX12_bytesOf mX12_bytesOf 1 := ⟨ww_1591, ww_13, ww_1592, ⟨by decide, by decide, by decide +kernel⟩, by decide⟩
theorem dX12_bytesOf_0 : decode cX12_bytesOf 0 = .ok (.iload_n 0, 1) := by decide +kernel
theorem dX12_bytesOf_1 : decode cX12_bytesOf 1 = .ok (.iconst 2, 1) := by decide +kernel
theorem dX12_bytesOf_2 : decode cX12_bytesOf 2 = .ok (.if_icmp .ge 7, 3) := by decide +kernel
theorem dX12_bytesOf_5 : decode cX12_bytesOf 5 = .ok (.iconst 1, 1) := by decide +kernel
theorem dX12_bytesOf_6 : decode cX12_bytesOf 6 = .ok (.goto 30, 3) := by decide +kernel
theorem dX12_bytesOf_9 : decode cX12_bytesOf 9 = .ok (.iload_n 0, 1) := by decide +kernel
theorem dX12_bytesOf_10 : decode cX12_bytesOf 10 = .ok (.iconst 4, 1) := by decide +kernel
theorem dX12_bytesOf_11 : decode cX12_bytesOf 11 = .ok (.if_icmp .ge 7, 3) := by decide +kernel
theorem dX12_bytesOf_14 : decode cX12_bytesOf 14 = .ok (.iconst 2, 1) := by decide +kernel
theorem dX12_bytesOf_15 : decode cX12_bytesOf 15 = .ok (.goto 21, 3) := by decide +kernel
theorem dX12_bytesOf_18 : decode cX12_bytesOf 18 = .ok (.iload_n 0, 1) := by decide +kernel
theorem dX12_bytesOf_19 : decode cX12_bytesOf 19 = .ok (.bipush 6, 2) := by decide +kernel
theorem dX12_bytesOf_21 : decode cX12_bytesOf 21 = .ok (.if_icmp .lt 9, 3) := by decide +kernel
theorem dX12_bytesOf_24 : decode cX12_bytesOf 24 = .ok (.iload_n 0, 1) := by decide +kernel
theorem dX12_bytesOf_25 : decode cX12_bytesOf 25 = .ok (.bipush 7, 2) := by decide +kernel
theorem dX12_bytesOf_27 : decode cX12_bytesOf 27 = .ok (.if_icmp .ne 7, 3) := by decide +kernel
theorem dX12_bytesOf_30 : decode cX12_bytesOf 30 = .ok (.iconst 4, 1) := by decide +kernel
theorem dX12_bytesOf_31 : decode cX12_bytesOf 31 = .ok (.goto 5, 3) := by decide +kernel
theorem dX12_bytesOf_34 : decode cX12_bytesOf 34 = .ok (.bipush 8, 2) := by decide +kernel
theorem dX12_bytesOf_36 : decode cX12_bytesOf 36 = .ok (.ireturn, 1) := by decide +kernel
def F_X12_bytesOf_36 (t0 : Int32) (s0 : ae_S) : Option (Int32 × ae_S) := some (t0, s0)
set_option maxHeartbeats 4000000 in
set_option maxRecDepth 100000 in
theorem t_X12_bytesOf_36 {l : Launch} {G : ae_G} (d : Nat) {rr : Int32} {ss : ae_S} (t0 : Int32) (s0 : ae_S) (hF : F_X12_bytesOf_36 t0 s0 = some (rr, ss)) : ae_T l G d mX12_bytesOf (ae_Po (some (ae_i rr)) ss) 36 [] [ae_i t0] s0 := by
  unfold F_X12_bytesOf_36 at hF
  obtain ⟨rfl, rfl⟩ := ae_retI hF
  exact ae_iret dX12_bytesOf_36 rfl rfl ⟨rfl, rfl⟩
def F_X12_bytesOf_30 (s0 : ae_S) : Option (Int32 × ae_S) := F_X12_bytesOf_36 (4 : Int32) s0
set_option maxHeartbeats 4000000 in
set_option maxRecDepth 100000 in
theorem t_X12_bytesOf_30 {l : Launch} {G : ae_G} (d : Nat) {rr : Int32} {ss : ae_S} (s0 : ae_S) (hF : F_X12_bytesOf_30 s0 = some (rr, ss)) : ae_T l G d mX12_bytesOf (ae_Po (some (ae_i rr)) ss) 30 [] [] s0 := by
  unfold F_X12_bytesOf_30 at hF
  refine ae_iconst (4 : Int32) dX12_bytesOf_30 (by decide) ?_
  refine ae_goto 36 dX12_bytesOf_31 rfl ?_
  refine ae_pick (lv' := []) [] rfl ?_
  exact t_X12_bytesOf_36 d (4 : Int32) s0 hF
def F_X12_bytesOf (v0 : Int32) (s0 : ae_S) : Option (Int32 × ae_S) := if (2 : Int32) ≤ v0 then (if (4 : Int32) ≤ v0 then (if v0 < (6 : Int32) then (F_X12_bytesOf_30 s0) else (if v0 = (7 : Int32) then (F_X12_bytesOf_30 s0) else (F_X12_bytesOf_36 (8 : Int32) s0))) else (F_X12_bytesOf_36 (2 : Int32) s0)) else (F_X12_bytesOf_36 (1 : Int32) s0)
set_option maxHeartbeats 4000000 in
set_option maxRecDepth 100000 in
theorem c_X12_bytesOf {l : Launch} {G : ae_G} (d : Nat) {v0 : Int32} {s0 ss : ae_S} {rr : Int32} (hF : F_X12_bytesOf v0 s0 = some (rr, ss)) : ae_Met l G d yX12_bytesOf mX12_bytesOf [ae_i v0] s0 (ae_Po (some (ae_i rr)) ss) := by
  refine ae_enter (by decide) rfl (Nat.le_of_ble_eq_true rfl) ?_
  show ae_T l G d mX12_bytesOf (ae_Po (some (ae_i rr)) ss) 0 [(0, ae_i v0)] [] s0
  unfold F_X12_bytesOf at hF
  refine ae_iload_n 0 dX12_bytesOf_0 rfl ?_
  refine ae_iconst (2 : Int32) dX12_bytesOf_1 (by decide) ?_
  refine ae_icmp_ge 9 dX12_bytesOf_2 rfl (fun hb1 => ?_) (fun hb1 => ?_)
  · have hF2 := ae_ifT hb1 hF
    refine ae_iload_n 0 dX12_bytesOf_9 rfl ?_
    refine ae_iconst (4 : Int32) dX12_bytesOf_10 (by decide) ?_
    refine ae_icmp_ge 18 dX12_bytesOf_11 rfl (fun hb3 => ?_) (fun hb3 => ?_)
    · have hF4 := ae_ifT hb3 hF2
      refine ae_iload_n 0 dX12_bytesOf_18 rfl ?_
      refine ae_bipush (6 : Int32) dX12_bytesOf_19 (by decide) ?_
      refine ae_icmp_lt 30 dX12_bytesOf_21 rfl (fun hb5 => ?_) (fun hb5 => ?_)
      · have hF6 := ae_ifT hb5 hF4
        refine ae_pick (lv' := []) [] rfl ?_
        exact t_X12_bytesOf_30 d s0 hF6
      · have hF6 := ae_ifF hb5 hF4
        refine ae_iload_n 0 dX12_bytesOf_24 rfl ?_
        refine ae_bipush (7 : Int32) dX12_bytesOf_25 (by decide) ?_
        refine ae_icmp_ne 34 dX12_bytesOf_27 rfl (fun hb7 => ?_) (fun hb7 => ?_)
        · have hF8 := ae_ifF hb7 hF6
          refine ae_bipush (8 : Int32) dX12_bytesOf_34 (by decide) ?_
          refine ae_pick (lv' := []) [] rfl ?_
          exact t_X12_bytesOf_36 d (8 : Int32) s0 hF8
        · have hF8 := ae_ifT hb7 hF6
          refine ae_pick (lv' := []) [] rfl ?_
          exact t_X12_bytesOf_30 d s0 hF8
    · have hF4 := ae_ifF hb3 hF2
      refine ae_iconst (2 : Int32) dX12_bytesOf_14 (by decide) ?_
      refine ae_goto 36 dX12_bytesOf_15 rfl ?_
      refine ae_pick (lv' := []) [] rfl ?_
      exact t_X12_bytesOf_36 d (2 : Int32) s0 hF4
  · have hF2 := ae_ifF hb1 hF
    refine ae_iconst (1 : Int32) dX12_bytesOf_5 (by decide) ?_
    refine ae_goto 36 dX12_bytesOf_6 rfl ?_
    refine ae_pick (lv' := []) [] rfl ?_
    exact t_X12_bytesOf_36 d (1 : Int32) s0 hF2
abbrev mX12_fails : ae_M := (RX12, cX12_fails, 3, some .boolean)
theorem vy_X12_fails : ae_VY yX12_fails mX12_fails 2 := ⟨ww_1573, wq_64, ww_13, ww_1574, ⟨by decide, by decide, by decide +kernel⟩, by decide⟩
theorem dX12_fails_0 : decode cX12_fails 0 = .ok (.aload_n 0, 1) := by decide +kernel
theorem dX12_fails_1 : decode cX12_fails 1 = .ok (.getfield 169, 3) := by decide +kernel
theorem dX12_fails_4 : decode cX12_fails 4 = .ok (.ifCond .ne 13, 3) := by decide +kernel
theorem dX12_fails_7 : decode cX12_fails 7 = .ok (.aload_n 0, 1) := by decide +kernel
theorem dX12_fails_8 : decode cX12_fails 8 = .ok (.iload_n 1, 1) := by decide +kernel
theorem dX12_fails_9 : decode cX12_fails 9 = .ok (.putfield 169, 3) := by decide +kernel
theorem dX12_fails_12 : decode cX12_fails 12 = .ok (.aload_n 0, 1) := by decide +kernel
theorem dX12_fails_13 : decode cX12_fails 13 = .ok (.iload_n 2, 1) := by decide +kernel
theorem dX12_fails_14 : decode cX12_fails 14 = .ok (.putfield 172, 3) := by decide +kernel
theorem dX12_fails_17 : decode cX12_fails 17 = .ok (.iconst 0, 1) := by decide +kernel
theorem dX12_fails_18 : decode cX12_fails 18 = .ok (.ireturn, 1) := by decide +kernel
def F_X12_fails_17 (s0 : ae_S) : Option (Int32 × ae_S) := some ((0 : Int32), s0)
set_option maxHeartbeats 4000000 in
set_option maxRecDepth 100000 in
theorem t_X12_fails_17 {l : Launch} {G : ae_G} (d : Nat) {rr : Int32} {ss : ae_S} (s0 : ae_S) (hF : F_X12_fails_17 s0 = some (rr, ss)) : ae_T l G d mX12_fails (ae_Po (some (ae_i rr)) ss) 17 [] [] s0 := by
  unfold F_X12_fails_17 at hF
  refine ae_iconst (0 : Int32) dX12_fails_17 (by decide) ?_
  obtain ⟨rfl, rfl⟩ := ae_retI hF
  exact ae_iret dX12_fails_18 rfl (by decide) ⟨rfl, rfl⟩
def F_X12_fails (v1 : Int32) (v2 : Int32) (s0 : ae_S) : Option (Int32 × ae_S) := if (s0.1 30 0 23) = 0 then (ae_lt (ae_wI s0 30 0 23 v1) (fun s3 => ae_lt (ae_wI s3 30 0 24 v2) (fun s5 => F_X12_fails_17 s5))) else (F_X12_fails_17 s0)
set_option maxHeartbeats 4000000 in
set_option maxRecDepth 100000 in
theorem c_X12_fails {l : Launch} {G : ae_G} (d : Nat) {v1 : Int32} {v2 : Int32} {s0 ss : ae_S} {rr : Int32} (hF : F_X12_fails v1 v2 s0 = some (rr, ss)) : ae_Met l G d yX12_fails mX12_fails [ae_r (some (30, 0)), ae_i v1, ae_i v2] s0 (ae_Po (some (ae_i rr)) ss) := by
  refine ae_enter (by decide) rfl (Nat.le_of_ble_eq_true rfl) ?_
  show ae_T l G d mX12_fails (ae_Po (some (ae_i rr)) ss) 0 [(0, ae_r (some (30, 0))), (1, ae_i v1), (2, ae_i v2)] [] s0
  unfold F_X12_fails at hF
  refine ae_aload_n 0 dX12_fails_0 rfl ?_
  refine ae_getI (q := (30, 0)) dX12_fails_1 fl_RX12_169 rfl rfl ?_
  refine ae_if_ne 17 dX12_fails_4 rfl (fun hb1 => ?_) (fun hb1 => ?_)
  · have hF2 := ae_ifF hb1 hF
    refine ae_pick (lv' := []) [] rfl ?_
    exact t_X12_fails_17 d s0 hF2
  · have hF2 := ae_ifT hb1 hF
    refine ae_aload_n 0 dX12_fails_7 rfl ?_
    refine ae_iload_n 1 dX12_fails_8 rfl ?_
    obtain ⟨s3, hs3, hF4⟩ := ae_ltI hF2
    refine ae_putI (q := (30, 0)) dX12_fails_9 fl_RX12_169 rfl rfl (ae_nmS hs3 ?_)
    refine ae_aload_n 0 dX12_fails_12 rfl ?_
    refine ae_iload_n 2 dX12_fails_13 rfl ?_
    obtain ⟨s5, hs5, hF6⟩ := ae_ltI hF4
    refine ae_putI (q := (30, 0)) dX12_fails_14 fl_RX12_172 rfl rfl (ae_nmS hs5 ?_)
    refine ae_pick (lv' := []) [] rfl ?_
    exact t_X12_fails_17 d s5 hF6
abbrev mX12_kindHere : ae_M := (RX12, cX12_kindHere, 1, some .int)
theorem vy_X12_kindHere : ae_VY yX12_kindHere mX12_kindHere 0 := ⟨ww_1560, wq_63, ww_13, ww_1561, ⟨by decide, by decide, by decide +kernel⟩, by decide⟩
theorem dX12_kindHere_0 : decode cX12_kindHere 0 = .ok (.aload_n 0, 1) := by decide +kernel
theorem dX12_kindHere_1 : decode cX12_kindHere 1 = .ok (.ldc 203, 2) := by decide +kernel
theorem dX12_kindHere_3 : decode cX12_kindHere 3 = .ok (.invokevirtual 205, 3) := by decide +kernel
theorem dX12_kindHere_6 : decode cX12_kindHere 6 = .ok (.ifCond .eq 5, 3) := by decide +kernel
theorem dX12_kindHere_9 : decode cX12_kindHere 9 = .ok (.iconst 0, 1) := by decide +kernel
theorem dX12_kindHere_10 : decode cX12_kindHere 10 = .ok (.ireturn, 1) := by decide +kernel
theorem dX12_kindHere_11 : decode cX12_kindHere 11 = .ok (.aload_n 0, 1) := by decide +kernel
theorem dX12_kindHere_12 : decode cX12_kindHere 12 = .ok (.ldc 209, 2) := by decide +kernel
theorem dX12_kindHere_14 : decode cX12_kindHere 14 = .ok (.invokevirtual 205, 3) := by decide +kernel
theorem dX12_kindHere_17 : decode cX12_kindHere 17 = .ok (.ifCond .eq 5, 3) := by decide +kernel
theorem dX12_kindHere_20 : decode cX12_kindHere 20 = .ok (.iconst 1, 1) := by decide +kernel
theorem dX12_kindHere_21 : decode cX12_kindHere 21 = .ok (.ireturn, 1) := by decide +kernel
theorem dX12_kindHere_22 : decode cX12_kindHere 22 = .ok (.aload_n 0, 1) := by decide +kernel
theorem dX12_kindHere_23 : decode cX12_kindHere 23 = .ok (.ldc 211, 2) := by decide +kernel
theorem dX12_kindHere_25 : decode cX12_kindHere 25 = .ok (.invokevirtual 205, 3) := by decide +kernel
theorem dX12_kindHere_28 : decode cX12_kindHere 28 = .ok (.ifCond .eq 5, 3) := by decide +kernel
theorem dX12_kindHere_31 : decode cX12_kindHere 31 = .ok (.iconst 2, 1) := by decide +kernel
theorem dX12_kindHere_32 : decode cX12_kindHere 32 = .ok (.ireturn, 1) := by decide +kernel
theorem dX12_kindHere_33 : decode cX12_kindHere 33 = .ok (.aload_n 0, 1) := by decide +kernel
theorem dX12_kindHere_34 : decode cX12_kindHere 34 = .ok (.ldc 213, 2) := by decide +kernel
theorem dX12_kindHere_36 : decode cX12_kindHere 36 = .ok (.invokevirtual 205, 3) := by decide +kernel
theorem dX12_kindHere_39 : decode cX12_kindHere 39 = .ok (.ifCond .eq 5, 3) := by decide +kernel
theorem dX12_kindHere_42 : decode cX12_kindHere 42 = .ok (.iconst 3, 1) := by decide +kernel
theorem dX12_kindHere_43 : decode cX12_kindHere 43 = .ok (.ireturn, 1) := by decide +kernel
theorem dX12_kindHere_44 : decode cX12_kindHere 44 = .ok (.aload_n 0, 1) := by decide +kernel
theorem dX12_kindHere_45 : decode cX12_kindHere 45 = .ok (.ldc 215, 2) := by decide +kernel
theorem dX12_kindHere_47 : decode cX12_kindHere 47 = .ok (.invokevirtual 205, 3) := by decide +kernel
theorem dX12_kindHere_50 : decode cX12_kindHere 50 = .ok (.ifCond .eq 5, 3) := by decide +kernel
theorem dX12_kindHere_53 : decode cX12_kindHere 53 = .ok (.iconst 4, 1) := by decide +kernel
theorem dX12_kindHere_54 : decode cX12_kindHere 54 = .ok (.ireturn, 1) := by decide +kernel
theorem dX12_kindHere_55 : decode cX12_kindHere 55 = .ok (.aload_n 0, 1) := by decide +kernel
theorem dX12_kindHere_56 : decode cX12_kindHere 56 = .ok (.ldc 217, 2) := by decide +kernel
theorem dX12_kindHere_58 : decode cX12_kindHere 58 = .ok (.invokevirtual 205, 3) := by decide +kernel
theorem dX12_kindHere_61 : decode cX12_kindHere 61 = .ok (.ifCond .eq 5, 3) := by decide +kernel
theorem dX12_kindHere_64 : decode cX12_kindHere 64 = .ok (.iconst 5, 1) := by decide +kernel
theorem dX12_kindHere_65 : decode cX12_kindHere 65 = .ok (.ireturn, 1) := by decide +kernel
theorem dX12_kindHere_66 : decode cX12_kindHere 66 = .ok (.aload_n 0, 1) := by decide +kernel
theorem dX12_kindHere_67 : decode cX12_kindHere 67 = .ok (.ldc 219, 2) := by decide +kernel
theorem dX12_kindHere_69 : decode cX12_kindHere 69 = .ok (.invokevirtual 205, 3) := by decide +kernel
theorem dX12_kindHere_72 : decode cX12_kindHere 72 = .ok (.ifCond .eq 6, 3) := by decide +kernel
theorem dX12_kindHere_75 : decode cX12_kindHere 75 = .ok (.bipush 6, 2) := by decide +kernel
theorem dX12_kindHere_77 : decode cX12_kindHere 77 = .ok (.ireturn, 1) := by decide +kernel
theorem dX12_kindHere_78 : decode cX12_kindHere 78 = .ok (.aload_n 0, 1) := by decide +kernel
theorem dX12_kindHere_79 : decode cX12_kindHere 79 = .ok (.ldc 221, 2) := by decide +kernel
theorem dX12_kindHere_81 : decode cX12_kindHere 81 = .ok (.invokevirtual 205, 3) := by decide +kernel
theorem dX12_kindHere_84 : decode cX12_kindHere 84 = .ok (.ifCond .eq 6, 3) := by decide +kernel
theorem dX12_kindHere_87 : decode cX12_kindHere 87 = .ok (.bipush 7, 2) := by decide +kernel
theorem dX12_kindHere_89 : decode cX12_kindHere 89 = .ok (.ireturn, 1) := by decide +kernel
theorem dX12_kindHere_90 : decode cX12_kindHere 90 = .ok (.aload_n 0, 1) := by decide +kernel
theorem dX12_kindHere_91 : decode cX12_kindHere 91 = .ok (.ldc 223, 2) := by decide +kernel
theorem dX12_kindHere_93 : decode cX12_kindHere 93 = .ok (.invokevirtual 205, 3) := by decide +kernel
theorem dX12_kindHere_96 : decode cX12_kindHere 96 = .ok (.ifCond .eq 8, 3) := by decide +kernel
theorem dX12_kindHere_99 : decode cX12_kindHere 99 = .ok (.bipush 8, 2) := by decide +kernel
theorem dX12_kindHere_101 : decode cX12_kindHere 101 = .ok (.goto 4, 3) := by decide +kernel
theorem dX12_kindHere_104 : decode cX12_kindHere 104 = .ok (.iconst (-1), 1) := by decide +kernel
theorem dX12_kindHere_105 : decode cX12_kindHere 105 = .ok (.ireturn, 1) := by decide +kernel
def F_X12_kindHere_105 (t0 : Int32) (s0 : ae_S) : Option (Int32 × ae_S) := some (t0, s0)
set_option maxHeartbeats 4000000 in
set_option maxRecDepth 100000 in
theorem t_X12_kindHere_105 {l : Launch} {G : ae_G} (d : Nat) {rr : Int32} {ss : ae_S} (t0 : Int32) (s0 : ae_S) (hF : F_X12_kindHere_105 t0 s0 = some (rr, ss)) : ae_T l G (d + 6) mX12_kindHere (ae_Po (some (ae_i rr)) ss) 105 [] [ae_i t0] s0 := by
  unfold F_X12_kindHere_105 at hF
  obtain ⟨rfl, rfl⟩ := ae_retI hF
  exact ae_iret dX12_kindHere_105 rfl rfl ⟨rfl, rfl⟩
def F_X12_kindHere (s0 : ae_S) : Option (Int32 × ae_S) := ae_bd (F_X12_isWord (16 : Fin 32) s0) (fun (r1 : Int32) s2 => if r1 = 0 then (ae_bd (F_X12_isWord (17 : Fin 32) s2) (fun (r7 : Int32) s8 => if r7 = 0 then (ae_bd (F_X12_isWord (18 : Fin 32) s8) (fun (r13 : Int32) s14 => if r13 = 0 then (ae_bd (F_X12_isWord (19 : Fin 32) s14) (fun (r19 : Int32) s20 => if r19 = 0 then (ae_bd (F_X12_isWord (20 : Fin 32) s20) (fun (r25 : Int32) s26 => if r25 = 0 then (ae_bd (F_X12_isWord (21 : Fin 32) s26) (fun (r31 : Int32) s32 => if r31 = 0 then (ae_bd (F_X12_isWord (22 : Fin 32) s32) (fun (r37 : Int32) s38 => if r37 = 0 then (ae_bd (F_X12_isWord (23 : Fin 32) s38) (fun (r43 : Int32) s44 => if r43 = 0 then (ae_bd (F_X12_isWord (24 : Fin 32) s44) (fun (r49 : Int32) s50 => if r49 = 0 then (F_X12_kindHere_105 (-1 : Int32) s50) else (F_X12_kindHere_105 (8 : Int32) s50))) else (some ((7 : Int32), s44)))) else (some ((6 : Int32), s38)))) else (some ((5 : Int32), s32)))) else (some ((4 : Int32), s26)))) else (some ((3 : Int32), s20)))) else (some ((2 : Int32), s14)))) else (some ((1 : Int32), s8)))) else (some ((0 : Int32), s2)))
set_option maxHeartbeats 4000000 in
set_option maxRecDepth 100000 in
theorem c_X12_kindHere {l : Launch} {G : ae_G} (d : Nat) {s0 ss : ae_S} {rr : Int32} (hF : F_X12_kindHere s0 = some (rr, ss)) : ae_Met l G (d + 6) yX12_kindHere mX12_kindHere [ae_r (some (30, 0))] s0 (ae_Po (some (ae_i rr)) ss) := by
  refine ae_enter (by decide) rfl (Nat.le_of_ble_eq_true rfl) ?_
  show ae_T l G (d + 6) mX12_kindHere (ae_Po (some (ae_i rr)) ss) 0 [(0, ae_r (some (30, 0)))] [] s0
  unfold F_X12_kindHere at hF
  refine ae_aload_n 0 dX12_kindHere_0 rfl ?_
  refine ae_ldcS (i := 16) (tx := "u8") 34 dX12_kindHere_1 rfl ?_
  obtain ⟨r1, s2, hc3, hF4⟩ := ae_bdI hF
  refine ae_cV1 (q := (30, 0)) (As := [ae_r (some (62, 16))]) dX12_kindHere_3 ww_1537 vy_X12_isWord rfl rfl rfl rfl rfl (Nat.le_of_ble_eq_true rfl) (c_X12_isWord d hc3) ?_
  refine ae_if_eq 11 dX12_kindHere_6 rfl (fun hb5 => ?_) (fun hb5 => ?_)
  · have hF6 := ae_ifT hb5 hF4
    refine ae_aload_n 0 dX12_kindHere_11 rfl ?_
    refine ae_ldcS (i := 17) (tx := "s8") 35 dX12_kindHere_12 rfl ?_
    obtain ⟨r7, s8, hc9, hF10⟩ := ae_bdI hF6
    refine ae_cV1 (q := (30, 0)) (As := [ae_r (some (62, 17))]) dX12_kindHere_14 ww_1537 vy_X12_isWord rfl rfl rfl rfl rfl (Nat.le_of_ble_eq_true rfl) (c_X12_isWord d hc9) ?_
    refine ae_if_eq 22 dX12_kindHere_17 rfl (fun hb11 => ?_) (fun hb11 => ?_)
    · have hF12 := ae_ifT hb11 hF10
      refine ae_aload_n 0 dX12_kindHere_22 rfl ?_
      refine ae_ldcS (i := 18) (tx := "u16") 36 dX12_kindHere_23 rfl ?_
      obtain ⟨r13, s14, hc15, hF16⟩ := ae_bdI hF12
      refine ae_cV1 (q := (30, 0)) (As := [ae_r (some (62, 18))]) dX12_kindHere_25 ww_1537 vy_X12_isWord rfl rfl rfl rfl rfl (Nat.le_of_ble_eq_true rfl) (c_X12_isWord d hc15) ?_
      refine ae_if_eq 33 dX12_kindHere_28 rfl (fun hb17 => ?_) (fun hb17 => ?_)
      · have hF18 := ae_ifT hb17 hF16
        refine ae_aload_n 0 dX12_kindHere_33 rfl ?_
        refine ae_ldcS (i := 19) (tx := "s16") 37 dX12_kindHere_34 rfl ?_
        obtain ⟨r19, s20, hc21, hF22⟩ := ae_bdI hF18
        refine ae_cV1 (q := (30, 0)) (As := [ae_r (some (62, 19))]) dX12_kindHere_36 ww_1537 vy_X12_isWord rfl rfl rfl rfl rfl (Nat.le_of_ble_eq_true rfl) (c_X12_isWord d hc21) ?_
        refine ae_if_eq 44 dX12_kindHere_39 rfl (fun hb23 => ?_) (fun hb23 => ?_)
        · have hF24 := ae_ifT hb23 hF22
          refine ae_aload_n 0 dX12_kindHere_44 rfl ?_
          refine ae_ldcS (i := 20) (tx := "u32") 38 dX12_kindHere_45 rfl ?_
          obtain ⟨r25, s26, hc27, hF28⟩ := ae_bdI hF24
          refine ae_cV1 (q := (30, 0)) (As := [ae_r (some (62, 20))]) dX12_kindHere_47 ww_1537 vy_X12_isWord rfl rfl rfl rfl rfl (Nat.le_of_ble_eq_true rfl) (c_X12_isWord d hc27) ?_
          refine ae_if_eq 55 dX12_kindHere_50 rfl (fun hb29 => ?_) (fun hb29 => ?_)
          · have hF30 := ae_ifT hb29 hF28
            refine ae_aload_n 0 dX12_kindHere_55 rfl ?_
            refine ae_ldcS (i := 21) (tx := "s32") 39 dX12_kindHere_56 rfl ?_
            obtain ⟨r31, s32, hc33, hF34⟩ := ae_bdI hF30
            refine ae_cV1 (q := (30, 0)) (As := [ae_r (some (62, 21))]) dX12_kindHere_58 ww_1537 vy_X12_isWord rfl rfl rfl rfl rfl (Nat.le_of_ble_eq_true rfl) (c_X12_isWord d hc33) ?_
            refine ae_if_eq 66 dX12_kindHere_61 rfl (fun hb35 => ?_) (fun hb35 => ?_)
            · have hF36 := ae_ifT hb35 hF34
              refine ae_aload_n 0 dX12_kindHere_66 rfl ?_
              refine ae_ldcS (i := 22) (tx := "s64") 40 dX12_kindHere_67 rfl ?_
              obtain ⟨r37, s38, hc39, hF40⟩ := ae_bdI hF36
              refine ae_cV1 (q := (30, 0)) (As := [ae_r (some (62, 22))]) dX12_kindHere_69 ww_1537 vy_X12_isWord rfl rfl rfl rfl rfl (Nat.le_of_ble_eq_true rfl) (c_X12_isWord d hc39) ?_
              refine ae_if_eq 78 dX12_kindHere_72 rfl (fun hb41 => ?_) (fun hb41 => ?_)
              · have hF42 := ae_ifT hb41 hF40
                refine ae_aload_n 0 dX12_kindHere_78 rfl ?_
                refine ae_ldcS (i := 23) (tx := "f32") 41 dX12_kindHere_79 rfl ?_
                obtain ⟨r43, s44, hc45, hF46⟩ := ae_bdI hF42
                refine ae_cV1 (q := (30, 0)) (As := [ae_r (some (62, 23))]) dX12_kindHere_81 ww_1537 vy_X12_isWord rfl rfl rfl rfl rfl (Nat.le_of_ble_eq_true rfl) (c_X12_isWord d hc45) ?_
                refine ae_if_eq 90 dX12_kindHere_84 rfl (fun hb47 => ?_) (fun hb47 => ?_)
                · have hF48 := ae_ifT hb47 hF46
                  refine ae_aload_n 0 dX12_kindHere_90 rfl ?_
                  refine ae_ldcS (i := 24) (tx := "f64") 42 dX12_kindHere_91 rfl ?_
                  obtain ⟨r49, s50, hc51, hF52⟩ := ae_bdI hF48
                  refine ae_cV1 (q := (30, 0)) (As := [ae_r (some (62, 24))]) dX12_kindHere_93 ww_1537 vy_X12_isWord rfl rfl rfl rfl rfl (Nat.le_of_ble_eq_true rfl) (c_X12_isWord d hc51) ?_
                  refine ae_if_eq 104 dX12_kindHere_96 rfl (fun hb53 => ?_) (fun hb53 => ?_)
                  · have hF54 := ae_ifT hb53 hF52
                    refine ae_iconst (-1 : Int32) dX12_kindHere_104 (by decide) ?_
                    refine ae_pick (lv' := []) [] rfl ?_
                    exact t_X12_kindHere_105 d (-1 : Int32) s50 hF54
                  · have hF54 := ae_ifF hb53 hF52
                    refine ae_bipush (8 : Int32) dX12_kindHere_99 (by decide) ?_
                    refine ae_goto 105 dX12_kindHere_101 rfl ?_
                    refine ae_pick (lv' := []) [] rfl ?_
                    exact t_X12_kindHere_105 d (8 : Int32) s50 hF54
                · have hF48 := ae_ifF hb47 hF46
                  refine ae_bipush (7 : Int32) dX12_kindHere_87 (by decide) ?_
                  obtain ⟨rfl, rfl⟩ := ae_retI hF48
                  exact ae_iret dX12_kindHere_89 rfl rfl ⟨rfl, rfl⟩
              · have hF42 := ae_ifF hb41 hF40
                refine ae_bipush (6 : Int32) dX12_kindHere_75 (by decide) ?_
                obtain ⟨rfl, rfl⟩ := ae_retI hF42
                exact ae_iret dX12_kindHere_77 rfl rfl ⟨rfl, rfl⟩
            · have hF36 := ae_ifF hb35 hF34
              refine ae_iconst (5 : Int32) dX12_kindHere_64 (by decide) ?_
              obtain ⟨rfl, rfl⟩ := ae_retI hF36
              exact ae_iret dX12_kindHere_65 rfl rfl ⟨rfl, rfl⟩
          · have hF30 := ae_ifF hb29 hF28
            refine ae_iconst (4 : Int32) dX12_kindHere_53 (by decide) ?_
            obtain ⟨rfl, rfl⟩ := ae_retI hF30
            exact ae_iret dX12_kindHere_54 rfl rfl ⟨rfl, rfl⟩
        · have hF24 := ae_ifF hb23 hF22
          refine ae_iconst (3 : Int32) dX12_kindHere_42 (by decide) ?_
          obtain ⟨rfl, rfl⟩ := ae_retI hF24
          exact ae_iret dX12_kindHere_43 rfl rfl ⟨rfl, rfl⟩
      · have hF18 := ae_ifF hb17 hF16
        refine ae_iconst (2 : Int32) dX12_kindHere_31 (by decide) ?_
        obtain ⟨rfl, rfl⟩ := ae_retI hF18
        exact ae_iret dX12_kindHere_32 rfl rfl ⟨rfl, rfl⟩
    · have hF12 := ae_ifF hb11 hF10
      refine ae_iconst (1 : Int32) dX12_kindHere_20 (by decide) ?_
      obtain ⟨rfl, rfl⟩ := ae_retI hF12
      exact ae_iret dX12_kindHere_21 rfl rfl ⟨rfl, rfl⟩
  · have hF6 := ae_ifF hb5 hF4
    refine ae_iconst (0 : Int32) dX12_kindHere_9 (by decide) ?_
    obtain ⟨rfl, rfl⟩ := ae_retI hF6
    exact ae_iret dX12_kindHere_10 rfl rfl ⟨rfl, rfl⟩
abbrev mX12_isOwn : ae_M := (RX12, cX12_isOwn, 1, some .boolean)
theorem vy_X12_isOwn : ae_VY yX12_isOwn mX12_isOwn 0 := ⟨ww_1534, wq_60, ww_13, ww_1535, ⟨by decide, by decide, by decide +kernel⟩, by decide⟩
theorem dX12_isOwn_0 : decode cX12_isOwn 0 = .ok (.aload_n 0, 1) := by decide +kernel
theorem dX12_isOwn_1 : decode cX12_isOwn 1 = .ok (.ldc 231, 2) := by decide +kernel
theorem dX12_isOwn_3 : decode cX12_isOwn 3 = .ok (.invokevirtual 205, 3) := by decide +kernel
theorem dX12_isOwn_6 : decode cX12_isOwn 6 = .ok (.ifCond .ne 63, 3) := by decide +kernel
theorem dX12_isOwn_9 : decode cX12_isOwn 9 = .ok (.aload_n 0, 1) := by decide +kernel
theorem dX12_isOwn_10 : decode cX12_isOwn 10 = .ok (.ldc 232, 2) := by decide +kernel
theorem dX12_isOwn_12 : decode cX12_isOwn 12 = .ok (.invokevirtual 205, 3) := by decide +kernel
theorem dX12_isOwn_15 : decode cX12_isOwn 15 = .ok (.ifCond .ne 54, 3) := by decide +kernel
theorem dX12_isOwn_18 : decode cX12_isOwn 18 = .ok (.aload_n 0, 1) := by decide +kernel
theorem dX12_isOwn_19 : decode cX12_isOwn 19 = .ok (.ldc 234, 2) := by decide +kernel
theorem dX12_isOwn_21 : decode cX12_isOwn 21 = .ok (.invokevirtual 205, 3) := by decide +kernel
theorem dX12_isOwn_24 : decode cX12_isOwn 24 = .ok (.ifCond .ne 45, 3) := by decide +kernel
theorem dX12_isOwn_27 : decode cX12_isOwn 27 = .ok (.aload_n 0, 1) := by decide +kernel
theorem dX12_isOwn_28 : decode cX12_isOwn 28 = .ok (.ldc 236, 2) := by decide +kernel
theorem dX12_isOwn_30 : decode cX12_isOwn 30 = .ok (.invokevirtual 205, 3) := by decide +kernel
theorem dX12_isOwn_33 : decode cX12_isOwn 33 = .ok (.ifCond .ne 36, 3) := by decide +kernel
theorem dX12_isOwn_36 : decode cX12_isOwn 36 = .ok (.aload_n 0, 1) := by decide +kernel
theorem dX12_isOwn_37 : decode cX12_isOwn 37 = .ok (.invokevirtual 238, 3) := by decide +kernel
theorem dX12_isOwn_40 : decode cX12_isOwn 40 = .ok (.ifCond .gt 29, 3) := by decide +kernel
theorem dX12_isOwn_43 : decode cX12_isOwn 43 = .ok (.aload_n 0, 1) := by decide +kernel
theorem dX12_isOwn_44 : decode cX12_isOwn 44 = .ok (.ldc 241, 2) := by decide +kernel
theorem dX12_isOwn_46 : decode cX12_isOwn 46 = .ok (.invokevirtual 205, 3) := by decide +kernel
theorem dX12_isOwn_49 : decode cX12_isOwn 49 = .ok (.ifCond .ne 20, 3) := by decide +kernel
theorem dX12_isOwn_52 : decode cX12_isOwn 52 = .ok (.aload_n 0, 1) := by decide +kernel
theorem dX12_isOwn_53 : decode cX12_isOwn 53 = .ok (.ldc 243, 2) := by decide +kernel
theorem dX12_isOwn_55 : decode cX12_isOwn 55 = .ok (.invokevirtual 205, 3) := by decide +kernel
theorem dX12_isOwn_58 : decode cX12_isOwn 58 = .ok (.ifCond .ne 11, 3) := by decide +kernel
theorem dX12_isOwn_61 : decode cX12_isOwn 61 = .ok (.aload_n 0, 1) := by decide +kernel
theorem dX12_isOwn_62 : decode cX12_isOwn 62 = .ok (.invokevirtual 245, 3) := by decide +kernel
theorem dX12_isOwn_65 : decode cX12_isOwn 65 = .ok (.iconst (-1), 1) := by decide +kernel
theorem dX12_isOwn_66 : decode cX12_isOwn 66 = .ok (.if_icmp .eq 7, 3) := by decide +kernel
theorem dX12_isOwn_69 : decode cX12_isOwn 69 = .ok (.iconst 1, 1) := by decide +kernel
theorem dX12_isOwn_70 : decode cX12_isOwn 70 = .ok (.goto 4, 3) := by decide +kernel
theorem dX12_isOwn_73 : decode cX12_isOwn 73 = .ok (.iconst 0, 1) := by decide +kernel
theorem dX12_isOwn_74 : decode cX12_isOwn 74 = .ok (.ireturn, 1) := by decide +kernel
def F_X12_isOwn_74 (t0 : Int32) (s0 : ae_S) : Option (Int32 × ae_S) := ae_gd (ae_zz t0) (some (t0, s0))
set_option maxHeartbeats 4000000 in
set_option maxRecDepth 100000 in
theorem t_X12_isOwn_74 {l : Launch} {G : ae_G} (d : Nat) {rr : Int32} {ss : ae_S} (t0 : Int32) (s0 : ae_S) (hF : F_X12_isOwn_74 t0 s0 = some (rr, ss)) : ae_T l G (d + 7) mX12_isOwn (ae_Po (some (ae_i rr)) ss) 74 [] [ae_i t0] s0 := by
  unfold F_X12_isOwn_74 at hF
  obtain ⟨hg1, hF2⟩ := ae_gdI hF
  obtain ⟨rfl, rfl⟩ := ae_retI hF2
  exact ae_iret dX12_isOwn_74 rfl (ae_zzN (ae_zzI hg1)) ⟨rfl, rfl⟩
def F_X12_isOwn_69 (s0 : ae_S) : Option (Int32 × ae_S) := F_X12_isOwn_74 (1 : Int32) s0
set_option maxHeartbeats 4000000 in
set_option maxRecDepth 100000 in
theorem t_X12_isOwn_69 {l : Launch} {G : ae_G} (d : Nat) {rr : Int32} {ss : ae_S} (s0 : ae_S) (hF : F_X12_isOwn_69 s0 = some (rr, ss)) : ae_T l G (d + 7) mX12_isOwn (ae_Po (some (ae_i rr)) ss) 69 [] [] s0 := by
  unfold F_X12_isOwn_69 at hF
  refine ae_iconst (1 : Int32) dX12_isOwn_69 (by decide) ?_
  refine ae_goto 74 dX12_isOwn_70 rfl ?_
  refine ae_pick (lv' := []) [] rfl ?_
  exact t_X12_isOwn_74 d (1 : Int32) s0 hF
def F_X12_isOwn (s0 : ae_S) : Option (Int32 × ae_S) := ae_bd (F_X12_isWord (0 : Fin 32) s0) (fun (r3 : Int32) s4 => if r3 = 0 then (ae_bd (F_X12_isWord (1 : Fin 32) s4) (fun (r9 : Int32) s10 => if r9 = 0 then (ae_bd (F_X12_isWord (2 : Fin 32) s10) (fun (r15 : Int32) s16 => if r15 = 0 then (ae_bd (F_X12_isWord (3 : Fin 32) s16) (fun (r21 : Int32) s22 => if r21 = 0 then (ae_bd (F_X12_accessHere s22) (fun (r27 : Int32) s28 => if 0 < r27 then (F_X12_isOwn_69 s28) else (ae_bd (F_X12_isWord (7 : Fin 32) s28) (fun (r33 : Int32) s34 => if r33 = 0 then (ae_bd (F_X12_isWord (8 : Fin 32) s34) (fun (r39 : Int32) s40 => if r39 = 0 then (ae_bd (F_X12_kindHere s40) (fun (r45 : Int32) s46 => if r45 = (-1 : Int32) then (F_X12_isOwn_74 (0 : Int32) s46) else (F_X12_isOwn_69 s46))) else (F_X12_isOwn_69 s40))) else (F_X12_isOwn_69 s34))))) else (F_X12_isOwn_69 s22))) else (F_X12_isOwn_69 s16))) else (F_X12_isOwn_69 s10))) else (F_X12_isOwn_69 s4))
set_option maxHeartbeats 4000000 in
set_option maxRecDepth 100000 in
theorem c_X12_isOwn {l : Launch} {G : ae_G} (d : Nat) {s0 ss : ae_S} {rr : Int32} (hF : F_X12_isOwn s0 = some (rr, ss)) : ae_Met l G (d + 7) yX12_isOwn mX12_isOwn [ae_r (some (30, 0))] s0 (ae_Po (some (ae_i rr)) ss) := by
  refine ae_enter (by decide) rfl (Nat.le_of_ble_eq_true rfl) ?_
  show ae_T l G (d + 7) mX12_isOwn (ae_Po (some (ae_i rr)) ss) 0 [(0, ae_r (some (30, 0)))] [] s0
  unfold F_X12_isOwn at hF
  refine ae_aload_n 0 dX12_isOwn_0 rfl ?_
  refine ae_ldcS (i := 0) (tx := "big") 25 dX12_isOwn_1 rfl ?_
  obtain ⟨r3, s4, hc5, hF6⟩ := ae_bdI hF
  refine ae_cV1 (q := (30, 0)) (As := [ae_r (some (62, 0))]) dX12_isOwn_3 ww_1537 vy_X12_isWord rfl rfl rfl rfl rfl (Nat.le_of_ble_eq_true rfl) (c_X12_isWord (d + 1) hc5) ?_
  refine ae_if_ne 69 dX12_isOwn_6 rfl (fun hb7 => ?_) (fun hb7 => ?_)
  · have hF8 := ae_ifF hb7 hF6
    refine ae_pick (lv' := []) [] rfl ?_
    exact t_X12_isOwn_69 d s4 hF8
  · have hF8 := ae_ifT hb7 hF6
    refine ae_aload_n 0 dX12_isOwn_9 rfl ?_
    refine ae_ldcS (i := 1) (tx := "at") 26 dX12_isOwn_10 rfl ?_
    obtain ⟨r9, s10, hc11, hF12⟩ := ae_bdI hF8
    refine ae_cV1 (q := (30, 0)) (As := [ae_r (some (62, 1))]) dX12_isOwn_12 ww_1537 vy_X12_isWord rfl rfl rfl rfl rfl (Nat.le_of_ble_eq_true rfl) (c_X12_isWord (d + 1) hc11) ?_
    refine ae_if_ne 69 dX12_isOwn_15 rfl (fun hb13 => ?_) (fun hb13 => ?_)
    · have hF14 := ae_ifF hb13 hF12
      refine ae_pick (lv' := []) [] rfl ?_
      exact t_X12_isOwn_69 d s10 hF14
    · have hF14 := ae_ifT hb13 hF12
      refine ae_aload_n 0 dX12_isOwn_18 rfl ?_
      refine ae_ldcS (i := 2) (tx := "x") 27 dX12_isOwn_19 rfl ?_
      obtain ⟨r15, s16, hc17, hF18⟩ := ae_bdI hF14
      refine ae_cV1 (q := (30, 0)) (As := [ae_r (some (62, 2))]) dX12_isOwn_21 ww_1537 vy_X12_isWord rfl rfl rfl rfl rfl (Nat.le_of_ble_eq_true rfl) (c_X12_isWord (d + 1) hc17) ?_
      refine ae_if_ne 69 dX12_isOwn_24 rfl (fun hb19 => ?_) (fun hb19 => ?_)
      · have hF20 := ae_ifF hb19 hF18
        refine ae_pick (lv' := []) [] rfl ?_
        exact t_X12_isOwn_69 d s16 hF20
      · have hF20 := ae_ifT hb19 hF18
        refine ae_aload_n 0 dX12_isOwn_27 rfl ?_
        refine ae_ldcS (i := 3) (tx := "by") 28 dX12_isOwn_28 rfl ?_
        obtain ⟨r21, s22, hc23, hF24⟩ := ae_bdI hF20
        refine ae_cV1 (q := (30, 0)) (As := [ae_r (some (62, 3))]) dX12_isOwn_30 ww_1537 vy_X12_isWord rfl rfl rfl rfl rfl (Nat.le_of_ble_eq_true rfl) (c_X12_isWord (d + 1) hc23) ?_
        refine ae_if_ne 69 dX12_isOwn_33 rfl (fun hb25 => ?_) (fun hb25 => ?_)
        · have hF26 := ae_ifF hb25 hF24
          refine ae_pick (lv' := []) [] rfl ?_
          exact t_X12_isOwn_69 d s22 hF26
        · have hF26 := ae_ifT hb25 hF24
          refine ae_aload_n 0 dX12_isOwn_36 rfl ?_
          obtain ⟨r27, s28, hc29, hF30⟩ := ae_bdI hF26
          refine ae_cV1 (q := (30, 0)) (As := []) dX12_isOwn_37 ww_1549 vy_X12_accessHere rfl rfl rfl rfl rfl (Nat.le_of_ble_eq_true rfl) (c_X12_accessHere d hc29) ?_
          refine ae_if_gt 69 dX12_isOwn_40 rfl (fun hb31 => ?_) (fun hb31 => ?_)
          · have hF32 := ae_ifT hb31 hF30
            refine ae_pick (lv' := []) [] rfl ?_
            exact t_X12_isOwn_69 d s28 hF32
          · have hF32 := ae_ifF hb31 hF30
            refine ae_aload_n 0 dX12_isOwn_43 rfl ?_
            refine ae_ldcS (i := 7) (tx := "if") 32 dX12_isOwn_44 rfl ?_
            obtain ⟨r33, s34, hc35, hF36⟩ := ae_bdI hF32
            refine ae_cV1 (q := (30, 0)) (As := [ae_r (some (62, 7))]) dX12_isOwn_46 ww_1537 vy_X12_isWord rfl rfl rfl rfl rfl (Nat.le_of_ble_eq_true rfl) (c_X12_isWord (d + 1) hc35) ?_
            refine ae_if_ne 69 dX12_isOwn_49 rfl (fun hb37 => ?_) (fun hb37 => ?_)
            · have hF38 := ae_ifF hb37 hF36
              refine ae_pick (lv' := []) [] rfl ?_
              exact t_X12_isOwn_69 d s34 hF38
            · have hF38 := ae_ifT hb37 hF36
              refine ae_aload_n 0 dX12_isOwn_52 rfl ?_
              refine ae_ldcS (i := 8) (tx := "fail") 33 dX12_isOwn_53 rfl ?_
              obtain ⟨r39, s40, hc41, hF42⟩ := ae_bdI hF38
              refine ae_cV1 (q := (30, 0)) (As := [ae_r (some (62, 8))]) dX12_isOwn_55 ww_1537 vy_X12_isWord rfl rfl rfl rfl rfl (Nat.le_of_ble_eq_true rfl) (c_X12_isWord (d + 1) hc41) ?_
              refine ae_if_ne 69 dX12_isOwn_58 rfl (fun hb43 => ?_) (fun hb43 => ?_)
              · have hF44 := ae_ifF hb43 hF42
                refine ae_pick (lv' := []) [] rfl ?_
                exact t_X12_isOwn_69 d s40 hF44
              · have hF44 := ae_ifT hb43 hF42
                refine ae_aload_n 0 dX12_isOwn_61 rfl ?_
                obtain ⟨r45, s46, hc47, hF48⟩ := ae_bdI hF44
                refine ae_cV1 (q := (30, 0)) (As := []) dX12_isOwn_62 ww_1558 vy_X12_kindHere rfl rfl rfl rfl rfl (Nat.le_of_ble_eq_true rfl) (c_X12_kindHere d hc47) ?_
                refine ae_iconst (-1 : Int32) dX12_isOwn_65 (by decide) ?_
                refine ae_icmp_eq 73 dX12_isOwn_66 rfl (fun hb49 => ?_) (fun hb49 => ?_)
                · have hF50 := ae_ifT hb49 hF48
                  refine ae_iconst (0 : Int32) dX12_isOwn_73 (by decide) ?_
                  refine ae_pick (lv' := []) [] rfl ?_
                  exact t_X12_isOwn_74 d (0 : Int32) s46 hF50
                · have hF50 := ae_ifF hb49 hF48
                  refine ae_pick (lv' := []) [] rfl ?_
                  exact t_X12_isOwn_69 d s46 hF50
abbrev mX12_isName : ae_M := (RX12, cX12_isName, 1, some .boolean)
theorem vy_X12_isName : ae_VY yX12_isName mX12_isName 0 := ⟨ww_1530, wq_59, ww_13, ww_1531, ⟨by decide, by decide, by decide +kernel⟩, by decide⟩
theorem dX12_isName_0 : decode cX12_isName 0 = .ok (.aload_n 0, 1) := by decide +kernel
theorem dX12_isName_1 : decode cX12_isName 1 = .ok (.getfield 143, 3) := by decide +kernel
theorem dX12_isName_4 : decode cX12_isName 4 = .ok (.iconst 1, 1) := by decide +kernel
theorem dX12_isName_5 : decode cX12_isName 5 = .ok (.if_icmp .ne 28, 3) := by decide +kernel
theorem dX12_isName_8 : decode cX12_isName 8 = .ok (.aload_n 0, 1) := by decide +kernel
theorem dX12_isName_9 : decode cX12_isName 9 = .ok (.getfield 133, 3) := by decide +kernel
theorem dX12_isName_12 : decode cX12_isName 12 = .ok (.aload_n 0, 1) := by decide +kernel
theorem dX12_isName_13 : decode cX12_isName 13 = .ok (.getfield 140, 3) := by decide +kernel
theorem dX12_isName_16 : decode cX12_isName 16 = .ok (.isub, 1) := by decide +kernel
theorem dX12_isName_17 : decode cX12_isName 17 = .ok (.bipush 6, 2) := by decide +kernel
theorem dX12_isName_19 : decode cX12_isName 19 = .ok (.if_icmp .gt 14, 3) := by decide +kernel
theorem dX12_isName_22 : decode cX12_isName 22 = .ok (.aload_n 0, 1) := by decide +kernel
theorem dX12_isName_23 : decode cX12_isName 23 = .ok (.invokevirtual 248, 3) := by decide +kernel
theorem dX12_isName_26 : decode cX12_isName 26 = .ok (.ifCond .ne 7, 3) := by decide +kernel
theorem dX12_isName_29 : decode cX12_isName 29 = .ok (.iconst 1, 1) := by decide +kernel
theorem dX12_isName_30 : decode cX12_isName 30 = .ok (.goto 4, 3) := by decide +kernel
theorem dX12_isName_33 : decode cX12_isName 33 = .ok (.iconst 0, 1) := by decide +kernel
theorem dX12_isName_34 : decode cX12_isName 34 = .ok (.ireturn, 1) := by decide +kernel
def F_X12_isName_34 (t0 : Int32) (s0 : ae_S) : Option (Int32 × ae_S) := ae_gd (ae_zz t0) (some (t0, s0))
set_option maxHeartbeats 4000000 in
set_option maxRecDepth 100000 in
theorem t_X12_isName_34 {l : Launch} {G : ae_G} (d : Nat) {rr : Int32} {ss : ae_S} (t0 : Int32) (s0 : ae_S) (hF : F_X12_isName_34 t0 s0 = some (rr, ss)) : ae_T l G (d + 8) mX12_isName (ae_Po (some (ae_i rr)) ss) 34 [] [ae_i t0] s0 := by
  unfold F_X12_isName_34 at hF
  obtain ⟨hg1, hF2⟩ := ae_gdI hF
  obtain ⟨rfl, rfl⟩ := ae_retI hF2
  exact ae_iret dX12_isName_34 rfl (ae_zzN (ae_zzI hg1)) ⟨rfl, rfl⟩
def F_X12_isName_33 (s0 : ae_S) : Option (Int32 × ae_S) := F_X12_isName_34 (0 : Int32) s0
set_option maxHeartbeats 4000000 in
set_option maxRecDepth 100000 in
theorem t_X12_isName_33 {l : Launch} {G : ae_G} (d : Nat) {rr : Int32} {ss : ae_S} (s0 : ae_S) (hF : F_X12_isName_33 s0 = some (rr, ss)) : ae_T l G (d + 8) mX12_isName (ae_Po (some (ae_i rr)) ss) 33 [] [] s0 := by
  unfold F_X12_isName_33 at hF
  refine ae_iconst (0 : Int32) dX12_isName_33 (by decide) ?_
  refine ae_pick (lv' := []) [] rfl ?_
  exact t_X12_isName_34 d (0 : Int32) s0 hF
def F_X12_isName (s0 : ae_S) : Option (Int32 × ae_S) := if (s0.1 30 0 25) = (1 : Int32) then (if (6 : Int32) < ((s0.1 30 0 27) - (s0.1 30 0 26)) then (F_X12_isName_33 s0) else (ae_bd (F_X12_isOwn s0) (fun (r7 : Int32) s8 => if r7 = 0 then (F_X12_isName_34 (1 : Int32) s8) else (F_X12_isName_33 s8)))) else (F_X12_isName_33 s0)
set_option maxHeartbeats 4000000 in
set_option maxRecDepth 100000 in
theorem c_X12_isName {l : Launch} {G : ae_G} (d : Nat) {s0 ss : ae_S} {rr : Int32} (hF : F_X12_isName s0 = some (rr, ss)) : ae_Met l G (d + 8) yX12_isName mX12_isName [ae_r (some (30, 0))] s0 (ae_Po (some (ae_i rr)) ss) := by
  refine ae_enter (by decide) rfl (Nat.le_of_ble_eq_true rfl) ?_
  show ae_T l G (d + 8) mX12_isName (ae_Po (some (ae_i rr)) ss) 0 [(0, ae_r (some (30, 0)))] [] s0
  unfold F_X12_isName at hF
  refine ae_aload_n 0 dX12_isName_0 rfl ?_
  refine ae_getI (q := (30, 0)) dX12_isName_1 fl_RX12_143 rfl rfl ?_
  refine ae_iconst (1 : Int32) dX12_isName_4 (by decide) ?_
  refine ae_icmp_ne 33 dX12_isName_5 rfl (fun hb3 => ?_) (fun hb3 => ?_)
  · have hF4 := ae_ifF hb3 hF
    refine ae_pick (lv' := []) [] rfl ?_
    exact t_X12_isName_33 d s0 hF4
  · have hF4 := ae_ifT hb3 hF
    refine ae_aload_n 0 dX12_isName_8 rfl ?_
    refine ae_getI (q := (30, 0)) dX12_isName_9 fl_RX12_133 rfl rfl ?_
    refine ae_aload_n 0 dX12_isName_12 rfl ?_
    refine ae_getI (q := (30, 0)) dX12_isName_13 fl_RX12_140 rfl rfl ?_
    refine ae_isub dX12_isName_16 ?_
    refine ae_bipush (6 : Int32) dX12_isName_17 (by decide) ?_
    refine ae_icmp_gt 33 dX12_isName_19 rfl (fun hb5 => ?_) (fun hb5 => ?_)
    · have hF6 := ae_ifT hb5 hF4
      refine ae_pick (lv' := []) [] rfl ?_
      exact t_X12_isName_33 d s0 hF6
    · have hF6 := ae_ifF hb5 hF4
      refine ae_aload_n 0 dX12_isName_22 rfl ?_
      obtain ⟨r7, s8, hc9, hF10⟩ := ae_bdI hF6
      refine ae_cV1 (q := (30, 0)) (As := []) dX12_isName_23 ww_1532 vy_X12_isOwn rfl rfl rfl rfl rfl (Nat.le_of_ble_eq_true rfl) (c_X12_isOwn d hc9) ?_
      refine ae_if_ne 33 dX12_isName_26 rfl (fun hb11 => ?_) (fun hb11 => ?_)
      · have hF12 := ae_ifF hb11 hF10
        refine ae_pick (lv' := []) [] rfl ?_
        exact t_X12_isName_33 d s8 hF12
      · have hF12 := ae_ifT hb11 hF10
        refine ae_iconst (1 : Int32) dX12_isName_29 (by decide) ?_
        refine ae_goto 34 dX12_isName_30 rfl ?_
        refine ae_pick (lv' := []) [] rfl ?_
        exact t_X12_isName_34 d (1 : Int32) s8 hF12
abbrev mX12_isSign : ae_M := (RX12, cX12_isSign, 2, some .boolean)
theorem vy_X12_isSign : ae_VY yX12_isSign mX12_isSign 1 := ⟨ww_1600, wq_69, ww_13, ww_1601, ⟨by decide, by decide, by decide +kernel⟩, by decide⟩
theorem dX12_isSign_0 : decode cX12_isSign 0 = .ok (.aload_n 0, 1) := by decide +kernel
theorem dX12_isSign_1 : decode cX12_isSign 1 = .ok (.getfield 143, 3) := by decide +kernel
theorem dX12_isSign_4 : decode cX12_isSign 4 = .ok (.iconst 3, 1) := by decide +kernel
theorem dX12_isSign_5 : decode cX12_isSign 5 = .ok (.if_icmp .ne 15, 3) := by decide +kernel
theorem dX12_isSign_8 : decode cX12_isSign 8 = .ok (.aload_n 0, 1) := by decide +kernel
theorem dX12_isSign_9 : decode cX12_isSign 9 = .ok (.getfield 166, 3) := by decide +kernel
theorem dX12_isSign_12 : decode cX12_isSign 12 = .ok (.iload_n 1, 1) := by decide +kernel
theorem dX12_isSign_13 : decode cX12_isSign 13 = .ok (.if_icmp .ne 7, 3) := by decide +kernel
theorem dX12_isSign_16 : decode cX12_isSign 16 = .ok (.iconst 1, 1) := by decide +kernel
theorem dX12_isSign_17 : decode cX12_isSign 17 = .ok (.goto 4, 3) := by decide +kernel
theorem dX12_isSign_20 : decode cX12_isSign 20 = .ok (.iconst 0, 1) := by decide +kernel
theorem dX12_isSign_21 : decode cX12_isSign 21 = .ok (.ireturn, 1) := by decide +kernel
def F_X12_isSign_21 (t0 : Int32) (s0 : ae_S) : Option (Int32 × ae_S) := ae_gd (ae_zz t0) (some (t0, s0))
set_option maxHeartbeats 4000000 in
set_option maxRecDepth 100000 in
theorem t_X12_isSign_21 {l : Launch} {G : ae_G} (d : Nat) {rr : Int32} {ss : ae_S} (t0 : Int32) (s0 : ae_S) (hF : F_X12_isSign_21 t0 s0 = some (rr, ss)) : ae_T l G d mX12_isSign (ae_Po (some (ae_i rr)) ss) 21 [] [ae_i t0] s0 := by
  unfold F_X12_isSign_21 at hF
  obtain ⟨hg1, hF2⟩ := ae_gdI hF
  obtain ⟨rfl, rfl⟩ := ae_retI hF2
  exact ae_iret dX12_isSign_21 rfl (ae_zzN (ae_zzI hg1)) ⟨rfl, rfl⟩
def F_X12_isSign_20 (s0 : ae_S) : Option (Int32 × ae_S) := F_X12_isSign_21 (0 : Int32) s0
set_option maxHeartbeats 4000000 in
set_option maxRecDepth 100000 in
theorem t_X12_isSign_20 {l : Launch} {G : ae_G} (d : Nat) {rr : Int32} {ss : ae_S} (s0 : ae_S) (hF : F_X12_isSign_20 s0 = some (rr, ss)) : ae_T l G d mX12_isSign (ae_Po (some (ae_i rr)) ss) 20 [] [] s0 := by
  unfold F_X12_isSign_20 at hF
  refine ae_iconst (0 : Int32) dX12_isSign_20 (by decide) ?_
  refine ae_pick (lv' := []) [] rfl ?_
  exact t_X12_isSign_21 d (0 : Int32) s0 hF
def F_X12_isSign (v1 : Int32) (s0 : ae_S) : Option (Int32 × ae_S) := if (s0.1 30 0 25) = (3 : Int32) then (if (s0.1 30 0 31) = v1 then (F_X12_isSign_21 (1 : Int32) s0) else (F_X12_isSign_20 s0)) else (F_X12_isSign_20 s0)
set_option maxHeartbeats 4000000 in
set_option maxRecDepth 100000 in
theorem c_X12_isSign {l : Launch} {G : ae_G} (d : Nat) {v1 : Int32} {s0 ss : ae_S} {rr : Int32} (hF : F_X12_isSign v1 s0 = some (rr, ss)) : ae_Met l G d yX12_isSign mX12_isSign [ae_r (some (30, 0)), ae_i v1] s0 (ae_Po (some (ae_i rr)) ss) := by
  refine ae_enter (by decide) rfl (Nat.le_of_ble_eq_true rfl) ?_
  show ae_T l G d mX12_isSign (ae_Po (some (ae_i rr)) ss) 0 [(0, ae_r (some (30, 0))), (1, ae_i v1)] [] s0
  unfold F_X12_isSign at hF
  refine ae_aload_n 0 dX12_isSign_0 rfl ?_
  refine ae_getI (q := (30, 0)) dX12_isSign_1 fl_RX12_143 rfl rfl ?_
  refine ae_iconst (3 : Int32) dX12_isSign_4 (by decide) ?_
  refine ae_icmp_ne 20 dX12_isSign_5 rfl (fun hb3 => ?_) (fun hb3 => ?_)
  · have hF4 := ae_ifF hb3 hF
    refine ae_pick (lv' := []) [] rfl ?_
    exact t_X12_isSign_20 d s0 hF4
  · have hF4 := ae_ifT hb3 hF
    refine ae_aload_n 0 dX12_isSign_8 rfl ?_
    refine ae_getI (q := (30, 0)) dX12_isSign_9 fl_RX12_166 rfl rfl ?_
    refine ae_iload_n 1 dX12_isSign_12 rfl ?_
    refine ae_icmp_ne 20 dX12_isSign_13 rfl (fun hb5 => ?_) (fun hb5 => ?_)
    · have hF6 := ae_ifF hb5 hF4
      refine ae_pick (lv' := []) [] rfl ?_
      exact t_X12_isSign_20 d s0 hF6
    · have hF6 := ae_ifT hb5 hF4
      refine ae_iconst (1 : Int32) dX12_isSign_16 (by decide) ?_
      refine ae_goto 21 dX12_isSign_17 rfl ?_
      refine ae_pick (lv' := []) [] rfl ?_
      exact t_X12_isSign_21 d (1 : Int32) s0 hF6
abbrev mX12_isDigit : ae_M := (RX12, cX12_isDigit, 1, some .boolean)
theorem vy_X12_isDigit : ae_SY yX12_isDigit mX12_isDigit 1 := ⟨ww_1520, ww_13, ww_1521, ⟨by decide, by decide, by decide +kernel⟩, by decide⟩
theorem dX12_isDigit_0 : decode cX12_isDigit 0 = .ok (.iload_n 0, 1) := by decide +kernel
theorem dX12_isDigit_1 : decode cX12_isDigit 1 = .ok (.bipush 48, 2) := by decide +kernel
theorem dX12_isDigit_3 : decode cX12_isDigit 3 = .ok (.if_icmp .lt 13, 3) := by decide +kernel
theorem dX12_isDigit_6 : decode cX12_isDigit 6 = .ok (.iload_n 0, 1) := by decide +kernel
theorem dX12_isDigit_7 : decode cX12_isDigit 7 = .ok (.bipush 57, 2) := by decide +kernel
theorem dX12_isDigit_9 : decode cX12_isDigit 9 = .ok (.if_icmp .gt 7, 3) := by decide +kernel
theorem dX12_isDigit_12 : decode cX12_isDigit 12 = .ok (.iconst 1, 1) := by decide +kernel
theorem dX12_isDigit_13 : decode cX12_isDigit 13 = .ok (.goto 4, 3) := by decide +kernel
theorem dX12_isDigit_16 : decode cX12_isDigit 16 = .ok (.iconst 0, 1) := by decide +kernel
theorem dX12_isDigit_17 : decode cX12_isDigit 17 = .ok (.ireturn, 1) := by decide +kernel
def F_X12_isDigit_17 (t0 : Int32) (s0 : ae_S) : Option (Int32 × ae_S) := ae_gd (ae_zz t0) (some (t0, s0))
set_option maxHeartbeats 4000000 in
set_option maxRecDepth 100000 in
theorem t_X12_isDigit_17 {l : Launch} {G : ae_G} (d : Nat) {rr : Int32} {ss : ae_S} (t0 : Int32) (s0 : ae_S) (hF : F_X12_isDigit_17 t0 s0 = some (rr, ss)) : ae_T l G d mX12_isDigit (ae_Po (some (ae_i rr)) ss) 17 [] [ae_i t0] s0 := by
  unfold F_X12_isDigit_17 at hF
  obtain ⟨hg1, hF2⟩ := ae_gdI hF
  obtain ⟨rfl, rfl⟩ := ae_retI hF2
  exact ae_iret dX12_isDigit_17 rfl (ae_zzN (ae_zzI hg1)) ⟨rfl, rfl⟩
def F_X12_isDigit_16 (s0 : ae_S) : Option (Int32 × ae_S) := F_X12_isDigit_17 (0 : Int32) s0
set_option maxHeartbeats 4000000 in
set_option maxRecDepth 100000 in
theorem t_X12_isDigit_16 {l : Launch} {G : ae_G} (d : Nat) {rr : Int32} {ss : ae_S} (s0 : ae_S) (hF : F_X12_isDigit_16 s0 = some (rr, ss)) : ae_T l G d mX12_isDigit (ae_Po (some (ae_i rr)) ss) 16 [] [] s0 := by
  unfold F_X12_isDigit_16 at hF
  refine ae_iconst (0 : Int32) dX12_isDigit_16 (by decide) ?_
  refine ae_pick (lv' := []) [] rfl ?_
  exact t_X12_isDigit_17 d (0 : Int32) s0 hF
def F_X12_isDigit (v0 : Int32) (s0 : ae_S) : Option (Int32 × ae_S) := if v0 < (48 : Int32) then (F_X12_isDigit_16 s0) else (if (57 : Int32) < v0 then (F_X12_isDigit_16 s0) else (F_X12_isDigit_17 (1 : Int32) s0))
set_option maxHeartbeats 4000000 in
set_option maxRecDepth 100000 in
theorem c_X12_isDigit {l : Launch} {G : ae_G} (d : Nat) {v0 : Int32} {s0 ss : ae_S} {rr : Int32} (hF : F_X12_isDigit v0 s0 = some (rr, ss)) : ae_Met l G d yX12_isDigit mX12_isDigit [ae_i v0] s0 (ae_Po (some (ae_i rr)) ss) := by
  refine ae_enter (by decide) rfl (Nat.le_of_ble_eq_true rfl) ?_
  show ae_T l G d mX12_isDigit (ae_Po (some (ae_i rr)) ss) 0 [(0, ae_i v0)] [] s0
  unfold F_X12_isDigit at hF
  refine ae_iload_n 0 dX12_isDigit_0 rfl ?_
  refine ae_bipush (48 : Int32) dX12_isDigit_1 (by decide) ?_
  refine ae_icmp_lt 16 dX12_isDigit_3 rfl (fun hb3 => ?_) (fun hb3 => ?_)
  · have hF4 := ae_ifT hb3 hF
    refine ae_pick (lv' := []) [] rfl ?_
    exact t_X12_isDigit_16 d s0 hF4
  · have hF4 := ae_ifF hb3 hF
    refine ae_iload_n 0 dX12_isDigit_6 rfl ?_
    refine ae_bipush (57 : Int32) dX12_isDigit_7 (by decide) ?_
    refine ae_icmp_gt 16 dX12_isDigit_9 rfl (fun hb5 => ?_) (fun hb5 => ?_)
    · have hF6 := ae_ifT hb5 hF4
      refine ae_pick (lv' := []) [] rfl ?_
      exact t_X12_isDigit_16 d s0 hF6
    · have hF6 := ae_ifF hb5 hF4
      refine ae_iconst (1 : Int32) dX12_isDigit_12 (by decide) ?_
      refine ae_goto 17 dX12_isDigit_13 rfl ?_
      refine ae_pick (lv' := []) [] rfl ?_
      exact t_X12_isDigit_17 d (1 : Int32) s0 hF6
abbrev mX12_isLetter : ae_M := (RX12, cX12_isLetter, 1, some .boolean)
theorem vy_X12_isLetter : ae_SY yX12_isLetter mX12_isLetter 1 := ⟨ww_1517, ww_13, ww_1518, ⟨by decide, by decide, by decide +kernel⟩, by decide⟩
theorem dX12_isLetter_0 : decode cX12_isLetter 0 = .ok (.iload_n 0, 1) := by decide +kernel
theorem dX12_isLetter_1 : decode cX12_isLetter 1 = .ok (.bipush 97, 2) := by decide +kernel
theorem dX12_isLetter_3 : decode cX12_isLetter 3 = .ok (.if_icmp .lt 13, 3) := by decide +kernel
theorem dX12_isLetter_6 : decode cX12_isLetter 6 = .ok (.iload_n 0, 1) := by decide +kernel
theorem dX12_isLetter_7 : decode cX12_isLetter 7 = .ok (.bipush 122, 2) := by decide +kernel
theorem dX12_isLetter_9 : decode cX12_isLetter 9 = .ok (.if_icmp .gt 7, 3) := by decide +kernel
theorem dX12_isLetter_12 : decode cX12_isLetter 12 = .ok (.iconst 1, 1) := by decide +kernel
theorem dX12_isLetter_13 : decode cX12_isLetter 13 = .ok (.goto 4, 3) := by decide +kernel
theorem dX12_isLetter_16 : decode cX12_isLetter 16 = .ok (.iconst 0, 1) := by decide +kernel
theorem dX12_isLetter_17 : decode cX12_isLetter 17 = .ok (.ireturn, 1) := by decide +kernel
def F_X12_isLetter_17 (t0 : Int32) (s0 : ae_S) : Option (Int32 × ae_S) := ae_gd (ae_zz t0) (some (t0, s0))
set_option maxHeartbeats 4000000 in
set_option maxRecDepth 100000 in
theorem t_X12_isLetter_17 {l : Launch} {G : ae_G} (d : Nat) {rr : Int32} {ss : ae_S} (t0 : Int32) (s0 : ae_S) (hF : F_X12_isLetter_17 t0 s0 = some (rr, ss)) : ae_T l G d mX12_isLetter (ae_Po (some (ae_i rr)) ss) 17 [] [ae_i t0] s0 := by
  unfold F_X12_isLetter_17 at hF
  obtain ⟨hg1, hF2⟩ := ae_gdI hF
  obtain ⟨rfl, rfl⟩ := ae_retI hF2
  exact ae_iret dX12_isLetter_17 rfl (ae_zzN (ae_zzI hg1)) ⟨rfl, rfl⟩
def F_X12_isLetter_16 (s0 : ae_S) : Option (Int32 × ae_S) := F_X12_isLetter_17 (0 : Int32) s0
set_option maxHeartbeats 4000000 in
set_option maxRecDepth 100000 in
theorem t_X12_isLetter_16 {l : Launch} {G : ae_G} (d : Nat) {rr : Int32} {ss : ae_S} (s0 : ae_S) (hF : F_X12_isLetter_16 s0 = some (rr, ss)) : ae_T l G d mX12_isLetter (ae_Po (some (ae_i rr)) ss) 16 [] [] s0 := by
  unfold F_X12_isLetter_16 at hF
  refine ae_iconst (0 : Int32) dX12_isLetter_16 (by decide) ?_
  refine ae_pick (lv' := []) [] rfl ?_
  exact t_X12_isLetter_17 d (0 : Int32) s0 hF
def F_X12_isLetter (v0 : Int32) (s0 : ae_S) : Option (Int32 × ae_S) := if v0 < (97 : Int32) then (F_X12_isLetter_16 s0) else (if (122 : Int32) < v0 then (F_X12_isLetter_16 s0) else (F_X12_isLetter_17 (1 : Int32) s0))
set_option maxHeartbeats 4000000 in
set_option maxRecDepth 100000 in
theorem c_X12_isLetter {l : Launch} {G : ae_G} (d : Nat) {v0 : Int32} {s0 ss : ae_S} {rr : Int32} (hF : F_X12_isLetter v0 s0 = some (rr, ss)) : ae_Met l G d yX12_isLetter mX12_isLetter [ae_i v0] s0 (ae_Po (some (ae_i rr)) ss) := by
  refine ae_enter (by decide) rfl (Nat.le_of_ble_eq_true rfl) ?_
  show ae_T l G d mX12_isLetter (ae_Po (some (ae_i rr)) ss) 0 [(0, ae_i v0)] [] s0
  unfold F_X12_isLetter at hF
  refine ae_iload_n 0 dX12_isLetter_0 rfl ?_
  refine ae_bipush (97 : Int32) dX12_isLetter_1 (by decide) ?_
  refine ae_icmp_lt 16 dX12_isLetter_3 rfl (fun hb3 => ?_) (fun hb3 => ?_)
  · have hF4 := ae_ifT hb3 hF
    refine ae_pick (lv' := []) [] rfl ?_
    exact t_X12_isLetter_16 d s0 hF4
  · have hF4 := ae_ifF hb3 hF
    refine ae_iload_n 0 dX12_isLetter_6 rfl ?_
    refine ae_bipush (122 : Int32) dX12_isLetter_7 (by decide) ?_
    refine ae_icmp_gt 16 dX12_isLetter_9 rfl (fun hb5 => ?_) (fun hb5 => ?_)
    · have hF6 := ae_ifT hb5 hF4
      refine ae_pick (lv' := []) [] rfl ?_
      exact t_X12_isLetter_16 d s0 hF6
    · have hF6 := ae_ifF hb5 hF4
      refine ae_iconst (1 : Int32) dX12_isLetter_12 (by decide) ?_
      refine ae_goto 17 dX12_isLetter_13 rfl ?_
      refine ae_pick (lv' := []) [] rfl ?_
      exact t_X12_isLetter_17 d (1 : Int32) s0 hF6
abbrev mX12_see : ae_M := (RX12, cX12_see, 2, some .int)
theorem vy_X12_see : ae_VY yX12_see mX12_see 1 := ⟨ww_1514, wq_57, ww_13, ww_1515, ⟨by decide, by decide, by decide +kernel⟩, by decide⟩
theorem dX12_see_0 : decode cX12_see 0 = .ok (.iload_n 1, 1) := by decide +kernel
theorem dX12_see_1 : decode cX12_see 1 = .ok (.aload_n 0, 1) := by decide +kernel
theorem dX12_see_2 : decode cX12_see 2 = .ok (.getfield 126, 3) := by decide +kernel
theorem dX12_see_5 : decode cX12_see 5 = .ok (.if_icmp .ge 12, 3) := by decide +kernel
theorem dX12_see_8 : decode cX12_see 8 = .ok (.aload_n 0, 1) := by decide +kernel
theorem dX12_see_9 : decode cX12_see 9 = .ok (.getfield 59, 3) := by decide +kernel
theorem dX12_see_12 : decode cX12_see 12 = .ok (.iload_n 1, 1) := by decide +kernel
theorem dX12_see_13 : decode cX12_see 13 = .ok (.iaload, 1) := by decide +kernel
theorem dX12_see_14 : decode cX12_see 14 = .ok (.goto 4, 3) := by decide +kernel
theorem dX12_see_17 : decode cX12_see 17 = .ok (.iconst (-1), 1) := by decide +kernel
theorem dX12_see_18 : decode cX12_see 18 = .ok (.ireturn, 1) := by decide +kernel
def F_X12_see_18 (t0 : Int32) (s0 : ae_S) : Option (Int32 × ae_S) := some (t0, s0)
set_option maxHeartbeats 4000000 in
set_option maxRecDepth 100000 in
theorem t_X12_see_18 {l : Launch} {G : ae_G} (d : Nat) {rr : Int32} {ss : ae_S} (t0 : Int32) (s0 : ae_S) (hF : F_X12_see_18 t0 s0 = some (rr, ss)) : ae_T l G d mX12_see (ae_Po (some (ae_i rr)) ss) 18 [] [ae_i t0] s0 := by
  unfold F_X12_see_18 at hF
  obtain ⟨rfl, rfl⟩ := ae_retI hF
  exact ae_iret dX12_see_18 rfl rfl ⟨rfl, rfl⟩
def F_X12_see (v1 : Int32) (s0 : ae_S) : Option (Int32 × ae_S) := if (s0.1 30 0 20) ≤ v1 then (F_X12_see_18 (-1 : Int32) s0) else (ae_gd (ae_ib v1 500) (F_X12_see_18 (s0.1 46 0 v1.toNatClampNeg) s0))
set_option maxHeartbeats 4000000 in
set_option maxRecDepth 100000 in
theorem c_X12_see {l : Launch} {G : ae_G} (d : Nat) {v1 : Int32} {s0 ss : ae_S} {rr : Int32} (hF : F_X12_see v1 s0 = some (rr, ss)) : ae_Met l G d yX12_see mX12_see [ae_r (some (30, 0)), ae_i v1] s0 (ae_Po (some (ae_i rr)) ss) := by
  refine ae_enter (by decide) rfl (Nat.le_of_ble_eq_true rfl) ?_
  show ae_T l G d mX12_see (ae_Po (some (ae_i rr)) ss) 0 [(0, ae_r (some (30, 0))), (1, ae_i v1)] [] s0
  unfold F_X12_see at hF
  refine ae_iload_n 1 dX12_see_0 rfl ?_
  refine ae_aload_n 0 dX12_see_1 rfl ?_
  refine ae_getI (q := (30, 0)) dX12_see_2 fl_RX12_126 rfl rfl ?_
  refine ae_icmp_ge 17 dX12_see_5 rfl (fun hb1 => ?_) (fun hb1 => ?_)
  · have hF2 := ae_ifT hb1 hF
    refine ae_iconst (-1 : Int32) dX12_see_17 (by decide) ?_
    refine ae_pick (lv' := []) [] rfl ?_
    exact t_X12_see_18 d (-1 : Int32) s0 hF2
  · have hF2 := ae_ifF hb1 hF
    refine ae_aload_n 0 dX12_see_8 rfl ?_
    refine ae_getA (q := (30, 0)) (some (46, 0)) dX12_see_9 fl_RX12_59 rfl rfl rfl ?_
    refine ae_iload_n 1 dX12_see_12 rfl ?_
    obtain ⟨hg3, hF4⟩ := ae_gdI hF2
    refine ae_iald (q := (46, 0)) dX12_see_13 rfl rfl (ae_ibI hg3) ?_
    refine ae_goto 18 dX12_see_14 rfl ?_
    refine ae_pick (lv' := []) [] rfl ?_
    exact t_X12_see_18 d (s0.1 46 0 v1.toNatClampNeg) s0 hF4
abbrev mX12_next : ae_M := (RX12, cX12_next, 2, none)
theorem vy_X12_next : ae_VY yX12_next mX12_next 0 := ⟨ww_1510, wq_56, ww_13, ww_1511, ⟨by decide, by decide, by decide +kernel⟩, by decide⟩
theorem dX12_next_0 : decode cX12_next 0 = .ok (.aload_n 0, 1) := by decide +kernel
theorem dX12_next_1 : decode cX12_next 1 = .ok (.aload_n 0, 1) := by decide +kernel
theorem dX12_next_2 : decode cX12_next 2 = .ok (.getfield 133, 3) := by decide +kernel
theorem dX12_next_5 : decode cX12_next 5 = .ok (.invokevirtual 136, 3) := by decide +kernel
theorem dX12_next_8 : decode cX12_next 8 = .ok (.bipush 32, 2) := by decide +kernel
theorem dX12_next_10 : decode cX12_next 10 = .ok (.if_icmp .eq 16, 3) := by decide +kernel
theorem dX12_next_13 : decode cX12_next 13 = .ok (.aload_n 0, 1) := by decide +kernel
theorem dX12_next_14 : decode cX12_next 14 = .ok (.aload_n 0, 1) := by decide +kernel
theorem dX12_next_15 : decode cX12_next 15 = .ok (.getfield 133, 3) := by decide +kernel
theorem dX12_next_18 : decode cX12_next 18 = .ok (.invokevirtual 136, 3) := by decide +kernel
theorem dX12_next_21 : decode cX12_next 21 = .ok (.bipush 10, 2) := by decide +kernel
theorem dX12_next_23 : decode cX12_next 23 = .ok (.if_icmp .ne 16, 3) := by decide +kernel
theorem dX12_next_26 : decode cX12_next 26 = .ok (.aload_n 0, 1) := by decide +kernel
theorem dX12_next_27 : decode cX12_next 27 = .ok (.dup, 1) := by decide +kernel
theorem dX12_next_28 : decode cX12_next 28 = .ok (.getfield 133, 3) := by decide +kernel
theorem dX12_next_31 : decode cX12_next 31 = .ok (.iconst 1, 1) := by decide +kernel
theorem dX12_next_32 : decode cX12_next 32 = .ok (.iadd, 1) := by decide +kernel
theorem dX12_next_33 : decode cX12_next 33 = .ok (.putfield 133, 3) := by decide +kernel
theorem dX12_next_36 : decode cX12_next 36 = .ok (.goto (-36), 3) := by decide +kernel
theorem dX12_next_39 : decode cX12_next 39 = .ok (.aload_n 0, 1) := by decide +kernel
theorem dX12_next_40 : decode cX12_next 40 = .ok (.aload_n 0, 1) := by decide +kernel
theorem dX12_next_41 : decode cX12_next 41 = .ok (.getfield 133, 3) := by decide +kernel
theorem dX12_next_44 : decode cX12_next 44 = .ok (.putfield 140, 3) := by decide +kernel
theorem dX12_next_47 : decode cX12_next 47 = .ok (.aload_n 0, 1) := by decide +kernel
theorem dX12_next_48 : decode cX12_next 48 = .ok (.aload_n 0, 1) := by decide +kernel
theorem dX12_next_49 : decode cX12_next 49 = .ok (.getfield 133, 3) := by decide +kernel
theorem dX12_next_52 : decode cX12_next 52 = .ok (.invokevirtual 136, 3) := by decide +kernel
theorem dX12_next_55 : decode cX12_next 55 = .ok (.istore_n 1, 1) := by decide +kernel
theorem dX12_next_56 : decode cX12_next 56 = .ok (.iload_n 1, 1) := by decide +kernel
theorem dX12_next_57 : decode cX12_next 57 = .ok (.iconst (-1), 1) := by decide +kernel
theorem dX12_next_58 : decode cX12_next 58 = .ok (.if_icmp .ne 11, 3) := by decide +kernel
theorem dX12_next_61 : decode cX12_next 61 = .ok (.aload_n 0, 1) := by decide +kernel
theorem dX12_next_62 : decode cX12_next 62 = .ok (.iconst 0, 1) := by decide +kernel
theorem dX12_next_63 : decode cX12_next 63 = .ok (.putfield 143, 3) := by decide +kernel
theorem dX12_next_66 : decode cX12_next 66 = .ok (.goto 242, 3) := by decide +kernel
theorem dX12_next_69 : decode cX12_next 69 = .ok (.iload_n 1, 1) := by decide +kernel
theorem dX12_next_70 : decode cX12_next 70 = .ok (.invokestatic 146, 3) := by decide +kernel
theorem dX12_next_73 : decode cX12_next 73 = .ok (.ifCond .eq 115, 3) := by decide +kernel
theorem dX12_next_76 : decode cX12_next 76 = .ok (.aload_n 0, 1) := by decide +kernel
theorem dX12_next_77 : decode cX12_next 77 = .ok (.iconst 1, 1) := by decide +kernel
theorem dX12_next_78 : decode cX12_next 78 = .ok (.putfield 143, 3) := by decide +kernel
theorem dX12_next_81 : decode cX12_next 81 = .ok (.aload_n 0, 1) := by decide +kernel
theorem dX12_next_82 : decode cX12_next 82 = .ok (.lconst 0, 1) := by decide +kernel
theorem dX12_next_83 : decode cX12_next 83 = .ok (.putfield 149, 3) := by decide +kernel
theorem dX12_next_86 : decode cX12_next 86 = .ok (.aload_n 0, 1) := by decide +kernel
theorem dX12_next_87 : decode cX12_next 87 = .ok (.aload_n 0, 1) := by decide +kernel
theorem dX12_next_88 : decode cX12_next 88 = .ok (.getfield 133, 3) := by decide +kernel
theorem dX12_next_91 : decode cX12_next 91 = .ok (.invokevirtual 136, 3) := by decide +kernel
theorem dX12_next_94 : decode cX12_next 94 = .ok (.invokestatic 146, 3) := by decide +kernel
theorem dX12_next_97 : decode cX12_next 97 = .ok (.ifCond .ne 17, 3) := by decide +kernel
theorem dX12_next_100 : decode cX12_next 100 = .ok (.aload_n 0, 1) := by decide +kernel
theorem dX12_next_101 : decode cX12_next 101 = .ok (.aload_n 0, 1) := by decide +kernel
theorem dX12_next_102 : decode cX12_next 102 = .ok (.getfield 133, 3) := by decide +kernel
theorem dX12_next_105 : decode cX12_next 105 = .ok (.invokevirtual 136, 3) := by decide +kernel
theorem dX12_next_108 : decode cX12_next 108 = .ok (.invokestatic 153, 3) := by decide +kernel
theorem dX12_next_111 : decode cX12_next 111 = .ok (.ifCond .eq 55, 3) := by decide +kernel
theorem dX12_next_114 : decode cX12_next 114 = .ok (.aload_n 0, 1) := by decide +kernel
theorem dX12_next_115 : decode cX12_next 115 = .ok (.aload_n 0, 1) := by decide +kernel
theorem dX12_next_116 : decode cX12_next 116 = .ok (.getfield 133, 3) := by decide +kernel
theorem dX12_next_119 : decode cX12_next 119 = .ok (.aload_n 0, 1) := by decide +kernel
theorem dX12_next_120 : decode cX12_next 120 = .ok (.getfield 140, 3) := by decide +kernel
theorem dX12_next_123 : decode cX12_next 123 = .ok (.isub, 1) := by decide +kernel
theorem dX12_next_124 : decode cX12_next 124 = .ok (.bipush 7, 2) := by decide +kernel
theorem dX12_next_126 : decode cX12_next 126 = .ok (.if_icmp .ge 23, 3) := by decide +kernel
theorem dX12_next_129 : decode cX12_next 129 = .ok (.aload_n 0, 1) := by decide +kernel
theorem dX12_next_130 : decode cX12_next 130 = .ok (.getfield 149, 3) := by decide +kernel
theorem dX12_next_133 : decode cX12_next 133 = .ok (.bipush 8, 2) := by decide +kernel
theorem dX12_next_135 : decode cX12_next 135 = .ok (.lshl, 1) := by decide +kernel
theorem dX12_next_136 : decode cX12_next 136 = .ok (.aload_n 0, 1) := by decide +kernel
theorem dX12_next_137 : decode cX12_next 137 = .ok (.aload_n 0, 1) := by decide +kernel
theorem dX12_next_138 : decode cX12_next 138 = .ok (.getfield 133, 3) := by decide +kernel
theorem dX12_next_141 : decode cX12_next 141 = .ok (.invokevirtual 136, 3) := by decide +kernel
theorem dX12_next_144 : decode cX12_next 144 = .ok (.i2l, 1) := by decide +kernel
theorem dX12_next_145 : decode cX12_next 145 = .ok (.lor, 1) := by decide +kernel
theorem dX12_next_146 : decode cX12_next 146 = .ok (.goto 4, 3) := by decide +kernel
theorem dX12_next_149 : decode cX12_next 149 = .ok (.lconst 0, 1) := by decide +kernel
theorem dX12_next_150 : decode cX12_next 150 = .ok (.putfield 149, 3) := by decide +kernel
theorem dX12_next_153 : decode cX12_next 153 = .ok (.aload_n 0, 1) := by decide +kernel
theorem dX12_next_154 : decode cX12_next 154 = .ok (.dup, 1) := by decide +kernel
theorem dX12_next_155 : decode cX12_next 155 = .ok (.getfield 133, 3) := by decide +kernel
theorem dX12_next_158 : decode cX12_next 158 = .ok (.iconst 1, 1) := by decide +kernel
theorem dX12_next_159 : decode cX12_next 159 = .ok (.iadd, 1) := by decide +kernel
theorem dX12_next_160 : decode cX12_next 160 = .ok (.putfield 133, 3) := by decide +kernel
theorem dX12_next_163 : decode cX12_next 163 = .ok (.goto (-77), 3) := by decide +kernel
theorem dX12_next_166 : decode cX12_next 166 = .ok (.aload_n 0, 1) := by decide +kernel
theorem dX12_next_167 : decode cX12_next 167 = .ok (.getfield 133, 3) := by decide +kernel
theorem dX12_next_170 : decode cX12_next 170 = .ok (.aload_n 0, 1) := by decide +kernel
theorem dX12_next_171 : decode cX12_next 171 = .ok (.getfield 140, 3) := by decide +kernel
theorem dX12_next_174 : decode cX12_next 174 = .ok (.isub, 1) := by decide +kernel
theorem dX12_next_175 : decode cX12_next 175 = .ok (.bipush 7, 2) := by decide +kernel
theorem dX12_next_177 : decode cX12_next 177 = .ok (.if_icmp .le 131, 3) := by decide +kernel
theorem dX12_next_180 : decode cX12_next 180 = .ok (.aload_n 0, 1) := by decide +kernel
theorem dX12_next_181 : decode cX12_next 181 = .ok (.lconst 0, 1) := by decide +kernel
theorem dX12_next_182 : decode cX12_next 182 = .ok (.putfield 149, 3) := by decide +kernel
theorem dX12_next_185 : decode cX12_next 185 = .ok (.goto 123, 3) := by decide +kernel
theorem dX12_next_188 : decode cX12_next 188 = .ok (.iload_n 1, 1) := by decide +kernel
theorem dX12_next_189 : decode cX12_next 189 = .ok (.invokestatic 153, 3) := by decide +kernel
theorem dX12_next_192 : decode cX12_next 192 = .ok (.ifCond .eq 96, 3) := by decide +kernel
theorem dX12_next_195 : decode cX12_next 195 = .ok (.aload_n 0, 1) := by decide +kernel
theorem dX12_next_196 : decode cX12_next 196 = .ok (.iconst 2, 1) := by decide +kernel
theorem dX12_next_197 : decode cX12_next 197 = .ok (.putfield 143, 3) := by decide +kernel
theorem dX12_next_200 : decode cX12_next 200 = .ok (.aload_n 0, 1) := by decide +kernel
theorem dX12_next_201 : decode cX12_next 201 = .ok (.lconst 0, 1) := by decide +kernel
theorem dX12_next_202 : decode cX12_next 202 = .ok (.putfield 156, 3) := by decide +kernel
theorem dX12_next_205 : decode cX12_next 205 = .ok (.aload_n 0, 1) := by decide +kernel
theorem dX12_next_206 : decode cX12_next 206 = .ok (.aload_n 0, 1) := by decide +kernel
theorem dX12_next_207 : decode cX12_next 207 = .ok (.getfield 133, 3) := by decide +kernel
theorem dX12_next_210 : decode cX12_next 210 = .ok (.invokevirtual 136, 3) := by decide +kernel
theorem dX12_next_213 : decode cX12_next 213 = .ok (.invokestatic 153, 3) := by decide +kernel
theorem dX12_next_216 : decode cX12_next 216 = .ok (.ifCond .eq 56, 3) := by decide +kernel
theorem dX12_next_219 : decode cX12_next 219 = .ok (.aload_n 0, 1) := by decide +kernel
theorem dX12_next_220 : decode cX12_next 220 = .ok (.getfield 133, 3) := by decide +kernel
theorem dX12_next_223 : decode cX12_next 223 = .ok (.aload_n 0, 1) := by decide +kernel
theorem dX12_next_224 : decode cX12_next 224 = .ok (.getfield 140, 3) := by decide +kernel
theorem dX12_next_227 : decode cX12_next 227 = .ok (.isub, 1) := by decide +kernel
theorem dX12_next_228 : decode cX12_next 228 = .ok (.bipush 12, 2) := by decide +kernel
theorem dX12_next_230 : decode cX12_next 230 = .ok (.if_icmp .ge 29, 3) := by decide +kernel
theorem dX12_next_233 : decode cX12_next 233 = .ok (.aload_n 0, 1) := by decide +kernel
theorem dX12_next_234 : decode cX12_next 234 = .ok (.ldc2_w 159, 3) := by decide +kernel
theorem dX12_next_237 : decode cX12_next 237 = .ok (.aload_n 0, 1) := by decide +kernel
theorem dX12_next_238 : decode cX12_next 238 = .ok (.getfield 156, 3) := by decide +kernel
theorem dX12_next_241 : decode cX12_next 241 = .ok (.lmul, 1) := by decide +kernel
theorem dX12_next_242 : decode cX12_next 242 = .ok (.aload_n 0, 1) := by decide +kernel
theorem dX12_next_243 : decode cX12_next 243 = .ok (.aload_n 0, 1) := by decide +kernel
theorem dX12_next_244 : decode cX12_next 244 = .ok (.getfield 133, 3) := by decide +kernel
theorem dX12_next_247 : decode cX12_next 247 = .ok (.invokevirtual 136, 3) := by decide +kernel
theorem dX12_next_250 : decode cX12_next 250 = .ok (.i2l, 1) := by decide +kernel
theorem dX12_next_251 : decode cX12_next 251 = .ok (.ladd, 1) := by decide +kernel
theorem dX12_next_252 : decode cX12_next 252 = .ok (.ldc2_w 161, 3) := by decide +kernel
theorem dX12_next_255 : decode cX12_next 255 = .ok (.lsub, 1) := by decide +kernel
theorem dX12_next_256 : decode cX12_next 256 = .ok (.putfield 156, 3) := by decide +kernel
theorem dX12_next_259 : decode cX12_next 259 = .ok (.aload_n 0, 1) := by decide +kernel
theorem dX12_next_260 : decode cX12_next 260 = .ok (.dup, 1) := by decide +kernel
theorem dX12_next_261 : decode cX12_next 261 = .ok (.getfield 133, 3) := by decide +kernel
theorem dX12_next_264 : decode cX12_next 264 = .ok (.iconst 1, 1) := by decide +kernel
theorem dX12_next_265 : decode cX12_next 265 = .ok (.iadd, 1) := by decide +kernel
theorem dX12_next_266 : decode cX12_next 266 = .ok (.putfield 133, 3) := by decide +kernel
theorem dX12_next_269 : decode cX12_next 269 = .ok (.goto (-64), 3) := by decide +kernel
theorem dX12_next_272 : decode cX12_next 272 = .ok (.aload_n 0, 1) := by decide +kernel
theorem dX12_next_273 : decode cX12_next 273 = .ok (.aload_n 0, 1) := by decide +kernel
theorem dX12_next_274 : decode cX12_next 274 = .ok (.getfield 133, 3) := by decide +kernel
theorem dX12_next_277 : decode cX12_next 277 = .ok (.aload_n 0, 1) := by decide +kernel
theorem dX12_next_278 : decode cX12_next 278 = .ok (.getfield 140, 3) := by decide +kernel
theorem dX12_next_281 : decode cX12_next 281 = .ok (.isub, 1) := by decide +kernel
theorem dX12_next_282 : decode cX12_next 282 = .ok (.putfield 163, 3) := by decide +kernel
theorem dX12_next_285 : decode cX12_next 285 = .ok (.goto 23, 3) := by decide +kernel
theorem dX12_next_288 : decode cX12_next 288 = .ok (.aload_n 0, 1) := by decide +kernel
theorem dX12_next_289 : decode cX12_next 289 = .ok (.iconst 3, 1) := by decide +kernel
theorem dX12_next_290 : decode cX12_next 290 = .ok (.putfield 143, 3) := by decide +kernel
theorem dX12_next_293 : decode cX12_next 293 = .ok (.aload_n 0, 1) := by decide +kernel
theorem dX12_next_294 : decode cX12_next 294 = .ok (.iload_n 1, 1) := by decide +kernel
theorem dX12_next_295 : decode cX12_next 295 = .ok (.putfield 166, 3) := by decide +kernel
theorem dX12_next_298 : decode cX12_next 298 = .ok (.aload_n 0, 1) := by decide +kernel
theorem dX12_next_299 : decode cX12_next 299 = .ok (.dup, 1) := by decide +kernel
theorem dX12_next_300 : decode cX12_next 300 = .ok (.getfield 133, 3) := by decide +kernel
theorem dX12_next_303 : decode cX12_next 303 = .ok (.iconst 1, 1) := by decide +kernel
theorem dX12_next_304 : decode cX12_next 304 = .ok (.iadd, 1) := by decide +kernel
theorem dX12_next_305 : decode cX12_next 305 = .ok (.putfield 133, 3) := by decide +kernel
theorem dX12_next_308 : decode cX12_next 308 = .ok (.return_, 1) := by decide +kernel
def F_X12_next_26 (k0 : ae_S → Option (Unit × ae_S)) (s0 : ae_S) : Option (Unit × ae_S) := ae_lt (ae_wI s0 30 0 27 ((s0.1 30 0 27) + (1 : Int32))) (fun s1 => k0 s1)
set_option maxHeartbeats 4000000 in
set_option maxRecDepth 100000 in
theorem t_X12_next_26 {l : Launch} {G : ae_G} (d : Nat) (k0 : ae_S → Option (Unit × ae_S)) {rr : Unit} {ss : ae_S} (hk0 : ∀ (s0 : ae_S), k0 s0 = some (rr, ss) → ae_T l G (d + 1) mX12_next (ae_Po none ss) 0 [(0, ae_r (some (30, 0)))] [] s0) (s0 : ae_S) (hF : F_X12_next_26 k0 s0 = some (rr, ss)) : ae_T l G (d + 1) mX12_next (ae_Po none ss) 26 [(0, ae_r (some (30, 0)))] [] s0 := by
  unfold F_X12_next_26 at hF
  refine ae_aload_n 0 dX12_next_26 rfl ?_
  refine ae_dup dX12_next_27 rfl ?_
  refine ae_getI (q := (30, 0)) dX12_next_28 fl_RX12_133 rfl rfl ?_
  refine ae_iconst (1 : Int32) dX12_next_31 (by decide) ?_
  refine ae_iadd dX12_next_32 ?_
  obtain ⟨s1, hs1, hF2⟩ := ae_ltI hF
  refine ae_putI (q := (30, 0)) dX12_next_33 fl_RX12_133 rfl rfl (ae_nmS hs1 ?_)
  refine ae_goto 0 dX12_next_36 rfl ?_
  refine ae_pick (lv' := [(0, ae_r (some (30, 0)))]) [0] rfl ?_
  exact hk0 s1 hF2
def F_X12_next_308 (s0 : ae_S) : Option (Unit × ae_S) := some ((), s0)
set_option maxHeartbeats 4000000 in
set_option maxRecDepth 100000 in
theorem t_X12_next_308 {l : Launch} {G : ae_G} (d : Nat) {rr : Unit} {ss : ae_S} (s0 : ae_S) (hF : F_X12_next_308 s0 = some (rr, ss)) : ae_T l G (d + 1) mX12_next (ae_Po none ss) 308 [] [] s0 := by
  unfold F_X12_next_308 at hF
  obtain ⟨rfl, rfl⟩ := ae_retI hF
  exact ae_vret dX12_next_308 rfl ⟨rfl, rfl⟩
def F_X12_next_259 (k205 : ae_S → Option (Unit × ae_S)) (s0 : ae_S) : Option (Unit × ae_S) := ae_lt (ae_wI s0 30 0 27 ((s0.1 30 0 27) + (1 : Int32))) (fun s3 => k205 s3)
set_option maxHeartbeats 4000000 in
set_option maxRecDepth 100000 in
theorem t_X12_next_259 {l : Launch} {G : ae_G} (d : Nat) (k205 : ae_S → Option (Unit × ae_S)) {rr : Unit} {ss : ae_S} (hk205 : ∀ (s0 : ae_S), k205 s0 = some (rr, ss) → ae_T l G (d + 1) mX12_next (ae_Po none ss) 205 [(0, ae_r (some (30, 0)))] [] s0) (s0 : ae_S) (hF : F_X12_next_259 k205 s0 = some (rr, ss)) : ae_T l G (d + 1) mX12_next (ae_Po none ss) 259 [(0, ae_r (some (30, 0)))] [] s0 := by
  unfold F_X12_next_259 at hF
  refine ae_aload_n 0 dX12_next_259 rfl ?_
  refine ae_dup dX12_next_260 rfl ?_
  refine ae_getI (q := (30, 0)) dX12_next_261 fl_RX12_133 rfl rfl ?_
  refine ae_iconst (1 : Int32) dX12_next_264 (by decide) ?_
  refine ae_iadd dX12_next_265 ?_
  obtain ⟨s3, hs3, hF4⟩ := ae_ltI hF
  refine ae_putI (q := (30, 0)) dX12_next_266 fl_RX12_133 rfl rfl (ae_nmS hs3 ?_)
  refine ae_goto 205 dX12_next_269 rfl ?_
  refine ae_pick (lv' := [(0, ae_r (some (30, 0)))]) [0] rfl ?_
  exact hk205 s3 hF4
def F_X12_next_205 : Nat → ae_S → Option (Unit × ae_S)
  | 0, _ => none
  | n + 1, s0 => ae_bd (F_X12_see (s0.1 30 0 27) s0) (fun (r5 : Int32) s6 => ae_bd (F_X12_isDigit r5 s6) (fun (r9 : Int32) s10 => if r9 = 0 then (ae_lt (ae_wI s10 30 0 30 ((s10.1 30 0 27) - (s10.1 30 0 26))) (fun s15 => F_X12_next_308 s15)) else (if (12 : Int32) ≤ ((s10.1 30 0 27) - (s10.1 30 0 26)) then (F_X12_next_259 (F_X12_next_205 n) s10) else (ae_bd (F_X12_see (s10.1 30 0 27) s10) (fun (r19 : Int32) s20 => ae_lt (ae_wL s20 30 0 29 ((((10 : Int64) * (s10.2.1 30 0 29)) + r19.toInt64) - (48 : Int64))) (fun s23 => F_X12_next_259 (F_X12_next_205 n) s23))))))
set_option maxHeartbeats 4000000 in
set_option maxRecDepth 100000 in
theorem t_X12_next_205 {l : Launch} {G : ae_G} (d : Nat) {rr : Unit} {ss : ae_S} : ∀ (n : Nat) (s0 : ae_S), F_X12_next_205 n s0 = some (rr, ss) → ae_T l G (d + 1) mX12_next (ae_Po none ss) 205 [(0, ae_r (some (30, 0)))] [] s0 := by
  intro n
  induction n with
  | zero =>
    intro s0 hF
    exact absurd (show (none : Option (Unit × ae_S)) = some (rr, ss) from hF) (by simp)
  | succ n ih =>
    intro s0 hF
    unfold F_X12_next_205 at hF
    refine ae_aload_n 0 dX12_next_205 rfl ?_
    refine ae_aload_n 0 dX12_next_206 rfl ?_
    refine ae_getI (q := (30, 0)) dX12_next_207 fl_RX12_133 rfl rfl ?_
    obtain ⟨r5, s6, hc7, hF8⟩ := ae_bdI hF
    refine ae_cV1 (q := (30, 0)) (As := [ae_i (s0.1 30 0 27)]) dX12_next_210 ww_1512 vy_X12_see rfl rfl rfl rfl rfl (Nat.le_of_ble_eq_true rfl) (c_X12_see d hc7) ?_
    obtain ⟨r9, s10, hc11, hF12⟩ := ae_bdI hF8
    refine ae_cS1 (As := [ae_i r5]) dX12_next_213 ww_1519 vy_X12_isDigit rfl rfl (Nat.le_of_ble_eq_true rfl) (c_X12_isDigit d hc11) ?_
    refine ae_if_eq 272 dX12_next_216 rfl (fun hb13 => ?_) (fun hb13 => ?_)
    · have hF14 := ae_ifT hb13 hF12
      refine ae_aload_n 0 dX12_next_272 rfl ?_
      refine ae_aload_n 0 dX12_next_273 rfl ?_
      refine ae_getI (q := (30, 0)) dX12_next_274 fl_RX12_133 rfl rfl ?_
      refine ae_aload_n 0 dX12_next_277 rfl ?_
      refine ae_getI (q := (30, 0)) dX12_next_278 fl_RX12_140 rfl rfl ?_
      refine ae_isub dX12_next_281 ?_
      obtain ⟨s15, hs15, hF16⟩ := ae_ltI hF14
      refine ae_putI (q := (30, 0)) dX12_next_282 fl_RX12_163 rfl rfl (ae_nmS hs15 ?_)
      refine ae_goto 308 dX12_next_285 rfl ?_
      refine ae_pick (lv' := []) [] rfl ?_
      exact t_X12_next_308 d s15 hF16
    · have hF14 := ae_ifF hb13 hF12
      refine ae_aload_n 0 dX12_next_219 rfl ?_
      refine ae_getI (q := (30, 0)) dX12_next_220 fl_RX12_133 rfl rfl ?_
      refine ae_aload_n 0 dX12_next_223 rfl ?_
      refine ae_getI (q := (30, 0)) dX12_next_224 fl_RX12_140 rfl rfl ?_
      refine ae_isub dX12_next_227 ?_
      refine ae_bipush (12 : Int32) dX12_next_228 (by decide) ?_
      refine ae_icmp_ge 259 dX12_next_230 rfl (fun hb17 => ?_) (fun hb17 => ?_)
      · have hF18 := ae_ifT hb17 hF14
        refine ae_pick (lv' := [(0, ae_r (some (30, 0)))]) [0] rfl ?_
        exact t_X12_next_259 d (F_X12_next_205 n) ih s10 hF18
      · have hF18 := ae_ifF hb17 hF14
        refine ae_aload_n 0 dX12_next_233 rfl ?_
        refine ae_ldc2 dX12_next_234 ww_1522 ?_
        refine ae_aload_n 0 dX12_next_237 rfl ?_
        refine ae_getL (q := (30, 0)) dX12_next_238 fl_RX12_156 rfl rfl ?_
        refine ae_lmul dX12_next_241 ?_
        refine ae_aload_n 0 dX12_next_242 rfl ?_
        refine ae_aload_n 0 dX12_next_243 rfl ?_
        refine ae_getI (q := (30, 0)) dX12_next_244 fl_RX12_133 rfl rfl ?_
        obtain ⟨r19, s20, hc21, hF22⟩ := ae_bdI hF18
        refine ae_cV1 (q := (30, 0)) (As := [ae_i (s10.1 30 0 27)]) dX12_next_247 ww_1512 vy_X12_see rfl rfl rfl rfl rfl (Nat.le_of_ble_eq_true rfl) (c_X12_see d hc21) ?_
        refine ae_i2l dX12_next_250 ?_
        refine ae_ladd dX12_next_251 ?_
        refine ae_ldc2 dX12_next_252 ww_1523 ?_
        refine ae_lsub dX12_next_255 ?_
        obtain ⟨s23, hs23, hF24⟩ := ae_ltI hF22
        refine ae_putL (q := (30, 0)) dX12_next_256 fl_RX12_156 rfl rfl (ae_nmS hs23 ?_)
        refine ae_pick (lv' := [(0, ae_r (some (30, 0)))]) [0] rfl ?_
        exact t_X12_next_259 d (F_X12_next_205 n) ih s23 hF24
def F_X12_next_150 (k86 : ae_S → Option (Unit × ae_S)) (t0 : Int64) (s0 : ae_S) : Option (Unit × ae_S) := ae_lt (ae_wL s0 30 0 28 t0) (fun s25 => ae_lt (ae_wI s25 30 0 27 ((s25.1 30 0 27) + (1 : Int32))) (fun s27 => k86 s27))
set_option maxHeartbeats 4000000 in
set_option maxRecDepth 100000 in
theorem t_X12_next_150 {l : Launch} {G : ae_G} (d : Nat) (k86 : ae_S → Option (Unit × ae_S)) {rr : Unit} {ss : ae_S} (hk86 : ∀ (s0 : ae_S), k86 s0 = some (rr, ss) → ae_T l G (d + 1) mX12_next (ae_Po none ss) 86 [(0, ae_r (some (30, 0)))] [] s0) (t0 : Int64) (s0 : ae_S) (hF : F_X12_next_150 k86 t0 s0 = some (rr, ss)) : ae_T l G (d + 1) mX12_next (ae_Po none ss) 150 [(0, ae_r (some (30, 0)))] [ae_l t0, ae_r (some (30, 0))] s0 := by
  unfold F_X12_next_150 at hF
  obtain ⟨s25, hs25, hF26⟩ := ae_ltI hF
  refine ae_putL (q := (30, 0)) dX12_next_150 fl_RX12_149 rfl rfl (ae_nmS hs25 ?_)
  refine ae_aload_n 0 dX12_next_153 rfl ?_
  refine ae_dup dX12_next_154 rfl ?_
  refine ae_getI (q := (30, 0)) dX12_next_155 fl_RX12_133 rfl rfl ?_
  refine ae_iconst (1 : Int32) dX12_next_158 (by decide) ?_
  refine ae_iadd dX12_next_159 ?_
  obtain ⟨s27, hs27, hF28⟩ := ae_ltI hF26
  refine ae_putI (q := (30, 0)) dX12_next_160 fl_RX12_133 rfl rfl (ae_nmS hs27 ?_)
  refine ae_goto 86 dX12_next_163 rfl ?_
  refine ae_pick (lv' := [(0, ae_r (some (30, 0)))]) [0] rfl ?_
  exact hk86 s27 hF28
def F_X12_next_114 (k86 : ae_S → Option (Unit × ae_S)) (s0 : ae_S) : Option (Unit × ae_S) := if (7 : Int32) ≤ ((s0.1 30 0 27) - (s0.1 30 0 26)) then (F_X12_next_150 k86 (0 : Int64) s0) else (ae_bd (F_X12_see (s0.1 30 0 27) s0) (fun (r31 : Int32) s32 => F_X12_next_150 k86 (((s0.2.1 30 0 28) <<< ((8 : Int32).toInt64 &&& 63)) ||| r31.toInt64) s32))
set_option maxHeartbeats 4000000 in
set_option maxRecDepth 100000 in
theorem t_X12_next_114 {l : Launch} {G : ae_G} (d : Nat) (k86 : ae_S → Option (Unit × ae_S)) {rr : Unit} {ss : ae_S} (hk86 : ∀ (s0 : ae_S), k86 s0 = some (rr, ss) → ae_T l G (d + 1) mX12_next (ae_Po none ss) 86 [(0, ae_r (some (30, 0)))] [] s0) (s0 : ae_S) (hF : F_X12_next_114 k86 s0 = some (rr, ss)) : ae_T l G (d + 1) mX12_next (ae_Po none ss) 114 [(0, ae_r (some (30, 0)))] [] s0 := by
  unfold F_X12_next_114 at hF
  refine ae_aload_n 0 dX12_next_114 rfl ?_
  refine ae_aload_n 0 dX12_next_115 rfl ?_
  refine ae_getI (q := (30, 0)) dX12_next_116 fl_RX12_133 rfl rfl ?_
  refine ae_aload_n 0 dX12_next_119 rfl ?_
  refine ae_getI (q := (30, 0)) dX12_next_120 fl_RX12_140 rfl rfl ?_
  refine ae_isub dX12_next_123 ?_
  refine ae_bipush (7 : Int32) dX12_next_124 (by decide) ?_
  refine ae_icmp_ge 149 dX12_next_126 rfl (fun hb29 => ?_) (fun hb29 => ?_)
  · have hF30 := ae_ifT hb29 hF
    refine ae_lconst (0 : Int64) dX12_next_149 (by decide) ?_
    refine ae_pick (lv' := [(0, ae_r (some (30, 0)))]) [0] rfl ?_
    exact t_X12_next_150 d k86 hk86 (0 : Int64) s0 hF30
  · have hF30 := ae_ifF hb29 hF
    refine ae_aload_n 0 dX12_next_129 rfl ?_
    refine ae_getL (q := (30, 0)) dX12_next_130 fl_RX12_149 rfl rfl ?_
    refine ae_bipush (8 : Int32) dX12_next_133 (by decide) ?_
    refine ae_lshl dX12_next_135 ?_
    refine ae_aload_n 0 dX12_next_136 rfl ?_
    refine ae_aload_n 0 dX12_next_137 rfl ?_
    refine ae_getI (q := (30, 0)) dX12_next_138 fl_RX12_133 rfl rfl ?_
    obtain ⟨r31, s32, hc33, hF34⟩ := ae_bdI hF30
    refine ae_cV1 (q := (30, 0)) (As := [ae_i (s0.1 30 0 27)]) dX12_next_141 ww_1512 vy_X12_see rfl rfl rfl rfl rfl (Nat.le_of_ble_eq_true rfl) (c_X12_see d hc33) ?_
    refine ae_i2l dX12_next_144 ?_
    refine ae_lor dX12_next_145 ?_
    refine ae_goto 150 dX12_next_146 rfl ?_
    refine ae_pick (lv' := [(0, ae_r (some (30, 0)))]) [0] rfl ?_
    exact t_X12_next_150 d k86 hk86 (((s0.2.1 30 0 28) <<< ((8 : Int32).toInt64 &&& 63)) ||| r31.toInt64) s32 hF34
def F_X12_next_86 : Nat → ae_S → Option (Unit × ae_S)
  | 0, _ => none
  | n + 1, s0 => ae_bd (F_X12_see (s0.1 30 0 27) s0) (fun (r35 : Int32) s36 => ae_bd (F_X12_isLetter r35 s36) (fun (r39 : Int32) s40 => if r39 = 0 then (ae_bd (F_X12_see (s40.1 30 0 27) s40) (fun (r45 : Int32) s46 => ae_bd (F_X12_isDigit r45 s46) (fun (r49 : Int32) s50 => if r49 = 0 then (if ((s50.1 30 0 27) - (s50.1 30 0 26)) ≤ (7 : Int32) then (F_X12_next_308 s50) else (ae_lt (ae_wL s50 30 0 28 (0 : Int64)) (fun s57 => F_X12_next_308 s57))) else (F_X12_next_114 (F_X12_next_86 n) s50)))) else (F_X12_next_114 (F_X12_next_86 n) s40)))
set_option maxHeartbeats 4000000 in
set_option maxRecDepth 100000 in
theorem t_X12_next_86 {l : Launch} {G : ae_G} (d : Nat) {rr : Unit} {ss : ae_S} : ∀ (n : Nat) (s0 : ae_S), F_X12_next_86 n s0 = some (rr, ss) → ae_T l G (d + 1) mX12_next (ae_Po none ss) 86 [(0, ae_r (some (30, 0)))] [] s0 := by
  intro n
  induction n with
  | zero =>
    intro s0 hF
    exact absurd (show (none : Option (Unit × ae_S)) = some (rr, ss) from hF) (by simp)
  | succ n ih =>
    intro s0 hF
    unfold F_X12_next_86 at hF
    refine ae_aload_n 0 dX12_next_86 rfl ?_
    refine ae_aload_n 0 dX12_next_87 rfl ?_
    refine ae_getI (q := (30, 0)) dX12_next_88 fl_RX12_133 rfl rfl ?_
    obtain ⟨r35, s36, hc37, hF38⟩ := ae_bdI hF
    refine ae_cV1 (q := (30, 0)) (As := [ae_i (s0.1 30 0 27)]) dX12_next_91 ww_1512 vy_X12_see rfl rfl rfl rfl rfl (Nat.le_of_ble_eq_true rfl) (c_X12_see d hc37) ?_
    obtain ⟨r39, s40, hc41, hF42⟩ := ae_bdI hF38
    refine ae_cS1 (As := [ae_i r35]) dX12_next_94 ww_1516 vy_X12_isLetter rfl rfl (Nat.le_of_ble_eq_true rfl) (c_X12_isLetter d hc41) ?_
    refine ae_if_ne 114 dX12_next_97 rfl (fun hb43 => ?_) (fun hb43 => ?_)
    · have hF44 := ae_ifF hb43 hF42
      refine ae_pick (lv' := [(0, ae_r (some (30, 0)))]) [0] rfl ?_
      exact t_X12_next_114 d (F_X12_next_86 n) ih s40 hF44
    · have hF44 := ae_ifT hb43 hF42
      refine ae_aload_n 0 dX12_next_100 rfl ?_
      refine ae_aload_n 0 dX12_next_101 rfl ?_
      refine ae_getI (q := (30, 0)) dX12_next_102 fl_RX12_133 rfl rfl ?_
      obtain ⟨r45, s46, hc47, hF48⟩ := ae_bdI hF44
      refine ae_cV1 (q := (30, 0)) (As := [ae_i (s40.1 30 0 27)]) dX12_next_105 ww_1512 vy_X12_see rfl rfl rfl rfl rfl (Nat.le_of_ble_eq_true rfl) (c_X12_see d hc47) ?_
      obtain ⟨r49, s50, hc51, hF52⟩ := ae_bdI hF48
      refine ae_cS1 (As := [ae_i r45]) dX12_next_108 ww_1519 vy_X12_isDigit rfl rfl (Nat.le_of_ble_eq_true rfl) (c_X12_isDigit d hc51) ?_
      refine ae_if_eq 166 dX12_next_111 rfl (fun hb53 => ?_) (fun hb53 => ?_)
      · have hF54 := ae_ifT hb53 hF52
        refine ae_aload_n 0 dX12_next_166 rfl ?_
        refine ae_getI (q := (30, 0)) dX12_next_167 fl_RX12_133 rfl rfl ?_
        refine ae_aload_n 0 dX12_next_170 rfl ?_
        refine ae_getI (q := (30, 0)) dX12_next_171 fl_RX12_140 rfl rfl ?_
        refine ae_isub dX12_next_174 ?_
        refine ae_bipush (7 : Int32) dX12_next_175 (by decide) ?_
        refine ae_icmp_le 308 dX12_next_177 rfl (fun hb55 => ?_) (fun hb55 => ?_)
        · have hF56 := ae_ifT hb55 hF54
          refine ae_pick (lv' := []) [] rfl ?_
          exact t_X12_next_308 d s50 hF56
        · have hF56 := ae_ifF hb55 hF54
          refine ae_aload_n 0 dX12_next_180 rfl ?_
          refine ae_lconst (0 : Int64) dX12_next_181 (by decide) ?_
          obtain ⟨s57, hs57, hF58⟩ := ae_ltI hF56
          refine ae_putL (q := (30, 0)) dX12_next_182 fl_RX12_149 rfl rfl (ae_nmS hs57 ?_)
          refine ae_goto 308 dX12_next_185 rfl ?_
          refine ae_pick (lv' := []) [] rfl ?_
          exact t_X12_next_308 d s57 hF58
      · have hF54 := ae_ifF hb53 hF52
        refine ae_pick (lv' := [(0, ae_r (some (30, 0)))]) [0] rfl ?_
        exact t_X12_next_114 d (F_X12_next_86 n) ih s50 hF54
def F_X12_next_0 : Nat → ae_S → Option (Unit × ae_S)
  | 0, _ => none
  | n + 1, s0 => ae_bd (F_X12_see (s0.1 30 0 27) s0) (fun (r59 : Int32) s60 => if r59 = (32 : Int32) then (F_X12_next_26 (F_X12_next_0 n) s60) else (ae_bd (F_X12_see (s60.1 30 0 27) s60) (fun (r65 : Int32) s66 => if r65 = (10 : Int32) then (F_X12_next_26 (F_X12_next_0 n) s66) else (ae_lt (ae_wI s66 30 0 26 (s66.1 30 0 27)) (fun s71 => ae_bd (F_X12_see (s71.1 30 0 27) s71) (fun (r73 : Int32) s74 => if r73 = (-1 : Int32) then (ae_lt (ae_wI s74 30 0 25 (0 : Int32)) (fun s105 => F_X12_next_308 s105)) else (ae_bd (F_X12_isLetter r73 s74) (fun (r79 : Int32) s80 => if r79 = 0 then (ae_bd (F_X12_isDigit r73 s80) (fun (r85 : Int32) s86 => if r85 = 0 then (ae_lt (ae_wI s86 30 0 25 (3 : Int32)) (fun s91 => ae_lt (ae_wI s91 30 0 31 r73) (fun s93 => ae_lt (ae_wI s93 30 0 27 ((s93.1 30 0 27) + (1 : Int32))) (fun s95 => F_X12_next_308 s95)))) else (ae_lt (ae_wI s86 30 0 25 (2 : Int32)) (fun s97 => ae_lt (ae_wL s97 30 0 29 (0 : Int64)) (fun s99 => F_X12_next_205 ae_fu s99))))) else (ae_lt (ae_wI s80 30 0 25 (1 : Int32)) (fun s101 => ae_lt (ae_wL s101 30 0 28 (0 : Int64)) (fun s103 => F_X12_next_86 ae_fu s103)))))))))))
set_option maxHeartbeats 4000000 in
set_option maxRecDepth 100000 in
theorem t_X12_next_0 {l : Launch} {G : ae_G} (d : Nat) {rr : Unit} {ss : ae_S} : ∀ (n : Nat) (s0 : ae_S), F_X12_next_0 n s0 = some (rr, ss) → ae_T l G (d + 1) mX12_next (ae_Po none ss) 0 [(0, ae_r (some (30, 0)))] [] s0 := by
  intro n
  induction n with
  | zero =>
    intro s0 hF
    exact absurd (show (none : Option (Unit × ae_S)) = some (rr, ss) from hF) (by simp)
  | succ n ih =>
    intro s0 hF
    unfold F_X12_next_0 at hF
    refine ae_aload_n 0 dX12_next_0 rfl ?_
    refine ae_aload_n 0 dX12_next_1 rfl ?_
    refine ae_getI (q := (30, 0)) dX12_next_2 fl_RX12_133 rfl rfl ?_
    obtain ⟨r59, s60, hc61, hF62⟩ := ae_bdI hF
    refine ae_cV1 (q := (30, 0)) (As := [ae_i (s0.1 30 0 27)]) dX12_next_5 ww_1512 vy_X12_see rfl rfl rfl rfl rfl (Nat.le_of_ble_eq_true rfl) (c_X12_see d hc61) ?_
    refine ae_bipush (32 : Int32) dX12_next_8 (by decide) ?_
    refine ae_icmp_eq 26 dX12_next_10 rfl (fun hb63 => ?_) (fun hb63 => ?_)
    · have hF64 := ae_ifT hb63 hF62
      refine ae_pick (lv' := [(0, ae_r (some (30, 0)))]) [0] rfl ?_
      exact t_X12_next_26 d (F_X12_next_0 n) ih s60 hF64
    · have hF64 := ae_ifF hb63 hF62
      refine ae_aload_n 0 dX12_next_13 rfl ?_
      refine ae_aload_n 0 dX12_next_14 rfl ?_
      refine ae_getI (q := (30, 0)) dX12_next_15 fl_RX12_133 rfl rfl ?_
      obtain ⟨r65, s66, hc67, hF68⟩ := ae_bdI hF64
      refine ae_cV1 (q := (30, 0)) (As := [ae_i (s60.1 30 0 27)]) dX12_next_18 ww_1512 vy_X12_see rfl rfl rfl rfl rfl (Nat.le_of_ble_eq_true rfl) (c_X12_see d hc67) ?_
      refine ae_bipush (10 : Int32) dX12_next_21 (by decide) ?_
      refine ae_icmp_ne 39 dX12_next_23 rfl (fun hb69 => ?_) (fun hb69 => ?_)
      · have hF70 := ae_ifF hb69 hF68
        refine ae_aload_n 0 dX12_next_39 rfl ?_
        refine ae_aload_n 0 dX12_next_40 rfl ?_
        refine ae_getI (q := (30, 0)) dX12_next_41 fl_RX12_133 rfl rfl ?_
        obtain ⟨s71, hs71, hF72⟩ := ae_ltI hF70
        refine ae_putI (q := (30, 0)) dX12_next_44 fl_RX12_140 rfl rfl (ae_nmS hs71 ?_)
        refine ae_aload_n 0 dX12_next_47 rfl ?_
        refine ae_aload_n 0 dX12_next_48 rfl ?_
        refine ae_getI (q := (30, 0)) dX12_next_49 fl_RX12_133 rfl rfl ?_
        obtain ⟨r73, s74, hc75, hF76⟩ := ae_bdI hF72
        refine ae_cV1 (q := (30, 0)) (As := [ae_i (s71.1 30 0 27)]) dX12_next_52 ww_1512 vy_X12_see rfl rfl rfl rfl rfl (Nat.le_of_ble_eq_true rfl) (c_X12_see d hc75) ?_
        refine ae_istore_n (lv' := [(1, ae_i r73), (0, ae_r (some (30, 0)))]) dX12_next_55 (by decide) rfl ?_
        refine ae_iload_n 0 dX12_next_56 rfl ?_
        refine ae_iconst (-1 : Int32) dX12_next_57 (by decide) ?_
        refine ae_icmp_ne 69 dX12_next_58 rfl (fun hb77 => ?_) (fun hb77 => ?_)
        · have hF78 := ae_ifF hb77 hF76
          refine ae_iload_n 0 dX12_next_69 rfl ?_
          obtain ⟨r79, s80, hc81, hF82⟩ := ae_bdI hF78
          refine ae_cS1 (As := [ae_i r73]) dX12_next_70 ww_1516 vy_X12_isLetter rfl rfl (Nat.le_of_ble_eq_true rfl) (c_X12_isLetter d hc81) ?_
          refine ae_if_eq 188 dX12_next_73 rfl (fun hb83 => ?_) (fun hb83 => ?_)
          · have hF84 := ae_ifT hb83 hF82
            refine ae_iload_n 0 dX12_next_188 rfl ?_
            obtain ⟨r85, s86, hc87, hF88⟩ := ae_bdI hF84
            refine ae_cS1 (As := [ae_i r73]) dX12_next_189 ww_1519 vy_X12_isDigit rfl rfl (Nat.le_of_ble_eq_true rfl) (c_X12_isDigit d hc87) ?_
            refine ae_if_eq 288 dX12_next_192 rfl (fun hb89 => ?_) (fun hb89 => ?_)
            · have hF90 := ae_ifT hb89 hF88
              refine ae_aload_n 1 dX12_next_288 rfl ?_
              refine ae_iconst (3 : Int32) dX12_next_289 (by decide) ?_
              obtain ⟨s91, hs91, hF92⟩ := ae_ltI hF90
              refine ae_putI (q := (30, 0)) dX12_next_290 fl_RX12_143 rfl rfl (ae_nmS hs91 ?_)
              refine ae_aload_n 1 dX12_next_293 rfl ?_
              refine ae_iload_n 0 dX12_next_294 rfl ?_
              obtain ⟨s93, hs93, hF94⟩ := ae_ltI hF92
              refine ae_putI (q := (30, 0)) dX12_next_295 fl_RX12_166 rfl rfl (ae_nmS hs93 ?_)
              refine ae_aload_n 1 dX12_next_298 rfl ?_
              refine ae_dup dX12_next_299 rfl ?_
              refine ae_getI (q := (30, 0)) dX12_next_300 fl_RX12_133 rfl rfl ?_
              refine ae_iconst (1 : Int32) dX12_next_303 (by decide) ?_
              refine ae_iadd dX12_next_304 ?_
              obtain ⟨s95, hs95, hF96⟩ := ae_ltI hF94
              refine ae_putI (q := (30, 0)) dX12_next_305 fl_RX12_133 rfl rfl (ae_nmS hs95 ?_)
              refine ae_pick (lv' := []) [] rfl ?_
              exact t_X12_next_308 d s95 hF96
            · have hF90 := ae_ifF hb89 hF88
              refine ae_aload_n 1 dX12_next_195 rfl ?_
              refine ae_iconst (2 : Int32) dX12_next_196 (by decide) ?_
              obtain ⟨s97, hs97, hF98⟩ := ae_ltI hF90
              refine ae_putI (q := (30, 0)) dX12_next_197 fl_RX12_143 rfl rfl (ae_nmS hs97 ?_)
              refine ae_aload_n 1 dX12_next_200 rfl ?_
              refine ae_lconst (0 : Int64) dX12_next_201 (by decide) ?_
              obtain ⟨s99, hs99, hF100⟩ := ae_ltI hF98
              refine ae_putL (q := (30, 0)) dX12_next_202 fl_RX12_156 rfl rfl (ae_nmS hs99 ?_)
              refine ae_pick (lv' := [(0, ae_r (some (30, 0)))]) [1] rfl ?_
              exact t_X12_next_205 d ae_fu s99 hF100
          · have hF84 := ae_ifF hb83 hF82
            refine ae_aload_n 1 dX12_next_76 rfl ?_
            refine ae_iconst (1 : Int32) dX12_next_77 (by decide) ?_
            obtain ⟨s101, hs101, hF102⟩ := ae_ltI hF84
            refine ae_putI (q := (30, 0)) dX12_next_78 fl_RX12_143 rfl rfl (ae_nmS hs101 ?_)
            refine ae_aload_n 1 dX12_next_81 rfl ?_
            refine ae_lconst (0 : Int64) dX12_next_82 (by decide) ?_
            obtain ⟨s103, hs103, hF104⟩ := ae_ltI hF102
            refine ae_putL (q := (30, 0)) dX12_next_83 fl_RX12_149 rfl rfl (ae_nmS hs103 ?_)
            refine ae_pick (lv' := [(0, ae_r (some (30, 0)))]) [1] rfl ?_
            exact t_X12_next_86 d ae_fu s103 hF104
        · have hF78 := ae_ifT hb77 hF76
          refine ae_aload_n 1 dX12_next_61 rfl ?_
          refine ae_iconst (0 : Int32) dX12_next_62 (by decide) ?_
          obtain ⟨s105, hs105, hF106⟩ := ae_ltI hF78
          refine ae_putI (q := (30, 0)) dX12_next_63 fl_RX12_143 rfl rfl (ae_nmS hs105 ?_)
          refine ae_goto 308 dX12_next_66 rfl ?_
          refine ae_pick (lv' := []) [] rfl ?_
          exact t_X12_next_308 d s105 hF106
      · have hF70 := ae_ifT hb69 hF68
        refine ae_pick (lv' := [(0, ae_r (some (30, 0)))]) [0] rfl ?_
        exact t_X12_next_26 d (F_X12_next_0 n) ih s66 hF70
def F_X12_next (s0 : ae_S) : Option (Unit × ae_S) := F_X12_next_0 ae_fu s0
set_option maxHeartbeats 4000000 in
set_option maxRecDepth 100000 in
theorem c_X12_next {l : Launch} {G : ae_G} (d : Nat) {s0 ss : ae_S} {rr : Unit} (hF : F_X12_next s0 = some (rr, ss)) : ae_Met l G (d + 1) yX12_next mX12_next [ae_r (some (30, 0))] s0 (ae_Po none ss) := by
  refine ae_enter (by decide) rfl (Nat.le_of_ble_eq_true rfl) ?_
  show ae_T l G (d + 1) mX12_next (ae_Po none ss) 0 [(0, ae_r (some (30, 0)))] [] s0
  unfold F_X12_next at hF
  refine ae_pick (lv' := [(0, ae_r (some (30, 0)))]) [0] rfl ?_
  exact t_X12_next_0 d ae_fu s0 hF
abbrev mX12_one : ae_M := (RX12, cX12_one, 1, some .int)
theorem vy_X12_one : ae_SY yX12_one mX12_one 1 := ⟨ww_1580, ww_13, ww_1581, ⟨by decide, by decide, by decide +kernel⟩, by decide⟩
theorem dX12_one_0 : decode cX12_one 0 = .ok (.iload_n 0, 1) := by decide +kernel
theorem dX12_one_1 : decode cX12_one 1 = .ok (.ifCond .eq 7, 3) := by decide +kernel
theorem dX12_one_4 : decode cX12_one 4 = .ok (.iconst 1, 1) := by decide +kernel
theorem dX12_one_5 : decode cX12_one 5 = .ok (.goto 4, 3) := by decide +kernel
theorem dX12_one_8 : decode cX12_one 8 = .ok (.iconst 0, 1) := by decide +kernel
theorem dX12_one_9 : decode cX12_one 9 = .ok (.ireturn, 1) := by decide +kernel
def F_X12_one_9 (t0 : Int32) (s0 : ae_S) : Option (Int32 × ae_S) := some (t0, s0)
set_option maxHeartbeats 4000000 in
set_option maxRecDepth 100000 in
theorem t_X12_one_9 {l : Launch} {G : ae_G} (d : Nat) {rr : Int32} {ss : ae_S} (t0 : Int32) (s0 : ae_S) (hF : F_X12_one_9 t0 s0 = some (rr, ss)) : ae_T l G d mX12_one (ae_Po (some (ae_i rr)) ss) 9 [] [ae_i t0] s0 := by
  unfold F_X12_one_9 at hF
  obtain ⟨rfl, rfl⟩ := ae_retI hF
  exact ae_iret dX12_one_9 rfl rfl ⟨rfl, rfl⟩
def F_X12_one (v0 : Int32) (s0 : ae_S) : Option (Int32 × ae_S) := if v0 = 0 then (F_X12_one_9 (0 : Int32) s0) else (F_X12_one_9 (1 : Int32) s0)
set_option maxHeartbeats 4000000 in
set_option maxRecDepth 100000 in
theorem c_X12_one {l : Launch} {G : ae_G} (d : Nat) {v0 : Int32} {s0 ss : ae_S} {rr : Int32} (hF : F_X12_one v0 s0 = some (rr, ss)) : ae_Met l G d yX12_one mX12_one [ae_i v0] s0 (ae_Po (some (ae_i rr)) ss) := by
  refine ae_enter (by decide) rfl (Nat.le_of_ble_eq_true rfl) ?_
  show ae_T l G d mX12_one (ae_Po (some (ae_i rr)) ss) 0 [(0, ae_i v0)] [] s0
  unfold F_X12_one at hF
  refine ae_iload_n 0 dX12_one_0 rfl ?_
  refine ae_if_eq 8 dX12_one_1 rfl (fun hb1 => ?_) (fun hb1 => ?_)
  · have hF2 := ae_ifT hb1 hF
    refine ae_iconst (0 : Int32) dX12_one_8 (by decide) ?_
    refine ae_pick (lv' := []) [] rfl ?_
    exact t_X12_one_9 d (0 : Int32) s0 hF2
  · have hF2 := ae_ifF hb1 hF
    refine ae_iconst (1 : Int32) dX12_one_4 (by decide) ?_
    refine ae_goto 9 dX12_one_5 rfl ?_
    refine ae_pick (lv' := []) [] rfl ?_
    exact t_X12_one_9 d (1 : Int32) s0 hF2
abbrev mX12_placeOf : ae_M := (RX12, cX12_placeOf, 6, some .int)
theorem vy_X12_placeOf : ae_VY yX12_placeOf mX12_placeOf 3 := ⟨ww_1577, wq_65, ww_13, ww_1578, ⟨by decide, by decide, by decide +kernel⟩, by decide⟩
theorem dX12_placeOf_0 : decode cX12_placeOf 0 = .ok (.iload_n 3, 1) := by decide +kernel
theorem dX12_placeOf_1 : decode cX12_placeOf 1 = .ok (.istore 5, 2) := by decide +kernel
theorem dX12_placeOf_3 : decode cX12_placeOf 3 = .ok (.iload 5, 2) := by decide +kernel
theorem dX12_placeOf_5 : decode cX12_placeOf 5 = .ok (.iload_n 3, 1) := by decide +kernel
theorem dX12_placeOf_6 : decode cX12_placeOf 6 = .ok (.iload 4, 2) := by decide +kernel
theorem dX12_placeOf_8 : decode cX12_placeOf 8 = .ok (.iadd, 1) := by decide +kernel
theorem dX12_placeOf_9 : decode cX12_placeOf 9 = .ok (.if_icmp .ge 26, 3) := by decide +kernel
theorem dX12_placeOf_12 : decode cX12_placeOf 12 = .ok (.aload_n 0, 1) := by decide +kernel
theorem dX12_placeOf_13 : decode cX12_placeOf 13 = .ok (.getfield 25, 3) := by decide +kernel
theorem dX12_placeOf_16 : decode cX12_placeOf 16 = .ok (.iload 5, 2) := by decide +kernel
theorem dX12_placeOf_18 : decode cX12_placeOf 18 = .ok (.laload, 1) := by decide +kernel
theorem dX12_placeOf_19 : decode cX12_placeOf 19 = .ok (.lload_n 1, 1) := by decide +kernel
theorem dX12_placeOf_20 : decode cX12_placeOf 20 = .ok (.lcmp, 1) := by decide +kernel
theorem dX12_placeOf_21 : decode cX12_placeOf 21 = .ok (.ifCond .ne 8, 3) := by decide +kernel
theorem dX12_placeOf_24 : decode cX12_placeOf 24 = .ok (.iload 5, 2) := by decide +kernel
theorem dX12_placeOf_26 : decode cX12_placeOf 26 = .ok (.iload_n 3, 1) := by decide +kernel
theorem dX12_placeOf_27 : decode cX12_placeOf 27 = .ok (.isub, 1) := by decide +kernel
theorem dX12_placeOf_28 : decode cX12_placeOf 28 = .ok (.ireturn, 1) := by decide +kernel
theorem dX12_placeOf_29 : decode cX12_placeOf 29 = .ok (.iinc 5 1, 3) := by decide +kernel
theorem dX12_placeOf_32 : decode cX12_placeOf 32 = .ok (.goto (-29), 3) := by decide +kernel
theorem dX12_placeOf_35 : decode cX12_placeOf 35 = .ok (.iconst (-1), 1) := by decide +kernel
theorem dX12_placeOf_36 : decode cX12_placeOf 36 = .ok (.ireturn, 1) := by decide +kernel
def F_X12_placeOf_3 : Nat → Int64 → Int32 → Int32 → Int32 → ae_S → Option (Int32 × ae_S)
  | 0, _, _, _, _, _ => none
  | n + 1, v1, v3, v4, v5, s0 => if (v3 + v4) ≤ v5 then (some ((-1 : Int32), s0)) else (ae_gd (ae_ib v5 32) (if (lg_cmp (s0.2.1 35 0 v5.toNatClampNeg) v1) = 0 then (some (v5 - v3, s0)) else (ae_lt (v5 + (1 : Int32)) (fun x7 => F_X12_placeOf_3 n v1 v3 v4 x7 s0))))
set_option maxHeartbeats 4000000 in
set_option maxRecDepth 100000 in
theorem t_X12_placeOf_3 {l : Launch} {G : ae_G} (d : Nat) {rr : Int32} {ss : ae_S} : ∀ (n : Nat) (v1 : Int64) (v3 : Int32) (v4 : Int32) (v5 : Int32) (s0 : ae_S), F_X12_placeOf_3 n v1 v3 v4 v5 s0 = some (rr, ss) → ae_T l G d mX12_placeOf (ae_Po (some (ae_i rr)) ss) 3 [(0, ae_r (some (30, 0))), (1, ae_l v1), (3, ae_i v3), (4, ae_i v4), (5, ae_i v5)] [] s0 := by
  intro n
  induction n with
  | zero =>
    intro v1 v3 v4 v5 s0 hF
    exact absurd (show (none : Option (Int32 × ae_S)) = some (rr, ss) from hF) (by simp)
  | succ n ih =>
    intro v1 v3 v4 v5 s0 hF
    unfold F_X12_placeOf_3 at hF
    refine ae_iload 4 dX12_placeOf_3 rfl ?_
    refine ae_iload_n 2 dX12_placeOf_5 rfl ?_
    refine ae_iload 3 dX12_placeOf_6 rfl ?_
    refine ae_iadd dX12_placeOf_8 ?_
    refine ae_icmp_ge 35 dX12_placeOf_9 rfl (fun hb1 => ?_) (fun hb1 => ?_)
    · have hF2 := ae_ifT hb1 hF
      refine ae_iconst (-1 : Int32) dX12_placeOf_35 (by decide) ?_
      obtain ⟨rfl, rfl⟩ := ae_retI hF2
      exact ae_iret dX12_placeOf_36 rfl rfl ⟨rfl, rfl⟩
    · have hF2 := ae_ifF hb1 hF
      refine ae_aload_n 0 dX12_placeOf_12 rfl ?_
      refine ae_getA (q := (30, 0)) (some (35, 0)) dX12_placeOf_13 fl_RX12_25 rfl rfl rfl ?_
      refine ae_iload 4 dX12_placeOf_16 rfl ?_
      obtain ⟨hg3, hF4⟩ := ae_gdI hF2
      refine ae_lald (q := (35, 0)) dX12_placeOf_18 rfl rfl (ae_ibI hg3) ?_
      refine ae_lload_n 1 dX12_placeOf_19 rfl ?_
      refine ae_lcmp dX12_placeOf_20 ?_
      refine ae_if_ne 29 dX12_placeOf_21 rfl (fun hb5 => ?_) (fun hb5 => ?_)
      · have hF6 := ae_ifF hb5 hF4
        obtain ⟨x7, hx7, hF8⟩ := ae_ltI hF6
        refine ae_iinc (lv' := [(5, ae_i x7), (0, ae_r (some (30, 0))), (1, ae_l v1), (3, ae_i v3), (4, ae_i v4)]) 4 (1 : Int32) dX12_placeOf_29 rfl (by decide) (by decide) (by rw [hx7]; rfl) ?_
        refine ae_goto 3 dX12_placeOf_32 rfl ?_
        refine ae_pick (lv' := [(0, ae_r (some (30, 0))), (1, ae_l v1), (3, ae_i v3), (4, ae_i v4), (5, ae_i x7)]) [1, 2, 3, 4, 0] rfl ?_
        exact ih v1 v3 v4 x7 s0 hF8
      · have hF6 := ae_ifT hb5 hF4
        refine ae_iload 4 dX12_placeOf_24 rfl ?_
        refine ae_iload_n 2 dX12_placeOf_26 rfl ?_
        refine ae_isub dX12_placeOf_27 ?_
        obtain ⟨rfl, rfl⟩ := ae_retI hF6
        exact ae_iret dX12_placeOf_28 rfl rfl ⟨rfl, rfl⟩
def F_X12_placeOf (v1 : Int64) (v3 : Int32) (v4 : Int32) (s0 : ae_S) : Option (Int32 × ae_S) := F_X12_placeOf_3 ae_fu v1 v3 v4 v3 s0
set_option maxHeartbeats 4000000 in
set_option maxRecDepth 100000 in
theorem c_X12_placeOf {l : Launch} {G : ae_G} (d : Nat) {v1 : Int64} {v3 : Int32} {v4 : Int32} {s0 ss : ae_S} {rr : Int32} (hF : F_X12_placeOf v1 v3 v4 s0 = some (rr, ss)) : ae_Met l G d yX12_placeOf mX12_placeOf [ae_r (some (30, 0)), ae_l v1, ae_i v3, ae_i v4] s0 (ae_Po (some (ae_i rr)) ss) := by
  refine ae_enter (by decide) rfl (Nat.le_of_ble_eq_true rfl) ?_
  show ae_T l G d mX12_placeOf (ae_Po (some (ae_i rr)) ss) 0 [(0, ae_r (some (30, 0))), (1, ae_l v1), (3, ae_i v3), (4, ae_i v4)] [] s0
  unfold F_X12_placeOf at hF
  refine ae_iload_n 2 dX12_placeOf_0 rfl ?_
  refine ae_istore (lv' := [(5, ae_i v3), (0, ae_r (some (30, 0))), (1, ae_l v1), (3, ae_i v3), (4, ae_i v4)]) dX12_placeOf_1 (by decide) rfl ?_
  refine ae_pick (lv' := [(0, ae_r (some (30, 0))), (1, ae_l v1), (3, ae_i v3), (4, ae_i v4), (5, ae_i v3)]) [1, 2, 3, 4, 0] rfl ?_
  exact t_X12_placeOf_3 d ae_fu v1 v3 v4 v3 s0 hF
abbrev mX12_isFine : ae_M := (RX12, cX12_isFine, 1, some .boolean)
theorem vy_X12_isFine : ae_VY yX12_isFine mX12_isFine 0 := ⟨ww_1588, wq_67, ww_13, ww_1589, ⟨by decide, by decide, by decide +kernel⟩, by decide⟩
theorem dX12_isFine_0 : decode cX12_isFine 0 = .ok (.aload_n 0, 1) := by decide +kernel
theorem dX12_isFine_1 : decode cX12_isFine 1 = .ok (.getfield 169, 3) := by decide +kernel
theorem dX12_isFine_4 : decode cX12_isFine 4 = .ok (.ifCond .ne 7, 3) := by decide +kernel
theorem dX12_isFine_7 : decode cX12_isFine 7 = .ok (.iconst 1, 1) := by decide +kernel
theorem dX12_isFine_8 : decode cX12_isFine 8 = .ok (.goto 4, 3) := by decide +kernel
theorem dX12_isFine_11 : decode cX12_isFine 11 = .ok (.iconst 0, 1) := by decide +kernel
theorem dX12_isFine_12 : decode cX12_isFine 12 = .ok (.ireturn, 1) := by decide +kernel
def F_X12_isFine_12 (t0 : Int32) (s0 : ae_S) : Option (Int32 × ae_S) := ae_gd (ae_zz t0) (some (t0, s0))
set_option maxHeartbeats 4000000 in
set_option maxRecDepth 100000 in
theorem t_X12_isFine_12 {l : Launch} {G : ae_G} (d : Nat) {rr : Int32} {ss : ae_S} (t0 : Int32) (s0 : ae_S) (hF : F_X12_isFine_12 t0 s0 = some (rr, ss)) : ae_T l G d mX12_isFine (ae_Po (some (ae_i rr)) ss) 12 [] [ae_i t0] s0 := by
  unfold F_X12_isFine_12 at hF
  obtain ⟨hg1, hF2⟩ := ae_gdI hF
  obtain ⟨rfl, rfl⟩ := ae_retI hF2
  exact ae_iret dX12_isFine_12 rfl (ae_zzN (ae_zzI hg1)) ⟨rfl, rfl⟩
def F_X12_isFine (s0 : ae_S) : Option (Int32 × ae_S) := if (s0.1 30 0 23) = 0 then (F_X12_isFine_12 (1 : Int32) s0) else (F_X12_isFine_12 (0 : Int32) s0)
set_option maxHeartbeats 4000000 in
set_option maxRecDepth 100000 in
theorem c_X12_isFine {l : Launch} {G : ae_G} (d : Nat) {s0 ss : ae_S} {rr : Int32} (hF : F_X12_isFine s0 = some (rr, ss)) : ae_Met l G d yX12_isFine mX12_isFine [ae_r (some (30, 0))] s0 (ae_Po (some (ae_i rr)) ss) := by
  refine ae_enter (by decide) rfl (Nat.le_of_ble_eq_true rfl) ?_
  show ae_T l G d mX12_isFine (ae_Po (some (ae_i rr)) ss) 0 [(0, ae_r (some (30, 0)))] [] s0
  unfold F_X12_isFine at hF
  refine ae_aload_n 0 dX12_isFine_0 rfl ?_
  refine ae_getI (q := (30, 0)) dX12_isFine_1 fl_RX12_169 rfl rfl ?_
  refine ae_if_ne 11 dX12_isFine_4 rfl (fun hb3 => ?_) (fun hb3 => ?_)
  · have hF4 := ae_ifF hb3 hF
    refine ae_iconst (0 : Int32) dX12_isFine_11 (by decide) ?_
    refine ae_pick (lv' := []) [] rfl ?_
    exact t_X12_isFine_12 d (0 : Int32) s0 hF4
  · have hF4 := ae_ifT hb3 hF
    refine ae_iconst (1 : Int32) dX12_isFine_7 (by decide) ?_
    refine ae_goto 12 dX12_isFine_8 rfl ?_
    refine ae_pick (lv' := []) [] rfl ?_
    exact t_X12_isFine_12 d (1 : Int32) s0 hF4
abbrev mX12_readsNumber : ae_M := (RX12, cX12_readsNumber, 2, some .boolean)
theorem vy_X12_readsNumber : ae_VY yX12_readsNumber mX12_readsNumber 1 := ⟨ww_1584, wq_66, ww_13, ww_1585, ⟨by decide, by decide, by decide +kernel⟩, by decide⟩
theorem dX12_readsNumber_0 : decode cX12_readsNumber 0 = .ok (.aload_n 0, 1) := by decide +kernel
theorem dX12_readsNumber_1 : decode cX12_readsNumber 1 = .ok (.invokevirtual 189, 3) := by decide +kernel
theorem dX12_readsNumber_4 : decode cX12_readsNumber 4 = .ok (.ifCond .ne 5, 3) := by decide +kernel
theorem dX12_readsNumber_7 : decode cX12_readsNumber 7 = .ok (.iconst 0, 1) := by decide +kernel
theorem dX12_readsNumber_8 : decode cX12_readsNumber 8 = .ok (.ireturn, 1) := by decide +kernel
theorem dX12_readsNumber_9 : decode cX12_readsNumber 9 = .ok (.aload_n 0, 1) := by decide +kernel
theorem dX12_readsNumber_10 : decode cX12_readsNumber 10 = .ok (.getfield 143, 3) := by decide +kernel
theorem dX12_readsNumber_13 : decode cX12_readsNumber 13 = .ok (.iconst 2, 1) := by decide +kernel
theorem dX12_readsNumber_14 : decode cX12_readsNumber 14 = .ok (.if_icmp .ne 11, 3) := by decide +kernel
theorem dX12_readsNumber_17 : decode cX12_readsNumber 17 = .ok (.aload_n 0, 1) := by decide +kernel
theorem dX12_readsNumber_18 : decode cX12_readsNumber 18 = .ok (.getfield 163, 3) := by decide +kernel
theorem dX12_readsNumber_21 : decode cX12_readsNumber 21 = .ok (.iload_n 1, 1) := by decide +kernel
theorem dX12_readsNumber_22 : decode cX12_readsNumber 22 = .ok (.if_icmp .le 13, 3) := by decide +kernel
theorem dX12_readsNumber_25 : decode cX12_readsNumber 25 = .ok (.aload_n 0, 1) := by decide +kernel
theorem dX12_readsNumber_26 : decode cX12_readsNumber 26 = .ok (.iconst 1, 1) := by decide +kernel
theorem dX12_readsNumber_27 : decode cX12_readsNumber 27 = .ok (.aload_n 0, 1) := by decide +kernel
theorem dX12_readsNumber_28 : decode cX12_readsNumber 28 = .ok (.getfield 140, 3) := by decide +kernel
theorem dX12_readsNumber_31 : decode cX12_readsNumber 31 = .ok (.invokevirtual 196, 3) := by decide +kernel
theorem dX12_readsNumber_34 : decode cX12_readsNumber 34 = .ok (.ireturn, 1) := by decide +kernel
theorem dX12_readsNumber_35 : decode cX12_readsNumber 35 = .ok (.iconst 1, 1) := by decide +kernel
theorem dX12_readsNumber_36 : decode cX12_readsNumber 36 = .ok (.ireturn, 1) := by decide +kernel
def F_X12_readsNumber_25 (s0 : ae_S) : Option (Int32 × ae_S) := ae_bd (F_X12_fails (1 : Int32) (s0.1 30 0 26) s0) (fun (r1 : Int32) s2 => ae_gd (ae_zz r1) (some (r1, s2)))
set_option maxHeartbeats 4000000 in
set_option maxRecDepth 100000 in
theorem t_X12_readsNumber_25 {l : Launch} {G : ae_G} (d : Nat) {rr : Int32} {ss : ae_S} (s0 : ae_S) (hF : F_X12_readsNumber_25 s0 = some (rr, ss)) : ae_T l G (d + 1) mX12_readsNumber (ae_Po (some (ae_i rr)) ss) 25 [(0, ae_r (some (30, 0)))] [] s0 := by
  unfold F_X12_readsNumber_25 at hF
  refine ae_aload_n 0 dX12_readsNumber_25 rfl ?_
  refine ae_iconst (1 : Int32) dX12_readsNumber_26 (by decide) ?_
  refine ae_aload_n 0 dX12_readsNumber_27 rfl ?_
  refine ae_getI (q := (30, 0)) dX12_readsNumber_28 fl_RX12_140 rfl rfl ?_
  obtain ⟨r1, s2, hc3, hF4⟩ := ae_bdI hF
  refine ae_cV1 (q := (30, 0)) (As := [ae_i (1 : Int32), ae_i (s0.1 30 0 26)]) dX12_readsNumber_31 ww_1571 vy_X12_fails rfl rfl rfl rfl rfl (Nat.le_of_ble_eq_true rfl) (c_X12_fails d hc3) ?_
  obtain ⟨hg5, hF6⟩ := ae_gdI hF4
  obtain ⟨rfl, rfl⟩ := ae_retI hF6
  exact ae_iret dX12_readsNumber_34 rfl (ae_zzN (ae_zzI hg5)) ⟨rfl, rfl⟩
def F_X12_readsNumber (v1 : Int32) (s0 : ae_S) : Option (Int32 × ae_S) := ae_bd (F_X12_isFine s0) (fun (r7 : Int32) s8 => if r7 = 0 then (some ((0 : Int32), s8)) else (if (s8.1 30 0 25) = (2 : Int32) then (if (s8.1 30 0 30) ≤ v1 then (some ((1 : Int32), s8)) else (F_X12_readsNumber_25 s8)) else (F_X12_readsNumber_25 s8)))
set_option maxHeartbeats 4000000 in
set_option maxRecDepth 100000 in
theorem c_X12_readsNumber {l : Launch} {G : ae_G} (d : Nat) {v1 : Int32} {s0 ss : ae_S} {rr : Int32} (hF : F_X12_readsNumber v1 s0 = some (rr, ss)) : ae_Met l G (d + 1) yX12_readsNumber mX12_readsNumber [ae_r (some (30, 0)), ae_i v1] s0 (ae_Po (some (ae_i rr)) ss) := by
  refine ae_enter (by decide) rfl (Nat.le_of_ble_eq_true rfl) ?_
  show ae_T l G (d + 1) mX12_readsNumber (ae_Po (some (ae_i rr)) ss) 0 [(0, ae_r (some (30, 0))), (1, ae_i v1)] [] s0
  unfold F_X12_readsNumber at hF
  refine ae_aload_n 0 dX12_readsNumber_0 rfl ?_
  obtain ⟨r7, s8, hc9, hF10⟩ := ae_bdI hF
  refine ae_cV1 (q := (30, 0)) (As := []) dX12_readsNumber_1 ww_1586 vy_X12_isFine rfl rfl rfl rfl rfl (Nat.le_of_ble_eq_true rfl) (c_X12_isFine d hc9) ?_
  refine ae_if_ne 9 dX12_readsNumber_4 rfl (fun hb11 => ?_) (fun hb11 => ?_)
  · have hF12 := ae_ifF hb11 hF10
    refine ae_aload_n 0 dX12_readsNumber_9 rfl ?_
    refine ae_getI (q := (30, 0)) dX12_readsNumber_10 fl_RX12_143 rfl rfl ?_
    refine ae_iconst (2 : Int32) dX12_readsNumber_13 (by decide) ?_
    refine ae_icmp_ne 25 dX12_readsNumber_14 rfl (fun hb13 => ?_) (fun hb13 => ?_)
    · have hF14 := ae_ifF hb13 hF12
      refine ae_pick (lv' := [(0, ae_r (some (30, 0)))]) [0] rfl ?_
      exact t_X12_readsNumber_25 d s8 hF14
    · have hF14 := ae_ifT hb13 hF12
      refine ae_aload_n 0 dX12_readsNumber_17 rfl ?_
      refine ae_getI (q := (30, 0)) dX12_readsNumber_18 fl_RX12_163 rfl rfl ?_
      refine ae_iload_n 1 dX12_readsNumber_21 rfl ?_
      refine ae_icmp_le 35 dX12_readsNumber_22 rfl (fun hb15 => ?_) (fun hb15 => ?_)
      · have hF16 := ae_ifT hb15 hF14
        refine ae_iconst (1 : Int32) dX12_readsNumber_35 (by decide) ?_
        obtain ⟨rfl, rfl⟩ := ae_retI hF16
        exact ae_iret dX12_readsNumber_36 rfl (by decide) ⟨rfl, rfl⟩
      · have hF16 := ae_ifF hb15 hF14
        refine ae_pick (lv' := [(0, ae_r (some (30, 0)))]) [0] rfl ?_
        exact t_X12_readsNumber_25 d s8 hF16
  · have hF12 := ae_ifT hb11 hF10
    refine ae_iconst (0 : Int32) dX12_readsNumber_7 (by decide) ?_
    obtain ⟨rfl, rfl⟩ := ae_retI hF12
    exact ae_iret dX12_readsNumber_8 rfl (by decide) ⟨rfl, rfl⟩
abbrev mX12_takes : ae_M := (RX12, cX12_takes, 2, some .boolean)
theorem vy_X12_takes : ae_VY yX12_takes mX12_takes 1 := ⟨ww_1612, wq_72, ww_13, ww_1613, ⟨by decide, by decide, by decide +kernel⟩, by decide⟩
theorem dX12_takes_0 : decode cX12_takes 0 = .ok (.aload_n 0, 1) := by decide +kernel
theorem dX12_takes_1 : decode cX12_takes 1 = .ok (.invokevirtual 189, 3) := by decide +kernel
theorem dX12_takes_4 : decode cX12_takes 4 = .ok (.ifCond .ne 5, 3) := by decide +kernel
theorem dX12_takes_7 : decode cX12_takes 7 = .ok (.iconst 0, 1) := by decide +kernel
theorem dX12_takes_8 : decode cX12_takes 8 = .ok (.ireturn, 1) := by decide +kernel
theorem dX12_takes_9 : decode cX12_takes 9 = .ok (.aload_n 0, 1) := by decide +kernel
theorem dX12_takes_10 : decode cX12_takes 10 = .ok (.iload_n 1, 1) := by decide +kernel
theorem dX12_takes_11 : decode cX12_takes 11 = .ok (.invokevirtual 193, 3) := by decide +kernel
theorem dX12_takes_14 : decode cX12_takes 14 = .ok (.ifCond .ne 13, 3) := by decide +kernel
theorem dX12_takes_17 : decode cX12_takes 17 = .ok (.aload_n 0, 1) := by decide +kernel
theorem dX12_takes_18 : decode cX12_takes 18 = .ok (.iconst 1, 1) := by decide +kernel
theorem dX12_takes_19 : decode cX12_takes 19 = .ok (.aload_n 0, 1) := by decide +kernel
theorem dX12_takes_20 : decode cX12_takes 20 = .ok (.getfield 140, 3) := by decide +kernel
theorem dX12_takes_23 : decode cX12_takes 23 = .ok (.invokevirtual 196, 3) := by decide +kernel
theorem dX12_takes_26 : decode cX12_takes 26 = .ok (.ireturn, 1) := by decide +kernel
theorem dX12_takes_27 : decode cX12_takes 27 = .ok (.aload_n 0, 1) := by decide +kernel
theorem dX12_takes_28 : decode cX12_takes 28 = .ok (.invokevirtual 200, 3) := by decide +kernel
theorem dX12_takes_31 : decode cX12_takes 31 = .ok (.iconst 1, 1) := by decide +kernel
theorem dX12_takes_32 : decode cX12_takes 32 = .ok (.ireturn, 1) := by decide +kernel
def F_X12_takes (v1 : Int32) (s0 : ae_S) : Option (Int32 × ae_S) := ae_bd (F_X12_isFine s0) (fun (r1 : Int32) s2 => if r1 = 0 then (some ((0 : Int32), s2)) else (ae_bd (F_X12_isSign v1 s2) (fun (r7 : Int32) s8 => if r7 = 0 then (ae_bd (F_X12_fails (1 : Int32) (s8.1 30 0 26) s8) (fun (r17 : Int32) s18 => ae_gd (ae_zz r17) (some (r17, s18)))) else (ae_bd (F_X12_next s8) (fun (r13 : Unit) s14 => some ((1 : Int32), s14))))))
set_option maxHeartbeats 4000000 in
set_option maxRecDepth 100000 in
theorem c_X12_takes {l : Launch} {G : ae_G} (d : Nat) {v1 : Int32} {s0 ss : ae_S} {rr : Int32} (hF : F_X12_takes v1 s0 = some (rr, ss)) : ae_Met l G (d + 2) yX12_takes mX12_takes [ae_r (some (30, 0)), ae_i v1] s0 (ae_Po (some (ae_i rr)) ss) := by
  refine ae_enter (by decide) rfl (Nat.le_of_ble_eq_true rfl) ?_
  show ae_T l G (d + 2) mX12_takes (ae_Po (some (ae_i rr)) ss) 0 [(0, ae_r (some (30, 0))), (1, ae_i v1)] [] s0
  unfold F_X12_takes at hF
  refine ae_aload_n 0 dX12_takes_0 rfl ?_
  obtain ⟨r1, s2, hc3, hF4⟩ := ae_bdI hF
  refine ae_cV1 (q := (30, 0)) (As := []) dX12_takes_1 ww_1586 vy_X12_isFine rfl rfl rfl rfl rfl (Nat.le_of_ble_eq_true rfl) (c_X12_isFine (d + 1) hc3) ?_
  refine ae_if_ne 9 dX12_takes_4 rfl (fun hb5 => ?_) (fun hb5 => ?_)
  · have hF6 := ae_ifF hb5 hF4
    refine ae_aload_n 0 dX12_takes_9 rfl ?_
    refine ae_iload_n 1 dX12_takes_10 rfl ?_
    obtain ⟨r7, s8, hc9, hF10⟩ := ae_bdI hF6
    refine ae_cV1 (q := (30, 0)) (As := [ae_i v1]) dX12_takes_11 ww_1598 vy_X12_isSign rfl rfl rfl rfl rfl (Nat.le_of_ble_eq_true rfl) (c_X12_isSign (d + 1) hc9) ?_
    refine ae_if_ne 27 dX12_takes_14 rfl (fun hb11 => ?_) (fun hb11 => ?_)
    · have hF12 := ae_ifF hb11 hF10
      refine ae_aload_n 0 dX12_takes_27 rfl ?_
      obtain ⟨r13, s14, hc15, hF16⟩ := ae_bdI hF12
      refine ae_cV0 (q := (30, 0)) (As := []) dX12_takes_28 ww_1508 vy_X12_next rfl rfl rfl rfl rfl (Nat.le_of_ble_eq_true rfl) (c_X12_next d hc15) ?_
      refine ae_iconst (1 : Int32) dX12_takes_31 (by decide) ?_
      obtain ⟨rfl, rfl⟩ := ae_retI hF16
      exact ae_iret dX12_takes_32 rfl (by decide) ⟨rfl, rfl⟩
    · have hF12 := ae_ifT hb11 hF10
      refine ae_aload_n 0 dX12_takes_17 rfl ?_
      refine ae_iconst (1 : Int32) dX12_takes_18 (by decide) ?_
      refine ae_aload_n 0 dX12_takes_19 rfl ?_
      refine ae_getI (q := (30, 0)) dX12_takes_20 fl_RX12_140 rfl rfl ?_
      obtain ⟨r17, s18, hc19, hF20⟩ := ae_bdI hF12
      refine ae_cV1 (q := (30, 0)) (As := [ae_i (1 : Int32), ae_i (s8.1 30 0 26)]) dX12_takes_23 ww_1571 vy_X12_fails rfl rfl rfl rfl rfl (Nat.le_of_ble_eq_true rfl) (c_X12_fails (d + 1) hc19) ?_
      obtain ⟨hg21, hF22⟩ := ae_gdI hF20
      obtain ⟨rfl, rfl⟩ := ae_retI hF22
      exact ae_iret dX12_takes_26 rfl (ae_zzN (ae_zzI hg21)) ⟨rfl, rfl⟩
  · have hF6 := ae_ifT hb5 hF4
    refine ae_iconst (0 : Int32) dX12_takes_7 (by decide) ?_
    obtain ⟨rfl, rfl⟩ := ae_retI hF6
    exact ae_iret dX12_takes_8 rfl (by decide) ⟨rfl, rfl⟩
abbrev mX12_readField : ae_M := (RX12, cX12_readField, 4, some .boolean)
theorem vy_X12_readField : ae_VY yX12_readField mX12_readField 1 := ⟨ww_1608, wq_71, ww_13, ww_1609, ⟨by decide, by decide, by decide +kernel⟩, by decide⟩
theorem dX12_readField_0 : decode cX12_readField 0 = .ok (.bipush 8, 2) := by decide +kernel
theorem dX12_readField_2 : decode cX12_readField 2 = .ok (.iload_n 1, 1) := by decide +kernel
theorem dX12_readField_3 : decode cX12_readField 3 = .ok (.imul, 1) := by decide +kernel
theorem dX12_readField_4 : decode cX12_readField 4 = .ok (.aload_n 0, 1) := by decide +kernel
theorem dX12_readField_5 : decode cX12_readField 5 = .ok (.getfield 47, 3) := by decide +kernel
theorem dX12_readField_8 : decode cX12_readField 8 = .ok (.iload_n 1, 1) := by decide +kernel
theorem dX12_readField_9 : decode cX12_readField 9 = .ok (.iaload, 1) := by decide +kernel
theorem dX12_readField_10 : decode cX12_readField 10 = .ok (.iadd, 1) := by decide +kernel
theorem dX12_readField_11 : decode cX12_readField 11 = .ok (.istore_n 2, 1) := by decide +kernel
theorem dX12_readField_12 : decode cX12_readField 12 = .ok (.aload_n 0, 1) := by decide +kernel
theorem dX12_readField_13 : decode cX12_readField 13 = .ok (.invokevirtual 253, 3) := by decide +kernel
theorem dX12_readField_16 : decode cX12_readField 16 = .ok (.ifCond .ne 13, 3) := by decide +kernel
theorem dX12_readField_19 : decode cX12_readField 19 = .ok (.aload_n 0, 1) := by decide +kernel
theorem dX12_readField_20 : decode cX12_readField 20 = .ok (.iconst 1, 1) := by decide +kernel
theorem dX12_readField_21 : decode cX12_readField 21 = .ok (.aload_n 0, 1) := by decide +kernel
theorem dX12_readField_22 : decode cX12_readField 22 = .ok (.getfield 140, 3) := by decide +kernel
theorem dX12_readField_25 : decode cX12_readField 25 = .ok (.invokevirtual 196, 3) := by decide +kernel
theorem dX12_readField_28 : decode cX12_readField 28 = .ok (.ireturn, 1) := by decide +kernel
theorem dX12_readField_29 : decode cX12_readField 29 = .ok (.bipush 8, 2) := by decide +kernel
theorem dX12_readField_31 : decode cX12_readField 31 = .ok (.iload_n 1, 1) := by decide +kernel
theorem dX12_readField_32 : decode cX12_readField 32 = .ok (.imul, 1) := by decide +kernel
theorem dX12_readField_33 : decode cX12_readField 33 = .ok (.istore_n 3, 1) := by decide +kernel
theorem dX12_readField_34 : decode cX12_readField 34 = .ok (.iload_n 3, 1) := by decide +kernel
theorem dX12_readField_35 : decode cX12_readField 35 = .ok (.iload_n 2, 1) := by decide +kernel
theorem dX12_readField_36 : decode cX12_readField 36 = .ok (.if_icmp .ge 33, 3) := by decide +kernel
theorem dX12_readField_39 : decode cX12_readField 39 = .ok (.aload_n 0, 1) := by decide +kernel
theorem dX12_readField_40 : decode cX12_readField 40 = .ok (.getfield 50, 3) := by decide +kernel
theorem dX12_readField_43 : decode cX12_readField 43 = .ok (.iload_n 3, 1) := by decide +kernel
theorem dX12_readField_44 : decode cX12_readField 44 = .ok (.laload, 1) := by decide +kernel
theorem dX12_readField_45 : decode cX12_readField 45 = .ok (.aload_n 0, 1) := by decide +kernel
theorem dX12_readField_46 : decode cX12_readField 46 = .ok (.getfield 149, 3) := by decide +kernel
theorem dX12_readField_49 : decode cX12_readField 49 = .ok (.lcmp, 1) := by decide +kernel
theorem dX12_readField_50 : decode cX12_readField 50 = .ok (.ifCond .ne 13, 3) := by decide +kernel
theorem dX12_readField_53 : decode cX12_readField 53 = .ok (.aload_n 0, 1) := by decide +kernel
theorem dX12_readField_54 : decode cX12_readField 54 = .ok (.iconst 2, 1) := by decide +kernel
theorem dX12_readField_55 : decode cX12_readField 55 = .ok (.aload_n 0, 1) := by decide +kernel
theorem dX12_readField_56 : decode cX12_readField 56 = .ok (.getfield 140, 3) := by decide +kernel
theorem dX12_readField_59 : decode cX12_readField 59 = .ok (.invokevirtual 196, 3) := by decide +kernel
theorem dX12_readField_62 : decode cX12_readField 62 = .ok (.ireturn, 1) := by decide +kernel
theorem dX12_readField_63 : decode cX12_readField 63 = .ok (.iinc 3 1, 3) := by decide +kernel
theorem dX12_readField_66 : decode cX12_readField 66 = .ok (.goto (-32), 3) := by decide +kernel
theorem dX12_readField_69 : decode cX12_readField 69 = .ok (.aload_n 0, 1) := by decide +kernel
theorem dX12_readField_70 : decode cX12_readField 70 = .ok (.getfield 47, 3) := by decide +kernel
theorem dX12_readField_73 : decode cX12_readField 73 = .ok (.iload_n 1, 1) := by decide +kernel
theorem dX12_readField_74 : decode cX12_readField 74 = .ok (.iaload, 1) := by decide +kernel
theorem dX12_readField_75 : decode cX12_readField 75 = .ok (.bipush 8, 2) := by decide +kernel
theorem dX12_readField_77 : decode cX12_readField 77 = .ok (.if_icmp .ne 13, 3) := by decide +kernel
theorem dX12_readField_80 : decode cX12_readField 80 = .ok (.aload_n 0, 1) := by decide +kernel
theorem dX12_readField_81 : decode cX12_readField 81 = .ok (.iconst 4, 1) := by decide +kernel
theorem dX12_readField_82 : decode cX12_readField 82 = .ok (.aload_n 0, 1) := by decide +kernel
theorem dX12_readField_83 : decode cX12_readField 83 = .ok (.getfield 140, 3) := by decide +kernel
theorem dX12_readField_86 : decode cX12_readField 86 = .ok (.invokevirtual 196, 3) := by decide +kernel
theorem dX12_readField_89 : decode cX12_readField 89 = .ok (.ireturn, 1) := by decide +kernel
theorem dX12_readField_90 : decode cX12_readField 90 = .ok (.aload_n 0, 1) := by decide +kernel
theorem dX12_readField_91 : decode cX12_readField 91 = .ok (.getfield 50, 3) := by decide +kernel
theorem dX12_readField_94 : decode cX12_readField 94 = .ok (.iload_n 2, 1) := by decide +kernel
theorem dX12_readField_95 : decode cX12_readField 95 = .ok (.aload_n 0, 1) := by decide +kernel
theorem dX12_readField_96 : decode cX12_readField 96 = .ok (.getfield 149, 3) := by decide +kernel
theorem dX12_readField_99 : decode cX12_readField 99 = .ok (.lastore, 1) := by decide +kernel
theorem dX12_readField_100 : decode cX12_readField 100 = .ok (.aload_n 0, 1) := by decide +kernel
theorem dX12_readField_101 : decode cX12_readField 101 = .ok (.invokevirtual 200, 3) := by decide +kernel
theorem dX12_readField_104 : decode cX12_readField 104 = .ok (.aload_n 0, 1) := by decide +kernel
theorem dX12_readField_105 : decode cX12_readField 105 = .ok (.bipush 58, 2) := by decide +kernel
theorem dX12_readField_107 : decode cX12_readField 107 = .ok (.invokevirtual 276, 3) := by decide +kernel
theorem dX12_readField_110 : decode cX12_readField 110 = .ok (.ifCond .eq 11, 3) := by decide +kernel
theorem dX12_readField_113 : decode cX12_readField 113 = .ok (.aload_n 0, 1) := by decide +kernel
theorem dX12_readField_114 : decode cX12_readField 114 = .ok (.iconst 3, 1) := by decide +kernel
theorem dX12_readField_115 : decode cX12_readField 115 = .ok (.invokevirtual 264, 3) := by decide +kernel
theorem dX12_readField_118 : decode cX12_readField 118 = .ok (.ifCond .ne 5, 3) := by decide +kernel
theorem dX12_readField_121 : decode cX12_readField 121 = .ok (.iconst 0, 1) := by decide +kernel
theorem dX12_readField_122 : decode cX12_readField 122 = .ok (.ireturn, 1) := by decide +kernel
theorem dX12_readField_123 : decode cX12_readField 123 = .ok (.bipush 8, 2) := by decide +kernel
theorem dX12_readField_125 : decode cX12_readField 125 = .ok (.aload_n 0, 1) := by decide +kernel
theorem dX12_readField_126 : decode cX12_readField 126 = .ok (.getfield 29, 3) := by decide +kernel
theorem dX12_readField_129 : decode cX12_readField 129 = .ok (.iload_n 1, 1) := by decide +kernel
theorem dX12_readField_130 : decode cX12_readField 130 = .ok (.iaload, 1) := by decide +kernel
theorem dX12_readField_131 : decode cX12_readField 131 = .ok (.invokestatic 267, 3) := by decide +kernel
theorem dX12_readField_134 : decode cX12_readField 134 = .ok (.imul, 1) := by decide +kernel
theorem dX12_readField_135 : decode cX12_readField 135 = .ok (.istore_n 3, 1) := by decide +kernel
theorem dX12_readField_136 : decode cX12_readField 136 = .ok (.aload_n 0, 1) := by decide +kernel
theorem dX12_readField_137 : decode cX12_readField 137 = .ok (.getfield 156, 3) := by decide +kernel
theorem dX12_readField_140 : decode cX12_readField 140 = .ok (.iload_n 3, 1) := by decide +kernel
theorem dX12_readField_141 : decode cX12_readField 141 = .ok (.i2l, 1) := by decide +kernel
theorem dX12_readField_142 : decode cX12_readField 142 = .ok (.lcmp, 1) := by decide +kernel
theorem dX12_readField_143 : decode cX12_readField 143 = .ok (.ifCond .lt 13, 3) := by decide +kernel
theorem dX12_readField_146 : decode cX12_readField 146 = .ok (.aload_n 0, 1) := by decide +kernel
theorem dX12_readField_147 : decode cX12_readField 147 = .ok (.iconst 3, 1) := by decide +kernel
theorem dX12_readField_148 : decode cX12_readField 148 = .ok (.aload_n 0, 1) := by decide +kernel
theorem dX12_readField_149 : decode cX12_readField 149 = .ok (.getfield 140, 3) := by decide +kernel
theorem dX12_readField_152 : decode cX12_readField 152 = .ok (.invokevirtual 196, 3) := by decide +kernel
theorem dX12_readField_155 : decode cX12_readField 155 = .ok (.ireturn, 1) := by decide +kernel
theorem dX12_readField_156 : decode cX12_readField 156 = .ok (.aload_n 0, 1) := by decide +kernel
theorem dX12_readField_157 : decode cX12_readField 157 = .ok (.getfield 53, 3) := by decide +kernel
theorem dX12_readField_160 : decode cX12_readField 160 = .ok (.iload_n 2, 1) := by decide +kernel
theorem dX12_readField_161 : decode cX12_readField 161 = .ok (.aload_n 0, 1) := by decide +kernel
theorem dX12_readField_162 : decode cX12_readField 162 = .ok (.getfield 156, 3) := by decide +kernel
theorem dX12_readField_165 : decode cX12_readField 165 = .ok (.l2i, 1) := by decide +kernel
theorem dX12_readField_166 : decode cX12_readField 166 = .ok (.iastore, 1) := by decide +kernel
theorem dX12_readField_167 : decode cX12_readField 167 = .ok (.aload_n 0, 1) := by decide +kernel
theorem dX12_readField_168 : decode cX12_readField 168 = .ok (.invokevirtual 200, 3) := by decide +kernel
theorem dX12_readField_171 : decode cX12_readField 171 = .ok (.aload_n 0, 1) := by decide +kernel
theorem dX12_readField_172 : decode cX12_readField 172 = .ok (.bipush 45, 2) := by decide +kernel
theorem dX12_readField_174 : decode cX12_readField 174 = .ok (.invokevirtual 276, 3) := by decide +kernel
theorem dX12_readField_177 : decode cX12_readField 177 = .ok (.ifCond .eq 11, 3) := by decide +kernel
theorem dX12_readField_180 : decode cX12_readField 180 = .ok (.aload_n 0, 1) := by decide +kernel
theorem dX12_readField_181 : decode cX12_readField 181 = .ok (.iconst 3, 1) := by decide +kernel
theorem dX12_readField_182 : decode cX12_readField 182 = .ok (.invokevirtual 264, 3) := by decide +kernel
theorem dX12_readField_185 : decode cX12_readField 185 = .ok (.ifCond .ne 5, 3) := by decide +kernel
theorem dX12_readField_188 : decode cX12_readField 188 = .ok (.iconst 0, 1) := by decide +kernel
theorem dX12_readField_189 : decode cX12_readField 189 = .ok (.ireturn, 1) := by decide +kernel
theorem dX12_readField_190 : decode cX12_readField 190 = .ok (.aload_n 0, 1) := by decide +kernel
theorem dX12_readField_191 : decode cX12_readField 191 = .ok (.getfield 156, 3) := by decide +kernel
theorem dX12_readField_194 : decode cX12_readField 194 = .ok (.iload_n 3, 1) := by decide +kernel
theorem dX12_readField_195 : decode cX12_readField 195 = .ok (.i2l, 1) := by decide +kernel
theorem dX12_readField_196 : decode cX12_readField 196 = .ok (.lcmp, 1) := by decide +kernel
theorem dX12_readField_197 : decode cX12_readField 197 = .ok (.ifCond .ge 37, 3) := by decide +kernel
theorem dX12_readField_200 : decode cX12_readField 200 = .ok (.aload_n 0, 1) := by decide +kernel
theorem dX12_readField_201 : decode cX12_readField 201 = .ok (.getfield 156, 3) := by decide +kernel
theorem dX12_readField_204 : decode cX12_readField 204 = .ok (.aload_n 0, 1) := by decide +kernel
theorem dX12_readField_205 : decode cX12_readField 205 = .ok (.getfield 53, 3) := by decide +kernel
theorem dX12_readField_208 : decode cX12_readField 208 = .ok (.iload_n 2, 1) := by decide +kernel
theorem dX12_readField_209 : decode cX12_readField 209 = .ok (.iaload, 1) := by decide +kernel
theorem dX12_readField_210 : decode cX12_readField 210 = .ok (.i2l, 1) := by decide +kernel
theorem dX12_readField_211 : decode cX12_readField 211 = .ok (.lcmp, 1) := by decide +kernel
theorem dX12_readField_212 : decode cX12_readField 212 = .ok (.ifCond .lt 22, 3) := by decide +kernel
theorem dX12_readField_215 : decode cX12_readField 215 = .ok (.aload_n 0, 1) := by decide +kernel
theorem dX12_readField_216 : decode cX12_readField 216 = .ok (.getfield 156, 3) := by decide +kernel
theorem dX12_readField_219 : decode cX12_readField 219 = .ok (.aload_n 0, 1) := by decide +kernel
theorem dX12_readField_220 : decode cX12_readField 220 = .ok (.getfield 53, 3) := by decide +kernel
theorem dX12_readField_223 : decode cX12_readField 223 = .ok (.iload_n 2, 1) := by decide +kernel
theorem dX12_readField_224 : decode cX12_readField 224 = .ok (.iaload, 1) := by decide +kernel
theorem dX12_readField_225 : decode cX12_readField 225 = .ok (.i2l, 1) := by decide +kernel
theorem dX12_readField_226 : decode cX12_readField 226 = .ok (.lsub, 1) := by decide +kernel
theorem dX12_readField_227 : decode cX12_readField 227 = .ok (.ldc2_w 284, 3) := by decide +kernel
theorem dX12_readField_230 : decode cX12_readField 230 = .ok (.lcmp, 1) := by decide +kernel
theorem dX12_readField_231 : decode cX12_readField 231 = .ok (.ifCond .lt 13, 3) := by decide +kernel
theorem dX12_readField_234 : decode cX12_readField 234 = .ok (.aload_n 0, 1) := by decide +kernel
theorem dX12_readField_235 : decode cX12_readField 235 = .ok (.iconst 3, 1) := by decide +kernel
theorem dX12_readField_236 : decode cX12_readField 236 = .ok (.aload_n 0, 1) := by decide +kernel
theorem dX12_readField_237 : decode cX12_readField 237 = .ok (.getfield 140, 3) := by decide +kernel
theorem dX12_readField_240 : decode cX12_readField 240 = .ok (.invokevirtual 196, 3) := by decide +kernel
theorem dX12_readField_243 : decode cX12_readField 243 = .ok (.ireturn, 1) := by decide +kernel
theorem dX12_readField_244 : decode cX12_readField 244 = .ok (.aload_n 0, 1) := by decide +kernel
theorem dX12_readField_245 : decode cX12_readField 245 = .ok (.getfield 56, 3) := by decide +kernel
theorem dX12_readField_248 : decode cX12_readField 248 = .ok (.iload_n 2, 1) := by decide +kernel
theorem dX12_readField_249 : decode cX12_readField 249 = .ok (.aload_n 0, 1) := by decide +kernel
theorem dX12_readField_250 : decode cX12_readField 250 = .ok (.getfield 156, 3) := by decide +kernel
theorem dX12_readField_253 : decode cX12_readField 253 = .ok (.l2i, 1) := by decide +kernel
theorem dX12_readField_254 : decode cX12_readField 254 = .ok (.iastore, 1) := by decide +kernel
theorem dX12_readField_255 : decode cX12_readField 255 = .ok (.aload_n 0, 1) := by decide +kernel
theorem dX12_readField_256 : decode cX12_readField 256 = .ok (.invokevirtual 200, 3) := by decide +kernel
theorem dX12_readField_259 : decode cX12_readField 259 = .ok (.aload_n 0, 1) := by decide +kernel
theorem dX12_readField_260 : decode cX12_readField 260 = .ok (.getfield 47, 3) := by decide +kernel
theorem dX12_readField_263 : decode cX12_readField 263 = .ok (.iload_n 1, 1) := by decide +kernel
theorem dX12_readField_264 : decode cX12_readField 264 = .ok (.dup2, 1) := by decide +kernel
theorem dX12_readField_265 : decode cX12_readField 265 = .ok (.iaload, 1) := by decide +kernel
theorem dX12_readField_266 : decode cX12_readField 266 = .ok (.iconst 1, 1) := by decide +kernel
theorem dX12_readField_267 : decode cX12_readField 267 = .ok (.iadd, 1) := by decide +kernel
theorem dX12_readField_268 : decode cX12_readField 268 = .ok (.iastore, 1) := by decide +kernel
theorem dX12_readField_269 : decode cX12_readField 269 = .ok (.iconst 1, 1) := by decide +kernel
theorem dX12_readField_270 : decode cX12_readField 270 = .ok (.ireturn, 1) := by decide +kernel
def F_X12_readField_121 (s0 : ae_S) : Option (Int32 × ae_S) := some ((0 : Int32), s0)
set_option maxHeartbeats 4000000 in
set_option maxRecDepth 100000 in
theorem t_X12_readField_121 {l : Launch} {G : ae_G} (d : Nat) {rr : Int32} {ss : ae_S} (s0 : ae_S) (hF : F_X12_readField_121 s0 = some (rr, ss)) : ae_T l G (d + 9) mX12_readField (ae_Po (some (ae_i rr)) ss) 121 [] [] s0 := by
  unfold F_X12_readField_121 at hF
  refine ae_iconst (0 : Int32) dX12_readField_121 (by decide) ?_
  obtain ⟨rfl, rfl⟩ := ae_retI hF
  exact ae_iret dX12_readField_122 rfl (by decide) ⟨rfl, rfl⟩
def F_X12_readField_188 (s0 : ae_S) : Option (Int32 × ae_S) := some ((0 : Int32), s0)
set_option maxHeartbeats 4000000 in
set_option maxRecDepth 100000 in
theorem t_X12_readField_188 {l : Launch} {G : ae_G} (d : Nat) {rr : Int32} {ss : ae_S} (s0 : ae_S) (hF : F_X12_readField_188 s0 = some (rr, ss)) : ae_T l G (d + 9) mX12_readField (ae_Po (some (ae_i rr)) ss) 188 [] [] s0 := by
  unfold F_X12_readField_188 at hF
  refine ae_iconst (0 : Int32) dX12_readField_188 (by decide) ?_
  obtain ⟨rfl, rfl⟩ := ae_retI hF
  exact ae_iret dX12_readField_189 rfl (by decide) ⟨rfl, rfl⟩
def F_X12_readField_234 (s0 : ae_S) : Option (Int32 × ae_S) := ae_bd (F_X12_fails (3 : Int32) (s0.1 30 0 26) s0) (fun (r1 : Int32) s2 => ae_gd (ae_zz r1) (some (r1, s2)))
set_option maxHeartbeats 4000000 in
set_option maxRecDepth 100000 in
theorem t_X12_readField_234 {l : Launch} {G : ae_G} (d : Nat) {rr : Int32} {ss : ae_S} (s0 : ae_S) (hF : F_X12_readField_234 s0 = some (rr, ss)) : ae_T l G (d + 9) mX12_readField (ae_Po (some (ae_i rr)) ss) 234 [(0, ae_r (some (30, 0)))] [] s0 := by
  unfold F_X12_readField_234 at hF
  refine ae_aload_n 0 dX12_readField_234 rfl ?_
  refine ae_iconst (3 : Int32) dX12_readField_235 (by decide) ?_
  refine ae_aload_n 0 dX12_readField_236 rfl ?_
  refine ae_getI (q := (30, 0)) dX12_readField_237 fl_RX12_140 rfl rfl ?_
  obtain ⟨r1, s2, hc3, hF4⟩ := ae_bdI hF
  refine ae_cV1 (q := (30, 0)) (As := [ae_i (3 : Int32), ae_i (s0.1 30 0 26)]) dX12_readField_240 ww_1571 vy_X12_fails rfl rfl rfl rfl rfl (Nat.le_of_ble_eq_true rfl) (c_X12_fails (d + 8) hc3) ?_
  obtain ⟨hg5, hF6⟩ := ae_gdI hF4
  obtain ⟨rfl, rfl⟩ := ae_retI hF6
  exact ae_iret dX12_readField_243 rfl (ae_zzN (ae_zzI hg5)) ⟨rfl, rfl⟩
def F_X12_readField_34 : Nat → Int32 → Int32 → Int32 → ae_S → Option (Int32 × ae_S)
  | 0, _, _, _, _ => none
  | n + 1, v1, v2, v3, s0 => if v2 ≤ v3 then (ae_gd (ae_ib v1 32) (if (s0.1 42 0 v1.toNatClampNeg) = (8 : Int32) then (ae_bd (F_X12_fails (4 : Int32) (s0.1 30 0 26) s0) (fun (r93 : Int32) s94 => ae_gd (ae_zz r93) (some (r93, s94)))) else (ae_gd (ae_ib v2 256) (ae_lt (ae_wL s0 43 0 v2.toNatClampNeg (s0.2.1 30 0 28)) (fun s15 => ae_bd (F_X12_next s15) (fun (r17 : Unit) s18 => ae_bd (F_X12_takes (58 : Int32) s18) (fun (r21 : Int32) s22 => if r21 = 0 then (F_X12_readField_121 s22) else (ae_bd (F_X12_readsNumber (3 : Int32) s22) (fun (r27 : Int32) s28 => if r27 = 0 then (F_X12_readField_121 s28) else (ae_gd (ae_ib v1 32) (ae_bd (F_X12_bytesOf (s28.1 36 0 v1.toNatClampNeg) s28) (fun (r35 : Int32) s36 => ae_lt ((8 : Int32) * r35) (fun x39 => if (lg_cmp (s36.2.1 30 0 29) x39.toInt64) < 0 then (ae_gd (ae_ib v2 256) (ae_lt (ae_wI s36 44 0 v2.toNatClampNeg ((s36.2.1 30 0 29).toInt32)) (fun s45 => ae_bd (F_X12_next s45) (fun (r47 : Unit) s48 => ae_bd (F_X12_takes (45 : Int32) s48) (fun (r51 : Int32) s52 => if r51 = 0 then (F_X12_readField_188 s52) else (ae_bd (F_X12_readsNumber (3 : Int32) s52) (fun (r57 : Int32) s58 => if r57 = 0 then (F_X12_readField_188 s58) else (if 0 ≤ (lg_cmp (s58.2.1 30 0 29) x39.toInt64) then (F_X12_readField_234 s58) else (ae_gd (ae_ib v2 256) (if (lg_cmp (s58.2.1 30 0 29) ((s58.1 44 0 v2.toNatClampNeg).toInt64)) < 0 then (F_X12_readField_234 s58) else (ae_gd (ae_ib v2 256) (if (lg_cmp ((s58.2.1 30 0 29) - ((s58.1 44 0 v2.toNatClampNeg).toInt64)) (63 : Int64)) < 0 then (ae_gd (ae_ib v2 256) (ae_lt (ae_wI s58 45 0 v2.toNatClampNeg ((s58.2.1 30 0 29).toInt32)) (fun s75 => ae_bd (F_X12_next s75) (fun (r77 : Unit) s78 => ae_gd (ae_ib v1 32) (ae_gd (ae_ib v1 32) (ae_lt (ae_wI s78 42 0 v1.toNatClampNeg ((s78.1 42 0 v1.toNatClampNeg) + (1 : Int32))) (fun s85 => some ((1 : Int32), s85)))))))) else (F_X12_readField_234 s58))))))))))))) else (ae_bd (F_X12_fails (3 : Int32) (s36.1 30 0 26) s36) (fun (r87 : Int32) s88 => ae_gd (ae_zz r87) (some (r87, s88))))))))))))))))) else (ae_gd (ae_ib v3 256) (if (lg_cmp (s0.2.1 43 0 v3.toNatClampNeg) (s0.2.1 30 0 28)) = 0 then (ae_bd (F_X12_fails (2 : Int32) (s0.1 30 0 26) s0) (fun (r105 : Int32) s106 => ae_gd (ae_zz r105) (some (r105, s106)))) else (ae_lt (v3 + (1 : Int32)) (fun x103 => F_X12_readField_34 n v1 v2 x103 s0))))
set_option maxHeartbeats 4000000 in
set_option maxRecDepth 100000 in
theorem t_X12_readField_34 {l : Launch} {G : ae_G} (d : Nat) {rr : Int32} {ss : ae_S} : ∀ (n : Nat) (v1 : Int32) (v2 : Int32) (v3 : Int32) (s0 : ae_S), F_X12_readField_34 n v1 v2 v3 s0 = some (rr, ss) → ae_T l G (d + 9) mX12_readField (ae_Po (some (ae_i rr)) ss) 34 [(0, ae_r (some (30, 0))), (1, ae_i v1), (2, ae_i v2), (3, ae_i v3)] [] s0 := by
  intro n
  induction n with
  | zero =>
    intro v1 v2 v3 s0 hF
    exact absurd (show (none : Option (Int32 × ae_S)) = some (rr, ss) from hF) (by simp)
  | succ n ih =>
    intro v1 v2 v3 s0 hF
    unfold F_X12_readField_34 at hF
    refine ae_iload_n 3 dX12_readField_34 rfl ?_
    refine ae_iload_n 2 dX12_readField_35 rfl ?_
    refine ae_icmp_ge 69 dX12_readField_36 rfl (fun hb7 => ?_) (fun hb7 => ?_)
    · have hF8 := ae_ifT hb7 hF
      refine ae_aload_n 0 dX12_readField_69 rfl ?_
      refine ae_getA (q := (30, 0)) (some (42, 0)) dX12_readField_70 fl_RX12_47 rfl rfl rfl ?_
      refine ae_iload_n 1 dX12_readField_73 rfl ?_
      obtain ⟨hg9, hF10⟩ := ae_gdI hF8
      refine ae_iald (q := (42, 0)) dX12_readField_74 rfl rfl (ae_ibI hg9) ?_
      refine ae_bipush (8 : Int32) dX12_readField_75 (by decide) ?_
      refine ae_icmp_ne 90 dX12_readField_77 rfl (fun hb11 => ?_) (fun hb11 => ?_)
      · have hF12 := ae_ifF hb11 hF10
        refine ae_aload_n 0 dX12_readField_90 rfl ?_
        refine ae_getA (q := (30, 0)) (some (43, 0)) dX12_readField_91 fl_RX12_50 rfl rfl rfl ?_
        refine ae_iload_n 2 dX12_readField_94 rfl ?_
        refine ae_aload_n 0 dX12_readField_95 rfl ?_
        refine ae_getL (q := (30, 0)) dX12_readField_96 fl_RX12_149 rfl rfl ?_
        obtain ⟨hg13, hF14⟩ := ae_gdI hF12
        obtain ⟨s15, hs15, hF16⟩ := ae_ltI hF14
        refine ae_last (q := (43, 0)) dX12_readField_99 rfl rfl (ae_ibI hg13) (ae_nmS hs15 ?_)
        refine ae_aload_n 0 dX12_readField_100 rfl ?_
        obtain ⟨r17, s18, hc19, hF20⟩ := ae_bdI hF16
        refine ae_cV0 (q := (30, 0)) (As := []) dX12_readField_101 ww_1508 vy_X12_next rfl rfl rfl rfl rfl (Nat.le_of_ble_eq_true rfl) (c_X12_next (d + 7) hc19) ?_
        refine ae_aload_n 0 dX12_readField_104 rfl ?_
        refine ae_bipush (58 : Int32) dX12_readField_105 (by decide) ?_
        obtain ⟨r21, s22, hc23, hF24⟩ := ae_bdI hF20
        refine ae_cV1 (q := (30, 0)) (As := [ae_i (58 : Int32)]) dX12_readField_107 ww_1610 vy_X12_takes rfl rfl rfl rfl rfl (Nat.le_of_ble_eq_true rfl) (c_X12_takes (d + 6) hc23) ?_
        refine ae_if_eq 121 dX12_readField_110 rfl (fun hb25 => ?_) (fun hb25 => ?_)
        · have hF26 := ae_ifT hb25 hF24
          refine ae_pick (lv' := []) [] rfl ?_
          exact t_X12_readField_121 d s22 hF26
        · have hF26 := ae_ifF hb25 hF24
          refine ae_aload_n 0 dX12_readField_113 rfl ?_
          refine ae_iconst (3 : Int32) dX12_readField_114 (by decide) ?_
          obtain ⟨r27, s28, hc29, hF30⟩ := ae_bdI hF26
          refine ae_cV1 (q := (30, 0)) (As := [ae_i (3 : Int32)]) dX12_readField_115 ww_1582 vy_X12_readsNumber rfl rfl rfl rfl rfl (Nat.le_of_ble_eq_true rfl) (c_X12_readsNumber (d + 7) hc29) ?_
          refine ae_if_ne 123 dX12_readField_118 rfl (fun hb31 => ?_) (fun hb31 => ?_)
          · have hF32 := ae_ifF hb31 hF30
            refine ae_bipush (8 : Int32) dX12_readField_123 (by decide) ?_
            refine ae_aload_n 0 dX12_readField_125 rfl ?_
            refine ae_getA (q := (30, 0)) (some (36, 0)) dX12_readField_126 fl_RX12_29 rfl rfl rfl ?_
            refine ae_iload_n 1 dX12_readField_129 rfl ?_
            obtain ⟨hg33, hF34⟩ := ae_gdI hF32
            refine ae_iald (q := (36, 0)) dX12_readField_130 rfl rfl (ae_ibI hg33) ?_
            obtain ⟨r35, s36, hc37, hF38⟩ := ae_bdI hF34
            refine ae_cS1 (As := [ae_i (s28.1 36 0 v1.toNatClampNeg)]) dX12_readField_131 ww_1590 vy_X12_bytesOf rfl rfl (Nat.le_of_ble_eq_true rfl) (c_X12_bytesOf (d + 8) hc37) ?_
            refine ae_imul dX12_readField_134 ?_
            obtain ⟨x39, hx39, hF40⟩ := ae_ltI hF38
            refine ae_nmI hx39 ?_
            refine ae_istore_n (lv' := [(3, ae_i x39), (0, ae_r (some (30, 0))), (1, ae_i v1), (2, ae_i v2)]) dX12_readField_135 (by decide) rfl ?_
            refine ae_aload_n 1 dX12_readField_136 rfl ?_
            refine ae_getL (q := (30, 0)) dX12_readField_137 fl_RX12_156 rfl rfl ?_
            refine ae_iload_n 0 dX12_readField_140 rfl ?_
            refine ae_i2l dX12_readField_141 ?_
            refine ae_lcmp dX12_readField_142 ?_
            refine ae_if_lt 156 dX12_readField_143 rfl (fun hb41 => ?_) (fun hb41 => ?_)
            · have hF42 := ae_ifT hb41 hF40
              refine ae_aload_n 1 dX12_readField_156 rfl ?_
              refine ae_getA (q := (30, 0)) (some (44, 0)) dX12_readField_157 fl_RX12_53 rfl rfl rfl ?_
              refine ae_iload_n 3 dX12_readField_160 rfl ?_
              refine ae_aload_n 1 dX12_readField_161 rfl ?_
              refine ae_getL (q := (30, 0)) dX12_readField_162 fl_RX12_156 rfl rfl ?_
              refine ae_l2i dX12_readField_165 ?_
              obtain ⟨hg43, hF44⟩ := ae_gdI hF42
              obtain ⟨s45, hs45, hF46⟩ := ae_ltI hF44
              refine ae_iast (q := (44, 0)) dX12_readField_166 rfl rfl (ae_ibI hg43) (ae_nmS hs45 ?_)
              refine ae_aload_n 1 dX12_readField_167 rfl ?_
              obtain ⟨r47, s48, hc49, hF50⟩ := ae_bdI hF46
              refine ae_cV0 (q := (30, 0)) (As := []) dX12_readField_168 ww_1508 vy_X12_next rfl rfl rfl rfl rfl (Nat.le_of_ble_eq_true rfl) (c_X12_next (d + 7) hc49) ?_
              refine ae_aload_n 1 dX12_readField_171 rfl ?_
              refine ae_bipush (45 : Int32) dX12_readField_172 (by decide) ?_
              obtain ⟨r51, s52, hc53, hF54⟩ := ae_bdI hF50
              refine ae_cV1 (q := (30, 0)) (As := [ae_i (45 : Int32)]) dX12_readField_174 ww_1610 vy_X12_takes rfl rfl rfl rfl rfl (Nat.le_of_ble_eq_true rfl) (c_X12_takes (d + 6) hc53) ?_
              refine ae_if_eq 188 dX12_readField_177 rfl (fun hb55 => ?_) (fun hb55 => ?_)
              · have hF56 := ae_ifT hb55 hF54
                refine ae_pick (lv' := []) [] rfl ?_
                exact t_X12_readField_188 d s52 hF56
              · have hF56 := ae_ifF hb55 hF54
                refine ae_aload_n 1 dX12_readField_180 rfl ?_
                refine ae_iconst (3 : Int32) dX12_readField_181 (by decide) ?_
                obtain ⟨r57, s58, hc59, hF60⟩ := ae_bdI hF56
                refine ae_cV1 (q := (30, 0)) (As := [ae_i (3 : Int32)]) dX12_readField_182 ww_1582 vy_X12_readsNumber rfl rfl rfl rfl rfl (Nat.le_of_ble_eq_true rfl) (c_X12_readsNumber (d + 7) hc59) ?_
                refine ae_if_ne 190 dX12_readField_185 rfl (fun hb61 => ?_) (fun hb61 => ?_)
                · have hF62 := ae_ifF hb61 hF60
                  refine ae_aload_n 1 dX12_readField_190 rfl ?_
                  refine ae_getL (q := (30, 0)) dX12_readField_191 fl_RX12_156 rfl rfl ?_
                  refine ae_iload_n 0 dX12_readField_194 rfl ?_
                  refine ae_i2l dX12_readField_195 ?_
                  refine ae_lcmp dX12_readField_196 ?_
                  refine ae_if_ge 234 dX12_readField_197 rfl (fun hb63 => ?_) (fun hb63 => ?_)
                  · have hF64 := ae_ifT hb63 hF62
                    refine ae_pick (lv' := [(0, ae_r (some (30, 0)))]) [1] rfl ?_
                    exact t_X12_readField_234 d s58 hF64
                  · have hF64 := ae_ifF hb63 hF62
                    refine ae_aload_n 1 dX12_readField_200 rfl ?_
                    refine ae_getL (q := (30, 0)) dX12_readField_201 fl_RX12_156 rfl rfl ?_
                    refine ae_aload_n 1 dX12_readField_204 rfl ?_
                    refine ae_getA (q := (30, 0)) (some (44, 0)) dX12_readField_205 fl_RX12_53 rfl rfl rfl ?_
                    refine ae_iload_n 3 dX12_readField_208 rfl ?_
                    obtain ⟨hg65, hF66⟩ := ae_gdI hF64
                    refine ae_iald (q := (44, 0)) dX12_readField_209 rfl rfl (ae_ibI hg65) ?_
                    refine ae_i2l dX12_readField_210 ?_
                    refine ae_lcmp dX12_readField_211 ?_
                    refine ae_if_lt 234 dX12_readField_212 rfl (fun hb67 => ?_) (fun hb67 => ?_)
                    · have hF68 := ae_ifT hb67 hF66
                      refine ae_pick (lv' := [(0, ae_r (some (30, 0)))]) [1] rfl ?_
                      exact t_X12_readField_234 d s58 hF68
                    · have hF68 := ae_ifF hb67 hF66
                      refine ae_aload_n 1 dX12_readField_215 rfl ?_
                      refine ae_getL (q := (30, 0)) dX12_readField_216 fl_RX12_156 rfl rfl ?_
                      refine ae_aload_n 1 dX12_readField_219 rfl ?_
                      refine ae_getA (q := (30, 0)) (some (44, 0)) dX12_readField_220 fl_RX12_53 rfl rfl rfl ?_
                      refine ae_iload_n 3 dX12_readField_223 rfl ?_
                      obtain ⟨hg69, hF70⟩ := ae_gdI hF68
                      refine ae_iald (q := (44, 0)) dX12_readField_224 rfl rfl (ae_ibI hg69) ?_
                      refine ae_i2l dX12_readField_225 ?_
                      refine ae_lsub dX12_readField_226 ?_
                      refine ae_ldc2 dX12_readField_227 ww_1614 ?_
                      refine ae_lcmp dX12_readField_230 ?_
                      refine ae_if_lt 244 dX12_readField_231 rfl (fun hb71 => ?_) (fun hb71 => ?_)
                      · have hF72 := ae_ifT hb71 hF70
                        refine ae_aload_n 1 dX12_readField_244 rfl ?_
                        refine ae_getA (q := (30, 0)) (some (45, 0)) dX12_readField_245 fl_RX12_56 rfl rfl rfl ?_
                        refine ae_iload_n 3 dX12_readField_248 rfl ?_
                        refine ae_aload_n 1 dX12_readField_249 rfl ?_
                        refine ae_getL (q := (30, 0)) dX12_readField_250 fl_RX12_156 rfl rfl ?_
                        refine ae_l2i dX12_readField_253 ?_
                        obtain ⟨hg73, hF74⟩ := ae_gdI hF72
                        obtain ⟨s75, hs75, hF76⟩ := ae_ltI hF74
                        refine ae_iast (q := (45, 0)) dX12_readField_254 rfl rfl (ae_ibI hg73) (ae_nmS hs75 ?_)
                        refine ae_aload_n 1 dX12_readField_255 rfl ?_
                        obtain ⟨r77, s78, hc79, hF80⟩ := ae_bdI hF76
                        refine ae_cV0 (q := (30, 0)) (As := []) dX12_readField_256 ww_1508 vy_X12_next rfl rfl rfl rfl rfl (Nat.le_of_ble_eq_true rfl) (c_X12_next (d + 7) hc79) ?_
                        refine ae_aload_n 1 dX12_readField_259 rfl ?_
                        refine ae_getA (q := (30, 0)) (some (42, 0)) dX12_readField_260 fl_RX12_47 rfl rfl rfl ?_
                        refine ae_iload_n 2 dX12_readField_263 rfl ?_
                        refine ae_dup2 dX12_readField_264 rfl rfl ?_
                        obtain ⟨hg81, hF82⟩ := ae_gdI hF80
                        refine ae_iald (q := (42, 0)) dX12_readField_265 rfl rfl (ae_ibI hg81) ?_
                        refine ae_iconst (1 : Int32) dX12_readField_266 (by decide) ?_
                        refine ae_iadd dX12_readField_267 ?_
                        obtain ⟨hg83, hF84⟩ := ae_gdI hF82
                        obtain ⟨s85, hs85, hF86⟩ := ae_ltI hF84
                        refine ae_iast (q := (42, 0)) dX12_readField_268 rfl rfl (ae_ibI hg83) (ae_nmS hs85 ?_)
                        refine ae_iconst (1 : Int32) dX12_readField_269 (by decide) ?_
                        obtain ⟨rfl, rfl⟩ := ae_retI hF86
                        exact ae_iret dX12_readField_270 rfl (by decide) ⟨rfl, rfl⟩
                      · have hF72 := ae_ifF hb71 hF70
                        refine ae_pick (lv' := [(0, ae_r (some (30, 0)))]) [1] rfl ?_
                        exact t_X12_readField_234 d s58 hF72
                · have hF62 := ae_ifT hb61 hF60
                  refine ae_pick (lv' := []) [] rfl ?_
                  exact t_X12_readField_188 d s58 hF62
            · have hF42 := ae_ifF hb41 hF40
              refine ae_aload_n 1 dX12_readField_146 rfl ?_
              refine ae_iconst (3 : Int32) dX12_readField_147 (by decide) ?_
              refine ae_aload_n 1 dX12_readField_148 rfl ?_
              refine ae_getI (q := (30, 0)) dX12_readField_149 fl_RX12_140 rfl rfl ?_
              obtain ⟨r87, s88, hc89, hF90⟩ := ae_bdI hF42
              refine ae_cV1 (q := (30, 0)) (As := [ae_i (3 : Int32), ae_i (s36.1 30 0 26)]) dX12_readField_152 ww_1571 vy_X12_fails rfl rfl rfl rfl rfl (Nat.le_of_ble_eq_true rfl) (c_X12_fails (d + 8) hc89) ?_
              obtain ⟨hg91, hF92⟩ := ae_gdI hF90
              obtain ⟨rfl, rfl⟩ := ae_retI hF92
              exact ae_iret dX12_readField_155 rfl (ae_zzN (ae_zzI hg91)) ⟨rfl, rfl⟩
          · have hF32 := ae_ifT hb31 hF30
            refine ae_pick (lv' := []) [] rfl ?_
            exact t_X12_readField_121 d s28 hF32
      · have hF12 := ae_ifT hb11 hF10
        refine ae_aload_n 0 dX12_readField_80 rfl ?_
        refine ae_iconst (4 : Int32) dX12_readField_81 (by decide) ?_
        refine ae_aload_n 0 dX12_readField_82 rfl ?_
        refine ae_getI (q := (30, 0)) dX12_readField_83 fl_RX12_140 rfl rfl ?_
        obtain ⟨r93, s94, hc95, hF96⟩ := ae_bdI hF12
        refine ae_cV1 (q := (30, 0)) (As := [ae_i (4 : Int32), ae_i (s0.1 30 0 26)]) dX12_readField_86 ww_1571 vy_X12_fails rfl rfl rfl rfl rfl (Nat.le_of_ble_eq_true rfl) (c_X12_fails (d + 8) hc95) ?_
        obtain ⟨hg97, hF98⟩ := ae_gdI hF96
        obtain ⟨rfl, rfl⟩ := ae_retI hF98
        exact ae_iret dX12_readField_89 rfl (ae_zzN (ae_zzI hg97)) ⟨rfl, rfl⟩
    · have hF8 := ae_ifF hb7 hF
      refine ae_aload_n 0 dX12_readField_39 rfl ?_
      refine ae_getA (q := (30, 0)) (some (43, 0)) dX12_readField_40 fl_RX12_50 rfl rfl rfl ?_
      refine ae_iload_n 3 dX12_readField_43 rfl ?_
      obtain ⟨hg99, hF100⟩ := ae_gdI hF8
      refine ae_lald (q := (43, 0)) dX12_readField_44 rfl rfl (ae_ibI hg99) ?_
      refine ae_aload_n 0 dX12_readField_45 rfl ?_
      refine ae_getL (q := (30, 0)) dX12_readField_46 fl_RX12_149 rfl rfl ?_
      refine ae_lcmp dX12_readField_49 ?_
      refine ae_if_ne 63 dX12_readField_50 rfl (fun hb101 => ?_) (fun hb101 => ?_)
      · have hF102 := ae_ifF hb101 hF100
        obtain ⟨x103, hx103, hF104⟩ := ae_ltI hF102
        refine ae_iinc (lv' := [(3, ae_i x103), (0, ae_r (some (30, 0))), (1, ae_i v1), (2, ae_i v2)]) 3 (1 : Int32) dX12_readField_63 rfl (by decide) (by decide) (by rw [hx103]; rfl) ?_
        refine ae_goto 34 dX12_readField_66 rfl ?_
        refine ae_pick (lv' := [(0, ae_r (some (30, 0))), (1, ae_i v1), (2, ae_i v2), (3, ae_i x103)]) [1, 2, 3, 0] rfl ?_
        exact ih v1 v2 x103 s0 hF104
      · have hF102 := ae_ifT hb101 hF100
        refine ae_aload_n 0 dX12_readField_53 rfl ?_
        refine ae_iconst (2 : Int32) dX12_readField_54 (by decide) ?_
        refine ae_aload_n 0 dX12_readField_55 rfl ?_
        refine ae_getI (q := (30, 0)) dX12_readField_56 fl_RX12_140 rfl rfl ?_
        obtain ⟨r105, s106, hc107, hF108⟩ := ae_bdI hF102
        refine ae_cV1 (q := (30, 0)) (As := [ae_i (2 : Int32), ae_i (s0.1 30 0 26)]) dX12_readField_59 ww_1571 vy_X12_fails rfl rfl rfl rfl rfl (Nat.le_of_ble_eq_true rfl) (c_X12_fails (d + 8) hc107) ?_
        obtain ⟨hg109, hF110⟩ := ae_gdI hF108
        obtain ⟨rfl, rfl⟩ := ae_retI hF110
        exact ae_iret dX12_readField_62 rfl (ae_zzN (ae_zzI hg109)) ⟨rfl, rfl⟩
def F_X12_readField (v1 : Int32) (s0 : ae_S) : Option (Int32 × ae_S) := ae_gd (ae_ib v1 32) (ae_lt (((8 : Int32) * v1) + (s0.1 42 0 v1.toNatClampNeg)) (fun x113 => ae_bd (F_X12_isName s0) (fun (r115 : Int32) s116 => if r115 = 0 then (ae_bd (F_X12_fails (1 : Int32) (s116.1 30 0 26) s116) (fun (r123 : Int32) s124 => ae_gd (ae_zz r123) (some (r123, s124)))) else (ae_lt ((8 : Int32) * v1) (fun x121 => F_X12_readField_34 ae_fu v1 x113 x121 s116)))))
set_option maxHeartbeats 4000000 in
set_option maxRecDepth 100000 in
theorem c_X12_readField {l : Launch} {G : ae_G} (d : Nat) {v1 : Int32} {s0 ss : ae_S} {rr : Int32} (hF : F_X12_readField v1 s0 = some (rr, ss)) : ae_Met l G (d + 9) yX12_readField mX12_readField [ae_r (some (30, 0)), ae_i v1] s0 (ae_Po (some (ae_i rr)) ss) := by
  refine ae_enter (by decide) rfl (Nat.le_of_ble_eq_true rfl) ?_
  show ae_T l G (d + 9) mX12_readField (ae_Po (some (ae_i rr)) ss) 0 [(0, ae_r (some (30, 0))), (1, ae_i v1)] [] s0
  unfold F_X12_readField at hF
  refine ae_bipush (8 : Int32) dX12_readField_0 (by decide) ?_
  refine ae_iload_n 1 dX12_readField_2 rfl ?_
  refine ae_imul dX12_readField_3 ?_
  refine ae_aload_n 0 dX12_readField_4 rfl ?_
  refine ae_getA (q := (30, 0)) (some (42, 0)) dX12_readField_5 fl_RX12_47 rfl rfl rfl ?_
  refine ae_iload_n 1 dX12_readField_8 rfl ?_
  obtain ⟨hg111, hF112⟩ := ae_gdI hF
  refine ae_iald (q := (42, 0)) dX12_readField_9 rfl rfl (ae_ibI hg111) ?_
  refine ae_iadd dX12_readField_10 ?_
  obtain ⟨x113, hx113, hF114⟩ := ae_ltI hF112
  refine ae_nmI hx113 ?_
  refine ae_istore_n (lv' := [(2, ae_i x113), (0, ae_r (some (30, 0))), (1, ae_i v1)]) dX12_readField_11 (by decide) rfl ?_
  refine ae_aload_n 1 dX12_readField_12 rfl ?_
  obtain ⟨r115, s116, hc117, hF118⟩ := ae_bdI hF114
  refine ae_cV1 (q := (30, 0)) (As := []) dX12_readField_13 ww_1528 vy_X12_isName rfl rfl rfl rfl rfl (Nat.le_of_ble_eq_true rfl) (c_X12_isName d hc117) ?_
  refine ae_if_ne 29 dX12_readField_16 rfl (fun hb119 => ?_) (fun hb119 => ?_)
  · have hF120 := ae_ifF hb119 hF118
    refine ae_bipush (8 : Int32) dX12_readField_29 (by decide) ?_
    refine ae_iload_n 2 dX12_readField_31 rfl ?_
    refine ae_imul dX12_readField_32 ?_
    obtain ⟨x121, hx121, hF122⟩ := ae_ltI hF120
    refine ae_nmI hx121 ?_
    refine ae_istore_n (lv' := [(3, ae_i x121), (2, ae_i x113), (0, ae_r (some (30, 0))), (1, ae_i v1)]) dX12_readField_33 (by decide) rfl ?_
    refine ae_pick (lv' := [(0, ae_r (some (30, 0))), (1, ae_i v1), (2, ae_i x113), (3, ae_i x121)]) [2, 3, 1, 0] rfl ?_
    exact t_X12_readField_34 d ae_fu v1 x113 x121 s116 hF122
  · have hF120 := ae_ifT hb119 hF118
    refine ae_aload_n 1 dX12_readField_19 rfl ?_
    refine ae_iconst (1 : Int32) dX12_readField_20 (by decide) ?_
    refine ae_aload_n 1 dX12_readField_21 rfl ?_
    refine ae_getI (q := (30, 0)) dX12_readField_22 fl_RX12_140 rfl rfl ?_
    obtain ⟨r123, s124, hc125, hF126⟩ := ae_bdI hF120
    refine ae_cV1 (q := (30, 0)) (As := [ae_i (1 : Int32), ae_i (s116.1 30 0 26)]) dX12_readField_25 ww_1571 vy_X12_fails rfl rfl rfl rfl rfl (Nat.le_of_ble_eq_true rfl) (c_X12_fails (d + 8) hc125) ?_
    obtain ⟨hg127, hF128⟩ := ae_gdI hF126
    obtain ⟨rfl, rfl⟩ := ae_retI hF128
    exact ae_iret dX12_readField_28 rfl (ae_zzN (ae_zzI hg127)) ⟨rfl, rfl⟩
abbrev mX12_readFields : ae_M := (RX12, cX12_readFields, 2, some .boolean)
theorem vy_X12_readFields : ae_VY yX12_readFields mX12_readFields 1 := ⟨ww_1604, wq_70, ww_13, ww_1605, ⟨by decide, by decide, by decide +kernel⟩, by decide⟩
theorem dX12_readFields_0 : decode cX12_readFields 0 = .ok (.aload_n 0, 1) := by decide +kernel
theorem dX12_readFields_1 : decode cX12_readFields 1 = .ok (.getfield 29, 3) := by decide +kernel
theorem dX12_readFields_4 : decode cX12_readFields 4 = .ok (.iload_n 1, 1) := by decide +kernel
theorem dX12_readFields_5 : decode cX12_readFields 5 = .ok (.iaload, 1) := by decide +kernel
theorem dX12_readFields_6 : decode cX12_readFields 6 = .ok (.bipush 7, 2) := by decide +kernel
theorem dX12_readFields_8 : decode cX12_readFields 8 = .ok (.if_icmp .lt 13, 3) := by decide +kernel
theorem dX12_readFields_11 : decode cX12_readFields 11 = .ok (.aload_n 0, 1) := by decide +kernel
theorem dX12_readFields_12 : decode cX12_readFields 12 = .ok (.iconst 4, 1) := by decide +kernel
theorem dX12_readFields_13 : decode cX12_readFields 13 = .ok (.aload_n 0, 1) := by decide +kernel
theorem dX12_readFields_14 : decode cX12_readFields 14 = .ok (.getfield 140, 3) := by decide +kernel
theorem dX12_readFields_17 : decode cX12_readFields 17 = .ok (.invokevirtual 196, 3) := by decide +kernel
theorem dX12_readFields_20 : decode cX12_readFields 20 = .ok (.ireturn, 1) := by decide +kernel
theorem dX12_readFields_21 : decode cX12_readFields 21 = .ok (.aload_n 0, 1) := by decide +kernel
theorem dX12_readFields_22 : decode cX12_readFields 22 = .ok (.invokevirtual 200, 3) := by decide +kernel
theorem dX12_readFields_25 : decode cX12_readFields 25 = .ok (.aload_n 0, 1) := by decide +kernel
theorem dX12_readFields_26 : decode cX12_readFields 26 = .ok (.iload_n 1, 1) := by decide +kernel
theorem dX12_readFields_27 : decode cX12_readFields 27 = .ok (.invokevirtual 281, 3) := by decide +kernel
theorem dX12_readFields_30 : decode cX12_readFields 30 = .ok (.ifCond .ne 5, 3) := by decide +kernel
theorem dX12_readFields_33 : decode cX12_readFields 33 = .ok (.iconst 0, 1) := by decide +kernel
theorem dX12_readFields_34 : decode cX12_readFields 34 = .ok (.ireturn, 1) := by decide +kernel
theorem dX12_readFields_35 : decode cX12_readFields 35 = .ok (.aload_n 0, 1) := by decide +kernel
theorem dX12_readFields_36 : decode cX12_readFields 36 = .ok (.bipush 44, 2) := by decide +kernel
theorem dX12_readFields_38 : decode cX12_readFields 38 = .ok (.invokevirtual 193, 3) := by decide +kernel
theorem dX12_readFields_41 : decode cX12_readFields 41 = .ok (.ifCond .ne (-20), 3) := by decide +kernel
theorem dX12_readFields_44 : decode cX12_readFields 44 = .ok (.aload_n 0, 1) := by decide +kernel
theorem dX12_readFields_45 : decode cX12_readFields 45 = .ok (.bipush 125, 2) := by decide +kernel
theorem dX12_readFields_47 : decode cX12_readFields 47 = .ok (.invokevirtual 276, 3) := by decide +kernel
theorem dX12_readFields_50 : decode cX12_readFields 50 = .ok (.ireturn, 1) := by decide +kernel
def F_X12_readFields_21 : Nat → Int32 → ae_S → Option (Int32 × ae_S)
  | 0, _, _ => none
  | n + 1, v1, s0 => ae_bd (F_X12_next s0) (fun (r1 : Unit) s2 => ae_bd (F_X12_readField v1 s2) (fun (r5 : Int32) s6 => if r5 = 0 then (some ((0 : Int32), s6)) else (ae_bd (F_X12_isSign (44 : Int32) s6) (fun (r11 : Int32) s12 => if r11 = 0 then (ae_bd (F_X12_takes (125 : Int32) s12) (fun (r17 : Int32) s18 => ae_gd (ae_zz r17) (some (r17, s18)))) else (F_X12_readFields_21 n v1 s12)))))
set_option maxHeartbeats 4000000 in
set_option maxRecDepth 100000 in
theorem t_X12_readFields_21 {l : Launch} {G : ae_G} (d : Nat) {rr : Int32} {ss : ae_S} : ∀ (n : Nat) (v1 : Int32) (s0 : ae_S), F_X12_readFields_21 n v1 s0 = some (rr, ss) → ae_T l G (d + 10) mX12_readFields (ae_Po (some (ae_i rr)) ss) 21 [(0, ae_r (some (30, 0))), (1, ae_i v1)] [] s0 := by
  intro n
  induction n with
  | zero =>
    intro v1 s0 hF
    exact absurd (show (none : Option (Int32 × ae_S)) = some (rr, ss) from hF) (by simp)
  | succ n ih =>
    intro v1 s0 hF
    unfold F_X12_readFields_21 at hF
    refine ae_aload_n 0 dX12_readFields_21 rfl ?_
    obtain ⟨r1, s2, hc3, hF4⟩ := ae_bdI hF
    refine ae_cV0 (q := (30, 0)) (As := []) dX12_readFields_22 ww_1508 vy_X12_next rfl rfl rfl rfl rfl (Nat.le_of_ble_eq_true rfl) (c_X12_next (d + 8) hc3) ?_
    refine ae_aload_n 0 dX12_readFields_25 rfl ?_
    refine ae_iload_n 1 dX12_readFields_26 rfl ?_
    obtain ⟨r5, s6, hc7, hF8⟩ := ae_bdI hF4
    refine ae_cV1 (q := (30, 0)) (As := [ae_i v1]) dX12_readFields_27 ww_1606 vy_X12_readField rfl rfl rfl rfl rfl (Nat.le_of_ble_eq_true rfl) (c_X12_readField d hc7) ?_
    refine ae_if_ne 35 dX12_readFields_30 rfl (fun hb9 => ?_) (fun hb9 => ?_)
    · have hF10 := ae_ifF hb9 hF8
      refine ae_aload_n 0 dX12_readFields_35 rfl ?_
      refine ae_bipush (44 : Int32) dX12_readFields_36 (by decide) ?_
      obtain ⟨r11, s12, hc13, hF14⟩ := ae_bdI hF10
      refine ae_cV1 (q := (30, 0)) (As := [ae_i (44 : Int32)]) dX12_readFields_38 ww_1598 vy_X12_isSign rfl rfl rfl rfl rfl (Nat.le_of_ble_eq_true rfl) (c_X12_isSign (d + 9) hc13) ?_
      refine ae_if_ne 21 dX12_readFields_41 rfl (fun hb15 => ?_) (fun hb15 => ?_)
      · have hF16 := ae_ifF hb15 hF14
        refine ae_pick (lv' := [(0, ae_r (some (30, 0))), (1, ae_i v1)]) [0, 1] rfl ?_
        exact ih v1 s12 hF16
      · have hF16 := ae_ifT hb15 hF14
        refine ae_aload_n 0 dX12_readFields_44 rfl ?_
        refine ae_bipush (125 : Int32) dX12_readFields_45 (by decide) ?_
        obtain ⟨r17, s18, hc19, hF20⟩ := ae_bdI hF16
        refine ae_cV1 (q := (30, 0)) (As := [ae_i (125 : Int32)]) dX12_readFields_47 ww_1610 vy_X12_takes rfl rfl rfl rfl rfl (Nat.le_of_ble_eq_true rfl) (c_X12_takes (d + 7) hc19) ?_
        obtain ⟨hg21, hF22⟩ := ae_gdI hF20
        obtain ⟨rfl, rfl⟩ := ae_retI hF22
        exact ae_iret dX12_readFields_50 rfl (ae_zzN (ae_zzI hg21)) ⟨rfl, rfl⟩
    · have hF10 := ae_ifT hb9 hF8
      refine ae_iconst (0 : Int32) dX12_readFields_33 (by decide) ?_
      obtain ⟨rfl, rfl⟩ := ae_retI hF10
      exact ae_iret dX12_readFields_34 rfl (by decide) ⟨rfl, rfl⟩
def F_X12_readFields (v1 : Int32) (s0 : ae_S) : Option (Int32 × ae_S) := ae_gd (ae_ib v1 32) (if (s0.1 36 0 v1.toNatClampNeg) < (7 : Int32) then (F_X12_readFields_21 ae_fu v1 s0) else (ae_bd (F_X12_fails (4 : Int32) (s0.1 30 0 26) s0) (fun (r27 : Int32) s28 => ae_gd (ae_zz r27) (some (r27, s28)))))
set_option maxHeartbeats 4000000 in
set_option maxRecDepth 100000 in
theorem c_X12_readFields {l : Launch} {G : ae_G} (d : Nat) {v1 : Int32} {s0 ss : ae_S} {rr : Int32} (hF : F_X12_readFields v1 s0 = some (rr, ss)) : ae_Met l G (d + 10) yX12_readFields mX12_readFields [ae_r (some (30, 0)), ae_i v1] s0 (ae_Po (some (ae_i rr)) ss) := by
  refine ae_enter (by decide) rfl (Nat.le_of_ble_eq_true rfl) ?_
  show ae_T l G (d + 10) mX12_readFields (ae_Po (some (ae_i rr)) ss) 0 [(0, ae_r (some (30, 0))), (1, ae_i v1)] [] s0
  unfold F_X12_readFields at hF
  refine ae_aload_n 0 dX12_readFields_0 rfl ?_
  refine ae_getA (q := (30, 0)) (some (36, 0)) dX12_readFields_1 fl_RX12_29 rfl rfl rfl ?_
  refine ae_iload_n 1 dX12_readFields_4 rfl ?_
  obtain ⟨hg23, hF24⟩ := ae_gdI hF
  refine ae_iald (q := (36, 0)) dX12_readFields_5 rfl rfl (ae_ibI hg23) ?_
  refine ae_bipush (7 : Int32) dX12_readFields_6 (by decide) ?_
  refine ae_icmp_lt 21 dX12_readFields_8 rfl (fun hb25 => ?_) (fun hb25 => ?_)
  · have hF26 := ae_ifT hb25 hF24
    refine ae_pick (lv' := [(0, ae_r (some (30, 0))), (1, ae_i v1)]) [0, 1] rfl ?_
    exact t_X12_readFields_21 d ae_fu v1 s0 hF26
  · have hF26 := ae_ifF hb25 hF24
    refine ae_aload_n 0 dX12_readFields_11 rfl ?_
    refine ae_iconst (4 : Int32) dX12_readFields_12 (by decide) ?_
    refine ae_aload_n 0 dX12_readFields_13 rfl ?_
    refine ae_getI (q := (30, 0)) dX12_readFields_14 fl_RX12_140 rfl rfl ?_
    obtain ⟨r27, s28, hc29, hF30⟩ := ae_bdI hF26
    refine ae_cV1 (q := (30, 0)) (As := [ae_i (4 : Int32), ae_i (s0.1 30 0 26)]) dX12_readFields_17 ww_1571 vy_X12_fails rfl rfl rfl rfl rfl (Nat.le_of_ble_eq_true rfl) (c_X12_fails (d + 9) hc29) ?_
    obtain ⟨hg31, hF32⟩ := ae_gdI hF30
    obtain ⟨rfl, rfl⟩ := ae_retI hF32
    exact ae_iret dX12_readFields_20 rfl (ae_zzN (ae_zzI hg31)) ⟨rfl, rfl⟩
abbrev mX12_readRow : ae_M := (RX12, cX12_readRow, 3, some .boolean)
theorem vy_X12_readRow : ae_VY yX12_readRow mX12_readRow 1 := ⟨ww_1595, wq_68, ww_13, ww_1596, ⟨by decide, by decide, by decide +kernel⟩, by decide⟩
theorem dX12_readRow_0 : decode cX12_readRow 0 = .ok (.aload_n 0, 1) := by decide +kernel
theorem dX12_readRow_1 : decode cX12_readRow 1 = .ok (.getfield 38, 3) := by decide +kernel
theorem dX12_readRow_4 : decode cX12_readRow 4 = .ok (.iload_n 1, 1) := by decide +kernel
theorem dX12_readRow_5 : decode cX12_readRow 5 = .ok (.iconst 1, 1) := by decide +kernel
theorem dX12_readRow_6 : decode cX12_readRow 6 = .ok (.iastore, 1) := by decide +kernel
theorem dX12_readRow_7 : decode cX12_readRow 7 = .ok (.aload_n 0, 1) := by decide +kernel
theorem dX12_readRow_8 : decode cX12_readRow 8 = .ok (.getfield 41, 3) := by decide +kernel
theorem dX12_readRow_11 : decode cX12_readRow 11 = .ok (.iload_n 1, 1) := by decide +kernel
theorem dX12_readRow_12 : decode cX12_readRow 12 = .ok (.aload_n 0, 1) := by decide +kernel
theorem dX12_readRow_13 : decode cX12_readRow 13 = .ok (.getfield 29, 3) := by decide +kernel
theorem dX12_readRow_16 : decode cX12_readRow 16 = .ok (.iload_n 1, 1) := by decide +kernel
theorem dX12_readRow_17 : decode cX12_readRow 17 = .ok (.iaload, 1) := by decide +kernel
theorem dX12_readRow_18 : decode cX12_readRow 18 = .ok (.invokestatic 267, 3) := by decide +kernel
theorem dX12_readRow_21 : decode cX12_readRow 21 = .ok (.iastore, 1) := by decide +kernel
theorem dX12_readRow_22 : decode cX12_readRow 22 = .ok (.aload_n 0, 1) := by decide +kernel
theorem dX12_readRow_23 : decode cX12_readRow 23 = .ok (.ldc 234, 2) := by decide +kernel
theorem dX12_readRow_25 : decode cX12_readRow 25 = .ok (.invokevirtual 205, 3) := by decide +kernel
theorem dX12_readRow_28 : decode cX12_readRow 28 = .ok (.ifCond .ne 5, 3) := by decide +kernel
theorem dX12_readRow_31 : decode cX12_readRow 31 = .ok (.iconst 1, 1) := by decide +kernel
theorem dX12_readRow_32 : decode cX12_readRow 32 = .ok (.ireturn, 1) := by decide +kernel
theorem dX12_readRow_33 : decode cX12_readRow 33 = .ok (.aload_n 0, 1) := by decide +kernel
theorem dX12_readRow_34 : decode cX12_readRow 34 = .ok (.invokevirtual 200, 3) := by decide +kernel
theorem dX12_readRow_37 : decode cX12_readRow 37 = .ok (.aload_n 0, 1) := by decide +kernel
theorem dX12_readRow_38 : decode cX12_readRow 38 = .ok (.iconst 3, 1) := by decide +kernel
theorem dX12_readRow_39 : decode cX12_readRow 39 = .ok (.invokevirtual 264, 3) := by decide +kernel
theorem dX12_readRow_42 : decode cX12_readRow 42 = .ok (.ifCond .ne 5, 3) := by decide +kernel
theorem dX12_readRow_45 : decode cX12_readRow 45 = .ok (.iconst 0, 1) := by decide +kernel
theorem dX12_readRow_46 : decode cX12_readRow 46 = .ok (.ireturn, 1) := by decide +kernel
theorem dX12_readRow_47 : decode cX12_readRow 47 = .ok (.aload_n 0, 1) := by decide +kernel
theorem dX12_readRow_48 : decode cX12_readRow 48 = .ok (.getfield 156, 3) := by decide +kernel
theorem dX12_readRow_51 : decode cX12_readRow 51 = .ok (.lconst 1, 1) := by decide +kernel
theorem dX12_readRow_52 : decode cX12_readRow 52 = .ok (.ldc2_w 279, 3) := by decide +kernel
theorem dX12_readRow_55 : decode cX12_readRow 55 = .ok (.invokestatic 105, 3) := by decide +kernel
theorem dX12_readRow_58 : decode cX12_readRow 58 = .ok (.ifCond .ne 13, 3) := by decide +kernel
theorem dX12_readRow_61 : decode cX12_readRow 61 = .ok (.aload_n 0, 1) := by decide +kernel
theorem dX12_readRow_62 : decode cX12_readRow 62 = .ok (.iconst 3, 1) := by decide +kernel
theorem dX12_readRow_63 : decode cX12_readRow 63 = .ok (.aload_n 0, 1) := by decide +kernel
theorem dX12_readRow_64 : decode cX12_readRow 64 = .ok (.getfield 140, 3) := by decide +kernel
theorem dX12_readRow_67 : decode cX12_readRow 67 = .ok (.invokevirtual 196, 3) := by decide +kernel
theorem dX12_readRow_70 : decode cX12_readRow 70 = .ok (.ireturn, 1) := by decide +kernel
theorem dX12_readRow_71 : decode cX12_readRow 71 = .ok (.aload_n 0, 1) := by decide +kernel
theorem dX12_readRow_72 : decode cX12_readRow 72 = .ok (.getfield 38, 3) := by decide +kernel
theorem dX12_readRow_75 : decode cX12_readRow 75 = .ok (.iload_n 1, 1) := by decide +kernel
theorem dX12_readRow_76 : decode cX12_readRow 76 = .ok (.aload_n 0, 1) := by decide +kernel
theorem dX12_readRow_77 : decode cX12_readRow 77 = .ok (.getfield 156, 3) := by decide +kernel
theorem dX12_readRow_80 : decode cX12_readRow 80 = .ok (.l2i, 1) := by decide +kernel
theorem dX12_readRow_81 : decode cX12_readRow 81 = .ok (.iastore, 1) := by decide +kernel
theorem dX12_readRow_82 : decode cX12_readRow 82 = .ok (.aload_n 0, 1) := by decide +kernel
theorem dX12_readRow_83 : decode cX12_readRow 83 = .ok (.getfield 140, 3) := by decide +kernel
theorem dX12_readRow_86 : decode cX12_readRow 86 = .ok (.istore_n 2, 1) := by decide +kernel
theorem dX12_readRow_87 : decode cX12_readRow 87 = .ok (.aload_n 0, 1) := by decide +kernel
theorem dX12_readRow_88 : decode cX12_readRow 88 = .ok (.invokevirtual 200, 3) := by decide +kernel
theorem dX12_readRow_91 : decode cX12_readRow 91 = .ok (.aload_n 0, 1) := by decide +kernel
theorem dX12_readRow_92 : decode cX12_readRow 92 = .ok (.ldc 236, 2) := by decide +kernel
theorem dX12_readRow_94 : decode cX12_readRow 94 = .ok (.invokevirtual 205, 3) := by decide +kernel
theorem dX12_readRow_97 : decode cX12_readRow 97 = .ok (.ifCond .eq 61, 3) := by decide +kernel
theorem dX12_readRow_100 : decode cX12_readRow 100 = .ok (.aload_n 0, 1) := by decide +kernel
theorem dX12_readRow_101 : decode cX12_readRow 101 = .ok (.invokevirtual 200, 3) := by decide +kernel
theorem dX12_readRow_104 : decode cX12_readRow 104 = .ok (.aload_n 0, 1) := by decide +kernel
theorem dX12_readRow_105 : decode cX12_readRow 105 = .ok (.iconst 3, 1) := by decide +kernel
theorem dX12_readRow_106 : decode cX12_readRow 106 = .ok (.invokevirtual 264, 3) := by decide +kernel
theorem dX12_readRow_109 : decode cX12_readRow 109 = .ok (.ifCond .ne 5, 3) := by decide +kernel
theorem dX12_readRow_112 : decode cX12_readRow 112 = .ok (.iconst 0, 1) := by decide +kernel
theorem dX12_readRow_113 : decode cX12_readRow 113 = .ok (.ireturn, 1) := by decide +kernel
theorem dX12_readRow_114 : decode cX12_readRow 114 = .ok (.aload_n 0, 1) := by decide +kernel
theorem dX12_readRow_115 : decode cX12_readRow 115 = .ok (.getfield 156, 3) := by decide +kernel
theorem dX12_readRow_118 : decode cX12_readRow 118 = .ok (.lconst 1, 1) := by decide +kernel
theorem dX12_readRow_119 : decode cX12_readRow 119 = .ok (.ldc2_w 279, 3) := by decide +kernel
theorem dX12_readRow_122 : decode cX12_readRow 122 = .ok (.invokestatic 105, 3) := by decide +kernel
theorem dX12_readRow_125 : decode cX12_readRow 125 = .ok (.ifCond .ne 13, 3) := by decide +kernel
theorem dX12_readRow_128 : decode cX12_readRow 128 = .ok (.aload_n 0, 1) := by decide +kernel
theorem dX12_readRow_129 : decode cX12_readRow 129 = .ok (.iconst 3, 1) := by decide +kernel
theorem dX12_readRow_130 : decode cX12_readRow 130 = .ok (.aload_n 0, 1) := by decide +kernel
theorem dX12_readRow_131 : decode cX12_readRow 131 = .ok (.getfield 140, 3) := by decide +kernel
theorem dX12_readRow_134 : decode cX12_readRow 134 = .ok (.invokevirtual 196, 3) := by decide +kernel
theorem dX12_readRow_137 : decode cX12_readRow 137 = .ok (.ireturn, 1) := by decide +kernel
theorem dX12_readRow_138 : decode cX12_readRow 138 = .ok (.aload_n 0, 1) := by decide +kernel
theorem dX12_readRow_139 : decode cX12_readRow 139 = .ok (.getfield 41, 3) := by decide +kernel
theorem dX12_readRow_142 : decode cX12_readRow 142 = .ok (.iload_n 1, 1) := by decide +kernel
theorem dX12_readRow_143 : decode cX12_readRow 143 = .ok (.aload_n 0, 1) := by decide +kernel
theorem dX12_readRow_144 : decode cX12_readRow 144 = .ok (.getfield 156, 3) := by decide +kernel
theorem dX12_readRow_147 : decode cX12_readRow 147 = .ok (.l2i, 1) := by decide +kernel
theorem dX12_readRow_148 : decode cX12_readRow 148 = .ok (.iastore, 1) := by decide +kernel
theorem dX12_readRow_149 : decode cX12_readRow 149 = .ok (.aload_n 0, 1) := by decide +kernel
theorem dX12_readRow_150 : decode cX12_readRow 150 = .ok (.getfield 140, 3) := by decide +kernel
theorem dX12_readRow_153 : decode cX12_readRow 153 = .ok (.istore_n 2, 1) := by decide +kernel
theorem dX12_readRow_154 : decode cX12_readRow 154 = .ok (.aload_n 0, 1) := by decide +kernel
theorem dX12_readRow_155 : decode cX12_readRow 155 = .ok (.invokevirtual 200, 3) := by decide +kernel
theorem dX12_readRow_158 : decode cX12_readRow 158 = .ok (.aload_n 0, 1) := by decide +kernel
theorem dX12_readRow_159 : decode cX12_readRow 159 = .ok (.getfield 35, 3) := by decide +kernel
theorem dX12_readRow_162 : decode cX12_readRow 162 = .ok (.iload_n 1, 1) := by decide +kernel
theorem dX12_readRow_163 : decode cX12_readRow 163 = .ok (.iaload, 1) := by decide +kernel
theorem dX12_readRow_164 : decode cX12_readRow 164 = .ok (.aload_n 0, 1) := by decide +kernel
theorem dX12_readRow_165 : decode cX12_readRow 165 = .ok (.getfield 41, 3) := by decide +kernel
theorem dX12_readRow_168 : decode cX12_readRow 168 = .ok (.iload_n 1, 1) := by decide +kernel
theorem dX12_readRow_169 : decode cX12_readRow 169 = .ok (.iaload, 1) := by decide +kernel
theorem dX12_readRow_170 : decode cX12_readRow 170 = .ok (.aload_n 0, 1) := by decide +kernel
theorem dX12_readRow_171 : decode cX12_readRow 171 = .ok (.getfield 38, 3) := by decide +kernel
theorem dX12_readRow_174 : decode cX12_readRow 174 = .ok (.iload_n 1, 1) := by decide +kernel
theorem dX12_readRow_175 : decode cX12_readRow 175 = .ok (.iaload, 1) := by decide +kernel
theorem dX12_readRow_176 : decode cX12_readRow 176 = .ok (.iconst 1, 1) := by decide +kernel
theorem dX12_readRow_177 : decode cX12_readRow 177 = .ok (.isub, 1) := by decide +kernel
theorem dX12_readRow_178 : decode cX12_readRow 178 = .ok (.imul, 1) := by decide +kernel
theorem dX12_readRow_179 : decode cX12_readRow 179 = .ok (.iadd, 1) := by decide +kernel
theorem dX12_readRow_180 : decode cX12_readRow 180 = .ok (.aload_n 0, 1) := by decide +kernel
theorem dX12_readRow_181 : decode cX12_readRow 181 = .ok (.getfield 29, 3) := by decide +kernel
theorem dX12_readRow_184 : decode cX12_readRow 184 = .ok (.iload_n 1, 1) := by decide +kernel
theorem dX12_readRow_185 : decode cX12_readRow 185 = .ok (.iaload, 1) := by decide +kernel
theorem dX12_readRow_186 : decode cX12_readRow 186 = .ok (.invokestatic 267, 3) := by decide +kernel
theorem dX12_readRow_189 : decode cX12_readRow 189 = .ok (.iadd, 1) := by decide +kernel
theorem dX12_readRow_190 : decode cX12_readRow 190 = .ok (.aload_n 0, 1) := by decide +kernel
theorem dX12_readRow_191 : decode cX12_readRow 191 = .ok (.getfield 100, 3) := by decide +kernel
theorem dX12_readRow_194 : decode cX12_readRow 194 = .ok (.if_icmp .le 12, 3) := by decide +kernel
theorem dX12_readRow_197 : decode cX12_readRow 197 = .ok (.aload_n 0, 1) := by decide +kernel
theorem dX12_readRow_198 : decode cX12_readRow 198 = .ok (.iconst 3, 1) := by decide +kernel
theorem dX12_readRow_199 : decode cX12_readRow 199 = .ok (.iload_n 2, 1) := by decide +kernel
theorem dX12_readRow_200 : decode cX12_readRow 200 = .ok (.invokevirtual 196, 3) := by decide +kernel
theorem dX12_readRow_203 : decode cX12_readRow 203 = .ok (.ifCond .eq 7, 3) := by decide +kernel
theorem dX12_readRow_206 : decode cX12_readRow 206 = .ok (.iconst 1, 1) := by decide +kernel
theorem dX12_readRow_207 : decode cX12_readRow 207 = .ok (.goto 4, 3) := by decide +kernel
theorem dX12_readRow_210 : decode cX12_readRow 210 = .ok (.iconst 0, 1) := by decide +kernel
theorem dX12_readRow_211 : decode cX12_readRow 211 = .ok (.ireturn, 1) := by decide +kernel
def F_X12_readRow_211 (t0 : Int32) (s0 : ae_S) : Option (Int32 × ae_S) := ae_gd (ae_zz t0) (some (t0, s0))
set_option maxHeartbeats 4000000 in
set_option maxRecDepth 100000 in
theorem t_X12_readRow_211 {l : Launch} {G : ae_G} (d : Nat) {rr : Int32} {ss : ae_S} (t0 : Int32) (s0 : ae_S) (hF : F_X12_readRow_211 t0 s0 = some (rr, ss)) : ae_T l G (d + 6) mX12_readRow (ae_Po (some (ae_i rr)) ss) 211 [] [ae_i t0] s0 := by
  unfold F_X12_readRow_211 at hF
  obtain ⟨hg1, hF2⟩ := ae_gdI hF
  obtain ⟨rfl, rfl⟩ := ae_retI hF2
  exact ae_iret dX12_readRow_211 rfl (ae_zzN (ae_zzI hg1)) ⟨rfl, rfl⟩
def F_X12_readRow_206 (s0 : ae_S) : Option (Int32 × ae_S) := F_X12_readRow_211 (1 : Int32) s0
set_option maxHeartbeats 4000000 in
set_option maxRecDepth 100000 in
theorem t_X12_readRow_206 {l : Launch} {G : ae_G} (d : Nat) {rr : Int32} {ss : ae_S} (s0 : ae_S) (hF : F_X12_readRow_206 s0 = some (rr, ss)) : ae_T l G (d + 6) mX12_readRow (ae_Po (some (ae_i rr)) ss) 206 [] [] s0 := by
  unfold F_X12_readRow_206 at hF
  refine ae_iconst (1 : Int32) dX12_readRow_206 (by decide) ?_
  refine ae_goto 211 dX12_readRow_207 rfl ?_
  refine ae_pick (lv' := []) [] rfl ?_
  exact t_X12_readRow_211 d (1 : Int32) s0 hF
def F_X12_readRow_158 (v1 : Int32) (v2 : Int32) (s0 : ae_S) : Option (Int32 × ae_S) := ae_gd (ae_ib v1 32) (ae_gd (ae_ib v1 32) (ae_gd (ae_ib v1 32) (ae_gd (ae_ib v1 32) (ae_bd (F_X12_bytesOf (s0.1 36 0 v1.toNatClampNeg) s0) (fun (r11 : Int32) s12 => if (((s0.1 38 0 v1.toNatClampNeg) + ((s0.1 40 0 v1.toNatClampNeg) * ((s0.1 39 0 v1.toNatClampNeg) - (1 : Int32)))) + r11) ≤ (s12.1 30 0 0) then (F_X12_readRow_206 s12) else (ae_bd (F_X12_fails (3 : Int32) v2 s12) (fun (r17 : Int32) s18 => if r17 = 0 then (F_X12_readRow_211 (0 : Int32) s18) else (F_X12_readRow_206 s18))))))))
set_option maxHeartbeats 4000000 in
set_option maxRecDepth 100000 in
theorem t_X12_readRow_158 {l : Launch} {G : ae_G} (d : Nat) {rr : Int32} {ss : ae_S} (v1 : Int32) (v2 : Int32) (s0 : ae_S) (hF : F_X12_readRow_158 v1 v2 s0 = some (rr, ss)) : ae_T l G (d + 6) mX12_readRow (ae_Po (some (ae_i rr)) ss) 158 [(0, ae_r (some (30, 0))), (1, ae_i v1), (2, ae_i v2)] [] s0 := by
  unfold F_X12_readRow_158 at hF
  refine ae_aload_n 0 dX12_readRow_158 rfl ?_
  refine ae_getA (q := (30, 0)) (some (38, 0)) dX12_readRow_159 fl_RX12_35 rfl rfl rfl ?_
  refine ae_iload_n 1 dX12_readRow_162 rfl ?_
  obtain ⟨hg3, hF4⟩ := ae_gdI hF
  refine ae_iald (q := (38, 0)) dX12_readRow_163 rfl rfl (ae_ibI hg3) ?_
  refine ae_aload_n 0 dX12_readRow_164 rfl ?_
  refine ae_getA (q := (30, 0)) (some (40, 0)) dX12_readRow_165 fl_RX12_41 rfl rfl rfl ?_
  refine ae_iload_n 1 dX12_readRow_168 rfl ?_
  obtain ⟨hg5, hF6⟩ := ae_gdI hF4
  refine ae_iald (q := (40, 0)) dX12_readRow_169 rfl rfl (ae_ibI hg5) ?_
  refine ae_aload_n 0 dX12_readRow_170 rfl ?_
  refine ae_getA (q := (30, 0)) (some (39, 0)) dX12_readRow_171 fl_RX12_38 rfl rfl rfl ?_
  refine ae_iload_n 1 dX12_readRow_174 rfl ?_
  obtain ⟨hg7, hF8⟩ := ae_gdI hF6
  refine ae_iald (q := (39, 0)) dX12_readRow_175 rfl rfl (ae_ibI hg7) ?_
  refine ae_iconst (1 : Int32) dX12_readRow_176 (by decide) ?_
  refine ae_isub dX12_readRow_177 ?_
  refine ae_imul dX12_readRow_178 ?_
  refine ae_iadd dX12_readRow_179 ?_
  refine ae_aload_n 0 dX12_readRow_180 rfl ?_
  refine ae_getA (q := (30, 0)) (some (36, 0)) dX12_readRow_181 fl_RX12_29 rfl rfl rfl ?_
  refine ae_iload_n 1 dX12_readRow_184 rfl ?_
  obtain ⟨hg9, hF10⟩ := ae_gdI hF8
  refine ae_iald (q := (36, 0)) dX12_readRow_185 rfl rfl (ae_ibI hg9) ?_
  obtain ⟨r11, s12, hc13, hF14⟩ := ae_bdI hF10
  refine ae_cS1 (As := [ae_i (s0.1 36 0 v1.toNatClampNeg)]) dX12_readRow_186 ww_1590 vy_X12_bytesOf rfl rfl (Nat.le_of_ble_eq_true rfl) (c_X12_bytesOf (d + 5) hc13) ?_
  refine ae_iadd dX12_readRow_189 ?_
  refine ae_aload_n 0 dX12_readRow_190 rfl ?_
  refine ae_getI (q := (30, 0)) dX12_readRow_191 fl_RX12_100 rfl rfl ?_
  refine ae_icmp_le 206 dX12_readRow_194 rfl (fun hb15 => ?_) (fun hb15 => ?_)
  · have hF16 := ae_ifT hb15 hF14
    refine ae_pick (lv' := []) [] rfl ?_
    exact t_X12_readRow_206 d s12 hF16
  · have hF16 := ae_ifF hb15 hF14
    refine ae_aload_n 0 dX12_readRow_197 rfl ?_
    refine ae_iconst (3 : Int32) dX12_readRow_198 (by decide) ?_
    refine ae_iload_n 2 dX12_readRow_199 rfl ?_
    obtain ⟨r17, s18, hc19, hF20⟩ := ae_bdI hF16
    refine ae_cV1 (q := (30, 0)) (As := [ae_i (3 : Int32), ae_i v2]) dX12_readRow_200 ww_1571 vy_X12_fails rfl rfl rfl rfl rfl (Nat.le_of_ble_eq_true rfl) (c_X12_fails (d + 5) hc19) ?_
    refine ae_if_eq 210 dX12_readRow_203 rfl (fun hb21 => ?_) (fun hb21 => ?_)
    · have hF22 := ae_ifT hb21 hF20
      refine ae_iconst (0 : Int32) dX12_readRow_210 (by decide) ?_
      refine ae_pick (lv' := []) [] rfl ?_
      exact t_X12_readRow_211 d (0 : Int32) s18 hF22
    · have hF22 := ae_ifF hb21 hF20
      refine ae_pick (lv' := []) [] rfl ?_
      exact t_X12_readRow_206 d s18 hF22
def F_X12_readRow (v1 : Int32) (s0 : ae_S) : Option (Int32 × ae_S) := ae_gd (ae_ib v1 32) (ae_lt (ae_wI s0 39 0 v1.toNatClampNeg (1 : Int32)) (fun s25 => ae_gd (ae_ib v1 32) (ae_bd (F_X12_bytesOf (s25.1 36 0 v1.toNatClampNeg) s25) (fun (r29 : Int32) s30 => ae_gd (ae_ib v1 32) (ae_lt (ae_wI s30 40 0 v1.toNatClampNeg r29) (fun s35 => ae_bd (F_X12_isWord (2 : Fin 32) s35) (fun (r37 : Int32) s38 => if r37 = 0 then (some ((1 : Int32), s38)) else (ae_bd (F_X12_next s38) (fun (r43 : Unit) s44 => ae_bd (F_X12_readsNumber (3 : Int32) s44) (fun (r47 : Int32) s48 => if r47 = 0 then (some ((0 : Int32), s48)) else (ae_bd (F_X12_isIn (s48.2.1 30 0 29) (1 : Int64) (64 : Int64) s48) (fun (r53 : Int32) s54 => if r53 = 0 then (ae_bd (F_X12_fails (3 : Int32) (s54.1 30 0 26) s54) (fun (r107 : Int32) s108 => ae_gd (ae_zz r107) (some (r107, s108)))) else (ae_gd (ae_ib v1 32) (ae_lt (ae_wI s54 39 0 v1.toNatClampNeg ((s54.2.1 30 0 29).toInt32)) (fun s61 => ae_lt (s61.1 30 0 26) (fun x63 => ae_bd (F_X12_next s61) (fun (r65 : Unit) s66 => ae_bd (F_X12_isWord (3 : Fin 32) s66) (fun (r69 : Int32) s70 => if r69 = 0 then (F_X12_readRow_158 v1 x63 s70) else (ae_bd (F_X12_next s70) (fun (r75 : Unit) s76 => ae_bd (F_X12_readsNumber (3 : Int32) s76) (fun (r79 : Int32) s80 => if r79 = 0 then (some ((0 : Int32), s80)) else (ae_bd (F_X12_isIn (s80.2.1 30 0 29) (1 : Int64) (64 : Int64) s80) (fun (r85 : Int32) s86 => if r85 = 0 then (ae_bd (F_X12_fails (3 : Int32) (s86.1 30 0 26) s86) (fun (r101 : Int32) s102 => ae_gd (ae_zz r101) (some (r101, s102)))) else (ae_gd (ae_ib v1 32) (ae_lt (ae_wI s86 40 0 v1.toNatClampNeg ((s86.2.1 30 0 29).toInt32)) (fun s93 => ae_lt (s93.1 30 0 26) (fun x95 => ae_bd (F_X12_next s93) (fun (r97 : Unit) s98 => F_X12_readRow_158 v1 x95 s98))))))))))))))))))))))))))))
set_option maxHeartbeats 4000000 in
set_option maxRecDepth 100000 in
theorem c_X12_readRow {l : Launch} {G : ae_G} (d : Nat) {v1 : Int32} {s0 ss : ae_S} {rr : Int32} (hF : F_X12_readRow v1 s0 = some (rr, ss)) : ae_Met l G (d + 6) yX12_readRow mX12_readRow [ae_r (some (30, 0)), ae_i v1] s0 (ae_Po (some (ae_i rr)) ss) := by
  refine ae_enter (by decide) rfl (Nat.le_of_ble_eq_true rfl) ?_
  show ae_T l G (d + 6) mX12_readRow (ae_Po (some (ae_i rr)) ss) 0 [(0, ae_r (some (30, 0))), (1, ae_i v1)] [] s0
  unfold F_X12_readRow at hF
  refine ae_aload_n 0 dX12_readRow_0 rfl ?_
  refine ae_getA (q := (30, 0)) (some (39, 0)) dX12_readRow_1 fl_RX12_38 rfl rfl rfl ?_
  refine ae_iload_n 1 dX12_readRow_4 rfl ?_
  refine ae_iconst (1 : Int32) dX12_readRow_5 (by decide) ?_
  obtain ⟨hg23, hF24⟩ := ae_gdI hF
  obtain ⟨s25, hs25, hF26⟩ := ae_ltI hF24
  refine ae_iast (q := (39, 0)) dX12_readRow_6 rfl rfl (ae_ibI hg23) (ae_nmS hs25 ?_)
  refine ae_aload_n 0 dX12_readRow_7 rfl ?_
  refine ae_getA (q := (30, 0)) (some (40, 0)) dX12_readRow_8 fl_RX12_41 rfl rfl rfl ?_
  refine ae_iload_n 1 dX12_readRow_11 rfl ?_
  refine ae_aload_n 0 dX12_readRow_12 rfl ?_
  refine ae_getA (q := (30, 0)) (some (36, 0)) dX12_readRow_13 fl_RX12_29 rfl rfl rfl ?_
  refine ae_iload_n 1 dX12_readRow_16 rfl ?_
  obtain ⟨hg27, hF28⟩ := ae_gdI hF26
  refine ae_iald (q := (36, 0)) dX12_readRow_17 rfl rfl (ae_ibI hg27) ?_
  obtain ⟨r29, s30, hc31, hF32⟩ := ae_bdI hF28
  refine ae_cS1 (As := [ae_i (s25.1 36 0 v1.toNatClampNeg)]) dX12_readRow_18 ww_1590 vy_X12_bytesOf rfl rfl (Nat.le_of_ble_eq_true rfl) (c_X12_bytesOf (d + 5) hc31) ?_
  obtain ⟨hg33, hF34⟩ := ae_gdI hF32
  obtain ⟨s35, hs35, hF36⟩ := ae_ltI hF34
  refine ae_iast (q := (40, 0)) dX12_readRow_21 rfl rfl (ae_ibI hg33) (ae_nmS hs35 ?_)
  refine ae_aload_n 0 dX12_readRow_22 rfl ?_
  refine ae_ldcS (i := 2) (tx := "x") 27 dX12_readRow_23 rfl ?_
  obtain ⟨r37, s38, hc39, hF40⟩ := ae_bdI hF36
  refine ae_cV1 (q := (30, 0)) (As := [ae_r (some (62, 2))]) dX12_readRow_25 ww_1537 vy_X12_isWord rfl rfl rfl rfl rfl (Nat.le_of_ble_eq_true rfl) (c_X12_isWord d hc39) ?_
  refine ae_if_ne 33 dX12_readRow_28 rfl (fun hb41 => ?_) (fun hb41 => ?_)
  · have hF42 := ae_ifF hb41 hF40
    refine ae_aload_n 0 dX12_readRow_33 rfl ?_
    obtain ⟨r43, s44, hc45, hF46⟩ := ae_bdI hF42
    refine ae_cV0 (q := (30, 0)) (As := []) dX12_readRow_34 ww_1508 vy_X12_next rfl rfl rfl rfl rfl (Nat.le_of_ble_eq_true rfl) (c_X12_next (d + 4) hc45) ?_
    refine ae_aload_n 0 dX12_readRow_37 rfl ?_
    refine ae_iconst (3 : Int32) dX12_readRow_38 (by decide) ?_
    obtain ⟨r47, s48, hc49, hF50⟩ := ae_bdI hF46
    refine ae_cV1 (q := (30, 0)) (As := [ae_i (3 : Int32)]) dX12_readRow_39 ww_1582 vy_X12_readsNumber rfl rfl rfl rfl rfl (Nat.le_of_ble_eq_true rfl) (c_X12_readsNumber (d + 4) hc49) ?_
    refine ae_if_ne 47 dX12_readRow_42 rfl (fun hb51 => ?_) (fun hb51 => ?_)
    · have hF52 := ae_ifF hb51 hF50
      refine ae_aload_n 0 dX12_readRow_47 rfl ?_
      refine ae_getL (q := (30, 0)) dX12_readRow_48 fl_RX12_156 rfl rfl ?_
      refine ae_lconst (1 : Int64) dX12_readRow_51 (by decide) ?_
      refine ae_ldc2 dX12_readRow_52 ww_1597 ?_
      obtain ⟨r53, s54, hc55, hF56⟩ := ae_bdI hF52
      refine ae_cS1 (As := [ae_l (s48.2.1 30 0 29), ae_l (1 : Int64), ae_l (64 : Int64)]) dX12_readRow_55 ww_1461 vy_X12_isIn rfl rfl (Nat.le_of_ble_eq_true rfl) (c_X12_isIn (d + 5) hc55) ?_
      refine ae_if_ne 71 dX12_readRow_58 rfl (fun hb57 => ?_) (fun hb57 => ?_)
      · have hF58 := ae_ifF hb57 hF56
        refine ae_aload_n 0 dX12_readRow_71 rfl ?_
        refine ae_getA (q := (30, 0)) (some (39, 0)) dX12_readRow_72 fl_RX12_38 rfl rfl rfl ?_
        refine ae_iload_n 1 dX12_readRow_75 rfl ?_
        refine ae_aload_n 0 dX12_readRow_76 rfl ?_
        refine ae_getL (q := (30, 0)) dX12_readRow_77 fl_RX12_156 rfl rfl ?_
        refine ae_l2i dX12_readRow_80 ?_
        obtain ⟨hg59, hF60⟩ := ae_gdI hF58
        obtain ⟨s61, hs61, hF62⟩ := ae_ltI hF60
        refine ae_iast (q := (39, 0)) dX12_readRow_81 rfl rfl (ae_ibI hg59) (ae_nmS hs61 ?_)
        refine ae_aload_n 0 dX12_readRow_82 rfl ?_
        refine ae_getI (q := (30, 0)) dX12_readRow_83 fl_RX12_140 rfl rfl ?_
        obtain ⟨x63, hx63, hF64⟩ := ae_ltI hF62
        refine ae_nmI hx63 ?_
        refine ae_istore_n (lv' := [(2, ae_i x63), (0, ae_r (some (30, 0))), (1, ae_i v1)]) dX12_readRow_86 (by decide) rfl ?_
        refine ae_aload_n 1 dX12_readRow_87 rfl ?_
        obtain ⟨r65, s66, hc67, hF68⟩ := ae_bdI hF64
        refine ae_cV0 (q := (30, 0)) (As := []) dX12_readRow_88 ww_1508 vy_X12_next rfl rfl rfl rfl rfl (Nat.le_of_ble_eq_true rfl) (c_X12_next (d + 4) hc67) ?_
        refine ae_aload_n 1 dX12_readRow_91 rfl ?_
        refine ae_ldcS (i := 3) (tx := "by") 28 dX12_readRow_92 rfl ?_
        obtain ⟨r69, s70, hc71, hF72⟩ := ae_bdI hF68
        refine ae_cV1 (q := (30, 0)) (As := [ae_r (some (62, 3))]) dX12_readRow_94 ww_1537 vy_X12_isWord rfl rfl rfl rfl rfl (Nat.le_of_ble_eq_true rfl) (c_X12_isWord d hc71) ?_
        refine ae_if_eq 158 dX12_readRow_97 rfl (fun hb73 => ?_) (fun hb73 => ?_)
        · have hF74 := ae_ifT hb73 hF72
          refine ae_pick (lv' := [(0, ae_r (some (30, 0))), (1, ae_i v1), (2, ae_i x63)]) [1, 2, 0] rfl ?_
          exact t_X12_readRow_158 d v1 x63 s70 hF74
        · have hF74 := ae_ifF hb73 hF72
          refine ae_aload_n 1 dX12_readRow_100 rfl ?_
          obtain ⟨r75, s76, hc77, hF78⟩ := ae_bdI hF74
          refine ae_cV0 (q := (30, 0)) (As := []) dX12_readRow_101 ww_1508 vy_X12_next rfl rfl rfl rfl rfl (Nat.le_of_ble_eq_true rfl) (c_X12_next (d + 4) hc77) ?_
          refine ae_aload_n 1 dX12_readRow_104 rfl ?_
          refine ae_iconst (3 : Int32) dX12_readRow_105 (by decide) ?_
          obtain ⟨r79, s80, hc81, hF82⟩ := ae_bdI hF78
          refine ae_cV1 (q := (30, 0)) (As := [ae_i (3 : Int32)]) dX12_readRow_106 ww_1582 vy_X12_readsNumber rfl rfl rfl rfl rfl (Nat.le_of_ble_eq_true rfl) (c_X12_readsNumber (d + 4) hc81) ?_
          refine ae_if_ne 114 dX12_readRow_109 rfl (fun hb83 => ?_) (fun hb83 => ?_)
          · have hF84 := ae_ifF hb83 hF82
            refine ae_aload_n 1 dX12_readRow_114 rfl ?_
            refine ae_getL (q := (30, 0)) dX12_readRow_115 fl_RX12_156 rfl rfl ?_
            refine ae_lconst (1 : Int64) dX12_readRow_118 (by decide) ?_
            refine ae_ldc2 dX12_readRow_119 ww_1597 ?_
            obtain ⟨r85, s86, hc87, hF88⟩ := ae_bdI hF84
            refine ae_cS1 (As := [ae_l (s80.2.1 30 0 29), ae_l (1 : Int64), ae_l (64 : Int64)]) dX12_readRow_122 ww_1461 vy_X12_isIn rfl rfl (Nat.le_of_ble_eq_true rfl) (c_X12_isIn (d + 5) hc87) ?_
            refine ae_if_ne 138 dX12_readRow_125 rfl (fun hb89 => ?_) (fun hb89 => ?_)
            · have hF90 := ae_ifF hb89 hF88
              refine ae_aload_n 1 dX12_readRow_138 rfl ?_
              refine ae_getA (q := (30, 0)) (some (40, 0)) dX12_readRow_139 fl_RX12_41 rfl rfl rfl ?_
              refine ae_iload_n 2 dX12_readRow_142 rfl ?_
              refine ae_aload_n 1 dX12_readRow_143 rfl ?_
              refine ae_getL (q := (30, 0)) dX12_readRow_144 fl_RX12_156 rfl rfl ?_
              refine ae_l2i dX12_readRow_147 ?_
              obtain ⟨hg91, hF92⟩ := ae_gdI hF90
              obtain ⟨s93, hs93, hF94⟩ := ae_ltI hF92
              refine ae_iast (q := (40, 0)) dX12_readRow_148 rfl rfl (ae_ibI hg91) (ae_nmS hs93 ?_)
              refine ae_aload_n 1 dX12_readRow_149 rfl ?_
              refine ae_getI (q := (30, 0)) dX12_readRow_150 fl_RX12_140 rfl rfl ?_
              obtain ⟨x95, hx95, hF96⟩ := ae_ltI hF94
              refine ae_nmI hx95 ?_
              refine ae_istore_n (lv' := [(2, ae_i x95), (0, ae_r (some (30, 0))), (1, ae_i v1)]) dX12_readRow_153 (by decide) rfl ?_
              refine ae_aload_n 1 dX12_readRow_154 rfl ?_
              obtain ⟨r97, s98, hc99, hF100⟩ := ae_bdI hF96
              refine ae_cV0 (q := (30, 0)) (As := []) dX12_readRow_155 ww_1508 vy_X12_next rfl rfl rfl rfl rfl (Nat.le_of_ble_eq_true rfl) (c_X12_next (d + 4) hc99) ?_
              refine ae_pick (lv' := [(0, ae_r (some (30, 0))), (1, ae_i v1), (2, ae_i x95)]) [1, 2, 0] rfl ?_
              exact t_X12_readRow_158 d v1 x95 s98 hF100
            · have hF90 := ae_ifT hb89 hF88
              refine ae_aload_n 1 dX12_readRow_128 rfl ?_
              refine ae_iconst (3 : Int32) dX12_readRow_129 (by decide) ?_
              refine ae_aload_n 1 dX12_readRow_130 rfl ?_
              refine ae_getI (q := (30, 0)) dX12_readRow_131 fl_RX12_140 rfl rfl ?_
              obtain ⟨r101, s102, hc103, hF104⟩ := ae_bdI hF90
              refine ae_cV1 (q := (30, 0)) (As := [ae_i (3 : Int32), ae_i (s86.1 30 0 26)]) dX12_readRow_134 ww_1571 vy_X12_fails rfl rfl rfl rfl rfl (Nat.le_of_ble_eq_true rfl) (c_X12_fails (d + 5) hc103) ?_
              obtain ⟨hg105, hF106⟩ := ae_gdI hF104
              obtain ⟨rfl, rfl⟩ := ae_retI hF106
              exact ae_iret dX12_readRow_137 rfl (ae_zzN (ae_zzI hg105)) ⟨rfl, rfl⟩
          · have hF84 := ae_ifT hb83 hF82
            refine ae_iconst (0 : Int32) dX12_readRow_112 (by decide) ?_
            obtain ⟨rfl, rfl⟩ := ae_retI hF84
            exact ae_iret dX12_readRow_113 rfl (by decide) ⟨rfl, rfl⟩
      · have hF58 := ae_ifT hb57 hF56
        refine ae_aload_n 0 dX12_readRow_61 rfl ?_
        refine ae_iconst (3 : Int32) dX12_readRow_62 (by decide) ?_
        refine ae_aload_n 0 dX12_readRow_63 rfl ?_
        refine ae_getI (q := (30, 0)) dX12_readRow_64 fl_RX12_140 rfl rfl ?_
        obtain ⟨r107, s108, hc109, hF110⟩ := ae_bdI hF58
        refine ae_cV1 (q := (30, 0)) (As := [ae_i (3 : Int32), ae_i (s54.1 30 0 26)]) dX12_readRow_67 ww_1571 vy_X12_fails rfl rfl rfl rfl rfl (Nat.le_of_ble_eq_true rfl) (c_X12_fails (d + 5) hc109) ?_
        obtain ⟨hg111, hF112⟩ := ae_gdI hF110
        obtain ⟨rfl, rfl⟩ := ae_retI hF112
        exact ae_iret dX12_readRow_70 rfl (ae_zzN (ae_zzI hg111)) ⟨rfl, rfl⟩
    · have hF52 := ae_ifT hb51 hF50
      refine ae_iconst (0 : Int32) dX12_readRow_45 (by decide) ?_
      obtain ⟨rfl, rfl⟩ := ae_retI hF52
      exact ae_iret dX12_readRow_46 rfl (by decide) ⟨rfl, rfl⟩
  · have hF42 := ae_ifT hb41 hF40
    refine ae_iconst (1 : Int32) dX12_readRow_31 (by decide) ?_
    obtain ⟨rfl, rfl⟩ := ae_retI hF42
    exact ae_iret dX12_readRow_32 rfl (by decide) ⟨rfl, rfl⟩
abbrev mX12_readView : ae_M := (RX12, cX12_readView, 2, some .boolean)
theorem vy_X12_readView : ae_VY yX12_readView mX12_readView 0 := ⟨ww_1526, wq_58, ww_13, ww_1527, ⟨by decide, by decide, by decide +kernel⟩, by decide⟩
theorem dX12_readView_0 : decode cX12_readView 0 = .ok (.bipush 16, 2) := by decide +kernel
theorem dX12_readView_2 : decode cX12_readView 2 = .ok (.aload_n 0, 1) := by decide +kernel
theorem dX12_readView_3 : decode cX12_readView 3 = .ok (.getfield 251, 3) := by decide +kernel
theorem dX12_readView_6 : decode cX12_readView 6 = .ok (.iadd, 1) := by decide +kernel
theorem dX12_readView_7 : decode cX12_readView 7 = .ok (.istore_n 1, 1) := by decide +kernel
theorem dX12_readView_8 : decode cX12_readView 8 = .ok (.aload_n 0, 1) := by decide +kernel
theorem dX12_readView_9 : decode cX12_readView 9 = .ok (.invokevirtual 253, 3) := by decide +kernel
theorem dX12_readView_12 : decode cX12_readView 12 = .ok (.ifCond .ne 13, 3) := by decide +kernel
theorem dX12_readView_15 : decode cX12_readView 15 = .ok (.aload_n 0, 1) := by decide +kernel
theorem dX12_readView_16 : decode cX12_readView 16 = .ok (.iconst 1, 1) := by decide +kernel
theorem dX12_readView_17 : decode cX12_readView 17 = .ok (.aload_n 0, 1) := by decide +kernel
theorem dX12_readView_18 : decode cX12_readView 18 = .ok (.getfield 140, 3) := by decide +kernel
theorem dX12_readView_21 : decode cX12_readView 21 = .ok (.invokevirtual 196, 3) := by decide +kernel
theorem dX12_readView_24 : decode cX12_readView 24 = .ok (.ireturn, 1) := by decide +kernel
theorem dX12_readView_25 : decode cX12_readView 25 = .ok (.aload_n 0, 1) := by decide +kernel
theorem dX12_readView_26 : decode cX12_readView 26 = .ok (.aload_n 0, 1) := by decide +kernel
theorem dX12_readView_27 : decode cX12_readView 27 = .ok (.getfield 149, 3) := by decide +kernel
theorem dX12_readView_30 : decode cX12_readView 30 = .ok (.bipush 16, 2) := by decide +kernel
theorem dX12_readView_32 : decode cX12_readView 32 = .ok (.aload_n 0, 1) := by decide +kernel
theorem dX12_readView_33 : decode cX12_readView 33 = .ok (.getfield 251, 3) := by decide +kernel
theorem dX12_readView_36 : decode cX12_readView 36 = .ok (.invokevirtual 256, 3) := by decide +kernel
theorem dX12_readView_39 : decode cX12_readView 39 = .ok (.iconst (-1), 1) := by decide +kernel
theorem dX12_readView_40 : decode cX12_readView 40 = .ok (.if_icmp .eq 13, 3) := by decide +kernel
theorem dX12_readView_43 : decode cX12_readView 43 = .ok (.aload_n 0, 1) := by decide +kernel
theorem dX12_readView_44 : decode cX12_readView 44 = .ok (.iconst 2, 1) := by decide +kernel
theorem dX12_readView_45 : decode cX12_readView 45 = .ok (.aload_n 0, 1) := by decide +kernel
theorem dX12_readView_46 : decode cX12_readView 46 = .ok (.getfield 140, 3) := by decide +kernel
theorem dX12_readView_49 : decode cX12_readView 49 = .ok (.invokevirtual 196, 3) := by decide +kernel
theorem dX12_readView_52 : decode cX12_readView 52 = .ok (.ireturn, 1) := by decide +kernel
theorem dX12_readView_53 : decode cX12_readView 53 = .ok (.aload_n 0, 1) := by decide +kernel
theorem dX12_readView_54 : decode cX12_readView 54 = .ok (.getfield 251, 3) := by decide +kernel
theorem dX12_readView_57 : decode cX12_readView 57 = .ok (.bipush 16, 2) := by decide +kernel
theorem dX12_readView_59 : decode cX12_readView 59 = .ok (.if_icmp .ne 13, 3) := by decide +kernel
theorem dX12_readView_62 : decode cX12_readView 62 = .ok (.aload_n 0, 1) := by decide +kernel
theorem dX12_readView_63 : decode cX12_readView 63 = .ok (.iconst 4, 1) := by decide +kernel
theorem dX12_readView_64 : decode cX12_readView 64 = .ok (.aload_n 0, 1) := by decide +kernel
theorem dX12_readView_65 : decode cX12_readView 65 = .ok (.getfield 140, 3) := by decide +kernel
theorem dX12_readView_68 : decode cX12_readView 68 = .ok (.invokevirtual 196, 3) := by decide +kernel
theorem dX12_readView_71 : decode cX12_readView 71 = .ok (.ireturn, 1) := by decide +kernel
theorem dX12_readView_72 : decode cX12_readView 72 = .ok (.aload_n 0, 1) := by decide +kernel
theorem dX12_readView_73 : decode cX12_readView 73 = .ok (.getfield 25, 3) := by decide +kernel
theorem dX12_readView_76 : decode cX12_readView 76 = .ok (.iload_n 1, 1) := by decide +kernel
theorem dX12_readView_77 : decode cX12_readView 77 = .ok (.aload_n 0, 1) := by decide +kernel
theorem dX12_readView_78 : decode cX12_readView 78 = .ok (.getfield 149, 3) := by decide +kernel
theorem dX12_readView_81 : decode cX12_readView 81 = .ok (.lastore, 1) := by decide +kernel
theorem dX12_readView_82 : decode cX12_readView 82 = .ok (.aload_n 0, 1) := by decide +kernel
theorem dX12_readView_83 : decode cX12_readView 83 = .ok (.invokevirtual 200, 3) := by decide +kernel
theorem dX12_readView_86 : decode cX12_readView 86 = .ok (.aload_n 0, 1) := by decide +kernel
theorem dX12_readView_87 : decode cX12_readView 87 = .ok (.getfield 29, 3) := by decide +kernel
theorem dX12_readView_90 : decode cX12_readView 90 = .ok (.iload_n 1, 1) := by decide +kernel
theorem dX12_readView_91 : decode cX12_readView 91 = .ok (.aload_n 0, 1) := by decide +kernel
theorem dX12_readView_92 : decode cX12_readView 92 = .ok (.invokevirtual 245, 3) := by decide +kernel
theorem dX12_readView_95 : decode cX12_readView 95 = .ok (.iastore, 1) := by decide +kernel
theorem dX12_readView_96 : decode cX12_readView 96 = .ok (.aload_n 0, 1) := by decide +kernel
theorem dX12_readView_97 : decode cX12_readView 97 = .ok (.getfield 29, 3) := by decide +kernel
theorem dX12_readView_100 : decode cX12_readView 100 = .ok (.iload_n 1, 1) := by decide +kernel
theorem dX12_readView_101 : decode cX12_readView 101 = .ok (.iaload, 1) := by decide +kernel
theorem dX12_readView_102 : decode cX12_readView 102 = .ok (.iconst (-1), 1) := by decide +kernel
theorem dX12_readView_103 : decode cX12_readView 103 = .ok (.if_icmp .ne 13, 3) := by decide +kernel
theorem dX12_readView_106 : decode cX12_readView 106 = .ok (.aload_n 0, 1) := by decide +kernel
theorem dX12_readView_107 : decode cX12_readView 107 = .ok (.iconst 1, 1) := by decide +kernel
theorem dX12_readView_108 : decode cX12_readView 108 = .ok (.aload_n 0, 1) := by decide +kernel
theorem dX12_readView_109 : decode cX12_readView 109 = .ok (.getfield 140, 3) := by decide +kernel
theorem dX12_readView_112 : decode cX12_readView 112 = .ok (.invokevirtual 196, 3) := by decide +kernel
theorem dX12_readView_115 : decode cX12_readView 115 = .ok (.ireturn, 1) := by decide +kernel
theorem dX12_readView_116 : decode cX12_readView 116 = .ok (.aload_n 0, 1) := by decide +kernel
theorem dX12_readView_117 : decode cX12_readView 117 = .ok (.invokevirtual 200, 3) := by decide +kernel
theorem dX12_readView_120 : decode cX12_readView 120 = .ok (.aload_n 0, 1) := by decide +kernel
theorem dX12_readView_121 : decode cX12_readView 121 = .ok (.getfield 32, 3) := by decide +kernel
theorem dX12_readView_124 : decode cX12_readView 124 = .ok (.iload_n 1, 1) := by decide +kernel
theorem dX12_readView_125 : decode cX12_readView 125 = .ok (.aload_n 0, 1) := by decide +kernel
theorem dX12_readView_126 : decode cX12_readView 126 = .ok (.ldc 231, 2) := by decide +kernel
theorem dX12_readView_128 : decode cX12_readView 128 = .ok (.invokevirtual 205, 3) := by decide +kernel
theorem dX12_readView_131 : decode cX12_readView 131 = .ok (.invokestatic 260, 3) := by decide +kernel
theorem dX12_readView_134 : decode cX12_readView 134 = .ok (.iastore, 1) := by decide +kernel
theorem dX12_readView_135 : decode cX12_readView 135 = .ok (.aload_n 0, 1) := by decide +kernel
theorem dX12_readView_136 : decode cX12_readView 136 = .ok (.getfield 32, 3) := by decide +kernel
theorem dX12_readView_139 : decode cX12_readView 139 = .ok (.iload_n 1, 1) := by decide +kernel
theorem dX12_readView_140 : decode cX12_readView 140 = .ok (.iaload, 1) := by decide +kernel
theorem dX12_readView_141 : decode cX12_readView 141 = .ok (.iconst 1, 1) := by decide +kernel
theorem dX12_readView_142 : decode cX12_readView 142 = .ok (.if_icmp .ne 7, 3) := by decide +kernel
theorem dX12_readView_145 : decode cX12_readView 145 = .ok (.aload_n 0, 1) := by decide +kernel
theorem dX12_readView_146 : decode cX12_readView 146 = .ok (.invokevirtual 200, 3) := by decide +kernel
theorem dX12_readView_149 : decode cX12_readView 149 = .ok (.aload_n 0, 1) := by decide +kernel
theorem dX12_readView_150 : decode cX12_readView 150 = .ok (.ldc 232, 2) := by decide +kernel
theorem dX12_readView_152 : decode cX12_readView 152 = .ok (.invokevirtual 205, 3) := by decide +kernel
theorem dX12_readView_155 : decode cX12_readView 155 = .ok (.ifCond .ne 13, 3) := by decide +kernel
theorem dX12_readView_158 : decode cX12_readView 158 = .ok (.aload_n 0, 1) := by decide +kernel
theorem dX12_readView_159 : decode cX12_readView 159 = .ok (.iconst 1, 1) := by decide +kernel
theorem dX12_readView_160 : decode cX12_readView 160 = .ok (.aload_n 0, 1) := by decide +kernel
theorem dX12_readView_161 : decode cX12_readView 161 = .ok (.getfield 140, 3) := by decide +kernel
theorem dX12_readView_164 : decode cX12_readView 164 = .ok (.invokevirtual 196, 3) := by decide +kernel
theorem dX12_readView_167 : decode cX12_readView 167 = .ok (.ireturn, 1) := by decide +kernel
theorem dX12_readView_168 : decode cX12_readView 168 = .ok (.aload_n 0, 1) := by decide +kernel
theorem dX12_readView_169 : decode cX12_readView 169 = .ok (.invokevirtual 200, 3) := by decide +kernel
theorem dX12_readView_172 : decode cX12_readView 172 = .ok (.aload_n 0, 1) := by decide +kernel
theorem dX12_readView_173 : decode cX12_readView 173 = .ok (.iconst 3, 1) := by decide +kernel
theorem dX12_readView_174 : decode cX12_readView 174 = .ok (.invokevirtual 264, 3) := by decide +kernel
theorem dX12_readView_177 : decode cX12_readView 177 = .ok (.ifCond .ne 5, 3) := by decide +kernel
theorem dX12_readView_180 : decode cX12_readView 180 = .ok (.iconst 0, 1) := by decide +kernel
theorem dX12_readView_181 : decode cX12_readView 181 = .ok (.ireturn, 1) := by decide +kernel
theorem dX12_readView_182 : decode cX12_readView 182 = .ok (.aload_n 0, 1) := by decide +kernel
theorem dX12_readView_183 : decode cX12_readView 183 = .ok (.getfield 156, 3) := by decide +kernel
theorem dX12_readView_186 : decode cX12_readView 186 = .ok (.aload_n 0, 1) := by decide +kernel
theorem dX12_readView_187 : decode cX12_readView 187 = .ok (.getfield 29, 3) := by decide +kernel
theorem dX12_readView_190 : decode cX12_readView 190 = .ok (.iload_n 1, 1) := by decide +kernel
theorem dX12_readView_191 : decode cX12_readView 191 = .ok (.iaload, 1) := by decide +kernel
theorem dX12_readView_192 : decode cX12_readView 192 = .ok (.invokestatic 267, 3) := by decide +kernel
theorem dX12_readView_195 : decode cX12_readView 195 = .ok (.i2l, 1) := by decide +kernel
theorem dX12_readView_196 : decode cX12_readView 196 = .ok (.ladd, 1) := by decide +kernel
theorem dX12_readView_197 : decode cX12_readView 197 = .ok (.aload_n 0, 1) := by decide +kernel
theorem dX12_readView_198 : decode cX12_readView 198 = .ok (.getfield 100, 3) := by decide +kernel
theorem dX12_readView_201 : decode cX12_readView 201 = .ok (.i2l, 1) := by decide +kernel
theorem dX12_readView_202 : decode cX12_readView 202 = .ok (.lcmp, 1) := by decide +kernel
theorem dX12_readView_203 : decode cX12_readView 203 = .ok (.ifCond .le 13, 3) := by decide +kernel
theorem dX12_readView_206 : decode cX12_readView 206 = .ok (.aload_n 0, 1) := by decide +kernel
theorem dX12_readView_207 : decode cX12_readView 207 = .ok (.iconst 3, 1) := by decide +kernel
theorem dX12_readView_208 : decode cX12_readView 208 = .ok (.aload_n 0, 1) := by decide +kernel
theorem dX12_readView_209 : decode cX12_readView 209 = .ok (.getfield 140, 3) := by decide +kernel
theorem dX12_readView_212 : decode cX12_readView 212 = .ok (.invokevirtual 196, 3) := by decide +kernel
theorem dX12_readView_215 : decode cX12_readView 215 = .ok (.ireturn, 1) := by decide +kernel
theorem dX12_readView_216 : decode cX12_readView 216 = .ok (.aload_n 0, 1) := by decide +kernel
theorem dX12_readView_217 : decode cX12_readView 217 = .ok (.getfield 35, 3) := by decide +kernel
theorem dX12_readView_220 : decode cX12_readView 220 = .ok (.iload_n 1, 1) := by decide +kernel
theorem dX12_readView_221 : decode cX12_readView 221 = .ok (.aload_n 0, 1) := by decide +kernel
theorem dX12_readView_222 : decode cX12_readView 222 = .ok (.getfield 156, 3) := by decide +kernel
theorem dX12_readView_225 : decode cX12_readView 225 = .ok (.l2i, 1) := by decide +kernel
theorem dX12_readView_226 : decode cX12_readView 226 = .ok (.iastore, 1) := by decide +kernel
theorem dX12_readView_227 : decode cX12_readView 227 = .ok (.aload_n 0, 1) := by decide +kernel
theorem dX12_readView_228 : decode cX12_readView 228 = .ok (.invokevirtual 200, 3) := by decide +kernel
theorem dX12_readView_231 : decode cX12_readView 231 = .ok (.aload_n 0, 1) := by decide +kernel
theorem dX12_readView_232 : decode cX12_readView 232 = .ok (.iload_n 1, 1) := by decide +kernel
theorem dX12_readView_233 : decode cX12_readView 233 = .ok (.invokevirtual 270, 3) := by decide +kernel
theorem dX12_readView_236 : decode cX12_readView 236 = .ok (.ifCond .ne 5, 3) := by decide +kernel
theorem dX12_readView_239 : decode cX12_readView 239 = .ok (.iconst 0, 1) := by decide +kernel
theorem dX12_readView_240 : decode cX12_readView 240 = .ok (.ireturn, 1) := by decide +kernel
theorem dX12_readView_241 : decode cX12_readView 241 = .ok (.aload_n 0, 1) := by decide +kernel
theorem dX12_readView_242 : decode cX12_readView 242 = .ok (.getfield 44, 3) := by decide +kernel
theorem dX12_readView_245 : decode cX12_readView 245 = .ok (.iload_n 1, 1) := by decide +kernel
theorem dX12_readView_246 : decode cX12_readView 246 = .ok (.aload_n 0, 1) := by decide +kernel
theorem dX12_readView_247 : decode cX12_readView 247 = .ok (.invokevirtual 238, 3) := by decide +kernel
theorem dX12_readView_250 : decode cX12_readView 250 = .ok (.iastore, 1) := by decide +kernel
theorem dX12_readView_251 : decode cX12_readView 251 = .ok (.aload_n 0, 1) := by decide +kernel
theorem dX12_readView_252 : decode cX12_readView 252 = .ok (.getfield 44, 3) := by decide +kernel
theorem dX12_readView_255 : decode cX12_readView 255 = .ok (.iload_n 1, 1) := by decide +kernel
theorem dX12_readView_256 : decode cX12_readView 256 = .ok (.iaload, 1) := by decide +kernel
theorem dX12_readView_257 : decode cX12_readView 257 = .ok (.ifCond .le 7, 3) := by decide +kernel
theorem dX12_readView_260 : decode cX12_readView 260 = .ok (.aload_n 0, 1) := by decide +kernel
theorem dX12_readView_261 : decode cX12_readView 261 = .ok (.invokevirtual 200, 3) := by decide +kernel
theorem dX12_readView_264 : decode cX12_readView 264 = .ok (.aload_n 0, 1) := by decide +kernel
theorem dX12_readView_265 : decode cX12_readView 265 = .ok (.getfield 47, 3) := by decide +kernel
theorem dX12_readView_268 : decode cX12_readView 268 = .ok (.iload_n 1, 1) := by decide +kernel
theorem dX12_readView_269 : decode cX12_readView 269 = .ok (.iconst 0, 1) := by decide +kernel
theorem dX12_readView_270 : decode cX12_readView 270 = .ok (.iastore, 1) := by decide +kernel
theorem dX12_readView_271 : decode cX12_readView 271 = .ok (.aload_n 0, 1) := by decide +kernel
theorem dX12_readView_272 : decode cX12_readView 272 = .ok (.bipush 123, 2) := by decide +kernel
theorem dX12_readView_274 : decode cX12_readView 274 = .ok (.invokevirtual 193, 3) := by decide +kernel
theorem dX12_readView_277 : decode cX12_readView 277 = .ok (.ifCond .eq 13, 3) := by decide +kernel
theorem dX12_readView_280 : decode cX12_readView 280 = .ok (.aload_n 0, 1) := by decide +kernel
theorem dX12_readView_281 : decode cX12_readView 281 = .ok (.iload_n 1, 1) := by decide +kernel
theorem dX12_readView_282 : decode cX12_readView 282 = .ok (.invokevirtual 273, 3) := by decide +kernel
theorem dX12_readView_285 : decode cX12_readView 285 = .ok (.ifCond .ne 5, 3) := by decide +kernel
theorem dX12_readView_288 : decode cX12_readView 288 = .ok (.iconst 0, 1) := by decide +kernel
theorem dX12_readView_289 : decode cX12_readView 289 = .ok (.ireturn, 1) := by decide +kernel
theorem dX12_readView_290 : decode cX12_readView 290 = .ok (.aload_n 0, 1) := by decide +kernel
theorem dX12_readView_291 : decode cX12_readView 291 = .ok (.dup, 1) := by decide +kernel
theorem dX12_readView_292 : decode cX12_readView 292 = .ok (.getfield 251, 3) := by decide +kernel
theorem dX12_readView_295 : decode cX12_readView 295 = .ok (.iconst 1, 1) := by decide +kernel
theorem dX12_readView_296 : decode cX12_readView 296 = .ok (.iadd, 1) := by decide +kernel
theorem dX12_readView_297 : decode cX12_readView 297 = .ok (.putfield 251, 3) := by decide +kernel
theorem dX12_readView_300 : decode cX12_readView 300 = .ok (.aload_n 0, 1) := by decide +kernel
theorem dX12_readView_301 : decode cX12_readView 301 = .ok (.bipush 59, 2) := by decide +kernel
theorem dX12_readView_303 : decode cX12_readView 303 = .ok (.invokevirtual 276, 3) := by decide +kernel
theorem dX12_readView_306 : decode cX12_readView 306 = .ok (.ireturn, 1) := by decide +kernel
def F_X12_readView_290 (s0 : ae_S) : Option (Int32 × ae_S) := ae_lt (ae_wI s0 30 0 18 ((s0.1 30 0 18) + (1 : Int32))) (fun s1 => ae_bd (F_X12_takes (59 : Int32) s1) (fun (r3 : Int32) s4 => ae_gd (ae_zz r3) (some (r3, s4))))
set_option maxHeartbeats 4000000 in
set_option maxRecDepth 100000 in
theorem t_X12_readView_290 {l : Launch} {G : ae_G} (d : Nat) {rr : Int32} {ss : ae_S} (s0 : ae_S) (hF : F_X12_readView_290 s0 = some (rr, ss)) : ae_T l G (d + 11) mX12_readView (ae_Po (some (ae_i rr)) ss) 290 [(0, ae_r (some (30, 0)))] [] s0 := by
  unfold F_X12_readView_290 at hF
  refine ae_aload_n 0 dX12_readView_290 rfl ?_
  refine ae_dup dX12_readView_291 rfl ?_
  refine ae_getI (q := (30, 0)) dX12_readView_292 fl_RX12_251 rfl rfl ?_
  refine ae_iconst (1 : Int32) dX12_readView_295 (by decide) ?_
  refine ae_iadd dX12_readView_296 ?_
  obtain ⟨s1, hs1, hF2⟩ := ae_ltI hF
  refine ae_putI (q := (30, 0)) dX12_readView_297 fl_RX12_251 rfl rfl (ae_nmS hs1 ?_)
  refine ae_aload_n 0 dX12_readView_300 rfl ?_
  refine ae_bipush (59 : Int32) dX12_readView_301 (by decide) ?_
  obtain ⟨r3, s4, hc5, hF6⟩ := ae_bdI hF2
  refine ae_cV1 (q := (30, 0)) (As := [ae_i (59 : Int32)]) dX12_readView_303 ww_1610 vy_X12_takes rfl rfl rfl rfl rfl (Nat.le_of_ble_eq_true rfl) (c_X12_takes (d + 8) hc5) ?_
  obtain ⟨hg7, hF8⟩ := ae_gdI hF6
  obtain ⟨rfl, rfl⟩ := ae_retI hF8
  exact ae_iret dX12_readView_306 rfl (ae_zzN (ae_zzI hg7)) ⟨rfl, rfl⟩
def F_X12_readView_264 (v1 : Int32) (s0 : ae_S) : Option (Int32 × ae_S) := ae_gd (ae_ib v1 32) (ae_lt (ae_wI s0 42 0 v1.toNatClampNeg (0 : Int32)) (fun s11 => ae_bd (F_X12_isSign (123 : Int32) s11) (fun (r13 : Int32) s14 => if r13 = 0 then (F_X12_readView_290 s14) else (ae_bd (F_X12_readFields v1 s14) (fun (r19 : Int32) s20 => if r19 = 0 then (some ((0 : Int32), s20)) else (F_X12_readView_290 s20))))))
set_option maxHeartbeats 4000000 in
set_option maxRecDepth 100000 in
theorem t_X12_readView_264 {l : Launch} {G : ae_G} (d : Nat) {rr : Int32} {ss : ae_S} (v1 : Int32) (s0 : ae_S) (hF : F_X12_readView_264 v1 s0 = some (rr, ss)) : ae_T l G (d + 11) mX12_readView (ae_Po (some (ae_i rr)) ss) 264 [(0, ae_r (some (30, 0))), (1, ae_i v1)] [] s0 := by
  unfold F_X12_readView_264 at hF
  refine ae_aload_n 0 dX12_readView_264 rfl ?_
  refine ae_getA (q := (30, 0)) (some (42, 0)) dX12_readView_265 fl_RX12_47 rfl rfl rfl ?_
  refine ae_iload_n 1 dX12_readView_268 rfl ?_
  refine ae_iconst (0 : Int32) dX12_readView_269 (by decide) ?_
  obtain ⟨hg9, hF10⟩ := ae_gdI hF
  obtain ⟨s11, hs11, hF12⟩ := ae_ltI hF10
  refine ae_iast (q := (42, 0)) dX12_readView_270 rfl rfl (ae_ibI hg9) (ae_nmS hs11 ?_)
  refine ae_aload_n 0 dX12_readView_271 rfl ?_
  refine ae_bipush (123 : Int32) dX12_readView_272 (by decide) ?_
  obtain ⟨r13, s14, hc15, hF16⟩ := ae_bdI hF12
  refine ae_cV1 (q := (30, 0)) (As := [ae_i (123 : Int32)]) dX12_readView_274 ww_1598 vy_X12_isSign rfl rfl rfl rfl rfl (Nat.le_of_ble_eq_true rfl) (c_X12_isSign (d + 10) hc15) ?_
  refine ae_if_eq 290 dX12_readView_277 rfl (fun hb17 => ?_) (fun hb17 => ?_)
  · have hF18 := ae_ifT hb17 hF16
    refine ae_pick (lv' := [(0, ae_r (some (30, 0)))]) [0] rfl ?_
    exact t_X12_readView_290 d s14 hF18
  · have hF18 := ae_ifF hb17 hF16
    refine ae_aload_n 0 dX12_readView_280 rfl ?_
    refine ae_iload_n 1 dX12_readView_281 rfl ?_
    obtain ⟨r19, s20, hc21, hF22⟩ := ae_bdI hF18
    refine ae_cV1 (q := (30, 0)) (As := [ae_i v1]) dX12_readView_282 ww_1602 vy_X12_readFields rfl rfl rfl rfl rfl (Nat.le_of_ble_eq_true rfl) (c_X12_readFields d hc21) ?_
    refine ae_if_ne 290 dX12_readView_285 rfl (fun hb23 => ?_) (fun hb23 => ?_)
    · have hF24 := ae_ifF hb23 hF22
      refine ae_pick (lv' := [(0, ae_r (some (30, 0)))]) [0] rfl ?_
      exact t_X12_readView_290 d s20 hF24
    · have hF24 := ae_ifT hb23 hF22
      refine ae_iconst (0 : Int32) dX12_readView_288 (by decide) ?_
      obtain ⟨rfl, rfl⟩ := ae_retI hF24
      exact ae_iret dX12_readView_289 rfl (by decide) ⟨rfl, rfl⟩
def F_X12_readView_149 (v1 : Int32) (s0 : ae_S) : Option (Int32 × ae_S) := ae_bd (F_X12_isWord (1 : Fin 32) s0) (fun (r25 : Int32) s26 => if r25 = 0 then (ae_bd (F_X12_fails (1 : Int32) (s26.1 30 0 26) s26) (fun (r85 : Int32) s86 => ae_gd (ae_zz r85) (some (r85, s86)))) else (ae_bd (F_X12_next s26) (fun (r31 : Unit) s32 => ae_bd (F_X12_readsNumber (3 : Int32) s32) (fun (r35 : Int32) s36 => if r35 = 0 then (some ((0 : Int32), s36)) else (ae_gd (ae_ib v1 32) (ae_bd (F_X12_bytesOf (s36.1 36 0 v1.toNatClampNeg) s36) (fun (r43 : Int32) s44 => if (lg_cmp ((s36.2.1 30 0 29) + r43.toInt64) ((s44.1 30 0 0).toInt64)) ≤ 0 then (ae_gd (ae_ib v1 32) (ae_lt (ae_wI s44 38 0 v1.toNatClampNeg ((s44.2.1 30 0 29).toInt32)) (fun s51 => ae_bd (F_X12_next s51) (fun (r53 : Unit) s54 => ae_bd (F_X12_readRow v1 s54) (fun (r57 : Int32) s58 => if r57 = 0 then (some ((0 : Int32), s58)) else (ae_bd (F_X12_accessHere s58) (fun (r63 : Int32) s64 => ae_gd (ae_ib v1 32) (ae_lt (ae_wI s64 41 0 v1.toNatClampNeg r63) (fun s69 => ae_gd (ae_ib v1 32) (if (s69.1 41 0 v1.toNatClampNeg) ≤ 0 then (F_X12_readView_264 v1 s69) else (ae_bd (F_X12_next s69) (fun (r75 : Unit) s76 => F_X12_readView_264 v1 s76)))))))))))) else (ae_bd (F_X12_fails (3 : Int32) (s44.1 30 0 26) s44) (fun (r79 : Int32) s80 => ae_gd (ae_zz r79) (some (r79, s80)))))))))))
set_option maxHeartbeats 4000000 in
set_option maxRecDepth 100000 in
theorem t_X12_readView_149 {l : Launch} {G : ae_G} (d : Nat) {rr : Int32} {ss : ae_S} (v1 : Int32) (s0 : ae_S) (hF : F_X12_readView_149 v1 s0 = some (rr, ss)) : ae_T l G (d + 11) mX12_readView (ae_Po (some (ae_i rr)) ss) 149 [(0, ae_r (some (30, 0))), (1, ae_i v1)] [] s0 := by
  unfold F_X12_readView_149 at hF
  refine ae_aload_n 0 dX12_readView_149 rfl ?_
  refine ae_ldcS (i := 1) (tx := "at") 26 dX12_readView_150 rfl ?_
  obtain ⟨r25, s26, hc27, hF28⟩ := ae_bdI hF
  refine ae_cV1 (q := (30, 0)) (As := [ae_r (some (62, 1))]) dX12_readView_152 ww_1537 vy_X12_isWord rfl rfl rfl rfl rfl (Nat.le_of_ble_eq_true rfl) (c_X12_isWord (d + 5) hc27) ?_
  refine ae_if_ne 168 dX12_readView_155 rfl (fun hb29 => ?_) (fun hb29 => ?_)
  · have hF30 := ae_ifF hb29 hF28
    refine ae_aload_n 0 dX12_readView_168 rfl ?_
    obtain ⟨r31, s32, hc33, hF34⟩ := ae_bdI hF30
    refine ae_cV0 (q := (30, 0)) (As := []) dX12_readView_169 ww_1508 vy_X12_next rfl rfl rfl rfl rfl (Nat.le_of_ble_eq_true rfl) (c_X12_next (d + 9) hc33) ?_
    refine ae_aload_n 0 dX12_readView_172 rfl ?_
    refine ae_iconst (3 : Int32) dX12_readView_173 (by decide) ?_
    obtain ⟨r35, s36, hc37, hF38⟩ := ae_bdI hF34
    refine ae_cV1 (q := (30, 0)) (As := [ae_i (3 : Int32)]) dX12_readView_174 ww_1582 vy_X12_readsNumber rfl rfl rfl rfl rfl (Nat.le_of_ble_eq_true rfl) (c_X12_readsNumber (d + 9) hc37) ?_
    refine ae_if_ne 182 dX12_readView_177 rfl (fun hb39 => ?_) (fun hb39 => ?_)
    · have hF40 := ae_ifF hb39 hF38
      refine ae_aload_n 0 dX12_readView_182 rfl ?_
      refine ae_getL (q := (30, 0)) dX12_readView_183 fl_RX12_156 rfl rfl ?_
      refine ae_aload_n 0 dX12_readView_186 rfl ?_
      refine ae_getA (q := (30, 0)) (some (36, 0)) dX12_readView_187 fl_RX12_29 rfl rfl rfl ?_
      refine ae_iload_n 1 dX12_readView_190 rfl ?_
      obtain ⟨hg41, hF42⟩ := ae_gdI hF40
      refine ae_iald (q := (36, 0)) dX12_readView_191 rfl rfl (ae_ibI hg41) ?_
      obtain ⟨r43, s44, hc45, hF46⟩ := ae_bdI hF42
      refine ae_cS1 (As := [ae_i (s36.1 36 0 v1.toNatClampNeg)]) dX12_readView_192 ww_1590 vy_X12_bytesOf rfl rfl (Nat.le_of_ble_eq_true rfl) (c_X12_bytesOf (d + 10) hc45) ?_
      refine ae_i2l dX12_readView_195 ?_
      refine ae_ladd dX12_readView_196 ?_
      refine ae_aload_n 0 dX12_readView_197 rfl ?_
      refine ae_getI (q := (30, 0)) dX12_readView_198 fl_RX12_100 rfl rfl ?_
      refine ae_i2l dX12_readView_201 ?_
      refine ae_lcmp dX12_readView_202 ?_
      refine ae_if_le 216 dX12_readView_203 rfl (fun hb47 => ?_) (fun hb47 => ?_)
      · have hF48 := ae_ifT hb47 hF46
        refine ae_aload_n 0 dX12_readView_216 rfl ?_
        refine ae_getA (q := (30, 0)) (some (38, 0)) dX12_readView_217 fl_RX12_35 rfl rfl rfl ?_
        refine ae_iload_n 1 dX12_readView_220 rfl ?_
        refine ae_aload_n 0 dX12_readView_221 rfl ?_
        refine ae_getL (q := (30, 0)) dX12_readView_222 fl_RX12_156 rfl rfl ?_
        refine ae_l2i dX12_readView_225 ?_
        obtain ⟨hg49, hF50⟩ := ae_gdI hF48
        obtain ⟨s51, hs51, hF52⟩ := ae_ltI hF50
        refine ae_iast (q := (38, 0)) dX12_readView_226 rfl rfl (ae_ibI hg49) (ae_nmS hs51 ?_)
        refine ae_aload_n 0 dX12_readView_227 rfl ?_
        obtain ⟨r53, s54, hc55, hF56⟩ := ae_bdI hF52
        refine ae_cV0 (q := (30, 0)) (As := []) dX12_readView_228 ww_1508 vy_X12_next rfl rfl rfl rfl rfl (Nat.le_of_ble_eq_true rfl) (c_X12_next (d + 9) hc55) ?_
        refine ae_aload_n 0 dX12_readView_231 rfl ?_
        refine ae_iload_n 1 dX12_readView_232 rfl ?_
        obtain ⟨r57, s58, hc59, hF60⟩ := ae_bdI hF56
        refine ae_cV1 (q := (30, 0)) (As := [ae_i v1]) dX12_readView_233 ww_1593 vy_X12_readRow rfl rfl rfl rfl rfl (Nat.le_of_ble_eq_true rfl) (c_X12_readRow (d + 4) hc59) ?_
        refine ae_if_ne 241 dX12_readView_236 rfl (fun hb61 => ?_) (fun hb61 => ?_)
        · have hF62 := ae_ifF hb61 hF60
          refine ae_aload_n 0 dX12_readView_241 rfl ?_
          refine ae_getA (q := (30, 0)) (some (41, 0)) dX12_readView_242 fl_RX12_44 rfl rfl rfl ?_
          refine ae_iload_n 1 dX12_readView_245 rfl ?_
          refine ae_aload_n 0 dX12_readView_246 rfl ?_
          obtain ⟨r63, s64, hc65, hF66⟩ := ae_bdI hF62
          refine ae_cV1 (q := (30, 0)) (As := []) dX12_readView_247 ww_1549 vy_X12_accessHere rfl rfl rfl rfl rfl (Nat.le_of_ble_eq_true rfl) (c_X12_accessHere (d + 4) hc65) ?_
          obtain ⟨hg67, hF68⟩ := ae_gdI hF66
          obtain ⟨s69, hs69, hF70⟩ := ae_ltI hF68
          refine ae_iast (q := (41, 0)) dX12_readView_250 rfl rfl (ae_ibI hg67) (ae_nmS hs69 ?_)
          refine ae_aload_n 0 dX12_readView_251 rfl ?_
          refine ae_getA (q := (30, 0)) (some (41, 0)) dX12_readView_252 fl_RX12_44 rfl rfl rfl ?_
          refine ae_iload_n 1 dX12_readView_255 rfl ?_
          obtain ⟨hg71, hF72⟩ := ae_gdI hF70
          refine ae_iald (q := (41, 0)) dX12_readView_256 rfl rfl (ae_ibI hg71) ?_
          refine ae_if_le 264 dX12_readView_257 rfl (fun hb73 => ?_) (fun hb73 => ?_)
          · have hF74 := ae_ifT hb73 hF72
            refine ae_pick (lv' := [(0, ae_r (some (30, 0))), (1, ae_i v1)]) [0, 1] rfl ?_
            exact t_X12_readView_264 d v1 s69 hF74
          · have hF74 := ae_ifF hb73 hF72
            refine ae_aload_n 0 dX12_readView_260 rfl ?_
            obtain ⟨r75, s76, hc77, hF78⟩ := ae_bdI hF74
            refine ae_cV0 (q := (30, 0)) (As := []) dX12_readView_261 ww_1508 vy_X12_next rfl rfl rfl rfl rfl (Nat.le_of_ble_eq_true rfl) (c_X12_next (d + 9) hc77) ?_
            refine ae_pick (lv' := [(0, ae_r (some (30, 0))), (1, ae_i v1)]) [0, 1] rfl ?_
            exact t_X12_readView_264 d v1 s76 hF78
        · have hF62 := ae_ifT hb61 hF60
          refine ae_iconst (0 : Int32) dX12_readView_239 (by decide) ?_
          obtain ⟨rfl, rfl⟩ := ae_retI hF62
          exact ae_iret dX12_readView_240 rfl (by decide) ⟨rfl, rfl⟩
      · have hF48 := ae_ifF hb47 hF46
        refine ae_aload_n 0 dX12_readView_206 rfl ?_
        refine ae_iconst (3 : Int32) dX12_readView_207 (by decide) ?_
        refine ae_aload_n 0 dX12_readView_208 rfl ?_
        refine ae_getI (q := (30, 0)) dX12_readView_209 fl_RX12_140 rfl rfl ?_
        obtain ⟨r79, s80, hc81, hF82⟩ := ae_bdI hF48
        refine ae_cV1 (q := (30, 0)) (As := [ae_i (3 : Int32), ae_i (s44.1 30 0 26)]) dX12_readView_212 ww_1571 vy_X12_fails rfl rfl rfl rfl rfl (Nat.le_of_ble_eq_true rfl) (c_X12_fails (d + 10) hc81) ?_
        obtain ⟨hg83, hF84⟩ := ae_gdI hF82
        obtain ⟨rfl, rfl⟩ := ae_retI hF84
        exact ae_iret dX12_readView_215 rfl (ae_zzN (ae_zzI hg83)) ⟨rfl, rfl⟩
    · have hF40 := ae_ifT hb39 hF38
      refine ae_iconst (0 : Int32) dX12_readView_180 (by decide) ?_
      obtain ⟨rfl, rfl⟩ := ae_retI hF40
      exact ae_iret dX12_readView_181 rfl (by decide) ⟨rfl, rfl⟩
  · have hF30 := ae_ifT hb29 hF28
    refine ae_aload_n 0 dX12_readView_158 rfl ?_
    refine ae_iconst (1 : Int32) dX12_readView_159 (by decide) ?_
    refine ae_aload_n 0 dX12_readView_160 rfl ?_
    refine ae_getI (q := (30, 0)) dX12_readView_161 fl_RX12_140 rfl rfl ?_
    obtain ⟨r85, s86, hc87, hF88⟩ := ae_bdI hF30
    refine ae_cV1 (q := (30, 0)) (As := [ae_i (1 : Int32), ae_i (s26.1 30 0 26)]) dX12_readView_164 ww_1571 vy_X12_fails rfl rfl rfl rfl rfl (Nat.le_of_ble_eq_true rfl) (c_X12_fails (d + 10) hc87) ?_
    obtain ⟨hg89, hF90⟩ := ae_gdI hF88
    obtain ⟨rfl, rfl⟩ := ae_retI hF90
    exact ae_iret dX12_readView_167 rfl (ae_zzN (ae_zzI hg89)) ⟨rfl, rfl⟩
def F_X12_readView (s0 : ae_S) : Option (Int32 × ae_S) := ae_lt ((16 : Int32) + (s0.1 30 0 18)) (fun x91 => ae_bd (F_X12_isName s0) (fun (r93 : Int32) s94 => if r93 = 0 then (ae_bd (F_X12_fails (1 : Int32) (s94.1 30 0 26) s94) (fun (r169 : Int32) s170 => ae_gd (ae_zz r169) (some (r169, s170)))) else (ae_bd (F_X12_placeOf (s94.2.1 30 0 28) (16 : Int32) (s94.1 30 0 18) s94) (fun (r99 : Int32) s100 => if r99 = (-1 : Int32) then (if (s100.1 30 0 18) = (16 : Int32) then (ae_bd (F_X12_fails (4 : Int32) (s100.1 30 0 26) s100) (fun (r157 : Int32) s158 => ae_gd (ae_zz r157) (some (r157, s158)))) else (ae_gd (ae_ib x91 32) (ae_lt (ae_wL s100 35 0 x91.toNatClampNeg (s100.2.1 30 0 28)) (fun s109 => ae_bd (F_X12_next s109) (fun (r111 : Unit) s112 => ae_bd (F_X12_kindHere s112) (fun (r115 : Int32) s116 => ae_gd (ae_ib x91 32) (ae_lt (ae_wI s116 36 0 x91.toNatClampNeg r115) (fun s121 => ae_gd (ae_ib x91 32) (if (s121.1 36 0 x91.toNatClampNeg) = (-1 : Int32) then (ae_bd (F_X12_fails (1 : Int32) (s121.1 30 0 26) s121) (fun (r151 : Int32) s152 => ae_gd (ae_zz r151) (some (r151, s152)))) else (ae_bd (F_X12_next s121) (fun (r127 : Unit) s128 => ae_bd (F_X12_isWord (0 : Fin 32) s128) (fun (r131 : Int32) s132 => ae_bd (F_X12_one r131 s132) (fun (r135 : Int32) s136 => ae_gd (ae_ib x91 32) (ae_lt (ae_wI s136 37 0 x91.toNatClampNeg r135) (fun s141 => ae_gd (ae_ib x91 32) (if (s141.1 37 0 x91.toNatClampNeg) = (1 : Int32) then (ae_bd (F_X12_next s141) (fun (r147 : Unit) s148 => F_X12_readView_149 x91 s148)) else (F_X12_readView_149 x91 s141))))))))))))))))) else (ae_bd (F_X12_fails (2 : Int32) (s100.1 30 0 26) s100) (fun (r163 : Int32) s164 => ae_gd (ae_zz r163) (some (r163, s164))))))))
set_option maxHeartbeats 4000000 in
set_option maxRecDepth 100000 in
theorem c_X12_readView {l : Launch} {G : ae_G} (d : Nat) {s0 ss : ae_S} {rr : Int32} (hF : F_X12_readView s0 = some (rr, ss)) : ae_Met l G (d + 11) yX12_readView mX12_readView [ae_r (some (30, 0))] s0 (ae_Po (some (ae_i rr)) ss) := by
  refine ae_enter (by decide) rfl (Nat.le_of_ble_eq_true rfl) ?_
  show ae_T l G (d + 11) mX12_readView (ae_Po (some (ae_i rr)) ss) 0 [(0, ae_r (some (30, 0)))] [] s0
  unfold F_X12_readView at hF
  refine ae_bipush (16 : Int32) dX12_readView_0 (by decide) ?_
  refine ae_aload_n 0 dX12_readView_2 rfl ?_
  refine ae_getI (q := (30, 0)) dX12_readView_3 fl_RX12_251 rfl rfl ?_
  refine ae_iadd dX12_readView_6 ?_
  obtain ⟨x91, hx91, hF92⟩ := ae_ltI hF
  refine ae_nmI hx91 ?_
  refine ae_istore_n (lv' := [(1, ae_i x91), (0, ae_r (some (30, 0)))]) dX12_readView_7 (by decide) rfl ?_
  refine ae_aload_n 1 dX12_readView_8 rfl ?_
  obtain ⟨r93, s94, hc95, hF96⟩ := ae_bdI hF92
  refine ae_cV1 (q := (30, 0)) (As := []) dX12_readView_9 ww_1528 vy_X12_isName rfl rfl rfl rfl rfl (Nat.le_of_ble_eq_true rfl) (c_X12_isName (d + 2) hc95) ?_
  refine ae_if_ne 25 dX12_readView_12 rfl (fun hb97 => ?_) (fun hb97 => ?_)
  · have hF98 := ae_ifF hb97 hF96
    refine ae_aload_n 1 dX12_readView_25 rfl ?_
    refine ae_aload_n 1 dX12_readView_26 rfl ?_
    refine ae_getL (q := (30, 0)) dX12_readView_27 fl_RX12_149 rfl rfl ?_
    refine ae_bipush (16 : Int32) dX12_readView_30 (by decide) ?_
    refine ae_aload_n 1 dX12_readView_32 rfl ?_
    refine ae_getI (q := (30, 0)) dX12_readView_33 fl_RX12_251 rfl rfl ?_
    obtain ⟨r99, s100, hc101, hF102⟩ := ae_bdI hF98
    refine ae_cV1 (q := (30, 0)) (As := [ae_l (s94.2.1 30 0 28), ae_i (16 : Int32), ae_i (s94.1 30 0 18)]) dX12_readView_36 ww_1575 vy_X12_placeOf rfl rfl rfl rfl rfl (Nat.le_of_ble_eq_true rfl) (c_X12_placeOf (d + 10) hc101) ?_
    refine ae_iconst (-1 : Int32) dX12_readView_39 (by decide) ?_
    refine ae_icmp_eq 53 dX12_readView_40 rfl (fun hb103 => ?_) (fun hb103 => ?_)
    · have hF104 := ae_ifT hb103 hF102
      refine ae_aload_n 1 dX12_readView_53 rfl ?_
      refine ae_getI (q := (30, 0)) dX12_readView_54 fl_RX12_251 rfl rfl ?_
      refine ae_bipush (16 : Int32) dX12_readView_57 (by decide) ?_
      refine ae_icmp_ne 72 dX12_readView_59 rfl (fun hb105 => ?_) (fun hb105 => ?_)
      · have hF106 := ae_ifF hb105 hF104
        refine ae_aload_n 1 dX12_readView_72 rfl ?_
        refine ae_getA (q := (30, 0)) (some (35, 0)) dX12_readView_73 fl_RX12_25 rfl rfl rfl ?_
        refine ae_iload_n 0 dX12_readView_76 rfl ?_
        refine ae_aload_n 1 dX12_readView_77 rfl ?_
        refine ae_getL (q := (30, 0)) dX12_readView_78 fl_RX12_149 rfl rfl ?_
        obtain ⟨hg107, hF108⟩ := ae_gdI hF106
        obtain ⟨s109, hs109, hF110⟩ := ae_ltI hF108
        refine ae_last (q := (35, 0)) dX12_readView_81 rfl rfl (ae_ibI hg107) (ae_nmS hs109 ?_)
        refine ae_aload_n 1 dX12_readView_82 rfl ?_
        obtain ⟨r111, s112, hc113, hF114⟩ := ae_bdI hF110
        refine ae_cV0 (q := (30, 0)) (As := []) dX12_readView_83 ww_1508 vy_X12_next rfl rfl rfl rfl rfl (Nat.le_of_ble_eq_true rfl) (c_X12_next (d + 9) hc113) ?_
        refine ae_aload_n 1 dX12_readView_86 rfl ?_
        refine ae_getA (q := (30, 0)) (some (36, 0)) dX12_readView_87 fl_RX12_29 rfl rfl rfl ?_
        refine ae_iload_n 0 dX12_readView_90 rfl ?_
        refine ae_aload_n 1 dX12_readView_91 rfl ?_
        obtain ⟨r115, s116, hc117, hF118⟩ := ae_bdI hF114
        refine ae_cV1 (q := (30, 0)) (As := []) dX12_readView_92 ww_1558 vy_X12_kindHere rfl rfl rfl rfl rfl (Nat.le_of_ble_eq_true rfl) (c_X12_kindHere (d + 4) hc117) ?_
        obtain ⟨hg119, hF120⟩ := ae_gdI hF118
        obtain ⟨s121, hs121, hF122⟩ := ae_ltI hF120
        refine ae_iast (q := (36, 0)) dX12_readView_95 rfl rfl (ae_ibI hg119) (ae_nmS hs121 ?_)
        refine ae_aload_n 1 dX12_readView_96 rfl ?_
        refine ae_getA (q := (30, 0)) (some (36, 0)) dX12_readView_97 fl_RX12_29 rfl rfl rfl ?_
        refine ae_iload_n 0 dX12_readView_100 rfl ?_
        obtain ⟨hg123, hF124⟩ := ae_gdI hF122
        refine ae_iald (q := (36, 0)) dX12_readView_101 rfl rfl (ae_ibI hg123) ?_
        refine ae_iconst (-1 : Int32) dX12_readView_102 (by decide) ?_
        refine ae_icmp_ne 116 dX12_readView_103 rfl (fun hb125 => ?_) (fun hb125 => ?_)
        · have hF126 := ae_ifF hb125 hF124
          refine ae_aload_n 1 dX12_readView_116 rfl ?_
          obtain ⟨r127, s128, hc129, hF130⟩ := ae_bdI hF126
          refine ae_cV0 (q := (30, 0)) (As := []) dX12_readView_117 ww_1508 vy_X12_next rfl rfl rfl rfl rfl (Nat.le_of_ble_eq_true rfl) (c_X12_next (d + 9) hc129) ?_
          refine ae_aload_n 1 dX12_readView_120 rfl ?_
          refine ae_getA (q := (30, 0)) (some (37, 0)) dX12_readView_121 fl_RX12_32 rfl rfl rfl ?_
          refine ae_iload_n 0 dX12_readView_124 rfl ?_
          refine ae_aload_n 1 dX12_readView_125 rfl ?_
          refine ae_ldcS (i := 0) (tx := "big") 25 dX12_readView_126 rfl ?_
          obtain ⟨r131, s132, hc133, hF134⟩ := ae_bdI hF130
          refine ae_cV1 (q := (30, 0)) (As := [ae_r (some (62, 0))]) dX12_readView_128 ww_1537 vy_X12_isWord rfl rfl rfl rfl rfl (Nat.le_of_ble_eq_true rfl) (c_X12_isWord (d + 5) hc133) ?_
          obtain ⟨r135, s136, hc137, hF138⟩ := ae_bdI hF134
          refine ae_cS1 (As := [ae_i r131]) dX12_readView_131 ww_1579 vy_X12_one rfl rfl (Nat.le_of_ble_eq_true rfl) (c_X12_one (d + 10) hc137) ?_
          obtain ⟨hg139, hF140⟩ := ae_gdI hF138
          obtain ⟨s141, hs141, hF142⟩ := ae_ltI hF140
          refine ae_iast (q := (37, 0)) dX12_readView_134 rfl rfl (ae_ibI hg139) (ae_nmS hs141 ?_)
          refine ae_aload_n 1 dX12_readView_135 rfl ?_
          refine ae_getA (q := (30, 0)) (some (37, 0)) dX12_readView_136 fl_RX12_32 rfl rfl rfl ?_
          refine ae_iload_n 0 dX12_readView_139 rfl ?_
          obtain ⟨hg143, hF144⟩ := ae_gdI hF142
          refine ae_iald (q := (37, 0)) dX12_readView_140 rfl rfl (ae_ibI hg143) ?_
          refine ae_iconst (1 : Int32) dX12_readView_141 (by decide) ?_
          refine ae_icmp_ne 149 dX12_readView_142 rfl (fun hb145 => ?_) (fun hb145 => ?_)
          · have hF146 := ae_ifF hb145 hF144
            refine ae_pick (lv' := [(0, ae_r (some (30, 0))), (1, ae_i x91)]) [1, 0] rfl ?_
            exact t_X12_readView_149 d x91 s141 hF146
          · have hF146 := ae_ifT hb145 hF144
            refine ae_aload_n 1 dX12_readView_145 rfl ?_
            obtain ⟨r147, s148, hc149, hF150⟩ := ae_bdI hF146
            refine ae_cV0 (q := (30, 0)) (As := []) dX12_readView_146 ww_1508 vy_X12_next rfl rfl rfl rfl rfl (Nat.le_of_ble_eq_true rfl) (c_X12_next (d + 9) hc149) ?_
            refine ae_pick (lv' := [(0, ae_r (some (30, 0))), (1, ae_i x91)]) [1, 0] rfl ?_
            exact t_X12_readView_149 d x91 s148 hF150
        · have hF126 := ae_ifT hb125 hF124
          refine ae_aload_n 1 dX12_readView_106 rfl ?_
          refine ae_iconst (1 : Int32) dX12_readView_107 (by decide) ?_
          refine ae_aload_n 1 dX12_readView_108 rfl ?_
          refine ae_getI (q := (30, 0)) dX12_readView_109 fl_RX12_140 rfl rfl ?_
          obtain ⟨r151, s152, hc153, hF154⟩ := ae_bdI hF126
          refine ae_cV1 (q := (30, 0)) (As := [ae_i (1 : Int32), ae_i (s121.1 30 0 26)]) dX12_readView_112 ww_1571 vy_X12_fails rfl rfl rfl rfl rfl (Nat.le_of_ble_eq_true rfl) (c_X12_fails (d + 10) hc153) ?_
          obtain ⟨hg155, hF156⟩ := ae_gdI hF154
          obtain ⟨rfl, rfl⟩ := ae_retI hF156
          exact ae_iret dX12_readView_115 rfl (ae_zzN (ae_zzI hg155)) ⟨rfl, rfl⟩
      · have hF106 := ae_ifT hb105 hF104
        refine ae_aload_n 1 dX12_readView_62 rfl ?_
        refine ae_iconst (4 : Int32) dX12_readView_63 (by decide) ?_
        refine ae_aload_n 1 dX12_readView_64 rfl ?_
        refine ae_getI (q := (30, 0)) dX12_readView_65 fl_RX12_140 rfl rfl ?_
        obtain ⟨r157, s158, hc159, hF160⟩ := ae_bdI hF106
        refine ae_cV1 (q := (30, 0)) (As := [ae_i (4 : Int32), ae_i (s100.1 30 0 26)]) dX12_readView_68 ww_1571 vy_X12_fails rfl rfl rfl rfl rfl (Nat.le_of_ble_eq_true rfl) (c_X12_fails (d + 10) hc159) ?_
        obtain ⟨hg161, hF162⟩ := ae_gdI hF160
        obtain ⟨rfl, rfl⟩ := ae_retI hF162
        exact ae_iret dX12_readView_71 rfl (ae_zzN (ae_zzI hg161)) ⟨rfl, rfl⟩
    · have hF104 := ae_ifF hb103 hF102
      refine ae_aload_n 1 dX12_readView_43 rfl ?_
      refine ae_iconst (2 : Int32) dX12_readView_44 (by decide) ?_
      refine ae_aload_n 1 dX12_readView_45 rfl ?_
      refine ae_getI (q := (30, 0)) dX12_readView_46 fl_RX12_140 rfl rfl ?_
      obtain ⟨r163, s164, hc165, hF166⟩ := ae_bdI hF104
      refine ae_cV1 (q := (30, 0)) (As := [ae_i (2 : Int32), ae_i (s100.1 30 0 26)]) dX12_readView_49 ww_1571 vy_X12_fails rfl rfl rfl rfl rfl (Nat.le_of_ble_eq_true rfl) (c_X12_fails (d + 10) hc165) ?_
      obtain ⟨hg167, hF168⟩ := ae_gdI hF166
      obtain ⟨rfl, rfl⟩ := ae_retI hF168
      exact ae_iret dX12_readView_52 rfl (ae_zzN (ae_zzI hg167)) ⟨rfl, rfl⟩
  · have hF98 := ae_ifT hb97 hF96
    refine ae_aload_n 1 dX12_readView_15 rfl ?_
    refine ae_iconst (1 : Int32) dX12_readView_16 (by decide) ?_
    refine ae_aload_n 1 dX12_readView_17 rfl ?_
    refine ae_getI (q := (30, 0)) dX12_readView_18 fl_RX12_140 rfl rfl ?_
    obtain ⟨r169, s170, hc171, hF172⟩ := ae_bdI hF98
    refine ae_cV1 (q := (30, 0)) (As := [ae_i (1 : Int32), ae_i (s94.1 30 0 26)]) dX12_readView_21 ww_1571 vy_X12_fails rfl rfl rfl rfl rfl (Nat.le_of_ble_eq_true rfl) (c_X12_fails (d + 10) hc171) ?_
    obtain ⟨hg173, hF174⟩ := ae_gdI hF172
    obtain ⟨rfl, rfl⟩ := ae_retI hF174
    exact ae_iret dX12_readView_24 rfl (ae_zzN (ae_zzI hg173)) ⟨rfl, rfl⟩
abbrev mX12_starts : ae_M := (RX12, cX12_starts, 1, none)
theorem vy_X12_starts : ae_VY yX12_starts mX12_starts 0 := ⟨ww_1506, wq_55, ww_13, ww_1507, ⟨by decide, by decide, by decide +kernel⟩, by decide⟩
theorem dX12_starts_0 : decode cX12_starts 0 = .ok (.aload_n 0, 1) := by decide +kernel
theorem dX12_starts_1 : decode cX12_starts 1 = .ok (.iconst 0, 1) := by decide +kernel
theorem dX12_starts_2 : decode cX12_starts 2 = .ok (.putfield 133, 3) := by decide +kernel
theorem dX12_starts_5 : decode cX12_starts 5 = .ok (.aload_n 0, 1) := by decide +kernel
theorem dX12_starts_6 : decode cX12_starts 6 = .ok (.iconst 0, 1) := by decide +kernel
theorem dX12_starts_7 : decode cX12_starts 7 = .ok (.putfield 169, 3) := by decide +kernel
theorem dX12_starts_10 : decode cX12_starts 10 = .ok (.aload_n 0, 1) := by decide +kernel
theorem dX12_starts_11 : decode cX12_starts 11 = .ok (.iconst (-1), 1) := by decide +kernel
theorem dX12_starts_12 : decode cX12_starts 12 = .ok (.putfield 172, 3) := by decide +kernel
theorem dX12_starts_15 : decode cX12_starts 15 = .ok (.aload_n 0, 1) := by decide +kernel
theorem dX12_starts_16 : decode cX12_starts 16 = .ok (.invokevirtual 200, 3) := by decide +kernel
theorem dX12_starts_19 : decode cX12_starts 19 = .ok (.return_, 1) := by decide +kernel
def F_X12_starts (s0 : ae_S) : Option (Unit × ae_S) := ae_lt (ae_wI s0 30 0 27 (0 : Int32)) (fun s1 => ae_lt (ae_wI s1 30 0 23 (0 : Int32)) (fun s3 => ae_lt (ae_wI s3 30 0 24 (-1 : Int32)) (fun s5 => ae_bd (F_X12_next s5) (fun (r7 : Unit) s8 => some ((), s8)))))
set_option maxHeartbeats 4000000 in
set_option maxRecDepth 100000 in
theorem c_X12_starts {l : Launch} {G : ae_G} (d : Nat) {s0 ss : ae_S} {rr : Unit} (hF : F_X12_starts s0 = some (rr, ss)) : ae_Met l G (d + 2) yX12_starts mX12_starts [ae_r (some (30, 0))] s0 (ae_Po none ss) := by
  refine ae_enter (by decide) rfl (Nat.le_of_ble_eq_true rfl) ?_
  show ae_T l G (d + 2) mX12_starts (ae_Po none ss) 0 [(0, ae_r (some (30, 0)))] [] s0
  unfold F_X12_starts at hF
  refine ae_aload_n 0 dX12_starts_0 rfl ?_
  refine ae_iconst (0 : Int32) dX12_starts_1 (by decide) ?_
  obtain ⟨s1, hs1, hF2⟩ := ae_ltI hF
  refine ae_putI (q := (30, 0)) dX12_starts_2 fl_RX12_133 rfl rfl (ae_nmS hs1 ?_)
  refine ae_aload_n 0 dX12_starts_5 rfl ?_
  refine ae_iconst (0 : Int32) dX12_starts_6 (by decide) ?_
  obtain ⟨s3, hs3, hF4⟩ := ae_ltI hF2
  refine ae_putI (q := (30, 0)) dX12_starts_7 fl_RX12_169 rfl rfl (ae_nmS hs3 ?_)
  refine ae_aload_n 0 dX12_starts_10 rfl ?_
  refine ae_iconst (-1 : Int32) dX12_starts_11 (by decide) ?_
  obtain ⟨s5, hs5, hF6⟩ := ae_ltI hF4
  refine ae_putI (q := (30, 0)) dX12_starts_12 fl_RX12_172 rfl rfl (ae_nmS hs5 ?_)
  refine ae_aload_n 0 dX12_starts_15 rfl ?_
  obtain ⟨r7, s8, hc9, hF10⟩ := ae_bdI hF6
  refine ae_cV0 (q := (30, 0)) (As := []) dX12_starts_16 ww_1508 vy_X12_next rfl rfl rfl rfl rfl (Nat.le_of_ble_eq_true rfl) (c_X12_next d hc9) ?_
  obtain ⟨rfl, rfl⟩ := ae_retI hF10
  exact ae_vret dX12_starts_19 rfl ⟨rfl, rfl⟩
abbrev mX12_views : ae_M := (RX12, cX12_views, 5, some .int)
theorem vy_X12_views : ae_VY yX12_views mX12_views 0 := ⟨ww_1501, ww_1502, ww_13, ww_1503, ⟨by decide, by decide, by decide +kernel⟩, by decide⟩
theorem dX12_views_0 : decode cX12_views 0 = .ok (.aload_n 0, 1) := by decide +kernel
theorem dX12_views_1 : decode cX12_views 1 = .ok (.iconst 0, 1) := by decide +kernel
theorem dX12_views_2 : decode cX12_views 2 = .ok (.putfield 251, 3) := by decide +kernel
theorem dX12_views_5 : decode cX12_views 5 = .ok (.aload_n 0, 1) := by decide +kernel
theorem dX12_views_6 : decode cX12_views 6 = .ok (.invokevirtual 289, 3) := by decide +kernel
theorem dX12_views_9 : decode cX12_views 9 = .ok (.aload_n 0, 1) := by decide +kernel
theorem dX12_views_10 : decode cX12_views 10 = .ok (.getfield 143, 3) := by decide +kernel
theorem dX12_views_13 : decode cX12_views 13 = .ok (.ifCond .eq 7, 3) := by decide +kernel
theorem dX12_views_16 : decode cX12_views 16 = .ok (.iconst 1, 1) := by decide +kernel
theorem dX12_views_17 : decode cX12_views 17 = .ok (.goto 4, 3) := by decide +kernel
theorem dX12_views_20 : decode cX12_views 20 = .ok (.iconst 0, 1) := by decide +kernel
theorem dX12_views_21 : decode cX12_views 21 = .ok (.istore_n 1, 1) := by decide +kernel
theorem dX12_views_22 : decode cX12_views 22 = .ok (.iload_n 1, 1) := by decide +kernel
theorem dX12_views_23 : decode cX12_views 23 = .ok (.ifCond .eq 26, 3) := by decide +kernel
theorem dX12_views_26 : decode cX12_views 26 = .ok (.aload_n 0, 1) := by decide +kernel
theorem dX12_views_27 : decode cX12_views 27 = .ok (.invokevirtual 292, 3) := by decide +kernel
theorem dX12_views_30 : decode cX12_views 30 = .ok (.ifCond .eq 14, 3) := by decide +kernel
theorem dX12_views_33 : decode cX12_views 33 = .ok (.aload_n 0, 1) := by decide +kernel
theorem dX12_views_34 : decode cX12_views 34 = .ok (.getfield 143, 3) := by decide +kernel
theorem dX12_views_37 : decode cX12_views 37 = .ok (.ifCond .eq 7, 3) := by decide +kernel
theorem dX12_views_40 : decode cX12_views 40 = .ok (.iconst 1, 1) := by decide +kernel
theorem dX12_views_41 : decode cX12_views 41 = .ok (.goto 4, 3) := by decide +kernel
theorem dX12_views_44 : decode cX12_views 44 = .ok (.iconst 0, 1) := by decide +kernel
theorem dX12_views_45 : decode cX12_views 45 = .ok (.istore_n 1, 1) := by decide +kernel
theorem dX12_views_46 : decode cX12_views 46 = .ok (.goto (-24), 3) := by decide +kernel
theorem dX12_views_49 : decode cX12_views 49 = .ok (.aload_n 0, 1) := by decide +kernel
theorem dX12_views_50 : decode cX12_views 50 = .ok (.invokevirtual 295, 3) := by decide +kernel
theorem dX12_views_53 : decode cX12_views 53 = .ok (.ifCond .ne 5, 3) := by decide +kernel
theorem dX12_views_56 : decode cX12_views 56 = .ok (.iconst (-1), 1) := by decide +kernel
theorem dX12_views_57 : decode cX12_views 57 = .ok (.ireturn, 1) := by decide +kernel
theorem dX12_views_58 : decode cX12_views 58 = .ok (.aload_n 0, 1) := by decide +kernel
theorem dX12_views_59 : decode cX12_views 59 = .ok (.aload_n 0, 1) := by decide +kernel
theorem dX12_views_60 : decode cX12_views 60 = .ok (.getfield 251, 3) := by decide +kernel
theorem dX12_views_63 : decode cX12_views 63 = .ok (.putfield 109, 3) := by decide +kernel
theorem dX12_views_66 : decode cX12_views 66 = .ok (.iconst 0, 1) := by decide +kernel
theorem dX12_views_67 : decode cX12_views 67 = .ok (.istore_n 2, 1) := by decide +kernel
theorem dX12_views_68 : decode cX12_views 68 = .ok (.iload_n 2, 1) := by decide +kernel
theorem dX12_views_69 : decode cX12_views 69 = .ok (.aload_n 0, 1) := by decide +kernel
theorem dX12_views_70 : decode cX12_views 70 = .ok (.getfield 109, 3) := by decide +kernel
theorem dX12_views_73 : decode cX12_views 73 = .ok (.if_icmp .ge 208, 3) := by decide +kernel
theorem dX12_views_76 : decode cX12_views 76 = .ok (.aload_n 0, 1) := by decide +kernel
theorem dX12_views_77 : decode cX12_views 77 = .ok (.getfield 25, 3) := by decide +kernel
theorem dX12_views_80 : decode cX12_views 80 = .ok (.iload_n 2, 1) := by decide +kernel
theorem dX12_views_81 : decode cX12_views 81 = .ok (.aload_n 0, 1) := by decide +kernel
theorem dX12_views_82 : decode cX12_views 82 = .ok (.getfield 25, 3) := by decide +kernel
theorem dX12_views_85 : decode cX12_views 85 = .ok (.bipush 16, 2) := by decide +kernel
theorem dX12_views_87 : decode cX12_views 87 = .ok (.iload_n 2, 1) := by decide +kernel
theorem dX12_views_88 : decode cX12_views 88 = .ok (.iadd, 1) := by decide +kernel
theorem dX12_views_89 : decode cX12_views 89 = .ok (.laload, 1) := by decide +kernel
theorem dX12_views_90 : decode cX12_views 90 = .ok (.lastore, 1) := by decide +kernel
theorem dX12_views_91 : decode cX12_views 91 = .ok (.aload_n 0, 1) := by decide +kernel
theorem dX12_views_92 : decode cX12_views 92 = .ok (.getfield 29, 3) := by decide +kernel
theorem dX12_views_95 : decode cX12_views 95 = .ok (.iload_n 2, 1) := by decide +kernel
theorem dX12_views_96 : decode cX12_views 96 = .ok (.aload_n 0, 1) := by decide +kernel
theorem dX12_views_97 : decode cX12_views 97 = .ok (.getfield 29, 3) := by decide +kernel
theorem dX12_views_100 : decode cX12_views 100 = .ok (.bipush 16, 2) := by decide +kernel
theorem dX12_views_102 : decode cX12_views 102 = .ok (.iload_n 2, 1) := by decide +kernel
theorem dX12_views_103 : decode cX12_views 103 = .ok (.iadd, 1) := by decide +kernel
theorem dX12_views_104 : decode cX12_views 104 = .ok (.iaload, 1) := by decide +kernel
theorem dX12_views_105 : decode cX12_views 105 = .ok (.iastore, 1) := by decide +kernel
theorem dX12_views_106 : decode cX12_views 106 = .ok (.aload_n 0, 1) := by decide +kernel
theorem dX12_views_107 : decode cX12_views 107 = .ok (.getfield 32, 3) := by decide +kernel
theorem dX12_views_110 : decode cX12_views 110 = .ok (.iload_n 2, 1) := by decide +kernel
theorem dX12_views_111 : decode cX12_views 111 = .ok (.aload_n 0, 1) := by decide +kernel
theorem dX12_views_112 : decode cX12_views 112 = .ok (.getfield 32, 3) := by decide +kernel
theorem dX12_views_115 : decode cX12_views 115 = .ok (.bipush 16, 2) := by decide +kernel
theorem dX12_views_117 : decode cX12_views 117 = .ok (.iload_n 2, 1) := by decide +kernel
theorem dX12_views_118 : decode cX12_views 118 = .ok (.iadd, 1) := by decide +kernel
theorem dX12_views_119 : decode cX12_views 119 = .ok (.iaload, 1) := by decide +kernel
theorem dX12_views_120 : decode cX12_views 120 = .ok (.iastore, 1) := by decide +kernel
theorem dX12_views_121 : decode cX12_views 121 = .ok (.aload_n 0, 1) := by decide +kernel
theorem dX12_views_122 : decode cX12_views 122 = .ok (.getfield 35, 3) := by decide +kernel
theorem dX12_views_125 : decode cX12_views 125 = .ok (.iload_n 2, 1) := by decide +kernel
theorem dX12_views_126 : decode cX12_views 126 = .ok (.aload_n 0, 1) := by decide +kernel
theorem dX12_views_127 : decode cX12_views 127 = .ok (.getfield 35, 3) := by decide +kernel
theorem dX12_views_130 : decode cX12_views 130 = .ok (.bipush 16, 2) := by decide +kernel
theorem dX12_views_132 : decode cX12_views 132 = .ok (.iload_n 2, 1) := by decide +kernel
theorem dX12_views_133 : decode cX12_views 133 = .ok (.iadd, 1) := by decide +kernel
theorem dX12_views_134 : decode cX12_views 134 = .ok (.iaload, 1) := by decide +kernel
theorem dX12_views_135 : decode cX12_views 135 = .ok (.iastore, 1) := by decide +kernel
theorem dX12_views_136 : decode cX12_views 136 = .ok (.aload_n 0, 1) := by decide +kernel
theorem dX12_views_137 : decode cX12_views 137 = .ok (.getfield 38, 3) := by decide +kernel
theorem dX12_views_140 : decode cX12_views 140 = .ok (.iload_n 2, 1) := by decide +kernel
theorem dX12_views_141 : decode cX12_views 141 = .ok (.aload_n 0, 1) := by decide +kernel
theorem dX12_views_142 : decode cX12_views 142 = .ok (.getfield 38, 3) := by decide +kernel
theorem dX12_views_145 : decode cX12_views 145 = .ok (.bipush 16, 2) := by decide +kernel
theorem dX12_views_147 : decode cX12_views 147 = .ok (.iload_n 2, 1) := by decide +kernel
theorem dX12_views_148 : decode cX12_views 148 = .ok (.iadd, 1) := by decide +kernel
theorem dX12_views_149 : decode cX12_views 149 = .ok (.iaload, 1) := by decide +kernel
theorem dX12_views_150 : decode cX12_views 150 = .ok (.iastore, 1) := by decide +kernel
theorem dX12_views_151 : decode cX12_views 151 = .ok (.aload_n 0, 1) := by decide +kernel
theorem dX12_views_152 : decode cX12_views 152 = .ok (.getfield 41, 3) := by decide +kernel
theorem dX12_views_155 : decode cX12_views 155 = .ok (.iload_n 2, 1) := by decide +kernel
theorem dX12_views_156 : decode cX12_views 156 = .ok (.aload_n 0, 1) := by decide +kernel
theorem dX12_views_157 : decode cX12_views 157 = .ok (.getfield 41, 3) := by decide +kernel
theorem dX12_views_160 : decode cX12_views 160 = .ok (.bipush 16, 2) := by decide +kernel
theorem dX12_views_162 : decode cX12_views 162 = .ok (.iload_n 2, 1) := by decide +kernel
theorem dX12_views_163 : decode cX12_views 163 = .ok (.iadd, 1) := by decide +kernel
theorem dX12_views_164 : decode cX12_views 164 = .ok (.iaload, 1) := by decide +kernel
theorem dX12_views_165 : decode cX12_views 165 = .ok (.iastore, 1) := by decide +kernel
theorem dX12_views_166 : decode cX12_views 166 = .ok (.aload_n 0, 1) := by decide +kernel
theorem dX12_views_167 : decode cX12_views 167 = .ok (.getfield 44, 3) := by decide +kernel
theorem dX12_views_170 : decode cX12_views 170 = .ok (.iload_n 2, 1) := by decide +kernel
theorem dX12_views_171 : decode cX12_views 171 = .ok (.aload_n 0, 1) := by decide +kernel
theorem dX12_views_172 : decode cX12_views 172 = .ok (.getfield 44, 3) := by decide +kernel
theorem dX12_views_175 : decode cX12_views 175 = .ok (.bipush 16, 2) := by decide +kernel
theorem dX12_views_177 : decode cX12_views 177 = .ok (.iload_n 2, 1) := by decide +kernel
theorem dX12_views_178 : decode cX12_views 178 = .ok (.iadd, 1) := by decide +kernel
theorem dX12_views_179 : decode cX12_views 179 = .ok (.iaload, 1) := by decide +kernel
theorem dX12_views_180 : decode cX12_views 180 = .ok (.iastore, 1) := by decide +kernel
theorem dX12_views_181 : decode cX12_views 181 = .ok (.aload_n 0, 1) := by decide +kernel
theorem dX12_views_182 : decode cX12_views 182 = .ok (.getfield 47, 3) := by decide +kernel
theorem dX12_views_185 : decode cX12_views 185 = .ok (.iload_n 2, 1) := by decide +kernel
theorem dX12_views_186 : decode cX12_views 186 = .ok (.aload_n 0, 1) := by decide +kernel
theorem dX12_views_187 : decode cX12_views 187 = .ok (.getfield 47, 3) := by decide +kernel
theorem dX12_views_190 : decode cX12_views 190 = .ok (.bipush 16, 2) := by decide +kernel
theorem dX12_views_192 : decode cX12_views 192 = .ok (.iload_n 2, 1) := by decide +kernel
theorem dX12_views_193 : decode cX12_views 193 = .ok (.iadd, 1) := by decide +kernel
theorem dX12_views_194 : decode cX12_views 194 = .ok (.iaload, 1) := by decide +kernel
theorem dX12_views_195 : decode cX12_views 195 = .ok (.iastore, 1) := by decide +kernel
theorem dX12_views_196 : decode cX12_views 196 = .ok (.iconst 0, 1) := by decide +kernel
theorem dX12_views_197 : decode cX12_views 197 = .ok (.istore_n 3, 1) := by decide +kernel
theorem dX12_views_198 : decode cX12_views 198 = .ok (.iload_n 3, 1) := by decide +kernel
theorem dX12_views_199 : decode cX12_views 199 = .ok (.bipush 8, 2) := by decide +kernel
theorem dX12_views_201 : decode cX12_views 201 = .ok (.if_icmp .ge 74, 3) := by decide +kernel
theorem dX12_views_204 : decode cX12_views 204 = .ok (.bipush 8, 2) := by decide +kernel
theorem dX12_views_206 : decode cX12_views 206 = .ok (.bipush 16, 2) := by decide +kernel
theorem dX12_views_208 : decode cX12_views 208 = .ok (.iload_n 2, 1) := by decide +kernel
theorem dX12_views_209 : decode cX12_views 209 = .ok (.iadd, 1) := by decide +kernel
theorem dX12_views_210 : decode cX12_views 210 = .ok (.imul, 1) := by decide +kernel
theorem dX12_views_211 : decode cX12_views 211 = .ok (.iload_n 3, 1) := by decide +kernel
theorem dX12_views_212 : decode cX12_views 212 = .ok (.iadd, 1) := by decide +kernel
theorem dX12_views_213 : decode cX12_views 213 = .ok (.istore 4, 2) := by decide +kernel
theorem dX12_views_215 : decode cX12_views 215 = .ok (.aload_n 0, 1) := by decide +kernel
theorem dX12_views_216 : decode cX12_views 216 = .ok (.getfield 50, 3) := by decide +kernel
theorem dX12_views_219 : decode cX12_views 219 = .ok (.bipush 8, 2) := by decide +kernel
theorem dX12_views_221 : decode cX12_views 221 = .ok (.iload_n 2, 1) := by decide +kernel
theorem dX12_views_222 : decode cX12_views 222 = .ok (.imul, 1) := by decide +kernel
theorem dX12_views_223 : decode cX12_views 223 = .ok (.iload_n 3, 1) := by decide +kernel
theorem dX12_views_224 : decode cX12_views 224 = .ok (.iadd, 1) := by decide +kernel
theorem dX12_views_225 : decode cX12_views 225 = .ok (.aload_n 0, 1) := by decide +kernel
theorem dX12_views_226 : decode cX12_views 226 = .ok (.getfield 50, 3) := by decide +kernel
theorem dX12_views_229 : decode cX12_views 229 = .ok (.iload 4, 2) := by decide +kernel
theorem dX12_views_231 : decode cX12_views 231 = .ok (.laload, 1) := by decide +kernel
theorem dX12_views_232 : decode cX12_views 232 = .ok (.lastore, 1) := by decide +kernel
theorem dX12_views_233 : decode cX12_views 233 = .ok (.aload_n 0, 1) := by decide +kernel
theorem dX12_views_234 : decode cX12_views 234 = .ok (.getfield 53, 3) := by decide +kernel
theorem dX12_views_237 : decode cX12_views 237 = .ok (.bipush 8, 2) := by decide +kernel
theorem dX12_views_239 : decode cX12_views 239 = .ok (.iload_n 2, 1) := by decide +kernel
theorem dX12_views_240 : decode cX12_views 240 = .ok (.imul, 1) := by decide +kernel
theorem dX12_views_241 : decode cX12_views 241 = .ok (.iload_n 3, 1) := by decide +kernel
theorem dX12_views_242 : decode cX12_views 242 = .ok (.iadd, 1) := by decide +kernel
theorem dX12_views_243 : decode cX12_views 243 = .ok (.aload_n 0, 1) := by decide +kernel
theorem dX12_views_244 : decode cX12_views 244 = .ok (.getfield 53, 3) := by decide +kernel
theorem dX12_views_247 : decode cX12_views 247 = .ok (.iload 4, 2) := by decide +kernel
theorem dX12_views_249 : decode cX12_views 249 = .ok (.iaload, 1) := by decide +kernel
theorem dX12_views_250 : decode cX12_views 250 = .ok (.iastore, 1) := by decide +kernel
theorem dX12_views_251 : decode cX12_views 251 = .ok (.aload_n 0, 1) := by decide +kernel
theorem dX12_views_252 : decode cX12_views 252 = .ok (.getfield 56, 3) := by decide +kernel
theorem dX12_views_255 : decode cX12_views 255 = .ok (.bipush 8, 2) := by decide +kernel
theorem dX12_views_257 : decode cX12_views 257 = .ok (.iload_n 2, 1) := by decide +kernel
theorem dX12_views_258 : decode cX12_views 258 = .ok (.imul, 1) := by decide +kernel
theorem dX12_views_259 : decode cX12_views 259 = .ok (.iload_n 3, 1) := by decide +kernel
theorem dX12_views_260 : decode cX12_views 260 = .ok (.iadd, 1) := by decide +kernel
theorem dX12_views_261 : decode cX12_views 261 = .ok (.aload_n 0, 1) := by decide +kernel
theorem dX12_views_262 : decode cX12_views 262 = .ok (.getfield 56, 3) := by decide +kernel
theorem dX12_views_265 : decode cX12_views 265 = .ok (.iload 4, 2) := by decide +kernel
theorem dX12_views_267 : decode cX12_views 267 = .ok (.iaload, 1) := by decide +kernel
theorem dX12_views_268 : decode cX12_views 268 = .ok (.iastore, 1) := by decide +kernel
theorem dX12_views_269 : decode cX12_views 269 = .ok (.iinc 3 1, 3) := by decide +kernel
theorem dX12_views_272 : decode cX12_views 272 = .ok (.goto (-74), 3) := by decide +kernel
theorem dX12_views_275 : decode cX12_views 275 = .ok (.iinc 2 1, 3) := by decide +kernel
theorem dX12_views_278 : decode cX12_views 278 = .ok (.goto (-210), 3) := by decide +kernel
theorem dX12_views_281 : decode cX12_views 281 = .ok (.aload_n 0, 1) := by decide +kernel
theorem dX12_views_282 : decode cX12_views 282 = .ok (.getfield 109, 3) := by decide +kernel
theorem dX12_views_285 : decode cX12_views 285 = .ok (.ireturn, 1) := by decide +kernel
def F_X12_views_198 (k68 : Int32 → ae_S → Option (Int32 × ae_S)) : Nat → Int32 → Int32 → ae_S → Option (Int32 × ae_S)
  | 0, _, _, _ => none
  | n + 1, v2, v3, s0 => if (8 : Int32) ≤ v3 then (ae_lt (v2 + (1 : Int32)) (fun x3 => k68 x3 s0)) else (ae_lt (((8 : Int32) * ((16 : Int32) + v2)) + v3) (fun x5 => ae_gd (ae_ib x5 256) (ae_gd (ae_ib (((8 : Int32) * v2) + v3) 256) (ae_lt (ae_wL s0 43 0 (((8 : Int32) * v2) + v3).toNatClampNeg (s0.2.1 43 0 x5.toNatClampNeg)) (fun s11 => ae_gd (ae_ib x5 256) (ae_gd (ae_ib (((8 : Int32) * v2) + v3) 256) (ae_lt (ae_wI s11 44 0 (((8 : Int32) * v2) + v3).toNatClampNeg (s11.1 44 0 x5.toNatClampNeg)) (fun s17 => ae_gd (ae_ib x5 256) (ae_gd (ae_ib (((8 : Int32) * v2) + v3) 256) (ae_lt (ae_wI s17 45 0 (((8 : Int32) * v2) + v3).toNatClampNeg (s17.1 45 0 x5.toNatClampNeg)) (fun s23 => ae_lt (v3 + (1 : Int32)) (fun x25 => F_X12_views_198 k68 n v2 x25 s23))))))))))))
set_option maxHeartbeats 4000000 in
set_option maxRecDepth 100000 in
theorem t_X12_views_198 {l : Launch} {G : ae_G} (d : Nat) (k68 : Int32 → ae_S → Option (Int32 × ae_S)) {rr : Int32} {ss : ae_S} (hk68 : ∀ (v2 : Int32) (s0 : ae_S), k68 v2 s0 = some (rr, ss) → ae_T l G (d + 12) mX12_views (ae_Po (some (ae_i rr)) ss) 68 [(0, ae_r (some (30, 0))), (2, ae_i v2)] [] s0) : ∀ (n : Nat) (v2 : Int32) (v3 : Int32) (s0 : ae_S), F_X12_views_198 k68 n v2 v3 s0 = some (rr, ss) → ae_T l G (d + 12) mX12_views (ae_Po (some (ae_i rr)) ss) 198 [(0, ae_r (some (30, 0))), (2, ae_i v2), (3, ae_i v3)] [] s0 := by
  intro n
  induction n with
  | zero =>
    intro v2 v3 s0 hF
    exact absurd (show (none : Option (Int32 × ae_S)) = some (rr, ss) from hF) (by simp)
  | succ n ih =>
    intro v2 v3 s0 hF
    unfold F_X12_views_198 at hF
    refine ae_iload_n 2 dX12_views_198 rfl ?_
    refine ae_bipush (8 : Int32) dX12_views_199 (by decide) ?_
    refine ae_icmp_ge 275 dX12_views_201 rfl (fun hb1 => ?_) (fun hb1 => ?_)
    · have hF2 := ae_ifT hb1 hF
      obtain ⟨x3, hx3, hF4⟩ := ae_ltI hF2
      refine ae_iinc (lv' := [(2, ae_i x3), (0, ae_r (some (30, 0))), (3, ae_i v3)]) 1 (1 : Int32) dX12_views_275 rfl (by decide) (by decide) (by rw [hx3]; rfl) ?_
      refine ae_goto 68 dX12_views_278 rfl ?_
      refine ae_pick (lv' := [(0, ae_r (some (30, 0))), (2, ae_i x3)]) [1, 0] rfl ?_
      exact hk68 x3 s0 hF4
    · have hF2 := ae_ifF hb1 hF
      refine ae_bipush (8 : Int32) dX12_views_204 (by decide) ?_
      refine ae_bipush (16 : Int32) dX12_views_206 (by decide) ?_
      refine ae_iload_n 1 dX12_views_208 rfl ?_
      refine ae_iadd dX12_views_209 ?_
      refine ae_imul dX12_views_210 ?_
      refine ae_iload_n 2 dX12_views_211 rfl ?_
      refine ae_iadd dX12_views_212 ?_
      obtain ⟨x5, hx5, hF6⟩ := ae_ltI hF2
      refine ae_nmI hx5 ?_
      refine ae_istore (lv' := [(4, ae_i x5), (0, ae_r (some (30, 0))), (2, ae_i v2), (3, ae_i v3)]) dX12_views_213 (by decide) rfl ?_
      refine ae_aload_n 1 dX12_views_215 rfl ?_
      refine ae_getA (q := (30, 0)) (some (43, 0)) dX12_views_216 fl_RX12_50 rfl rfl rfl ?_
      refine ae_bipush (8 : Int32) dX12_views_219 (by decide) ?_
      refine ae_iload_n 2 dX12_views_221 rfl ?_
      refine ae_imul dX12_views_222 ?_
      refine ae_iload_n 3 dX12_views_223 rfl ?_
      refine ae_iadd dX12_views_224 ?_
      refine ae_aload_n 1 dX12_views_225 rfl ?_
      refine ae_getA (q := (30, 0)) (some (43, 0)) dX12_views_226 fl_RX12_50 rfl rfl rfl ?_
      refine ae_iload 0 dX12_views_229 rfl ?_
      obtain ⟨hg7, hF8⟩ := ae_gdI hF6
      refine ae_lald (q := (43, 0)) dX12_views_231 rfl rfl (ae_ibI hg7) ?_
      obtain ⟨hg9, hF10⟩ := ae_gdI hF8
      obtain ⟨s11, hs11, hF12⟩ := ae_ltI hF10
      refine ae_last (q := (43, 0)) dX12_views_232 rfl rfl (ae_ibI hg9) (ae_nmS hs11 ?_)
      refine ae_aload_n 1 dX12_views_233 rfl ?_
      refine ae_getA (q := (30, 0)) (some (44, 0)) dX12_views_234 fl_RX12_53 rfl rfl rfl ?_
      refine ae_bipush (8 : Int32) dX12_views_237 (by decide) ?_
      refine ae_iload_n 2 dX12_views_239 rfl ?_
      refine ae_imul dX12_views_240 ?_
      refine ae_iload_n 3 dX12_views_241 rfl ?_
      refine ae_iadd dX12_views_242 ?_
      refine ae_aload_n 1 dX12_views_243 rfl ?_
      refine ae_getA (q := (30, 0)) (some (44, 0)) dX12_views_244 fl_RX12_53 rfl rfl rfl ?_
      refine ae_iload 0 dX12_views_247 rfl ?_
      obtain ⟨hg13, hF14⟩ := ae_gdI hF12
      refine ae_iald (q := (44, 0)) dX12_views_249 rfl rfl (ae_ibI hg13) ?_
      obtain ⟨hg15, hF16⟩ := ae_gdI hF14
      obtain ⟨s17, hs17, hF18⟩ := ae_ltI hF16
      refine ae_iast (q := (44, 0)) dX12_views_250 rfl rfl (ae_ibI hg15) (ae_nmS hs17 ?_)
      refine ae_aload_n 1 dX12_views_251 rfl ?_
      refine ae_getA (q := (30, 0)) (some (45, 0)) dX12_views_252 fl_RX12_56 rfl rfl rfl ?_
      refine ae_bipush (8 : Int32) dX12_views_255 (by decide) ?_
      refine ae_iload_n 2 dX12_views_257 rfl ?_
      refine ae_imul dX12_views_258 ?_
      refine ae_iload_n 3 dX12_views_259 rfl ?_
      refine ae_iadd dX12_views_260 ?_
      refine ae_aload_n 1 dX12_views_261 rfl ?_
      refine ae_getA (q := (30, 0)) (some (45, 0)) dX12_views_262 fl_RX12_56 rfl rfl rfl ?_
      refine ae_iload 0 dX12_views_265 rfl ?_
      obtain ⟨hg19, hF20⟩ := ae_gdI hF18
      refine ae_iald (q := (45, 0)) dX12_views_267 rfl rfl (ae_ibI hg19) ?_
      obtain ⟨hg21, hF22⟩ := ae_gdI hF20
      obtain ⟨s23, hs23, hF24⟩ := ae_ltI hF22
      refine ae_iast (q := (45, 0)) dX12_views_268 rfl rfl (ae_ibI hg21) (ae_nmS hs23 ?_)
      obtain ⟨x25, hx25, hF26⟩ := ae_ltI hF24
      refine ae_iinc (lv' := [(3, ae_i x25), (4, ae_i x5), (0, ae_r (some (30, 0))), (2, ae_i v2)]) 3 (1 : Int32) dX12_views_269 rfl (by decide) (by decide) (by rw [hx25]; rfl) ?_
      refine ae_goto 198 dX12_views_272 rfl ?_
      refine ae_pick (lv' := [(0, ae_r (some (30, 0))), (2, ae_i v2), (3, ae_i x25)]) [2, 3, 0] rfl ?_
      exact ih v2 x25 s23 hF26
def F_X12_views_68 : Nat → Int32 → ae_S → Option (Int32 × ae_S)
  | 0, _, _ => none
  | n + 1, v2, s0 => if (s0.1 30 0 17) ≤ v2 then (some (s0.1 30 0 17, s0)) else (ae_gd (ae_ib ((16 : Int32) + v2) 32) (ae_gd (ae_ib v2 32) (ae_lt (ae_wL s0 35 0 v2.toNatClampNeg (s0.2.1 35 0 ((16 : Int32) + v2).toNatClampNeg)) (fun s33 => ae_gd (ae_ib ((16 : Int32) + v2) 32) (ae_gd (ae_ib v2 32) (ae_lt (ae_wI s33 36 0 v2.toNatClampNeg (s33.1 36 0 ((16 : Int32) + v2).toNatClampNeg)) (fun s39 => ae_gd (ae_ib ((16 : Int32) + v2) 32) (ae_gd (ae_ib v2 32) (ae_lt (ae_wI s39 37 0 v2.toNatClampNeg (s39.1 37 0 ((16 : Int32) + v2).toNatClampNeg)) (fun s45 => ae_gd (ae_ib ((16 : Int32) + v2) 32) (ae_gd (ae_ib v2 32) (ae_lt (ae_wI s45 38 0 v2.toNatClampNeg (s45.1 38 0 ((16 : Int32) + v2).toNatClampNeg)) (fun s51 => ae_gd (ae_ib ((16 : Int32) + v2) 32) (ae_gd (ae_ib v2 32) (ae_lt (ae_wI s51 39 0 v2.toNatClampNeg (s51.1 39 0 ((16 : Int32) + v2).toNatClampNeg)) (fun s57 => ae_gd (ae_ib ((16 : Int32) + v2) 32) (ae_gd (ae_ib v2 32) (ae_lt (ae_wI s57 40 0 v2.toNatClampNeg (s57.1 40 0 ((16 : Int32) + v2).toNatClampNeg)) (fun s63 => ae_gd (ae_ib ((16 : Int32) + v2) 32) (ae_gd (ae_ib v2 32) (ae_lt (ae_wI s63 41 0 v2.toNatClampNeg (s63.1 41 0 ((16 : Int32) + v2).toNatClampNeg)) (fun s69 => ae_gd (ae_ib ((16 : Int32) + v2) 32) (ae_gd (ae_ib v2 32) (ae_lt (ae_wI s69 42 0 v2.toNatClampNeg (s69.1 42 0 ((16 : Int32) + v2).toNatClampNeg)) (fun s75 => F_X12_views_198 (F_X12_views_68 n) ae_fu v2 (0 : Int32) s75)))))))))))))))))))))))))
set_option maxHeartbeats 4000000 in
set_option maxRecDepth 100000 in
theorem t_X12_views_68 {l : Launch} {G : ae_G} (d : Nat) {rr : Int32} {ss : ae_S} : ∀ (n : Nat) (v2 : Int32) (s0 : ae_S), F_X12_views_68 n v2 s0 = some (rr, ss) → ae_T l G (d + 12) mX12_views (ae_Po (some (ae_i rr)) ss) 68 [(0, ae_r (some (30, 0))), (2, ae_i v2)] [] s0 := by
  intro n
  induction n with
  | zero =>
    intro v2 s0 hF
    exact absurd (show (none : Option (Int32 × ae_S)) = some (rr, ss) from hF) (by simp)
  | succ n ih =>
    intro v2 s0 hF
    unfold F_X12_views_68 at hF
    refine ae_iload_n 1 dX12_views_68 rfl ?_
    refine ae_aload_n 0 dX12_views_69 rfl ?_
    refine ae_getI (q := (30, 0)) dX12_views_70 fl_RX12_109 rfl rfl ?_
    refine ae_icmp_ge 281 dX12_views_73 rfl (fun hb27 => ?_) (fun hb27 => ?_)
    · have hF28 := ae_ifT hb27 hF
      refine ae_aload_n 0 dX12_views_281 rfl ?_
      refine ae_getI (q := (30, 0)) dX12_views_282 fl_RX12_109 rfl rfl ?_
      obtain ⟨rfl, rfl⟩ := ae_retI hF28
      exact ae_iret dX12_views_285 rfl rfl ⟨rfl, rfl⟩
    · have hF28 := ae_ifF hb27 hF
      refine ae_aload_n 0 dX12_views_76 rfl ?_
      refine ae_getA (q := (30, 0)) (some (35, 0)) dX12_views_77 fl_RX12_25 rfl rfl rfl ?_
      refine ae_iload_n 1 dX12_views_80 rfl ?_
      refine ae_aload_n 0 dX12_views_81 rfl ?_
      refine ae_getA (q := (30, 0)) (some (35, 0)) dX12_views_82 fl_RX12_25 rfl rfl rfl ?_
      refine ae_bipush (16 : Int32) dX12_views_85 (by decide) ?_
      refine ae_iload_n 1 dX12_views_87 rfl ?_
      refine ae_iadd dX12_views_88 ?_
      obtain ⟨hg29, hF30⟩ := ae_gdI hF28
      refine ae_lald (q := (35, 0)) dX12_views_89 rfl rfl (ae_ibI hg29) ?_
      obtain ⟨hg31, hF32⟩ := ae_gdI hF30
      obtain ⟨s33, hs33, hF34⟩ := ae_ltI hF32
      refine ae_last (q := (35, 0)) dX12_views_90 rfl rfl (ae_ibI hg31) (ae_nmS hs33 ?_)
      refine ae_aload_n 0 dX12_views_91 rfl ?_
      refine ae_getA (q := (30, 0)) (some (36, 0)) dX12_views_92 fl_RX12_29 rfl rfl rfl ?_
      refine ae_iload_n 1 dX12_views_95 rfl ?_
      refine ae_aload_n 0 dX12_views_96 rfl ?_
      refine ae_getA (q := (30, 0)) (some (36, 0)) dX12_views_97 fl_RX12_29 rfl rfl rfl ?_
      refine ae_bipush (16 : Int32) dX12_views_100 (by decide) ?_
      refine ae_iload_n 1 dX12_views_102 rfl ?_
      refine ae_iadd dX12_views_103 ?_
      obtain ⟨hg35, hF36⟩ := ae_gdI hF34
      refine ae_iald (q := (36, 0)) dX12_views_104 rfl rfl (ae_ibI hg35) ?_
      obtain ⟨hg37, hF38⟩ := ae_gdI hF36
      obtain ⟨s39, hs39, hF40⟩ := ae_ltI hF38
      refine ae_iast (q := (36, 0)) dX12_views_105 rfl rfl (ae_ibI hg37) (ae_nmS hs39 ?_)
      refine ae_aload_n 0 dX12_views_106 rfl ?_
      refine ae_getA (q := (30, 0)) (some (37, 0)) dX12_views_107 fl_RX12_32 rfl rfl rfl ?_
      refine ae_iload_n 1 dX12_views_110 rfl ?_
      refine ae_aload_n 0 dX12_views_111 rfl ?_
      refine ae_getA (q := (30, 0)) (some (37, 0)) dX12_views_112 fl_RX12_32 rfl rfl rfl ?_
      refine ae_bipush (16 : Int32) dX12_views_115 (by decide) ?_
      refine ae_iload_n 1 dX12_views_117 rfl ?_
      refine ae_iadd dX12_views_118 ?_
      obtain ⟨hg41, hF42⟩ := ae_gdI hF40
      refine ae_iald (q := (37, 0)) dX12_views_119 rfl rfl (ae_ibI hg41) ?_
      obtain ⟨hg43, hF44⟩ := ae_gdI hF42
      obtain ⟨s45, hs45, hF46⟩ := ae_ltI hF44
      refine ae_iast (q := (37, 0)) dX12_views_120 rfl rfl (ae_ibI hg43) (ae_nmS hs45 ?_)
      refine ae_aload_n 0 dX12_views_121 rfl ?_
      refine ae_getA (q := (30, 0)) (some (38, 0)) dX12_views_122 fl_RX12_35 rfl rfl rfl ?_
      refine ae_iload_n 1 dX12_views_125 rfl ?_
      refine ae_aload_n 0 dX12_views_126 rfl ?_
      refine ae_getA (q := (30, 0)) (some (38, 0)) dX12_views_127 fl_RX12_35 rfl rfl rfl ?_
      refine ae_bipush (16 : Int32) dX12_views_130 (by decide) ?_
      refine ae_iload_n 1 dX12_views_132 rfl ?_
      refine ae_iadd dX12_views_133 ?_
      obtain ⟨hg47, hF48⟩ := ae_gdI hF46
      refine ae_iald (q := (38, 0)) dX12_views_134 rfl rfl (ae_ibI hg47) ?_
      obtain ⟨hg49, hF50⟩ := ae_gdI hF48
      obtain ⟨s51, hs51, hF52⟩ := ae_ltI hF50
      refine ae_iast (q := (38, 0)) dX12_views_135 rfl rfl (ae_ibI hg49) (ae_nmS hs51 ?_)
      refine ae_aload_n 0 dX12_views_136 rfl ?_
      refine ae_getA (q := (30, 0)) (some (39, 0)) dX12_views_137 fl_RX12_38 rfl rfl rfl ?_
      refine ae_iload_n 1 dX12_views_140 rfl ?_
      refine ae_aload_n 0 dX12_views_141 rfl ?_
      refine ae_getA (q := (30, 0)) (some (39, 0)) dX12_views_142 fl_RX12_38 rfl rfl rfl ?_
      refine ae_bipush (16 : Int32) dX12_views_145 (by decide) ?_
      refine ae_iload_n 1 dX12_views_147 rfl ?_
      refine ae_iadd dX12_views_148 ?_
      obtain ⟨hg53, hF54⟩ := ae_gdI hF52
      refine ae_iald (q := (39, 0)) dX12_views_149 rfl rfl (ae_ibI hg53) ?_
      obtain ⟨hg55, hF56⟩ := ae_gdI hF54
      obtain ⟨s57, hs57, hF58⟩ := ae_ltI hF56
      refine ae_iast (q := (39, 0)) dX12_views_150 rfl rfl (ae_ibI hg55) (ae_nmS hs57 ?_)
      refine ae_aload_n 0 dX12_views_151 rfl ?_
      refine ae_getA (q := (30, 0)) (some (40, 0)) dX12_views_152 fl_RX12_41 rfl rfl rfl ?_
      refine ae_iload_n 1 dX12_views_155 rfl ?_
      refine ae_aload_n 0 dX12_views_156 rfl ?_
      refine ae_getA (q := (30, 0)) (some (40, 0)) dX12_views_157 fl_RX12_41 rfl rfl rfl ?_
      refine ae_bipush (16 : Int32) dX12_views_160 (by decide) ?_
      refine ae_iload_n 1 dX12_views_162 rfl ?_
      refine ae_iadd dX12_views_163 ?_
      obtain ⟨hg59, hF60⟩ := ae_gdI hF58
      refine ae_iald (q := (40, 0)) dX12_views_164 rfl rfl (ae_ibI hg59) ?_
      obtain ⟨hg61, hF62⟩ := ae_gdI hF60
      obtain ⟨s63, hs63, hF64⟩ := ae_ltI hF62
      refine ae_iast (q := (40, 0)) dX12_views_165 rfl rfl (ae_ibI hg61) (ae_nmS hs63 ?_)
      refine ae_aload_n 0 dX12_views_166 rfl ?_
      refine ae_getA (q := (30, 0)) (some (41, 0)) dX12_views_167 fl_RX12_44 rfl rfl rfl ?_
      refine ae_iload_n 1 dX12_views_170 rfl ?_
      refine ae_aload_n 0 dX12_views_171 rfl ?_
      refine ae_getA (q := (30, 0)) (some (41, 0)) dX12_views_172 fl_RX12_44 rfl rfl rfl ?_
      refine ae_bipush (16 : Int32) dX12_views_175 (by decide) ?_
      refine ae_iload_n 1 dX12_views_177 rfl ?_
      refine ae_iadd dX12_views_178 ?_
      obtain ⟨hg65, hF66⟩ := ae_gdI hF64
      refine ae_iald (q := (41, 0)) dX12_views_179 rfl rfl (ae_ibI hg65) ?_
      obtain ⟨hg67, hF68⟩ := ae_gdI hF66
      obtain ⟨s69, hs69, hF70⟩ := ae_ltI hF68
      refine ae_iast (q := (41, 0)) dX12_views_180 rfl rfl (ae_ibI hg67) (ae_nmS hs69 ?_)
      refine ae_aload_n 0 dX12_views_181 rfl ?_
      refine ae_getA (q := (30, 0)) (some (42, 0)) dX12_views_182 fl_RX12_47 rfl rfl rfl ?_
      refine ae_iload_n 1 dX12_views_185 rfl ?_
      refine ae_aload_n 0 dX12_views_186 rfl ?_
      refine ae_getA (q := (30, 0)) (some (42, 0)) dX12_views_187 fl_RX12_47 rfl rfl rfl ?_
      refine ae_bipush (16 : Int32) dX12_views_190 (by decide) ?_
      refine ae_iload_n 1 dX12_views_192 rfl ?_
      refine ae_iadd dX12_views_193 ?_
      obtain ⟨hg71, hF72⟩ := ae_gdI hF70
      refine ae_iald (q := (42, 0)) dX12_views_194 rfl rfl (ae_ibI hg71) ?_
      obtain ⟨hg73, hF74⟩ := ae_gdI hF72
      obtain ⟨s75, hs75, hF76⟩ := ae_ltI hF74
      refine ae_iast (q := (42, 0)) dX12_views_195 rfl rfl (ae_ibI hg73) (ae_nmS hs75 ?_)
      refine ae_iconst (0 : Int32) dX12_views_196 (by decide) ?_
      refine ae_istore_n (lv' := [(3, ae_i (0 : Int32)), (0, ae_r (some (30, 0))), (2, ae_i v2)]) dX12_views_197 (by decide) rfl ?_
      refine ae_pick (lv' := [(0, ae_r (some (30, 0))), (2, ae_i v2), (3, ae_i (0 : Int32))]) [1, 2, 0] rfl ?_
      exact t_X12_views_198 d (F_X12_views_68 n) ih ae_fu v2 (0 : Int32) s75 hF76
def F_X12_views_45 (k22 : Int32 → ae_S → Option (Int32 × ae_S)) (t0 : Int32) (s0 : ae_S) : Option (Int32 × ae_S) := k22 t0 s0
set_option maxHeartbeats 4000000 in
set_option maxRecDepth 100000 in
theorem t_X12_views_45 {l : Launch} {G : ae_G} (d : Nat) (k22 : Int32 → ae_S → Option (Int32 × ae_S)) {rr : Int32} {ss : ae_S} (hk22 : ∀ (v1 : Int32) (s0 : ae_S), k22 v1 s0 = some (rr, ss) → ae_T l G (d + 12) mX12_views (ae_Po (some (ae_i rr)) ss) 22 [(0, ae_r (some (30, 0))), (1, ae_i v1)] [] s0) (t0 : Int32) (s0 : ae_S) (hF : F_X12_views_45 k22 t0 s0 = some (rr, ss)) : ae_T l G (d + 12) mX12_views (ae_Po (some (ae_i rr)) ss) 45 [(0, ae_r (some (30, 0)))] [ae_i t0] s0 := by
  unfold F_X12_views_45 at hF
  refine ae_istore_n (lv' := [(1, ae_i t0), (0, ae_r (some (30, 0)))]) dX12_views_45 (by decide) rfl ?_
  refine ae_goto 22 dX12_views_46 rfl ?_
  refine ae_pick (lv' := [(0, ae_r (some (30, 0))), (1, ae_i t0)]) [1, 0] rfl ?_
  exact hk22 t0 s0 hF
def F_X12_views_44 (k22 : Int32 → ae_S → Option (Int32 × ae_S)) (s0 : ae_S) : Option (Int32 × ae_S) := F_X12_views_45 k22 (0 : Int32) s0
set_option maxHeartbeats 4000000 in
set_option maxRecDepth 100000 in
theorem t_X12_views_44 {l : Launch} {G : ae_G} (d : Nat) (k22 : Int32 → ae_S → Option (Int32 × ae_S)) {rr : Int32} {ss : ae_S} (hk22 : ∀ (v1 : Int32) (s0 : ae_S), k22 v1 s0 = some (rr, ss) → ae_T l G (d + 12) mX12_views (ae_Po (some (ae_i rr)) ss) 22 [(0, ae_r (some (30, 0))), (1, ae_i v1)] [] s0) (s0 : ae_S) (hF : F_X12_views_44 k22 s0 = some (rr, ss)) : ae_T l G (d + 12) mX12_views (ae_Po (some (ae_i rr)) ss) 44 [(0, ae_r (some (30, 0)))] [] s0 := by
  unfold F_X12_views_44 at hF
  refine ae_iconst (0 : Int32) dX12_views_44 (by decide) ?_
  refine ae_pick (lv' := [(0, ae_r (some (30, 0)))]) [0] rfl ?_
  exact t_X12_views_45 d k22 hk22 (0 : Int32) s0 hF
def F_X12_views_22 : Nat → Int32 → ae_S → Option (Int32 × ae_S)
  | 0, _, _ => none
  | n + 1, v1, s0 => if v1 = 0 then (ae_bd (F_X12_isRead s0) (fun (r79 : Int32) s80 => if r79 = 0 then (some ((-1 : Int32), s80)) else (ae_lt (ae_wI s80 30 0 17 (s80.1 30 0 18)) (fun s85 => F_X12_views_68 ae_fu (0 : Int32) s85)))) else (ae_bd (F_X12_readView s0) (fun (r87 : Int32) s88 => if r87 = 0 then (F_X12_views_44 (F_X12_views_22 n) s88) else (if (s88.1 30 0 25) = 0 then (F_X12_views_44 (F_X12_views_22 n) s88) else (F_X12_views_45 (F_X12_views_22 n) (1 : Int32) s88))))
set_option maxHeartbeats 4000000 in
set_option maxRecDepth 100000 in
theorem t_X12_views_22 {l : Launch} {G : ae_G} (d : Nat) {rr : Int32} {ss : ae_S} : ∀ (n : Nat) (v1 : Int32) (s0 : ae_S), F_X12_views_22 n v1 s0 = some (rr, ss) → ae_T l G (d + 12) mX12_views (ae_Po (some (ae_i rr)) ss) 22 [(0, ae_r (some (30, 0))), (1, ae_i v1)] [] s0 := by
  intro n
  induction n with
  | zero =>
    intro v1 s0 hF
    exact absurd (show (none : Option (Int32 × ae_S)) = some (rr, ss) from hF) (by simp)
  | succ n ih =>
    intro v1 s0 hF
    unfold F_X12_views_22 at hF
    refine ae_iload_n 1 dX12_views_22 rfl ?_
    refine ae_if_eq 49 dX12_views_23 rfl (fun hb77 => ?_) (fun hb77 => ?_)
    · have hF78 := ae_ifT hb77 hF
      refine ae_aload_n 0 dX12_views_49 rfl ?_
      obtain ⟨r79, s80, hc81, hF82⟩ := ae_bdI hF78
      refine ae_cV1 (q := (30, 0)) (As := []) dX12_views_50 ww_1615 vy_X12_isRead rfl rfl rfl rfl rfl (Nat.le_of_ble_eq_true rfl) (c_X12_isRead (d + 11) hc81) ?_
      refine ae_if_ne 58 dX12_views_53 rfl (fun hb83 => ?_) (fun hb83 => ?_)
      · have hF84 := ae_ifF hb83 hF82
        refine ae_aload_n 0 dX12_views_58 rfl ?_
        refine ae_aload_n 0 dX12_views_59 rfl ?_
        refine ae_getI (q := (30, 0)) dX12_views_60 fl_RX12_251 rfl rfl ?_
        obtain ⟨s85, hs85, hF86⟩ := ae_ltI hF84
        refine ae_putI (q := (30, 0)) dX12_views_63 fl_RX12_109 rfl rfl (ae_nmS hs85 ?_)
        refine ae_iconst (0 : Int32) dX12_views_66 (by decide) ?_
        refine ae_istore_n (lv' := [(2, ae_i (0 : Int32)), (0, ae_r (some (30, 0))), (1, ae_i v1)]) dX12_views_67 (by decide) rfl ?_
        refine ae_pick (lv' := [(0, ae_r (some (30, 0))), (2, ae_i (0 : Int32))]) [1, 0] rfl ?_
        exact t_X12_views_68 d ae_fu (0 : Int32) s85 hF86
      · have hF84 := ae_ifT hb83 hF82
        refine ae_iconst (-1 : Int32) dX12_views_56 (by decide) ?_
        obtain ⟨rfl, rfl⟩ := ae_retI hF84
        exact ae_iret dX12_views_57 rfl rfl ⟨rfl, rfl⟩
    · have hF78 := ae_ifF hb77 hF
      refine ae_aload_n 0 dX12_views_26 rfl ?_
      obtain ⟨r87, s88, hc89, hF90⟩ := ae_bdI hF78
      refine ae_cV1 (q := (30, 0)) (As := []) dX12_views_27 ww_1524 vy_X12_readView rfl rfl rfl rfl rfl (Nat.le_of_ble_eq_true rfl) (c_X12_readView d hc89) ?_
      refine ae_if_eq 44 dX12_views_30 rfl (fun hb91 => ?_) (fun hb91 => ?_)
      · have hF92 := ae_ifT hb91 hF90
        refine ae_pick (lv' := [(0, ae_r (some (30, 0)))]) [0] rfl ?_
        exact t_X12_views_44 d (F_X12_views_22 n) ih s88 hF92
      · have hF92 := ae_ifF hb91 hF90
        refine ae_aload_n 0 dX12_views_33 rfl ?_
        refine ae_getI (q := (30, 0)) dX12_views_34 fl_RX12_143 rfl rfl ?_
        refine ae_if_eq 44 dX12_views_37 rfl (fun hb93 => ?_) (fun hb93 => ?_)
        · have hF94 := ae_ifT hb93 hF92
          refine ae_pick (lv' := [(0, ae_r (some (30, 0)))]) [0] rfl ?_
          exact t_X12_views_44 d (F_X12_views_22 n) ih s88 hF94
        · have hF94 := ae_ifF hb93 hF92
          refine ae_iconst (1 : Int32) dX12_views_40 (by decide) ?_
          refine ae_goto 45 dX12_views_41 rfl ?_
          refine ae_pick (lv' := [(0, ae_r (some (30, 0)))]) [0] rfl ?_
          exact t_X12_views_45 d (F_X12_views_22 n) ih (1 : Int32) s88 hF94
def F_X12_views_21 (t0 : Int32) (s0 : ae_S) : Option (Int32 × ae_S) := F_X12_views_22 ae_fu t0 s0
set_option maxHeartbeats 4000000 in
set_option maxRecDepth 100000 in
theorem t_X12_views_21 {l : Launch} {G : ae_G} (d : Nat) {rr : Int32} {ss : ae_S} (t0 : Int32) (s0 : ae_S) (hF : F_X12_views_21 t0 s0 = some (rr, ss)) : ae_T l G (d + 12) mX12_views (ae_Po (some (ae_i rr)) ss) 21 [(0, ae_r (some (30, 0)))] [ae_i t0] s0 := by
  unfold F_X12_views_21 at hF
  refine ae_istore_n (lv' := [(1, ae_i t0), (0, ae_r (some (30, 0)))]) dX12_views_21 (by decide) rfl ?_
  refine ae_pick (lv' := [(0, ae_r (some (30, 0))), (1, ae_i t0)]) [1, 0] rfl ?_
  exact t_X12_views_22 d ae_fu t0 s0 hF
def F_X12_views (s0 : ae_S) : Option (Int32 × ae_S) := ae_lt (ae_wI s0 30 0 18 (0 : Int32)) (fun s95 => ae_bd (F_X12_starts s95) (fun (r97 : Unit) s98 => if (s98.1 30 0 25) = 0 then (F_X12_views_21 (0 : Int32) s98) else (F_X12_views_21 (1 : Int32) s98)))
set_option maxHeartbeats 4000000 in
set_option maxRecDepth 100000 in
theorem c_X12_views {l : Launch} {G : ae_G} (d : Nat) {s0 ss : ae_S} {rr : Int32} (hF : F_X12_views s0 = some (rr, ss)) : ae_Met l G (d + 12) yX12_views mX12_views [ae_r (some (30, 0))] s0 (ae_Po (some (ae_i rr)) ss) := by
  refine ae_enter (by decide) rfl (Nat.le_of_ble_eq_true rfl) ?_
  show ae_T l G (d + 12) mX12_views (ae_Po (some (ae_i rr)) ss) 0 [(0, ae_r (some (30, 0)))] [] s0
  unfold F_X12_views at hF
  refine ae_aload_n 0 dX12_views_0 rfl ?_
  refine ae_iconst (0 : Int32) dX12_views_1 (by decide) ?_
  obtain ⟨s95, hs95, hF96⟩ := ae_ltI hF
  refine ae_putI (q := (30, 0)) dX12_views_2 fl_RX12_251 rfl rfl (ae_nmS hs95 ?_)
  refine ae_aload_n 0 dX12_views_5 rfl ?_
  obtain ⟨r97, s98, hc99, hF100⟩ := ae_bdI hF96
  refine ae_cV0 (q := (30, 0)) (As := []) dX12_views_6 ww_1504 vy_X12_starts rfl rfl rfl rfl rfl (Nat.le_of_ble_eq_true rfl) (c_X12_starts (d + 9) hc99) ?_
  refine ae_aload_n 0 dX12_views_9 rfl ?_
  refine ae_getI (q := (30, 0)) dX12_views_10 fl_RX12_143 rfl rfl ?_
  refine ae_if_eq 20 dX12_views_13 rfl (fun hb101 => ?_) (fun hb101 => ?_)
  · have hF102 := ae_ifT hb101 hF100
    refine ae_iconst (0 : Int32) dX12_views_20 (by decide) ?_
    refine ae_pick (lv' := [(0, ae_r (some (30, 0)))]) [0] rfl ?_
    exact t_X12_views_21 d (0 : Int32) s98 hF102
  · have hF102 := ae_ifF hb101 hF100
    refine ae_iconst (1 : Int32) dX12_views_16 (by decide) ?_
    refine ae_goto 21 dX12_views_17 rfl ?_
    refine ae_pick (lv' := [(0, ae_r (some (30, 0)))]) [0] rfl ?_
    exact t_X12_views_21 d (1 : Int32) s98 hF102
