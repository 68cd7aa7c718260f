/-! String.length, String.charAt on the constants -/
abbrev mJ0_coder_7d493 : ae_M := (RJ0, cJ0_coder_7d493, 1, some .byte)
theorem vy_J0_coder_7d493 : ae_VY yJ0_coder_7d493 mJ0_coder_7d493 0 := ⟨ww_412, ww_413, ww_14, ww_414, ⟨by decide, by decide, by decide +kernel⟩, by decide⟩
theorem dJ0_coder_7d493_0 : decode cJ0_coder_7d493 0 = .ok (.getstatic 38, 3) := by decide +kernel
theorem dJ0_coder_7d493_3 : decode cJ0_coder_7d493 3 = .ok (.ifCond .eq 10, 3) := by decide +kernel
theorem dJ0_coder_7d493_6 : decode cJ0_coder_7d493 6 = .ok (.aload_n 0, 1) := by decide +kernel
theorem dJ0_coder_7d493_7 : decode cJ0_coder_7d493 7 = .ok (.getfield 15, 3) := by decide +kernel
theorem dJ0_coder_7d493_10 : decode cJ0_coder_7d493 10 = .ok (.goto 4, 3) := by decide +kernel
theorem dJ0_coder_7d493_13 : decode cJ0_coder_7d493 13 = .ok (.iconst 1, 1) := by decide +kernel
theorem dJ0_coder_7d493_14 : decode cJ0_coder_7d493 14 = .ok (.ireturn, 1) := by decide +kernel
abbrev mJ0_isLatin1_aae02 : ae_M := (RJ0, cJ0_isLatin1_aae02, 1, some .boolean)
theorem vy_J0_isLatin1_aae02 : ae_VY yJ0_isLatin1_aae02 mJ0_isLatin1_aae02 0 := ⟨ww_422, ww_423, ww_14, ww_424, ⟨by decide, by decide, by decide +kernel⟩, by decide⟩
theorem dJ0_isLatin1_aae02_0 : decode cJ0_isLatin1_aae02 0 = .ok (.getstatic 38, 3) := by decide +kernel
theorem dJ0_isLatin1_aae02_3 : decode cJ0_isLatin1_aae02 3 = .ok (.ifCond .eq 14, 3) := by decide +kernel
theorem dJ0_isLatin1_aae02_6 : decode cJ0_isLatin1_aae02 6 = .ok (.aload_n 0, 1) := by decide +kernel
theorem dJ0_isLatin1_aae02_7 : decode cJ0_isLatin1_aae02 7 = .ok (.getfield 15, 3) := by decide +kernel
theorem dJ0_isLatin1_aae02_10 : decode cJ0_isLatin1_aae02 10 = .ok (.ifCond .ne 7, 3) := by decide +kernel
theorem dJ0_isLatin1_aae02_13 : decode cJ0_isLatin1_aae02 13 = .ok (.iconst 1, 1) := by decide +kernel
theorem dJ0_isLatin1_aae02_14 : decode cJ0_isLatin1_aae02 14 = .ok (.goto 4, 3) := by decide +kernel
theorem dJ0_isLatin1_aae02_17 : decode cJ0_isLatin1_aae02 17 = .ok (.iconst 0, 1) := by decide +kernel
theorem dJ0_isLatin1_aae02_18 : decode cJ0_isLatin1_aae02 18 = .ok (.ireturn, 1) := by decide +kernel
abbrev mJ0_length_8abf5 : ae_M := (RJ0, cJ0_length_8abf5, 1, some .int)
theorem vy_J0_length_8abf5 : ae_VY yJ0_length_8abf5 mJ0_length_8abf5 0 := ⟨ww_408, ww_409, ww_14, ww_410, ⟨by decide, by decide, by decide +kernel⟩, by decide⟩
theorem dJ0_length_8abf5_0 : decode cJ0_length_8abf5 0 = .ok (.aload_n 0, 1) := by decide +kernel
theorem dJ0_length_8abf5_1 : decode cJ0_length_8abf5 1 = .ok (.getfield 9, 3) := by decide +kernel
theorem dJ0_length_8abf5_4 : decode cJ0_length_8abf5 4 = .ok (.arraylength, 1) := by decide +kernel
theorem dJ0_length_8abf5_5 : decode cJ0_length_8abf5 5 = .ok (.aload_n 0, 1) := by decide +kernel
theorem dJ0_length_8abf5_6 : decode cJ0_length_8abf5 6 = .ok (.invokevirtual 335, 3) := by decide +kernel
theorem dJ0_length_8abf5_9 : decode cJ0_length_8abf5 9 = .ok (.ishr, 1) := by decide +kernel
theorem dJ0_length_8abf5_10 : decode cJ0_length_8abf5 10 = .ok (.ireturn, 1) := by decide +kernel
abbrev mJ3_checkIndex_8e157 : ae_M := (RJ3, cJ3_checkIndex_8e157, 3, some .int)
theorem vy_J3_checkIndex_8e157 : ae_SY yJ3_checkIndex_8e157 mJ3_checkIndex_8e157 3 := ⟨ww_434, ww_16, ww_435, ⟨by decide, by decide, by decide +kernel⟩, by decide⟩
theorem dJ3_checkIndex_8e157_0 : decode cJ3_checkIndex_8e157 0 = .ok (.iload_n 0, 1) := by decide +kernel
theorem dJ3_checkIndex_8e157_1 : decode cJ3_checkIndex_8e157 1 = .ok (.ifCond .lt 8, 3) := by decide +kernel
theorem dJ3_checkIndex_8e157_4 : decode cJ3_checkIndex_8e157 4 = .ok (.iload_n 0, 1) := by decide +kernel
theorem dJ3_checkIndex_8e157_5 : decode cJ3_checkIndex_8e157 5 = .ok (.iload_n 1, 1) := by decide +kernel
theorem dJ3_checkIndex_8e157_6 : decode cJ3_checkIndex_8e157 6 = .ok (.if_icmp .lt 10, 3) := by decide +kernel
theorem dJ3_checkIndex_8e157_9 : decode cJ3_checkIndex_8e157 9 = .ok (.aload_n 2, 1) := by decide +kernel
theorem dJ3_checkIndex_8e157_10 : decode cJ3_checkIndex_8e157 10 = .ok (.iload_n 0, 1) := by decide +kernel
theorem dJ3_checkIndex_8e157_11 : decode cJ3_checkIndex_8e157 11 = .ok (.iload_n 1, 1) := by decide +kernel
theorem dJ3_checkIndex_8e157_12 : decode cJ3_checkIndex_8e157 12 = .ok (.invokestatic 95, 3) := by decide +kernel
theorem dJ3_checkIndex_8e157_15 : decode cJ3_checkIndex_8e157 15 = .ok (.athrow, 1) := by decide +kernel
theorem dJ3_checkIndex_8e157_16 : decode cJ3_checkIndex_8e157 16 = .ok (.iload_n 0, 1) := by decide +kernel
theorem dJ3_checkIndex_8e157_17 : decode cJ3_checkIndex_8e157 17 = .ok (.ireturn, 1) := by decide +kernel
abbrev mJ0_checkIndex_df160 : ae_M := (RJ0, cJ0_checkIndex_df160, 2, none)
theorem vy_J0_checkIndex_df160 : ae_SY yJ0_checkIndex_df160 mJ0_checkIndex_df160 2 := ⟨ww_429, ww_14, ww_430, ⟨by decide, by decide, by decide +kernel⟩, by decide⟩
theorem dJ0_checkIndex_df160_0 : decode cJ0_checkIndex_df160 0 = .ok (.iload_n 0, 1) := by decide +kernel
theorem dJ0_checkIndex_df160_1 : decode cJ0_checkIndex_df160 1 = .ok (.iload_n 1, 1) := by decide +kernel
theorem dJ0_checkIndex_df160_2 : decode cJ0_checkIndex_df160 2 = .ok (.getstatic 1053, 3) := by decide +kernel
theorem dJ0_checkIndex_df160_5 : decode cJ0_checkIndex_df160 5 = .ok (.invokestatic 1059, 3) := by decide +kernel
theorem dJ0_checkIndex_df160_8 : decode cJ0_checkIndex_df160 8 = .ok (.pop, 1) := by decide +kernel
theorem dJ0_checkIndex_df160_9 : decode cJ0_checkIndex_df160 9 = .ok (.return_, 1) := by decide +kernel
abbrev mJ1_charAt_3b067 : ae_M := (RJ1, cJ1_charAt_3b067, 2, some .char)
theorem vy_J1_charAt_3b067 : ae_SY yJ1_charAt_3b067 mJ1_charAt_3b067 2 := ⟨ww_426, ww_15, ww_427, ⟨by decide, by decide, by decide +kernel⟩, by decide⟩
theorem dJ1_charAt_3b067_0 : decode cJ1_charAt_3b067 0 = .ok (.iload_n 1, 1) := by decide +kernel
theorem dJ1_charAt_3b067_1 : decode cJ1_charAt_3b067 1 = .ok (.aload_n 0, 1) := by decide +kernel
theorem dJ1_charAt_3b067_2 : decode cJ1_charAt_3b067 2 = .ok (.arraylength, 1) := by decide +kernel
theorem dJ1_charAt_3b067_3 : decode cJ1_charAt_3b067 3 = .ok (.invokestatic 9, 3) := by decide +kernel
theorem dJ1_charAt_3b067_6 : decode cJ1_charAt_3b067 6 = .ok (.aload_n 0, 1) := by decide +kernel
theorem dJ1_charAt_3b067_7 : decode cJ1_charAt_3b067 7 = .ok (.iload_n 1, 1) := by decide +kernel
theorem dJ1_charAt_3b067_8 : decode cJ1_charAt_3b067 8 = .ok (.baload, 1) := by decide +kernel
theorem dJ1_charAt_3b067_9 : decode cJ1_charAt_3b067 9 = .ok (.sipush 255, 3) := by decide +kernel
theorem dJ1_charAt_3b067_12 : decode cJ1_charAt_3b067 12 = .ok (.iand, 1) := by decide +kernel
theorem dJ1_charAt_3b067_13 : decode cJ1_charAt_3b067 13 = .ok (.i2c, 1) := by decide +kernel
theorem dJ1_charAt_3b067_14 : decode cJ1_charAt_3b067 14 = .ok (.ireturn, 1) := by decide +kernel
abbrev mJ0_charAt_5068e : ae_M := (RJ0, cJ0_charAt_5068e, 2, some .char)
theorem vy_J0_charAt_5068e : ae_VY yJ0_charAt_5068e mJ0_charAt_5068e 1 := ⟨ww_418, ww_419, ww_14, ww_420, ⟨by decide, by decide, by decide +kernel⟩, by decide⟩
theorem dJ0_charAt_5068e_0 : decode cJ0_charAt_5068e 0 = .ok (.aload_n 0, 1) := by decide +kernel
theorem dJ0_charAt_5068e_1 : decode cJ0_charAt_5068e 1 = .ok (.invokevirtual 492, 3) := by decide +kernel
theorem dJ0_charAt_5068e_4 : decode cJ0_charAt_5068e 4 = .ok (.ifCond .eq 12, 3) := by decide +kernel
theorem dJ0_charAt_5068e_7 : decode cJ0_charAt_5068e 7 = .ok (.aload_n 0, 1) := by decide +kernel
theorem dJ0_charAt_5068e_8 : decode cJ0_charAt_5068e 8 = .ok (.getfield 9, 3) := by decide +kernel
theorem dJ0_charAt_5068e_11 : decode cJ0_charAt_5068e 11 = .ok (.iload_n 1, 1) := by decide +kernel
theorem dJ0_charAt_5068e_12 : decode cJ0_charAt_5068e 12 = .ok (.invokestatic 495, 3) := by decide +kernel
theorem dJ0_charAt_5068e_15 : decode cJ0_charAt_5068e 15 = .ok (.ireturn, 1) := by decide +kernel
theorem dJ0_charAt_5068e_16 : decode cJ0_charAt_5068e 16 = .ok (.aload_n 0, 1) := by decide +kernel
theorem dJ0_charAt_5068e_17 : decode cJ0_charAt_5068e 17 = .ok (.getfield 9, 3) := by decide +kernel
theorem dJ0_charAt_5068e_20 : decode cJ0_charAt_5068e 20 = .ok (.iload_n 1, 1) := by decide +kernel
theorem dJ0_charAt_5068e_21 : decode cJ0_charAt_5068e 21 = .ok (.invokestatic 498, 3) := by decide +kernel
theorem dJ0_charAt_5068e_24 : decode cJ0_charAt_5068e 24 = .ok (.ireturn, 1) := by decide +kernel
theorem c_J0_coder_7d493 {l : Launch} {G : ae_G} (d : Nat) {i : Fin 32} (hi : i.val < 28) (σ : ae_S) : ae_Met l G d yJ0_coder_7d493 mJ0_coder_7d493 [ae_r (some (62, i))] σ (ae_Po (some (ae_i 0)) σ) := by
  refine ae_enter (by decide) rfl (Nat.le_of_ble_eq_true rfl) ?_
  show ae_T l G d mJ0_coder_7d493 (ae_Po (some (ae_i 0)) σ) 0 [(0, ae_r (some (62, i)))] [] σ
  refine ae_cst dJ0_coder_7d493_0 ww_415 ?_
  refine ae_if_eq 13 dJ0_coder_7d493_3 rfl (fun h => absurd h (by decide)) (fun _ => ?_)
  refine ae_aload_n 0 dJ0_coder_7d493_6 rfl ?_
  refine ae_strc hi dJ0_coder_7d493_7 ww_1941 ?_
  refine ae_goto 14 dJ0_coder_7d493_10 rfl ?_
  exact ae_iret dJ0_coder_7d493_14 rfl (by decide) ⟨rfl, rfl⟩
theorem c_J0_isLatin1_aae02 {l : Launch} {G : ae_G} (d : Nat) {i : Fin 32} (hi : i.val < 28) (σ : ae_S) : ae_Met l G d yJ0_isLatin1_aae02 mJ0_isLatin1_aae02 [ae_r (some (62, i))] σ (ae_Po (some (ae_i 1)) σ) := by
  refine ae_enter (by decide) rfl (Nat.le_of_ble_eq_true rfl) ?_
  show ae_T l G d mJ0_isLatin1_aae02 (ae_Po (some (ae_i 1)) σ) 0 [(0, ae_r (some (62, i)))] [] σ
  refine ae_cst dJ0_isLatin1_aae02_0 ww_415 ?_
  refine ae_if_eq 17 dJ0_isLatin1_aae02_3 rfl (fun h => absurd h (by decide)) (fun _ => ?_)
  refine ae_aload_n 0 dJ0_isLatin1_aae02_6 rfl ?_
  refine ae_strc hi dJ0_isLatin1_aae02_7 ww_1941 ?_
  refine ae_if_ne 17 dJ0_isLatin1_aae02_10 rfl (fun h => absurd rfl h) (fun _ => ?_)
  refine ae_iconst 1 dJ0_isLatin1_aae02_13 (by decide) ?_
  refine ae_goto 18 dJ0_isLatin1_aae02_14 rfl ?_
  exact ae_iret dJ0_isLatin1_aae02_18 rfl (by decide) ⟨rfl, rfl⟩
theorem c_J0_length_8abf5 {l : Launch} {G : ae_G} (d : Nat) {i : Fin 32} (hi : i.val < 28) (σ : ae_S) : ae_Met l G (d + 1) yJ0_length_8abf5 mJ0_length_8abf5 [ae_r (some (62, i))] σ (ae_Po (some (ae_i (Int32.ofNat (ae_sln i)))) σ) := by
  refine ae_enter (by decide) rfl (Nat.le_of_ble_eq_true rfl) ?_
  show ae_T l G (d + 1) mJ0_length_8abf5 (ae_Po (some (ae_i (Int32.ofNat (ae_sln i)))) σ) 0 [(0, ae_r (some (62, i)))] [] σ
  refine ae_aload_n 0 dJ0_length_8abf5_0 rfl ?_
  refine ae_strv hi dJ0_length_8abf5_1 ww_1940 ?_
  refine ae_strn hi dJ0_length_8abf5_4 ?_
  refine ae_aload_n 0 dJ0_length_8abf5_5 rfl ?_
  refine ae_callK (As := []) hi dJ0_length_8abf5_6 ww_411 vy_J0_coder_7d493 rfl rfl rfl (Nat.le_of_ble_eq_true rfl) (c_J0_coder_7d493 d hi σ) ?_
  refine ae_ishr dJ0_length_8abf5_9 ?_
  refine ae_nmI (y := Int32.ofNat (ae_sln i)) (sb_shr0 _).symm ?_
  exact ae_iret dJ0_length_8abf5_10 rfl rfl ⟨rfl, rfl⟩
theorem ae_argsA : ∀ (us xs : List Value) (i : Nat) (q : Nat × Value), q ∈ lv_args i us → q ∈ lv_args i (us ++ xs)
  | [], _, _, _, h => by cases h
  | u :: us, xs, i, q, h => by
    rcases List.mem_cons.mp h with rfl | h
    · exact List.mem_cons_self
    · exact List.mem_cons_of_mem _ (ae_argsA us xs _ q h)
/-- Preconditions.checkIndex of an index within: whatever its third argument is -/
theorem c_J3_checkIndex {l : Launch} {G : ae_G} (d : Nat) {j n : Int32} {w : Value} (hw : w.category = 1) (h0 : ¬ j < 0) (h1 : j < n) (σ : ae_S) : MetD lw_cs l yJ3_checkIndex_8e157 (Cond.code yJ3_checkIndex_8e157 cJ3_checkIndex_8e157 3 (some .int) :: lw_g) (ae_rm d) (va_Pc [.int j, .int n, w] (fun U => (∃ σ0 : ae_S, ae_sS σ σ0 ∧ va_P (ae_gD G) vwCl (ae_wl G σ0) U.heap) ∧ ae_K G U)) (ae_Q G (ae_Po (some (ae_i j)) σ)) 0 0 (ae_gA G) := by
  have k : ae_T l G d mJ3_checkIndex_8e157 (ae_Po (some (ae_i j)) σ) 0 [(0, ae_i j), (1, ae_i n)] [] σ := by
    refine ae_iload_n 0 dJ3_checkIndex_8e157_0 rfl ?_
    refine ae_if_lt 9 dJ3_checkIndex_8e157_1 rfl (fun h => absurd h h0) (fun _ => ?_)
    refine ae_iload_n 0 dJ3_checkIndex_8e157_4 rfl ?_
    refine ae_iload_n 1 dJ3_checkIndex_8e157_5 rfl ?_
    refine ae_icmp_lt 16 dJ3_checkIndex_8e157_6 rfl (fun _ => ?_) (fun h => absurd h1 h)
    refine ae_iload_n 0 dJ3_checkIndex_8e157_16 rfl ?_
    exact ae_iret dJ3_checkIndex_8e157_17 rfl rfl ⟨rfl, rfl⟩
  refine MetD.ofW (cc := cJ3_checkIndex_8e157) (maxL := 3) (ret := some .int) (by decide) rfl ?_
  intro p e s m args below meth c s₁ B hml hv hd0
  obtain ⟨rfl, ⟨σ0, hs, hP⟩, hK⟩ := hv
  have hts := atoms_spec (ws := Cond.code yJ3_checkIndex_8e157 cJ3_checkIndex_8e157 3 (some .int) :: lw_g) B.pre
  have hown : s.vm.findClass RJ3 = some m.cls := findClass_of_methodNamed B.named
  have hle : (lg_sl [Value.int j, Value.int n, w]).length ≤ 3 := by
    rw [ae_sl_len]
    show 1 + (1 + (w.category + 0)) ≤ 3
    omega
  have hl := lv_entry [Value.int j, Value.int n, w] hle
  rw [lg_entry_eq]
  refine k p e s m _ below meth c s.heap [] s.drawn _ [] σ0 ⟨B.exec, B.bytes, hml, hown, fun w h => hts w (List.mem_cons_of_mem _ h), B.returns, B.notSynchronized, hK⟩ ⟨hl.1, hl.2.1, fun q hq => ?_⟩ trivial hs hP va_S.rf hd0
  rcases List.mem_cons.mp hq with rfl | hq
  · exact ⟨.int j, hl.2.2 (0, .int j) List.mem_cons_self, rfl⟩
  · rcases List.mem_cons.mp hq with rfl | hq
    · exact ⟨.int n, hl.2.2 (1, .int n) (List.mem_cons_of_mem _ List.mem_cons_self), rfl⟩
    · cases hq
theorem ae_sioobe {l : Launch} {G : ae_G} {d : Nat} {M : ae_M} {Po : Option ae_V → ae_S → Prop} {pc : Nat} {lv : List (Nat × ae_V)} {σ : ae_S} {j n : Int32} (h0 : ¬ j < 0) (h1 : j < n) (hM : M.1 = "java/lang/String") (hd : decode M.2.1 pc = .ok (.getstatic 1053, 3)) (hd2 : decode M.2.1 (pc + 3) = .ok (.invokestatic 1059, 3)) (k : ae_T l G (d + 1) M Po (pc + 6) lv [ae_i j] σ) : ae_T l G (d + 1) M Po pc lv [ae_i n, ae_i j] σ := by
  intro p e s m args below meth c H locs d0 ls st0 σ0 hX hl hs hσ hP hS hd0
  obtain ⟨r1, rfl, hs1⟩ := ae_ss_i hs
  obtain ⟨r2, rfl, hs2⟩ := ae_ss_i hs1
  obtain rfl := ae_ss_n hs2
  have hN := ae_KN hX.2.2.2.2.2.2.2 d0
  have hown : (s.setDrawn d0).vm.findClass "java/lang/String" = some m.cls := by rw [← hM]; exact hX.2.2.2.1
  have hts := dr_words hX.2.2.2.2.1 d0
  have go : ∀ w : Value, w.category = 1 → W p l e (ae_rm (d + 1)) (s.setDrawn d0) m args below meth c H locs 0 0 (MQD lw_cs below (ae_Q G Po) args s 0 0 (ae_gA G)) (F0 m (pc + 3) ls [w, .int n, .int j]) := fun w hw => by
    refine ae_behind (Po1 := ae_Po (some (ae_i j)) σ) (st := []) (r := []) hX hl trivial hS hd0 (va_runS_D (As := [.int j, .int n, w]) (Ts := lw_g) (own := "java/lang/String") (index := 1059) (nL := M.2.2.1) ⟨hX.1, hX.2.1, hX.2.2.1, hown, hts⟩ (c_J3_checkIndex d hw h0 h1 σ) (va_cwS 3 hts (lw_gin ?_) rfl rfl rfl ⟨by decide, by decide, by decide +kernel⟩ ⟨Nat.le_refl _, ?_⟩) ⟨ae_blind, fun U hU hW => ⟨rfl, ⟨σ0, hσ, by rw [hU]; exact hP⟩, ae_K.step hX.2.2.2.2.2.2.2 hW (by rw [hU]; exact hS.1) (fun a h1 h2 => by rw [hU]; exact hS.2.1 a h1 h2)⟩⟩ rfl rfl hl.1 rfl (lv_room (Nat.zero_le _)) hd2 ⟨Nat.le_refl _, Nat.le_refl _⟩) (fun ro σ' h => by obtain ⟨rfl, rfl⟩ := h; exact k)
    · intro w hw
      rcases List.mem_append.mp hw with h | h
      · rcases List.mem_cons.mp h with rfl | h
        · exact ww_433
        rcases List.mem_cons.mp h with rfl | h
        · exact vy_J3_checkIndex_8e157.1
        rcases List.mem_cons.mp h with rfl | h
        · exact vy_J3_checkIndex_8e157.2.1
        cases h
      · rcases List.mem_cons.mp h with rfl | h
        · exact vy_J3_checkIndex_8e157.2.2.1
        · exact h
    · show 8 + (3 + 11) + 40 * d ≤ 40 * (d + 1)
      omega
  rcases hN.2.2.2.2.2.2.2.1 with hZ | ⟨t, hZ⟩
  · exact va_gets (s := s.setDrawn d0) (own := "java/lang/String") (ref := "jdk/internal/util/Preconditions") hX.1 hX.2.1 hZ hS hown (hts _ ww_431) (fun x hx => hx) hd (go .null rfl)
  · exact va_gets (s := s.setDrawn d0) (own := "java/lang/String") (ref := "jdk/internal/util/Preconditions") hX.1 hX.2.1 hZ hS hown (hts _ ww_431) (fun x hx => hx) hd (go (.ref t) rfl)
theorem c_J0_checkIndex_df160 {l : Launch} {G : ae_G} (d : Nat) {j n : Int32} (h0 : ¬ j < 0) (h1 : j < n) (σ : ae_S) : ae_Met l G (d + 1) yJ0_checkIndex_df160 mJ0_checkIndex_df160 [ae_i j, ae_i n] σ (ae_Po none σ) := by
  refine ae_enter (by decide) rfl (Nat.le_of_ble_eq_true rfl) ?_
  show ae_T l G (d + 1) mJ0_checkIndex_df160 (ae_Po none σ) 0 [(0, ae_i j), (1, ae_i n)] [] σ
  refine ae_iload_n 0 dJ0_checkIndex_df160_0 rfl ?_
  refine ae_iload_n 1 dJ0_checkIndex_df160_1 rfl ?_
  refine ae_sioobe h0 h1 rfl dJ0_checkIndex_df160_2 dJ0_checkIndex_df160_5 ?_
  refine ae_pop dJ0_checkIndex_df160_8 rfl ?_
  exact ae_vret dJ0_checkIndex_df160_9 rfl ⟨rfl, rfl⟩
theorem ae_inlt {j : Int32} {n : Nat} (hn : n < 2 ^ 31) (h : vp_in j n) : ¬ j < 0 ∧ j < Int32.ofNat n := by
  obtain ⟨k, hk, rfl⟩ := vp_in_of h hn
  exact ⟨nI_pos (by omega), nI_lt hk hn⟩
theorem ae_sln_lt (i : Fin 32) : ae_sln i < 2 ^ 31 := by
  have : ∀ i : Fin 32, ae_sln i < 100 := by decide +kernel
  have := this i
  omega
theorem c_J1_charAt_3b067 {l : Launch} {G : ae_G} (d : Nat) {i : Fin 32} {j : Int32} (hi : i.val < 28) (h : vp_in j (ae_sln i)) (σ : ae_S) : ae_Met l G (d + 2) yJ1_charAt_3b067 mJ1_charAt_3b067 [ae_r (some (63, i)), ae_i j] σ (ae_Po (some (ae_i (ae_sch i j.toNatClampNeg))) σ) := by
  refine ae_enter (by decide) rfl (Nat.le_of_ble_eq_true rfl) ?_
  show ae_T l G (d + 2) mJ1_charAt_3b067 (ae_Po (some (ae_i (ae_sch i j.toNatClampNeg))) σ) 0 [(0, ae_r (some (63, i))), (1, ae_i j)] [] σ
  obtain ⟨h1, h2⟩ := ae_inlt (ae_sln_lt i) h
  refine ae_iload_n 1 dJ1_charAt_3b067_0 rfl ?_
  refine ae_aload_n 0 dJ1_charAt_3b067_1 rfl ?_
  refine ae_strn hi dJ1_charAt_3b067_2 ?_
  refine ae_cS0 (As := [ae_i j, ae_i (Int32.ofNat (ae_sln i))]) dJ1_charAt_3b067_3 ww_428 vy_J0_checkIndex_df160 rfl rfl (Nat.le_of_ble_eq_true rfl) (c_J0_checkIndex_df160 d h1 h2 σ) ?_
  refine ae_aload_n 0 dJ1_charAt_3b067_6 rfl ?_
  refine ae_iload_n 1 dJ1_charAt_3b067_7 rfl ?_
  refine ae_strb hi dJ1_charAt_3b067_8 h ?_
  refine ae_sipush 255 dJ1_charAt_3b067_9 (by decide) ?_
  refine ae_iand dJ1_charAt_3b067_12 ?_
  refine ae_i2c dJ1_charAt_3b067_13 ?_
  have hlt : j.toNatClampNeg < ae_sln i := Nat.not_le.mp fun q => h (Or.inr q)
  have hn := pk_nc (ae_sch i j.toNatClampNeg &&& 255)
  refine ae_nmI (y := ae_sch i j.toNatClampNeg) (ae_schE hlt).symm ?_
  rw [ae_schE hlt] at hn
  exact ae_iret dJ1_charAt_3b067_14 rfl hn ⟨rfl, rfl⟩
theorem c_J0_charAt_5068e {l : Launch} {G : ae_G} (d : Nat) {i : Fin 32} {j : Int32} (hi : i.val < 28) (h : vp_in j (ae_sln i)) (σ : ae_S) : ae_Met l G (d + 3) yJ0_charAt_5068e mJ0_charAt_5068e [ae_r (some (62, i)), ae_i j] σ (ae_Po (some (ae_i (ae_sch i j.toNatClampNeg))) σ) := by
  refine ae_enter (by decide) rfl (Nat.le_of_ble_eq_true rfl) ?_
  show ae_T l G (d + 3) mJ0_charAt_5068e (ae_Po (some (ae_i (ae_sch i j.toNatClampNeg))) σ) 0 [(0, ae_r (some (62, i))), (1, ae_i j)] [] σ
  have hlt : j.toNatClampNeg < ae_sln i := Nat.not_le.mp fun q => h (Or.inr q)
  have hn := pk_nc (ae_sch i j.toNatClampNeg &&& 255)
  rw [ae_schE hlt] at hn
  refine ae_aload_n 0 dJ0_charAt_5068e_0 rfl ?_
  refine ae_callK (As := []) hi dJ0_charAt_5068e_1 ww_421 vy_J0_isLatin1_aae02 rfl rfl rfl (Nat.le_of_ble_eq_true rfl) (c_J0_isLatin1_aae02 (d + 2) hi σ) ?_
  refine ae_if_eq 16 dJ0_charAt_5068e_4 rfl (fun h => absurd h (by decide)) (fun _ => ?_)
  refine ae_aload_n 0 dJ0_charAt_5068e_7 rfl ?_
  refine ae_strv hi dJ0_charAt_5068e_8 ww_1940 ?_
  refine ae_iload_n 1 dJ0_charAt_5068e_11 rfl ?_
  refine ae_cS1 (As := [ae_r (some (63, i)), ae_i j]) dJ0_charAt_5068e_12 ww_425 vy_J1_charAt_3b067 rfl rfl (Nat.le_of_ble_eq_true rfl) (c_J1_charAt_3b067 d hi h σ) ?_
  exact ae_iret dJ0_charAt_5068e_15 rfl hn ⟨rfl, rfl⟩
section AES
variable {l : Launch} {G : ae_G} {d : Nat} {M : ae_M} {Po : Option ae_V → ae_S → Prop} {pc : Nat} {lv : List (Nat × ae_V)} {st : List ae_V} {σ : ae_S}
theorem ae_strlen {idx : Nat} {i : Fin 32} (hi : decide (i.val < 28) = true) (hd : decode M.2.1 pc = .ok (.invokevirtual idx, 3)) (hlk : Cond.methodLink M.1 idx yJ0_length_8abf5 ∈ lw_g) (hrm : (st.map ae_cat).sum ≤ 8) (k : ae_T l G (d + 2) M Po (pc + 3) lv (ae_i (Int32.ofNat (ae_sln i)) :: st) σ) : ae_T l G (d + 2) M Po pc lv (ae_r (some (62, i)) :: st) σ :=
  ae_callK (As := []) (of_decide_eq_true hi) hd hlk vy_J0_length_8abf5 rfl rfl rfl hrm (c_J0_length_8abf5 d (of_decide_eq_true hi) σ) k
theorem ae_strchar {idx : Nat} {i : Fin 32} {j : Int32} (hi : decide (i.val < 28) = true) (h : vp_in j (ae_sln i)) (hd : decode M.2.1 pc = .ok (.invokevirtual idx, 3)) (hlk : Cond.methodLink M.1 idx yJ0_charAt_5068e ∈ lw_g) (hrm : (st.map ae_cat).sum ≤ 8) (k : ae_T l G (d + 4) M Po (pc + 3) lv (ae_i (ae_sch i j.toNatClampNeg) :: st) σ) : ae_T l G (d + 4) M Po pc lv (ae_i j :: ae_r (some (62, i)) :: st) σ :=
  ae_callK (As := [ae_i j]) (of_decide_eq_true hi) hd hlk vy_J0_charAt_5068e rfl rfl rfl hrm (c_J0_charAt_5068e d (of_decide_eq_true hi) h σ) k
end AES
