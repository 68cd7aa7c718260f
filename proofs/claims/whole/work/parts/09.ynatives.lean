/-! the bits of doubles and floats: natives, and the JDK's own methods above them -/
abbrev mJxe99ae_isNaN_b9ae7 : ae_M := (RJxe99ae, cJxe99ae_isNaN_b9ae7, 2, some .boolean)
theorem vy_Jxe99ae_isNaN_b9ae7 : ae_SY yJxe99ae_isNaN_b9ae7 mJxe99ae_isNaN_b9ae7 1 := ⟨ww_1680, ww_24, ww_1681, ⟨by decide, by decide, by decide +kernel⟩, by decide⟩
theorem dJxe99ae_isNaN_b9ae7_0 : decode cJxe99ae_isNaN_b9ae7 0 = .ok (.dload_n 0, 1) := by decide +kernel
theorem dJxe99ae_isNaN_b9ae7_1 : decode cJxe99ae_isNaN_b9ae7 1 = .ok (.dload_n 0, 1) := by decide +kernel
theorem dJxe99ae_isNaN_b9ae7_2 : decode cJxe99ae_isNaN_b9ae7 2 = .ok (.dcmp .l, 1) := by decide +kernel
theorem dJxe99ae_isNaN_b9ae7_3 : decode cJxe99ae_isNaN_b9ae7 3 = .ok (.ifCond .eq 7, 3) := by decide +kernel
theorem dJxe99ae_isNaN_b9ae7_6 : decode cJxe99ae_isNaN_b9ae7 6 = .ok (.iconst 1, 1) := by decide +kernel
theorem dJxe99ae_isNaN_b9ae7_7 : decode cJxe99ae_isNaN_b9ae7 7 = .ok (.goto 4, 3) := by decide +kernel
theorem dJxe99ae_isNaN_b9ae7_10 : decode cJxe99ae_isNaN_b9ae7 10 = .ok (.iconst 0, 1) := by decide +kernel
theorem dJxe99ae_isNaN_b9ae7_11 : decode cJxe99ae_isNaN_b9ae7 11 = .ok (.ireturn, 1) := by decide +kernel
abbrev mJxe99ae_doubleToLongBits_ccdee : ae_M := (RJxe99ae, cJxe99ae_doubleToLongBits_ccdee, 2, some .long)
theorem vy_Jxe99ae_doubleToLongBits_ccdee : ae_SY yJxe99ae_doubleToLongBits_ccdee mJxe99ae_doubleToLongBits_ccdee 1 := ⟨ww_1677, ww_24, ww_1678, ⟨by decide, by decide, by decide +kernel⟩, by decide⟩
theorem dJxe99ae_doubleToLongBits_ccdee_0 : decode cJxe99ae_doubleToLongBits_ccdee 0 = .ok (.dload_n 0, 1) := by decide +kernel
theorem dJxe99ae_doubleToLongBits_ccdee_1 : decode cJxe99ae_doubleToLongBits_ccdee 1 = .ok (.invokestatic 122, 3) := by decide +kernel
theorem dJxe99ae_doubleToLongBits_ccdee_4 : decode cJxe99ae_doubleToLongBits_ccdee 4 = .ok (.ifCond .ne 8, 3) := by decide +kernel
theorem dJxe99ae_doubleToLongBits_ccdee_7 : decode cJxe99ae_doubleToLongBits_ccdee 7 = .ok (.dload_n 0, 1) := by decide +kernel
theorem dJxe99ae_doubleToLongBits_ccdee_8 : decode cJxe99ae_doubleToLongBits_ccdee 8 = .ok (.invokestatic 134, 3) := by decide +kernel
theorem dJxe99ae_doubleToLongBits_ccdee_11 : decode cJxe99ae_doubleToLongBits_ccdee 11 = .ok (.lreturn, 1) := by decide +kernel
theorem dJxe99ae_doubleToLongBits_ccdee_12 : decode cJxe99ae_doubleToLongBits_ccdee 12 = .ok (.ldc2_w 137, 3) := by decide +kernel
theorem dJxe99ae_doubleToLongBits_ccdee_15 : decode cJxe99ae_doubleToLongBits_ccdee 15 = .ok (.lreturn, 1) := by decide +kernel
abbrev mJxf58ca_isNaN_12338 : ae_M := (RJxf58ca, cJxf58ca_isNaN_12338, 1, some .boolean)
theorem vy_Jxf58ca_isNaN_12338 : ae_SY yJxf58ca_isNaN_12338 mJxf58ca_isNaN_12338 1 := ⟨ww_1670, ww_23, ww_1671, ⟨by decide, by decide, by decide +kernel⟩, by decide⟩
theorem dJxf58ca_isNaN_12338_0 : decode cJxf58ca_isNaN_12338 0 = .ok (.fload_n 0, 1) := by decide +kernel
theorem dJxf58ca_isNaN_12338_1 : decode cJxf58ca_isNaN_12338 1 = .ok (.fload_n 0, 1) := by decide +kernel
theorem dJxf58ca_isNaN_12338_2 : decode cJxf58ca_isNaN_12338 2 = .ok (.fcmp .l, 1) := by decide +kernel
theorem dJxf58ca_isNaN_12338_3 : decode cJxf58ca_isNaN_12338 3 = .ok (.ifCond .eq 7, 3) := by decide +kernel
theorem dJxf58ca_isNaN_12338_6 : decode cJxf58ca_isNaN_12338 6 = .ok (.iconst 1, 1) := by decide +kernel
theorem dJxf58ca_isNaN_12338_7 : decode cJxf58ca_isNaN_12338 7 = .ok (.goto 4, 3) := by decide +kernel
theorem dJxf58ca_isNaN_12338_10 : decode cJxf58ca_isNaN_12338 10 = .ok (.iconst 0, 1) := by decide +kernel
theorem dJxf58ca_isNaN_12338_11 : decode cJxf58ca_isNaN_12338 11 = .ok (.ireturn, 1) := by decide +kernel
abbrev mJxf58ca_floatToIntBits_5c35a : ae_M := (RJxf58ca, cJxf58ca_floatToIntBits_5c35a, 1, some .int)
theorem vy_Jxf58ca_floatToIntBits_5c35a : ae_SY yJxf58ca_floatToIntBits_5c35a mJxf58ca_floatToIntBits_5c35a 1 := ⟨ww_1667, ww_23, ww_1668, ⟨by decide, by decide, by decide +kernel⟩, by decide⟩
theorem dJxf58ca_floatToIntBits_5c35a_0 : decode cJxf58ca_floatToIntBits_5c35a 0 = .ok (.fload_n 0, 1) := by decide +kernel
theorem dJxf58ca_floatToIntBits_5c35a_1 : decode cJxf58ca_floatToIntBits_5c35a 1 = .ok (.invokestatic 59, 3) := by decide +kernel
theorem dJxf58ca_floatToIntBits_5c35a_4 : decode cJxf58ca_floatToIntBits_5c35a 4 = .ok (.ifCond .ne 8, 3) := by decide +kernel
theorem dJxf58ca_floatToIntBits_5c35a_7 : decode cJxf58ca_floatToIntBits_5c35a 7 = .ok (.fload_n 0, 1) := by decide +kernel
theorem dJxf58ca_floatToIntBits_5c35a_8 : decode cJxf58ca_floatToIntBits_5c35a 8 = .ok (.invokestatic 74, 3) := by decide +kernel
theorem dJxf58ca_floatToIntBits_5c35a_11 : decode cJxf58ca_floatToIntBits_5c35a 11 = .ok (.ireturn, 1) := by decide +kernel
theorem dJxf58ca_floatToIntBits_5c35a_12 : decode cJxf58ca_floatToIntBits_5c35a 12 = .ok (.ldc 77, 2) := by decide +kernel
theorem dJxf58ca_floatToIntBits_5c35a_14 : decode cJxf58ca_floatToIntBits_5c35a 14 = .ok (.ireturn, 1) := by decide +kernel
def ae_db (x : UInt64) : Int64 := if isNaN64 x = true then 9221120237041090560 else x.toInt64
def ae_fb (x : UInt32) : Int32 := if isNaN32 x = true then 2143289344 else x.toInt32
theorem ae_isNF (z : UInt32) : isNaN32 z = FP.Core.fIsNaN z := by
  rw [Bool.eq_iff_iff, isNaN32_iff, FP.Core.isNaN_bits32]
  rw [show (0x7fffffff : Nat) = 2 ^ 31 - 1 from rfl, Nat.and_two_pow_sub_one_eq_mod]
theorem ae_decF {x0 x : UInt32} (h : alike32 x0 x = true) : FP.Core.decode FP.Core.b32 x0.toNat = FP.Core.decode FP.Core.b32 x.toNat := by
  rcases ae_alF h with rfl | ⟨h1, h2⟩
  · rfl
  · rw [ae_isNF, FP.Core.fIsNaN_iff] at h1 h2
    exact h1.trans h2.symm
/-- a method of a class of which the machine runs some by an entry, this one not -/
theorem ae_enterF {l : Launch} {G : ae_G} {d : Nat} {y : MethodName} {M : ae_M} {As : List ae_V} {σ : ae_S} {Po : Option ae_V → ae_S → Prop} (hy : plainFor y = true) (hM : y.cls = M.1) (hn : (As.map ae_cat).sum ≤ M.2.2.1) (k : ae_T l G d M Po 0 (ae_la 0 As) [] σ) : ae_Met l G d y M As σ Po := by
  intro As0 hA
  refine MetFree.of_bodySF (code := M.2.1) (maxLocals := M.2.2.1) (ret := M.2.2.2) hy ?_ ?_
  · intro args s m h hn
    obtain ⟨meth, c, h1, h2, h3, h4, h5, h6, -, -⟩ := Cond.code_spec hn (atoms_spec (ws := Cond.code y M.2.1 M.2.2.1 M.2.2.2 :: lw_g) h _ List.mem_cons_self)
    exact ⟨meth, c, h1, h2, h3, h4, h5, h6⟩
  · intro p e s m args below meth c s₁ B hml hv _
    have hh0 : s₁.heap = s.heap := by rw [B.state]; rfl
    have X0 : Stand p l e (headSpec (Cond.code y M.2.1 M.2.2.1 M.2.2.2 :: lw_g) (ae_rm d)).room (s.setDrawn s.drawn) m args below meth c s₁ [] 0 0 := Stand.of_body B
    have W0 : W p l e (ae_rm d) (s.setDrawn s.drawn) m args below meth c s.heap [] 0 0 (MQD lw_cs below (ae_Q G Po) args s 0 0 (ae_gA G)) (entryFrame m args M.2.2.1) := by
      obtain ⟨rfl, ⟨σ0, hs, hP⟩, hK⟩ := hv
      have hts := atoms_spec (ws := Cond.code y M.2.1 M.2.2.1 M.2.2.2 :: lw_g) B.pre
      have hown : s.vm.findClass M.1 = some m.cls := by rw [← hM]; exact findClass_of_methodNamed B.named
      have hle : (lg_sl As0).length ≤ M.2.2.1 := by rw [ae_sl_len, ae_ss_cat hA]; exact hn
      have hl := lv_entry As0 hle
      rw [lg_entry_eq]
      exact k p e s m _ below meth c s.heap [] s.drawn _ [] σ0 ⟨B.exec, B.bytes, hml, hown, fun w h => hts w (List.mem_cons_of_mem _ h), B.returns, B.notSynchronized, hK⟩ ⟨hl.1, hl.2.1, fun q hq => by
        obtain ⟨w, h1, h2⟩ := ae_la_in 0 hA q hq
        exact ⟨w, hl.2.2 (q.1, w) h1, h2⟩⟩ trivial hs hP va_S.rf (Drawn.sameBut.refl _ _)
    obtain ⟨t, a1, d1, hd1, o, b1, b2, b3, b4⟩ := W0 s₁ hh0 X0
    exact ⟨t, o, a1, b1, b2, d1, hd1, b3, b4⟩
theorem dr_copy {s : State} {d0 d1 : Drawn} (hd0 : s.drawn.sameBut d0 lw_cs) (hT : d1 = d0) : s.drawn.sameBut (d1.next (.named "NaN.copy")) lw_cs := by
  subst hT
  exact Drawn.sameBut.trans hd0 (Drawn.sameBut.mono (Drawn.next_named d1 "NaN.copy") (fun c hc => by
    simp only [List.mem_cons, List.not_mem_nil, or_false] at hc
    rw [hc]; exact List.mem_cons_of_mem _ List.mem_cons_self))
theorem vn_l2d_any {p : Program} {l : Launch} {e : Env} {R : Room} {s : State} {m : MethodId} {args : Array Value} {below : List Frame} {meth : Method} {c : Code} {H : Heap} {locs : List Loc} {cells slots : Nat} {Q : State → Prop} {cc : ByteArray} {pc : Nat} {ls : Array Slot} {rest : List Value} {d0 : Drawn} (hd0 : s.drawn.sameBut d0 lw_cs) (hexec : p.tables.exec = Jvm.exec) (hb : c.code = cc) (hml : c.maxLocals = ls.size) {own : String} {index : Nat} (hown : (s.setDrawn d0).vm.findClass own = some m.cls) (hlink : (Cond.methodLink own index ⟨"java/lang/Double", "longBitsToDouble", "(J)D"⟩).before args (s.setDrawn d0) = true) (hnat : (Cond.native ⟨"java/lang/Double", "longBitsToDouble", "(J)D"⟩).before args (s.setDrawn d0) = true) (hstat : (Cond.static ⟨"java/lang/Double", "longBitsToDouble", "(J)D"⟩).before args (s.setDrawn d0) = true) (hinit : (Cond.initialized "java/lang/Double").before args (s.setDrawn d0) = true) {b : Int64}
    (hframes : 1 ≤ R.frames) (hlocals : (rest.map fun v => v.category).sum + 15 ≤ R.locals) (hdg : decode cc pc = .ok (.invokestatic index, 3))
    (k : ∀ (r : UInt64) (d' : Drawn), alike64 r b.toUInt64 = true → s.drawn.sameBut d' lw_cs → W p l e R (s.setDrawn d') m args below meth c H locs cells slots Q (F0 m (pc + 3) ls (.double r :: rest))) : W p l e R (s.setDrawn d0) m args below meth c H locs cells slots Q (F0 m pc ls (.long b :: rest)) := by
  cases hv : vn_snl2d b with
  | false => exact vn_l2d hexec hb hml hown hlink hnat hstat hinit hv hframes hlocals hdg (k b.toUInt64 d0 (alike64_refl _) hd0)
  | true =>
    intro T hT X
    obtain ⟨r0, kS, methS, hnS, hmS, hkS, N⟩ := NativeOf.of_static hnat hstat (ps := [.long]) (ret := some .double) (by decide +kernel)
    have hinitS : kS.init = .initialized := Cond.initialized_spec (findClass_of_methodNamed hnS) hkS hinit
    obtain ⟨vm', X', step⟩ := X.invokestatic hexec hown hlink hnS hmS N.static hkS hinitS (by decide) (g := F0 m pc ls (.long b :: rest)) rfl (argsL := [.long b]) (rest := rest) (by rw [N.sig]; rfl) rfl (by rw [hb]; exact hdg)
    obtain ⟨kS', N'⟩ := N.alike X'.warmed.alike
    have hal : ∀ z : UInt64, alike64 (if z % 2 == 0 then b.toUInt64 else b.toUInt64 ||| 0x0008000000000000) b.toUInt64 = true := fun z => by
      by_cases hz : (z % 2 == 0) = true
      · rw [if_pos hz]; exact alike64_refl _
      · rw [if_neg hz]
        have hn : isNaN64 b.toUInt64 = true := by
          unfold vn_snl2d at hv
          rw [Bool.and_eq_true] at hv
          exact hv.1
        unfold alike64
        simp [hn, isNaN64_or_left hn]
    have hd1 := dr_copy hd0 X'.drawn_eq
    obtain ⟨t, a1, b1⟩ := k _ _ (hal (e.choices (.named "NaN.copy") ((T.setVm vm').drawn.count (.named "NaN.copy")))) hd1 ((T.setVm vm').setDrawn _) hT (X'.drew _)
    refine ⟨t, step t fun acts => ?_, b1⟩
    have hseen : seenByNative methS #[.long b] = #[.long b] := by simp [seenByNative, N'.static, N'.sig, narrow]
    refine Steps.nativeEnds (g := { (F0 m pc ls (.long b :: rest)) with stack := rest }) (row := Native.java_lang_Float.bits.rowLongBitsToDouble) (v := some (.double (if e.choices (.named "NaN.copy") ((T.setVm vm').drawn.count (.named "NaN.copy")) % 2 == 0 then b.toUInt64 else b.toUInt64 ||| 0x0008000000000000))) (T := fun u => u.draw (.named "NaN.copy")) X'.here acts N'.cls N'.meth N'.boot N'.native N'.noCode N'.noLock
      (by rw [N'.className, N'.name, N'.desc]; exact longBitsToDouble_row p) (by rw [N'.className, N'.name]; exact X'.notFull (g := { (F0 m pc ls (.long b :: rest)) with stack := rest }) (by rw [hml]) (vars := nativeFrameWords "java/lang/Double" "longBitsToDouble" 2) hframes (by show 2 * 0 + (rest.map fun v => v.category).sum + _ ≤ _; have hw : nativeFrameWords "java/lang/Double" "longBitsToDouble" 2 = 4 := (by decide); omega)) (fun _ => rfl) rfl (fun _ => X'.here.code) ?_ (by rw [hb]; exact hdg) a1
    intro Q1 hq
    rw [hseen] at hq ⊢
    rw [Native.java_lang_Float.bits.longBitsToDouble_on]
    unfold vn_snl2d at hv
    simp only [hv, if_true, wp_bind', W.mark, wp_pure', choose, wp_choose]
    exact hq _ _
theorem vn_i2f_any {p : Program} {l : Launch} {e : Env} {R : Room} {s : State} {m : MethodId} {args : Array Value} {below : List Frame} {meth : Method} {c : Code} {H : Heap} {locs : List Loc} {cells slots : Nat} {Q : State → Prop} {cc : ByteArray} {pc : Nat} {ls : Array Slot} {rest : List Value} {d0 : Drawn} (hd0 : s.drawn.sameBut d0 lw_cs) (hexec : p.tables.exec = Jvm.exec) (hb : c.code = cc) (hml : c.maxLocals = ls.size) {own : String} {index : Nat} (hown : (s.setDrawn d0).vm.findClass own = some m.cls) (hlink : (Cond.methodLink own index ⟨"java/lang/Float", "intBitsToFloat", "(I)F"⟩).before args (s.setDrawn d0) = true) (hnat : (Cond.native ⟨"java/lang/Float", "intBitsToFloat", "(I)F"⟩).before args (s.setDrawn d0) = true) (hstat : (Cond.static ⟨"java/lang/Float", "intBitsToFloat", "(I)F"⟩).before args (s.setDrawn d0) = true) (hinit : (Cond.initialized "java/lang/Float").before args (s.setDrawn d0) = true) {b : Int32}
    (hframes : 1 ≤ R.frames) (hlocals : (rest.map fun v => v.category).sum + 15 ≤ R.locals) (hdg : decode cc pc = .ok (.invokestatic index, 3))
    (k : ∀ (r : UInt32) (d' : Drawn), alike32 r b.toUInt32 = true → s.drawn.sameBut d' lw_cs → W p l e R (s.setDrawn d') m args below meth c H locs cells slots Q (F0 m (pc + 3) ls (.float r :: rest))) : W p l e R (s.setDrawn d0) m args below meth c H locs cells slots Q (F0 m pc ls (.int b :: rest)) := by
  cases hv : vn_sni2f b with
  | false => exact vn_i2f hexec hb hml hown hlink hnat hstat hinit hv hframes hlocals hdg (k b.toUInt32 d0 (alike32_refl _) hd0)
  | true =>
    intro T hT X
    obtain ⟨r0, kS, methS, hnS, hmS, hkS, N⟩ := NativeOf.of_static hnat hstat (ps := [.int]) (ret := some .float) (by decide +kernel)
    have hinitS : kS.init = .initialized := Cond.initialized_spec (findClass_of_methodNamed hnS) hkS hinit
    obtain ⟨vm', X', step⟩ := X.invokestatic hexec hown hlink hnS hmS N.static hkS hinitS (by decide) (g := F0 m pc ls (.int b :: rest)) rfl (argsL := [.int b]) (rest := rest) (by rw [N.sig]; rfl) rfl (by rw [hb]; exact hdg)
    obtain ⟨kS', N'⟩ := N.alike X'.warmed.alike
    have hal : ∀ z : UInt64, alike32 (if z % 2 == 0 then b.toUInt32 else b.toUInt32 ||| 0x00400000) b.toUInt32 = true := fun z => by
      by_cases hz : (z % 2 == 0) = true
      · rw [if_pos hz]; exact alike32_refl _
      · rw [if_neg hz]
        have hn : isNaN32 b.toUInt32 = true := by
          unfold vn_sni2f at hv
          rw [Bool.and_eq_true] at hv
          exact hv.1
        unfold alike32
        simp [hn, isNaN32_or_left hn]
    have hd1 := dr_copy hd0 X'.drawn_eq
    obtain ⟨t, a1, b1⟩ := k _ _ (hal (e.choices (.named "NaN.copy") ((T.setVm vm').drawn.count (.named "NaN.copy")))) hd1 ((T.setVm vm').setDrawn _) hT (X'.drew _)
    refine ⟨t, step t fun acts => ?_, b1⟩
    have hseen : seenByNative methS #[.int b] = #[.int b] := by simp [seenByNative, N'.static, N'.sig, narrow]
    refine Steps.nativeEnds (g := { (F0 m pc ls (.int b :: rest)) with stack := rest }) (row := Native.java_lang_Float.bits.rowIntBitsToFloat) (v := some (.float (if e.choices (.named "NaN.copy") ((T.setVm vm').drawn.count (.named "NaN.copy")) % 2 == 0 then b.toUInt32 else b.toUInt32 ||| 0x00400000))) (T := fun u => u.draw (.named "NaN.copy")) X'.here acts N'.cls N'.meth N'.boot N'.native N'.noCode N'.noLock
      (by rw [N'.className, N'.name, N'.desc]; exact intBitsToFloat_row p) (by rw [N'.className, N'.name]; exact X'.notFull (g := { (F0 m pc ls (.int b :: rest)) with stack := rest }) (by rw [hml]) (vars := nativeFrameWords "java/lang/Float" "intBitsToFloat" 1) hframes (by show 2 * 0 + (rest.map fun v => v.category).sum + _ ≤ _; have hw : nativeFrameWords "java/lang/Float" "intBitsToFloat" 1 = 3 := (by decide); omega)) (fun _ => rfl) rfl (fun _ => X'.here.code) ?_ (by rw [hb]; exact hdg) a1
    intro Q1 hq
    rw [hseen] at hq ⊢
    rw [Native.java_lang_Float.bits.intBitsToFloat_on]
    unfold vn_sni2f at hv
    simp only [hv, if_true, wp_bind', W.mark, wp_pure', choose, wp_choose]
    exact hq _ _
section AEB
variable {l : Launch} {G : ae_G} {d : Nat} {M : ae_M} {Po : Option ae_V → ae_S → Prop} {pc : Nat} {lv : List (Nat × ae_V)} {st : List ae_V} {σ : ae_S}
theorem ae_lbd {idx : Nat} {b : Int64} (hd : decode M.2.1 pc = .ok (.invokestatic idx, 3)) (hlk : Cond.methodLink M.1 idx ⟨"java/lang/Double", "longBitsToDouble", "(J)D"⟩ ∈ lw_g) (h1 : Cond.native ⟨"java/lang/Double", "longBitsToDouble", "(J)D"⟩ ∈ lw_g) (h2 : Cond.static ⟨"java/lang/Double", "longBitsToDouble", "(J)D"⟩ ∈ lw_g) (h3 : Cond.initialized "java/lang/Double" ∈ lw_g) (hrm : (st.map ae_cat).sum ≤ 8) (k : ae_T l G (d + 1) M Po (pc + 3) lv (ae_d b.toUInt64 :: st) σ) : ae_T l G (d + 1) M Po pc lv (ae_l b :: st) σ := by
  intro p e s m args below meth c H locs d0 ls st0 σ0 hX hl hs hσ hP hS hd0
  obtain ⟨r1, rfl, hs1⟩ := ae_ss_l hs
  have hts := dr_words hX.2.2.2.2.1 d0
  exact vn_l2d_any (R := ae_rm (d + 1)) hd0 hX.1 hX.2.1 (hX.2.2.1.trans hl.1.symm) hX.2.2.2.1 (hts _ hlk) (hts _ h1) (hts _ h2) (hts _ h3) (Nat.le_add_left 1 d) (by rw [ae_ss_cat hs1]; show _ + _ ≤ 40 * (d + 1); omega) hd (fun r d1 hal hd1 => k p e s m args below meth c H locs d1 ls (.double r :: r1) σ0 hX hl ⟨⟨r, rfl, hal⟩, hs1⟩ hσ hP hS hd1)
theorem ae_ibf {idx : Nat} {b : Int32} (hd : decode M.2.1 pc = .ok (.invokestatic idx, 3)) (hlk : Cond.methodLink M.1 idx ⟨"java/lang/Float", "intBitsToFloat", "(I)F"⟩ ∈ lw_g) (h1 : Cond.native ⟨"java/lang/Float", "intBitsToFloat", "(I)F"⟩ ∈ lw_g) (h2 : Cond.static ⟨"java/lang/Float", "intBitsToFloat", "(I)F"⟩ ∈ lw_g) (h3 : Cond.initialized "java/lang/Float" ∈ lw_g) (hrm : (st.map ae_cat).sum ≤ 8) (k : ae_T l G (d + 1) M Po (pc + 3) lv (ae_f b.toUInt32 :: st) σ) : ae_T l G (d + 1) M Po pc lv (ae_i b :: st) σ := by
  intro p e s m args below meth c H locs d0 ls st0 σ0 hX hl hs hσ hP hS hd0
  obtain ⟨r1, rfl, hs1⟩ := ae_ss_i hs
  have hts := dr_words hX.2.2.2.2.1 d0
  exact vn_i2f_any (R := ae_rm (d + 1)) hd0 hX.1 hX.2.1 (hX.2.2.1.trans hl.1.symm) hX.2.2.2.1 (hts _ hlk) (hts _ h1) (hts _ h2) (hts _ h3) (Nat.le_add_left 1 d) (by rw [ae_ss_cat hs1]; show _ + _ ≤ 40 * (d + 1); omega) hd (fun r d1 hal hd1 => k p e s m args below meth c H locs d1 ls (.float r :: r1) σ0 hX hl ⟨⟨r, rfl, hal⟩, hs1⟩ hσ hP hS hd1)
theorem ae_draw {idx : Nat} {x : UInt64} (hx : isNaN64 x = false) (hd : decode M.2.1 pc = .ok (.invokestatic idx, 3)) (hlk : Cond.methodLink M.1 idx ⟨"java/lang/Double", "doubleToRawLongBits", "(D)J"⟩ ∈ lw_g) (h1 : Cond.native ⟨"java/lang/Double", "doubleToRawLongBits", "(D)J"⟩ ∈ lw_g) (h2 : Cond.static ⟨"java/lang/Double", "doubleToRawLongBits", "(D)J"⟩ ∈ lw_g) (h3 : Cond.initialized "java/lang/Double" ∈ lw_g) (hrm : (st.map ae_cat).sum ≤ 8) (k : ae_T l G (d + 1) M Po (pc + 3) lv (ae_l x.toInt64 :: st) σ) : ae_T l G (d + 1) M Po pc lv (ae_d x :: st) σ := by
  intro p e s m args below meth c H locs d0 ls st0 σ0 hX hl hs hσ hP hS hd0
  obtain ⟨w1, r1, rfl, ⟨x0, rfl, hx0⟩, hs1⟩ := ae_ss_c hs
  have hts := dr_words hX.2.2.2.2.1 d0
  rcases ae_alN hx0 with rfl | ⟨-, h⟩
  · exact vn_d2l (s := s.setDrawn d0) (R := ae_rm (d + 1)) hX.1 hX.2.1 (hX.2.2.1.trans hl.1.symm) hX.2.2.2.1 (hts _ hlk) (hts _ h1) (hts _ h2) (hts _ h3) (Nat.le_add_left 1 d) (by rw [ae_ss_cat hs1]; show _ + _ ≤ 40 * (d + 1); omega) hd (k p e s m args below meth c H locs d0 ls _ σ0 hX hl ⟨rfl, hs1⟩ hσ hP hS hd0)
  · rw [hx] at h; cases h
theorem ae_fraw {idx : Nat} {x : UInt32} (hx : isNaN32 x = false) (hd : decode M.2.1 pc = .ok (.invokestatic idx, 3)) (hlk : Cond.methodLink M.1 idx ⟨"java/lang/Float", "floatToRawIntBits", "(F)I"⟩ ∈ lw_g) (h1 : Cond.native ⟨"java/lang/Float", "floatToRawIntBits", "(F)I"⟩ ∈ lw_g) (h2 : Cond.static ⟨"java/lang/Float", "floatToRawIntBits", "(F)I"⟩ ∈ lw_g) (h3 : Cond.initialized "java/lang/Float" ∈ lw_g) (hrm : (st.map ae_cat).sum ≤ 8) (k : ae_T l G (d + 1) M Po (pc + 3) lv (ae_i x.toInt32 :: st) σ) : ae_T l G (d + 1) M Po pc lv (ae_f x :: st) σ := by
  intro p e s m args below meth c H locs d0 ls st0 σ0 hX hl hs hσ hP hS hd0
  obtain ⟨w1, r1, rfl, ⟨x0, rfl, hx0⟩, hs1⟩ := ae_ss_c hs
  have hts := dr_words hX.2.2.2.2.1 d0
  rcases ae_alF hx0 with rfl | ⟨-, h⟩
  · exact vn_f2i (s := s.setDrawn d0) (R := ae_rm (d + 1)) hX.1 hX.2.1 (hX.2.2.1.trans hl.1.symm) hX.2.2.2.1 (hts _ hlk) (hts _ h1) (hts _ h2) (hts _ h3) (Nat.le_add_left 1 d) (by rw [ae_ss_cat hs1]; show _ + _ ≤ 40 * (d + 1); omega) hd (k p e s m args below meth c H locs d0 ls _ σ0 hX hl ⟨rfl, hs1⟩ hσ hP hS hd0)
  · rw [hx] at h; cases h
theorem ae_fcmp {x y : UInt32} {op : CmpOp} (hd : decode M.2.1 pc = .ok (.fcmp op, 1)) (k : ae_T l G d M Po (pc + 1) lv (ae_i (Op.cmpValue (FP.fcmp x y) op) :: st) σ) : ae_T l G d M Po pc lv (ae_f y :: ae_f x :: st) σ := by
  intro p e s m args below meth c H locs d0 ls st0 σ0 hX hl hs hσ hP hS hd0
  obtain ⟨w1, r1, rfl, ⟨y0, rfl, hy⟩, hs1⟩ := ae_ss_c hs
  obtain ⟨w2, r2, rfl, ⟨x0, rfl, hx⟩, hs2⟩ := ae_ss_c hs1
  have ec : FP.fcmp x0 y0 = FP.fcmp x y := by
    show FP.Core.fcmp x0 y0 = FP.Core.fcmp x y
    unfold FP.Core.fcmp FP.Core.cmp
    rw [ae_decF hx, ae_decF hy]
  refine lv_fcmp hX.1 hX.2.1 hd ?_
  rw [ec]
  exact k p e s m args below meth c H locs d0 ls _ σ0 hX hl ⟨rfl, hs2⟩ hσ hP hS hd0
end AEB
theorem ae_dself (x : UInt64) : FP.dcmp x x = if isNaN64 x = true then none else some .eq := by
  by_cases h : isNaN64 x = true
  · rw [if_pos h]
    rw [ae_isN, FP.Core.dIsNaN_iff] at h
    exact (FP.Core.dcmp_none x x).mpr (Or.inl h)
  · rw [if_neg h]
    rw [ae_isN, FP.Core.dIsNaN_iff] at h
    exact FP.Core.dcmp_self h
theorem ae_fself (x : UInt32) : FP.fcmp x x = if isNaN32 x = true then none else some .eq := by
  by_cases h : isNaN32 x = true
  · rw [if_pos h]
    rw [ae_isNF, FP.Core.fIsNaN_iff] at h
    exact (FP.Core.fcmp_none x x).mpr (Or.inl h)
  · rw [if_neg h]
    rw [ae_isNF, FP.Core.fIsNaN_iff] at h
    exact FP.Core.fcmp_self h
theorem c_Jxe99ae_isNaN_b9ae7 {l : Launch} {G : ae_G} (d : Nat) (x : UInt64) (σ : ae_S) : ae_Met l G d yJxe99ae_isNaN_b9ae7 mJxe99ae_isNaN_b9ae7 [ae_d x] σ (ae_Po (some (ae_i (if isNaN64 x = true then 1 else 0))) σ) := by
  refine ae_enter (by decide) rfl (Nat.le_of_ble_eq_true rfl) ?_
  show ae_T l G d mJxe99ae_isNaN_b9ae7 (ae_Po (some (ae_i (if isNaN64 x = true then 1 else 0))) σ) 0 [(0, ae_d x)] [] σ
  refine ae_dload_n 0 dJxe99ae_isNaN_b9ae7_0 rfl ?_
  refine ae_dload_n 0 dJxe99ae_isNaN_b9ae7_1 rfl ?_
  refine ae_dcmp dJxe99ae_isNaN_b9ae7_2 ?_
  rw [ae_dself]
  by_cases h : isNaN64 x = true
  · rw [if_pos h, if_pos h]
    refine ae_if_eq 10 dJxe99ae_isNaN_b9ae7_3 rfl (fun h => absurd h (by decide)) (fun _ => ?_)
    refine ae_iconst 1 dJxe99ae_isNaN_b9ae7_6 (by decide) ?_
    refine ae_goto 11 dJxe99ae_isNaN_b9ae7_7 rfl ?_
    exact ae_iret dJxe99ae_isNaN_b9ae7_11 rfl (by decide) ⟨rfl, rfl⟩
  · rw [if_neg h, if_neg h]
    refine ae_if_eq 10 dJxe99ae_isNaN_b9ae7_3 rfl (fun _ => ?_) (fun h => absurd rfl h)
    refine ae_iconst 0 dJxe99ae_isNaN_b9ae7_10 (by decide) ?_
    exact ae_iret dJxe99ae_isNaN_b9ae7_11 rfl (by decide) ⟨rfl, rfl⟩
theorem c_Jxe99ae_doubleToLongBits_ccdee {l : Launch} {G : ae_G} (d : Nat) (x : UInt64) (σ : ae_S) : ae_Met l G (d + 1) yJxe99ae_doubleToLongBits_ccdee mJxe99ae_doubleToLongBits_ccdee [ae_d x] σ (ae_Po (some (ae_l (ae_db x))) σ) := by
  refine ae_enter (by decide) rfl (Nat.le_of_ble_eq_true rfl) ?_
  show ae_T l G (d + 1) mJxe99ae_doubleToLongBits_ccdee (ae_Po (some (ae_l (ae_db x))) σ) 0 [(0, ae_d x)] [] σ
  refine ae_dload_n 0 dJxe99ae_doubleToLongBits_ccdee_0 rfl ?_
  refine ae_cS1 (As := [ae_d x]) dJxe99ae_doubleToLongBits_ccdee_1 ww_1679 vy_Jxe99ae_isNaN_b9ae7 rfl rfl (Nat.le_of_ble_eq_true rfl) (c_Jxe99ae_isNaN_b9ae7 d x σ) ?_
  unfold ae_db
  cases h : isNaN64 x with
  | true =>
    rw [if_pos rfl, if_pos rfl]
    refine ae_if_ne 12 dJxe99ae_doubleToLongBits_ccdee_4 rfl (fun _ => ?_) (fun h => absurd h (by decide))
    refine ae_ldc2 dJxe99ae_doubleToLongBits_ccdee_12 ww_1685 ?_
    exact ae_lret dJxe99ae_doubleToLongBits_ccdee_15 rfl ⟨rfl, rfl⟩
  | false =>
    rw [if_neg (by simp), if_neg (by simp)]
    refine ae_if_ne 12 dJxe99ae_doubleToLongBits_ccdee_4 rfl (fun h => absurd rfl h) (fun _ => ?_)
    refine ae_dload_n 0 dJxe99ae_doubleToLongBits_ccdee_7 rfl ?_
    refine ae_draw h dJxe99ae_doubleToLongBits_ccdee_8 ww_1682 ww_1684 ww_1683 ww_24 (Nat.le_of_ble_eq_true rfl) ?_
    exact ae_lret dJxe99ae_doubleToLongBits_ccdee_11 rfl ⟨rfl, rfl⟩
theorem c_Jxf58ca_isNaN_12338 {l : Launch} {G : ae_G} (d : Nat) (x : UInt32) (σ : ae_S) : ae_Met l G d yJxf58ca_isNaN_12338 mJxf58ca_isNaN_12338 [ae_f x] σ (ae_Po (some (ae_i (if isNaN32 x = true then 1 else 0))) σ) := by
  refine ae_enterF (by decide +kernel) rfl (Nat.le_of_ble_eq_true rfl) ?_
  show ae_T l G d mJxf58ca_isNaN_12338 (ae_Po (some (ae_i (if isNaN32 x = true then 1 else 0))) σ) 0 [(0, ae_f x)] [] σ
  refine ae_fload_n 0 dJxf58ca_isNaN_12338_0 rfl ?_
  refine ae_fload_n 0 dJxf58ca_isNaN_12338_1 rfl ?_
  refine ae_fcmp dJxf58ca_isNaN_12338_2 ?_
  rw [ae_fself]
  by_cases h : isNaN32 x = true
  · rw [if_pos h, if_pos h]
    refine ae_if_eq 10 dJxf58ca_isNaN_12338_3 rfl (fun h => absurd h (by decide)) (fun _ => ?_)
    refine ae_iconst 1 dJxf58ca_isNaN_12338_6 (by decide) ?_
    refine ae_goto 11 dJxf58ca_isNaN_12338_7 rfl ?_
    exact ae_iret dJxf58ca_isNaN_12338_11 rfl (by decide) ⟨rfl, rfl⟩
  · rw [if_neg h, if_neg h]
    refine ae_if_eq 10 dJxf58ca_isNaN_12338_3 rfl (fun _ => ?_) (fun h => absurd rfl h)
    refine ae_iconst 0 dJxf58ca_isNaN_12338_10 (by decide) ?_
    exact ae_iret dJxf58ca_isNaN_12338_11 rfl (by decide) ⟨rfl, rfl⟩
theorem c_Jxf58ca_floatToIntBits_5c35a {l : Launch} {G : ae_G} (d : Nat) (x : UInt32) (σ : ae_S) : ae_Met l G (d + 1) yJxf58ca_floatToIntBits_5c35a mJxf58ca_floatToIntBits_5c35a [ae_f x] σ (ae_Po (some (ae_i (ae_fb x))) σ) := by
  refine ae_enterF (by decide +kernel) rfl (Nat.le_of_ble_eq_true rfl) ?_
  show ae_T l G (d + 1) mJxf58ca_floatToIntBits_5c35a (ae_Po (some (ae_i (ae_fb x))) σ) 0 [(0, ae_f x)] [] σ
  refine ae_fload_n 0 dJxf58ca_floatToIntBits_5c35a_0 rfl ?_
  refine ae_cS1 (As := [ae_f x]) dJxf58ca_floatToIntBits_5c35a_1 ww_1669 vy_Jxf58ca_isNaN_12338 rfl rfl (Nat.le_of_ble_eq_true rfl) (c_Jxf58ca_isNaN_12338 d x σ) ?_
  unfold ae_fb
  cases h : isNaN32 x with
  | true =>
    rw [if_pos rfl, if_pos rfl]
    refine ae_if_ne 12 dJxf58ca_floatToIntBits_5c35a_4 rfl (fun _ => ?_) (fun h => absurd h (by decide))
    refine ae_ldc dJxf58ca_floatToIntBits_5c35a_12 ww_1675 ?_
    exact ae_iret dJxf58ca_floatToIntBits_5c35a_14 rfl rfl ⟨rfl, rfl⟩
  | false =>
    rw [if_neg (by simp), if_neg (by simp)]
    refine ae_if_ne 12 dJxf58ca_floatToIntBits_5c35a_4 rfl (fun h => absurd rfl h) (fun _ => ?_)
    refine ae_fload_n 0 dJxf58ca_floatToIntBits_5c35a_7 rfl ?_
    refine ae_fraw h dJxf58ca_floatToIntBits_5c35a_8 ww_1672 ww_1674 ww_1673 ww_23 (Nat.le_of_ble_eq_true rfl) ?_
    exact ae_iret dJxf58ca_floatToIntBits_5c35a_11 rfl rfl ⟨rfl, rfl⟩
section AEB2
variable {l : Launch} {G : ae_G} {d : Nat} {M : ae_M} {Po : Option ae_V → ae_S → Prop} {pc : Nat} {lv : List (Nat × ae_V)} {st : List ae_V} {σ : ae_S}
theorem ae_dtl {idx : Nat} {x : UInt64} (hd : decode M.2.1 pc = .ok (.invokestatic idx, 3)) (hlk : Cond.methodLink M.1 idx yJxe99ae_doubleToLongBits_ccdee ∈ lw_g) (hrm : (st.map ae_cat).sum ≤ 8) (k : ae_T l G (d + 2) M Po (pc + 3) lv (ae_l (ae_db x) :: st) σ) : ae_T l G (d + 2) M Po pc lv (ae_d x :: st) σ :=
  ae_cS1 (As := [ae_d x]) hd hlk vy_Jxe99ae_doubleToLongBits_ccdee rfl rfl hrm (c_Jxe99ae_doubleToLongBits_ccdee d x σ) k
theorem ae_fti {idx : Nat} {x : UInt32} (hd : decode M.2.1 pc = .ok (.invokestatic idx, 3)) (hlk : Cond.methodLink M.1 idx yJxf58ca_floatToIntBits_5c35a ∈ lw_g) (hrm : (st.map ae_cat).sum ≤ 8) (k : ae_T l G (d + 2) M Po (pc + 3) lv (ae_i (ae_fb x) :: st) σ) : ae_T l G (d + 2) M Po pc lv (ae_f x :: st) σ :=
  ae_cS1 (As := [ae_f x]) hd hlk vy_Jxf58ca_floatToIntBits_5c35a rfl rfl hrm (c_Jxf58ca_floatToIntBits_5c35a d x σ) k
end AEB2
