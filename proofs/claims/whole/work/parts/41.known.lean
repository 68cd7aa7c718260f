/-! the classes and the array classes at the entry -/
theorem zn_ac {args : Array Value} {s : State} (hts : ∀ w ∈ lw_tbl, w.before args s = true) : ∃ gc : FieldType → ClassId, ∀ ty ∈ ae_at, ArrOfT s (gc ty) ty ∧ va_RA s (gc ty) ty := by
  have hp : ∀ ty : FieldType, Cond.arrayClass ty ∈ lw_tbl → ∃ c, ArrOfT s c ty ∧ s.vm.findClass ("[" ++ ty.toString) = some c := fun ty h => by
    obtain ⟨c, k, comp, h1, h2, h3⟩ := Cond.arrayClass_spec (hts _ h)
    exact ⟨c, fun n z => ⟨fun k h => (by cases h), k, h2, comp, h3⟩, h1⟩
  obtain ⟨c1, a1, b1⟩ := hp .int (by decide +kernel)
  obtain ⟨c2, a2, b2⟩ := hp .long (by decide +kernel)
  obtain ⟨c3, a3, b3⟩ := hp .boolean (by decide +kernel)
  obtain ⟨c4, a4, b4⟩ := hp .double (by decide +kernel)
  obtain ⟨p5, c5, k5, x5, y5, z5, w5⟩ := Cond.arrayOver_specA (hts (.arrayOver (.array .int)) (by decide +kernel))
  obtain ⟨p6, c6, k6, x6, -, y6, z6, w6⟩ := Cond.arrayOver_spec (hts (.arrayOver (.object "ByteViews$View")) (by decide +kernel))
  refine ⟨fun ty => match ty with | .long => c2 | .boolean => c3 | .double => c4 | .array _ => c5 | .object _ => c6 | _ => c1, fun ty hty => ?_⟩
  simp only [ae_at, List.mem_cons, List.not_mem_nil, or_false] at hty
  rcases hty with rfl | rfl | rfl | rfl | rfl | rfl
  · exact ⟨a1, b1⟩
  · exact ⟨a2, b2⟩
  · exact ⟨a3, b3⟩
  · exact ⟨a4, b4⟩
  · exact ⟨fun n z => ⟨fun k h => (by cases h), k5, y5, p5, z5⟩, w5⟩
  · exact ⟨fun n z => ⟨fun k h => (by cases h), k6, y6, p6, z6⟩, ⟨k6, p6, y6, z6, x6, w6⟩⟩
theorem zn_K {args : Array Value} {s : State} (hts : ∀ w ∈ lw_g, w.before args s = true) : ∃ D : va_G, va_K D vwCl [] s := by
  obtain ⟨c0, i0, h0⟩ := u_known (C := RX0) (T := TX0) (N := 6) (n := 6) hts lw_ws0 (hts _ ww_48)
  obtain ⟨c1, i1, h1⟩ := u_known (C := RX1) (T := TX1) (N := 4) (n := 4) hts lw_ws1 (hts _ ww_186)
  obtain ⟨c2, i2, h2⟩ := u_known (C := RX4) (T := TX4) (N := 14) (n := 14) hts lw_ws4 (hts _ ww_252)
  obtain ⟨c3, i3, h3⟩ := u_known (C := RX5) (T := TX5) (N := 9) (n := 9) hts lw_ws5 (hts _ ww_218)
  obtain ⟨c4, i4, h4⟩ := u_known (C := RX6) (T := TX6) (N := 4) (n := 4) hts lw_ws6 (hts _ ww_75)
  obtain ⟨c5, i5, h5⟩ := u_known (C := RX7) (T := TX7) (N := 2) (n := 2) hts lw_ws7 (hts _ ww_34)
  obtain ⟨c6, i6, h6⟩ := u_known (C := RX8) (T := TX8) (N := 9) (n := 9) hts lw_ws8 (hts _ ww_152)
  obtain ⟨c7, i7, h7⟩ := u_known (C := RX9) (T := TX9) (N := 11) (n := 11) hts lw_ws9 (hts _ ww_82)
  obtain ⟨c8, i8, h8⟩ := u_known (C := RX10) (T := TX10) (N := 2) (n := 2) hts lw_ws10 (hts _ ww_205)
  obtain ⟨c9, i9, h9⟩ := u_known (C := RX11) (T := TX11) (N := 9) (n := 9) hts lw_ws11 (hts _ ww_26)
  obtain ⟨c10, i10, h10⟩ := u_known (C := RX12) (T := TX12) (N := 52) (n := 52) hts lw_ws12 (hts _ ww_1293)
  refine ⟨(fun k => ([c0, c1, c2, c3, c4, c5, c6, c7, c8, c9, c10] : List ClassId).getD k c0, fun k => ([i0, i1, i2, i3, i4, i5, i6, i7, i8, i9, i10] : List (Nat → Nat)).getD k i0), fun k q hq => ?_, fun k q h => by simp at h⟩
  match k, hq with
  | 0, hq => cases hq; exact h0
  | 1, hq => cases hq; exact h1
  | 2, hq => cases hq; exact h2
  | 3, hq => cases hq; exact h3
  | 4, hq => cases hq; exact h4
  | 5, hq => cases hq; exact h5
  | 6, hq => cases hq; exact h6
  | 7, hq => cases hq; exact h7
  | 8, hq => cases hq; exact h8
  | 9, hq => cases hq; exact h9
  | 10, hq => cases hq; exact h10
  | k + 11, hq => simp [vwCl] at hq
