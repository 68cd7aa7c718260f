/-! the constants all together -/
theorem zn_N {args : Array Value} {s : State} {A : Nat → Prop} (hts : ∀ w ∈ lw_tbl, w.before args s = true) (hs : ∀ w ∈ zn_f, w.before args s = true) (hA : ∀ a : Nat, a < s.heap.size → ¬ A a) :
    ∃ (kad : Nat → Nat) (kr : Nat) (sK sV : Nat → Nat), va_En "ByteViews$Kind" "LByteViews$Kind;" ae_kn ae_kF kad A s s.heap ∧
      (∀ i : Nat, i < 9 → va_OF "ByteViews$Kind" "word" "Ljava/lang/String;" (.ref (sK (ae_kw i).val)) (kad i) A s s.heap) ∧
      va_Z "ByteViews" "KINDS" "[LByteViews$Kind;" (.ref kr) A s s.heap ∧
      va_T (.object "ByteViews$Kind") kr 9 (fun j => .ref (kad j)) A s s.heap ∧
      vk_S 28 zn_l ae_sx sK sV A s s.heap ∧ (∀ q ∈ ae_sr, vk_R q.1 q.2.1 q.2.2.1 (sK q.2.2.2.val) s) ∧
      va_Z "java/lang/String" "COMPACT_STRINGS" "Z" (.int 1) A s s.heap ∧
      va_Zq "jdk/internal/util/Preconditions" "SIOOBE_FORMATTER" "Ljava/util/function/BiFunction;" A s s.heap ∧
      va_Nw (.fieldLinkNest "ByteViews$Tokens" 112 "ByteViews" "KINDS" "[LByteViews$Kind;" "ByteViews") s := by
  obtain ⟨sK, sV, hS, hSe⟩ := zn_S (A := A) hs hA
  obtain ⟨kad, hE, hEe⟩ := va_Enof2 (args := args) (s := s) (E := "ByteViews$Kind") (d := "LByteViews$Kind;") (nm := ae_kn) (F := ae_kF) (A := A) (fun i hi => hts _ (zn_a i hi)) (hts (.initialized "ByteViews$Kind") (by decide +kernel)) (fun i hi => hs _ (zn_b i hi)) (fun q hq i hi => hs _ (zn_c q hq i hi)) (fun i j hi hj hij => (zn_d i hi j hj hij).imp (hs _) (hs _)) hA
  obtain ⟨kr, hk1, hk2⟩ := va_Tof (args := args) (s := s) (tm := .static "ByteViews" "KINDS" "[LByteViews$Kind;") (ty := .object "ByteViews$Kind") (N := 9) (f := fun j => .ref (kad j)) (A := A) (by decide) (hs _ (by decide +kernel)) (va_eqt (hs _ (by decide +kernel))) (fun j hj => zn_eq (hs _ (zn_h j hj)) (hEe j hj)) hA
  refine ⟨kad, kr, sK, sV, hE, fun i hi => ?_, va_Zref (hts _ (by decide +kernel)) (hts _ (by decide +kernel)) hk1 hA, hk2, hS, fun q hq => ?_, va_Zof (hts _ (by decide +kernel)) (hts _ (by decide +kernel)) (va_eqt (hs _ (by decide +kernel))) hA, va_Zqof (hts _ (by decide +kernel)) (hts _ (by decide +kernel)) (hs _ (by decide +kernel)) hA, va_Nw.of rfl (hts _ (by decide +kernel))⟩
  · have h1 : (ae_kw i).val < 28 := by
      have h9 : ∀ j, j < 9 → (ae_kw j).val < 28 := by decide
      exact h9 i hi
    have h2 := zn_eq2 (hs _ (zn_g i hi)) (hSe _ h1)
    exact vk_OFof (hEe i hi) (zn_eq (hs _ (zn_e i hi)) h2) hA
  · have h1 : q.2.2.2.val < 28 := by
      have h9 : ∀ z ∈ ae_sr, z.2.2.2.val < 28 := by decide +kernel
      exact h9 q hq
    refine vk_R.of (A := args) (hts _ (zn_9 q hq)) ?_
    rcases zn_8 q hq with h | h
    · have h3 := hSe _ h1
      unfold zn_t at h3
      rw [← h] at h3
      exact h3
    · exact zn_eq2 (hs _ h) (hSe _ h1)
