/-! THE WALK from the entry, out of the 32 pure statements and of the start -/
theorem zs_dB : ∀ j, j < 9 → defaultValue (ae_ty 9 j) = vp_V [.null, .null, .null, .null, .null, .null, .null, .null, .null] j := by decide +kernel
theorem zs_dM : ∀ j, j < 52 → defaultValue (ae_ty 10 j) = vp_V [.int 0, .null, .null, .null, .null, .int 0, .null, .null, .null, .null, .null, .null, .null, .null, .null, .null, .null, .int 0, .int 0, .null, .int 0, .int 0, .int 0, .int 0, .int 0, .int 0, .int 0, .int 0, .long 0, .long 0, .int 0, .int 0, .null, .null, .null, .null, .null, .null, .int 0, .int 0, .int 0, .int 0, .null, .int 0, .null, .int 0, .long 0, .double 0, .null, .null, .null, .int 0] j := by decide +kernel
set_option maxHeartbeats 4000000 in
theorem zs_start {Inv : ae_S → Prop} (hAll : zl_All Inv) (hI0 : Inv zw_0) {p : Program} {e : Env} {s : State} {m : MethodId} {below : List Frame} {meth : Method} {c : Code} (l : Launch) {b L : Nat} {xs : Nat → Int32} (hL : L ≤ 3072) (C0 : lw_At p s m meth c b L xs) : W p l e room_1 s m #[Value.ref b] below meth c s.heap [] 0 0 (lw_Z below #[Value.ref b] s) (entryFrame m ([Value.ref b] : List Value).toArray 4) := by
  obtain ⟨hx, hb, hr, hml, hown, hts, hX, hbl, hlocks, hgv⟩ := id C0
  have htg : ∀ w ∈ lw_g, w.before #[Value.ref b] s = true := fun w h => hts w (List.mem_filter.mp h).1
  have hA : ∀ q : Nat, s.heap.size ≤ q → uc_A s.heap.size q := fun _ h => h
  obtain ⟨D, hKD⟩ := zn_K htg
  obtain ⟨gc, hgc⟩ := zn_ac hts
  obtain ⟨kad, kr, sK, sV, n1, n2, n3, n4, n5, n6, n7, n8, n9⟩ := zn_N (A := uc_A s.heap.size) hts (flat_of_before _ hgv) (fun a h => Nat.not_le.mpr h)
  have hUK : uc_K D gc s.heap.size (kad 0) s := ⟨hKD, hgc, va_AO.of (hts _ (by decide +kernel)), hts (.arrayOver (.array .int)) (by decide +kernel), (n1.1 0 (by decide)).1, Nat.le_refl _⟩
  have hS : va_S (uc_A s.heap.size) s.heap s.heap [] := va_S.rf
  have hP : va_P D vwCl [] s.heap := fun k q h => by simp at h
  have hD : va_D (uc_A s.heap.size) [] := ⟨fun i j p q h => by simp at h, fun k q h => by simp at h⟩
  have hl := lv_entry ([.ref b]) (n := 4) (Nat.le_of_ble_eq_true rfl)
  rw [lg_entry_eq]
  generalize (lg_sl ([.ref b]) ++ List.replicate (4 - (lg_sl ([.ref b])).length) Slot.unset).toArray = ls at hl ⊢
  have hl : lv_has ls 4 [(0, .ref b)] := hl
  obtain ⟨gB1, gB2, -⟩ := ae_cw (ci := 9) (C := RX11) (T := TX11) (N := 9) rfl
  obtain ⟨gM1, gM2, -⟩ := ae_cw (ci := 10) (C := RX12) (T := TX12) (N := 52) rfl
  refine va_new (R := room_1) (Ts := lw_g) (ci := 9) (fs := [.null, .null, .null, .null, .null, .null, .null, .null, .null]) hx hb htg gB1 (ae_ty 9) gB2 hown (htg _ ww_25) (htg _ ww_26) (htg _ ww_1) hKD hP hD hS hA rfl zs_dB (Nat.le_of_ble_eq_true rfl) (Nat.le_of_ble_eq_true rfl) dL_law_0 (fun q H hP hD hS => ?_)
  refine lv_dup hx hb dL_law_3 rfl ?_
  refine zs_call (As := []) (st := [.ref q]) hx hb hml hown htg hUK dL_law_4 ww_27 iy_X11_init rfl (show (1 : Nat) ≤ 8 by decide) (show 0 + 3 ≤ 2040 by omega) (by omega) (by omega) (k_X11_init 0) hl.1 hP hD hS (fun w H locs hw hP hD hS => ?_)
  obtain ⟨q1, q1_1, q2, q2_1, q3, q3_1, q3_2, q3_3, r3_3, q4, qs, qc, ad, q5, q5_1, q5_2, q5_3, q5_4, q6, q6_1, q6_2, q6_3, q7, q8, q8_1, q8_2, q8_3, q9, q9_1, q9_2, q9_3, r9_3, q9_4, q9_5, q9_6, q10, rfl⟩ := hw
  refine lv_astore_n (lv' := [(1, .ref q), (0, .ref b)]) hx hb dL_law_7 rfl hl (by decide) rfl (fun ls hl => ?_)
  refine va_new (R := room_1) (Ts := lw_g) (ci := 10) (fs := [.int 0, .null, .null, .null, .null, .int 0, .null, .null, .null, .null, .null, .null, .null, .null, .null, .null, .null, .int 0, .int 0, .null, .int 0, .int 0, .int 0, .int 0, .int 0, .int 0, .int 0, .int 0, .long 0, .long 0, .int 0, .int 0, .null, .null, .null, .null, .null, .null, .int 0, .int 0, .int 0, .int 0, .null, .int 0, .null, .int 0, .long 0, .double 0, .null, .null, .null, .int 0]) hx hb htg gM1 (ae_ty 10) gM2 hown (htg _ ww_1292) (htg _ ww_1293) (htg _ ww_13) hKD hP hD hS hA rfl zs_dM (by show _ ≤ 600000; omega) (by show _ ≤ 7302250; omega) dL_law_8 (fun hm H hP hD hS => ?_)
  have hP := va_P.swap (a := []) hP
  have hD := va_D.swap (a := []) hD
  refine lv_dup hx hb dL_law_11 rfl ?_
  refine zs_call (As := []) (st := [.ref hm]) hx hb hml hown htg hUK dL_law_12 ww_1294 iy_X12_init rfl (show (1 : Nat) ≤ 8 by decide) (show 0 + 1 ≤ 2040 by omega) (by omega) (by omega) (k_X12_init 0) hl.1 hP hD hS (fun w H locs hw hP hD hS => ?_)
  obtain ⟨m1, m2, m3, m4, m5, m6, m7, m8, m9, m10, m11, m12, m13, m14, m15, m16, m17, m18, m19, m20, m21, m22, m23, m24, m25, m26, m27, rfl⟩ := hw
  refine lv_astore_n (lv' := [(2, .ref hm), (1, .ref q), (0, .ref b)]) hx hb dL_law_15 rfl hl (by decide) rfl (fun ls hl => ?_)
  refine lv_iconst (v := 0) hx hb dL_law_16 (by decide) ?_
  refine lv_istore_n (lv' := [(3, .int 0), (2, .ref hm), (1, .ref q), (0, .ref b)]) hx hb dL_law_17 rfl hl (by decide) rfl (fun ls hl => ?_)
  refine W.base (W.widen (k := 600000) (n := 7302250) (by omega) (by omega) ?_)
  have hall := zw_all (D := D) (gc := gc) (A := uc_A s.heap.size) (K := zs_K b kad kr sK sV) (h0 := q) (hm := hm) (q1 := q1) (q1_1 := q1_1) (q2 := q2) (q2_1 := q2_1) (q3 := q3) (q3_1 := q3_1) (q3_2 := q3_2) (q3_3 := q3_3) (r3_3 := r3_3) (q4 := q4) (qs := qs) (qc := qc) (ad := ad) (q5 := q5) (q5_1 := q5_1) (q5_2 := q5_2) (q5_3 := q5_3) (q5_4 := q5_4) (q6 := q6) (q6_1 := q6_1) (q6_2 := q6_2) (q6_3 := q6_3) (q7 := q7) (q8 := q8) (q8_1 := q8_1) (q8_2 := q8_2) (q8_3 := q8_3) (q9 := q9) (q9_1 := q9_1) (q9_2 := q9_2) (q9_3 := q9_3) (r9_3 := r9_3) (q9_4 := q9_4) (q9_5 := q9_5) (q9_6 := q9_6) (q10 := q10) (m1 := m1) (m2 := m2) (m3 := m3) (m4 := m4) (m5 := m5) (m6 := m6) (m7 := m7) (m8 := m8) (m9 := m9) (m10 := m10) (m11 := m11) (m12 := m12) (m13 := m13) (m14 := m14) (m15 := m15) (m16 := m16) (m17 := m17) (m18 := m18) (m19 := m19) (m20 := m20) (m21 := m21) (m22 := m22) (m23 := m23) (m24 := m24) (m25 := m25) (m26 := m26) (m27 := m27)
  have hP : va_P D vwCl (zw_w gc (kad 0) q hm q1 q1_1 q2 q2_1 q3 q3_1 q3_2 q3_3 r3_3 q4 qs qc ad q5 q5_1 q5_2 q5_3 q5_4 q6 q6_1 q6_2 q6_3 q7 q8 q8_1 q8_2 q8_3 q9 q9_1 q9_2 q9_3 r9_3 q9_4 q9_5 q9_6 q10 m1 m2 m3 m4 m5 m6 m7 m8 m9 m10 m11 m12 m13 m14 m15 m16 m17 m18 m19 m20 m21 m22 m23 m24 m25 m26 m27) H := hP
  have hD : va_D (uc_A s.heap.size) (zw_w gc (kad 0) q hm q1 q1_1 q2 q2_1 q3 q3_1 q3_2 q3_3 r3_3 q4 qs qc ad q5 q5_1 q5_2 q5_3 q5_4 q6 q6_1 q6_2 q6_3 q7 q8 q8_1 q8_2 q8_3 q9 q9_1 q9_2 q9_3 r9_3 q9_4 q9_5 q9_6 q10 m1 m2 m3 m4 m5 m6 m7 m8 m9 m10 m11 m12 m13 m14 m15 m16 m17 m18 m19 m20 m21 m22 m23 m24 m25 m26 m27) := hD
  have hDw := zw_D hall hD
  have hN := zs_N (D := D) (gc := gc) (A := uc_A s.heap.size) (w := zw_w gc (kad 0) q hm q1 q1_1 q2 q2_1 q3 q3_1 q3_2 q3_3 r3_3 q4 qs qc ad q5 q5_1 q5_2 q5_3 q5_4 q6 q6_1 q6_2 q6_3 q7 q8 q8_1 q8_2 q8_3 q9 q9_1 q9_2 q9_3 r9_3 q9_4 q9_5 q9_6 q10 m1 m2 m3 m4 m5 m6 m7 m8 m9 m10 m11 m12 m13 m14 m15 m16 m17 m18 m19 m20 m21 m22 m23 m24 m25 m26 m27) (b := b) n1 n2 n3 n4 n5 n6 n7 n8 n9
  refine zl_loop (G := zw_G D gc (uc_A s.heap.size) (zs_K b kad kr sK sV) (zw_w gc (kad 0) q hm q1 q1_1 q2 q2_1 q3 q3_1 q3_2 q3_3 r3_3 q4 qs qc ad q5 q5_1 q5_2 q5_3 q5_4 q6 q6_1 q6_2 q6_3 q7 q8 q8_1 q8_2 q8_3 q9 q9_1 q9_2 q9_3 r9_3 q9_4 q9_5 q9_6 q10 m1 m2 m3 m4 m5 m6 m7 m8 m9 m10 m11 m12 m13 m14 m15 m16 m17 m18 m19 m20 m21 m22 m23 m24 m25 m26 m27)) hAll hL (L + 1) 0 (by omega) (by omega) zw_0 hI0 p e s m _ below meth c H locs s.drawn ls [] zw_0 ⟨hx, hb, hml, hown, htg, hr, hlocks, hKD, hgc, hDw, hN⟩ ⟨hl.1, hl.2.1, fun z hz => ?_⟩ trivial ⟨rfl, rfl, fun g i k => by simp [alike64], rfl⟩ (zw_P hall hP) hS (Drawn.sameBut.refl s.drawn lw_cs) ⟨rfl, hX, hbl, rfl, rfl⟩
  have hz2 : z = (0, ae_r (some (59, 0))) ∨ z = (1, ae_r (some (0, 0))) ∨ z = (2, ae_r (some (30, 0))) ∨ z = (3, ae_i (nI 0)) := by simpa using hz
  rcases hz2 with rfl | rfl | rfl | rfl
  · exact ⟨.ref b, lv_at hl 3 rfl, rfl⟩
  · exact ⟨.ref q, lv_at hl 2 rfl, rfl⟩
  · exact ⟨.ref hm, lv_at hl 1 rfl, rfl⟩
  · exact ⟨.int 0, lv_at hl 0 rfl, rfl⟩
