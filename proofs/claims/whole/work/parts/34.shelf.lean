/-! the Shelf made -/
theorem fk_RX6_11 : ae_FL RX6 11 4 0 (.array (.object "ByteViews$View")) false := ⟨_, _, _, rfl, by decide, ww_138, rfl, rfl, rfl⟩
theorem fk_RX6_17 : ae_FL RX6 17 4 1 (.array (.object "ByteViews$View")) false := ⟨_, _, _, rfl, by decide, ww_139, rfl, rfl, rfl⟩
abbrev mX6_init : ae_M := (RX6, cX6_init, 2, none)
theorem iy_X6_init : uc_IY yX6_init mX6_init 0 := ⟨ww_77, ww_4, ww_78, rfl, rfl, ⟨by decide, by decide, by decide +kernel⟩, by decide⟩
theorem dX6_init_0 : decode cX6_init 0 = .ok (.aload_n 0, 1) := by decide +kernel
theorem dX6_init_1 : decode cX6_init 1 = .ok (.invokespecial 3, 3) := by decide +kernel
theorem dX6_init_4 : decode cX6_init 4 = .ok (.aload_n 0, 1) := by decide +kernel
theorem dX6_init_5 : decode cX6_init 5 = .ok (.bipush 16, 2) := by decide +kernel
theorem dX6_init_7 : decode cX6_init 7 = .ok (.anewarray 9, 3) := by decide +kernel
theorem dX6_init_10 : decode cX6_init 10 = .ok (.putfield 11, 3) := by decide +kernel
theorem dX6_init_13 : decode cX6_init 13 = .ok (.aload_n 0, 1) := by decide +kernel
theorem dX6_init_14 : decode cX6_init 14 = .ok (.bipush 16, 2) := by decide +kernel
theorem dX6_init_16 : decode cX6_init 16 = .ok (.anewarray 9, 3) := by decide +kernel
theorem dX6_init_19 : decode cX6_init 19 = .ok (.putfield 17, 3) := by decide +kernel
theorem dX6_init_22 : decode cX6_init 22 = .ok (.iconst 0, 1) := by decide +kernel
theorem dX6_init_23 : decode cX6_init 23 = .ok (.istore_n 1, 1) := by decide +kernel
theorem dX6_init_24 : decode cX6_init 24 = .ok (.iload_n 1, 1) := by decide +kernel
theorem dX6_init_25 : decode cX6_init 25 = .ok (.bipush 16, 2) := by decide +kernel
theorem dX6_init_27 : decode cX6_init 27 = .ok (.if_icmp .ge 35, 3) := by decide +kernel
theorem dX6_init_30 : decode cX6_init 30 = .ok (.aload_n 0, 1) := by decide +kernel
theorem dX6_init_31 : decode cX6_init 31 = .ok (.getfield 11, 3) := by decide +kernel
theorem dX6_init_34 : decode cX6_init 34 = .ok (.iload_n 1, 1) := by decide +kernel
theorem dX6_init_35 : decode cX6_init 35 = .ok (.new 9, 3) := by decide +kernel
theorem dX6_init_38 : decode cX6_init 38 = .ok (.dup, 1) := by decide +kernel
theorem dX6_init_39 : decode cX6_init 39 = .ok (.invokespecial 20, 3) := by decide +kernel
theorem dX6_init_42 : decode cX6_init 42 = .ok (.aastore, 1) := by decide +kernel
theorem dX6_init_43 : decode cX6_init 43 = .ok (.aload_n 0, 1) := by decide +kernel
theorem dX6_init_44 : decode cX6_init 44 = .ok (.getfield 17, 3) := by decide +kernel
theorem dX6_init_47 : decode cX6_init 47 = .ok (.iload_n 1, 1) := by decide +kernel
theorem dX6_init_48 : decode cX6_init 48 = .ok (.new 9, 3) := by decide +kernel
theorem dX6_init_51 : decode cX6_init 51 = .ok (.dup, 1) := by decide +kernel
theorem dX6_init_52 : decode cX6_init 52 = .ok (.invokespecial 20, 3) := by decide +kernel
theorem dX6_init_55 : decode cX6_init 55 = .ok (.aastore, 1) := by decide +kernel
theorem dX6_init_56 : decode cX6_init 56 = .ok (.iinc 1 1, 3) := by decide +kernel
theorem dX6_init_59 : decode cX6_init 59 = .ok (.goto (-35), 3) := by decide +kernel
theorem dX6_init_62 : decode cX6_init 62 = .ok (.return_, 1) := by decide +kernel
theorem uc_vd : ∀ j, j < 11 → defaultValue (ae_ty 7 j) = vp_V [.null, .null, .null, .long 0, .null, .int 0, .int 0, .int 0, .int 0, .int 0, .int 0] j := by decide +kernel
def kp_X6 (gc : FieldType → ClassId) (u8 h0 : Nat) (ws : va_W) (w : va_W) : Prop := ∃ (qs qc : Nat) (ad : Nat → Nat → Nat), w = (h0, .inr (4, [.ref qs, .ref qc, .int 0, .int 0])) :: (qs, .inl (gc (.object "ByteViews$View"), 16, .inr (.inr (.inr (.inr (uc_f ad 16 0)))))) :: (qc, .inl (gc (.object "ByteViews$View"), 16, .inr (.inr (.inr (.inr (uc_f ad 16 4)))))) :: (ws ++ uc_L gc u8 ad 16)
theorem kt_X6_24 {l : Launch} {D : va_G} {gc : FieldType → ClassId} {b u8 h0 : Nat} {ws : va_W} (d : Nat) {qs qc : Nat} : ∀ (m n : Nat) (ad : Nat → Nat → Nat), n + m = 16 → uc_T l D gc b u8 (d + 2) 130 1152 mX6_init (kp_X6 gc u8 h0 ws) 24 [(1, .int (Int32.ofNat n)), (0, .ref h0)] [] ((h0, .inr (4, [.ref qs, .ref qc, .int 0, .int 0])) :: (qs, .inl (gc (.object "ByteViews$View"), 16, .inr (.inr (.inr (.inr (uc_f ad n 0)))))) :: (qc, .inl (gc (.object "ByteViews$View"), 16, .inr (.inr (.inr (.inr (uc_f ad n 4)))))) :: (ws ++ uc_L gc u8 ad n)) (2 + 8 * n) (32 + 70 * n)
  | 0, n, ad, h => by
    have hn : n = 16 := by omega
    subst hn
    refine uc_iload_n 0 dX6_init_24 rfl ?_
    refine uc_bipush 16 dX6_init_25 (by decide) ?_
    refine uc_icmp_ge 62 dX6_init_27 (by decide) (fun _ => ?_) (fun h => absurd (by decide) h)
    exact uc_vret dX6_init_62 rfl rfl ⟨qs, qc, ad, rfl⟩
  | m + 1, n, ad, h => by
    obtain ⟨i1, i2, i3, i4⟩ := uc_i16 n (by omega)
    refine uc_iload_n 0 dX6_init_24 rfl ?_
    refine uc_bipush 16 dX6_init_25 (by decide) ?_
    refine uc_icmp_ge 62 dX6_init_27 (by decide) (fun h => absurd h i1) (fun _ => ?_)
    refine uc_aload_n 1 dX6_init_30 rfl ?_
    refine uc_get (k0 := 0) dX6_init_31 fk_RX6_11 rfl rfl ?_
    refine uc_iload_n 0 dX6_init_34 rfl ?_
    refine uc_new (ci := 7) (fs := [.null, .null, .null, .long 0, .null, .int 0, .int 0, .int 0, .int 0, .int 0, .int 0]) dX6_init_35 rfl ww_80 ww_82 ww_5 uc_vd (by omega) (by omega) (fun v1 => ?_)
    refine uc_rotF ?_
    refine uc_dup dX6_init_38 rfl ?_
    refine uc_call (As := []) dX6_init_39 ww_83 iy_X9_init rfl rfl (show (3 : Nat) ≤ 8 by decide) (by omega) (by omega) (by omega) (k_X9_init d) (fun w hw => ?_)
    obtain ⟨a1, a2, a3, rfl⟩ := hw
    refine uc_ast (q0 := 2) (qk := 0) dX6_init_42 rfl rfl i2 ?_
    refine uc_rotE ?_
    refine uc_nw (ws' := (h0, .inr (4, [.ref qs, .ref qc, .int 0, .int 0])) :: (qs, .inl (gc (.object "ByteViews$View"), 16, .inr (.inr (.inr (.inr (va_up (uc_f ad n 0) n (some v1))))))) :: (qc, .inl (gc (.object "ByteViews$View"), 16, .inr (.inr (.inr (.inr (uc_f ad n 4)))))) :: (ws ++ (uc_L gc u8 ad n ++ uc_vb gc u8 v1 a1 a2 a3))) (by rw [i3]; simp only [List.set_cons_succ, List.set_cons_zero, List.cons_append, List.nil_append, List.append_assoc, uc_vb]) ?_
    refine uc_aload_n 1 dX6_init_43 rfl ?_
    refine uc_get (k0 := 0) dX6_init_44 fk_RX6_17 rfl rfl ?_
    refine uc_iload_n 0 dX6_init_47 rfl ?_
    refine uc_new (ci := 7) (fs := [.null, .null, .null, .long 0, .null, .int 0, .int 0, .int 0, .int 0, .int 0, .int 0]) dX6_init_48 rfl ww_80 ww_82 ww_5 uc_vd (by omega) (by omega) (fun v2 => ?_)
    refine uc_rotF ?_
    refine uc_dup dX6_init_51 rfl ?_
    refine uc_call (As := []) dX6_init_52 ww_83 iy_X9_init rfl rfl (show (3 : Nat) ≤ 8 by decide) (by omega) (by omega) (by omega) (k_X9_init d) (fun w hw => ?_)
    obtain ⟨b1, b2, b3, rfl⟩ := hw
    refine uc_ast (q0 := 3) (qk := 0) dX6_init_55 rfl rfl i2 ?_
    refine uc_rotE ?_
    refine uc_iinc 0 dX6_init_56 rfl i4 (by decide) rfl ?_
    refine uc_goto 24 dX6_init_59 (by decide) ?_
    have hk := kt_X6_24 (l := l) (D := D) (gc := gc) (b := b) (u8 := u8) (h0 := h0) (ws := ws) d (qs := qs) (qc := qc) m (n + 1) (uc_ad ad n (fun j => ([v1, a1, a2, a3, v2, b1, b2, b3] : List Nat).getD j 0)) (by omega)
    rw [uc_L_succ, uc_L_ad, uc_ad_at, ← uc_f_up ad n 0 v1 _ rfl, ← uc_f_up ad n 4 v2 _ rfl] at hk
    rw [show 2 + 8 * n + 1 + 3 + 1 + 3 = 2 + 8 * (n + 1) by omega, show 32 + 70 * n + 11 + 24 + 11 + 24 = 32 + 70 * (n + 1) by omega]
    refine uc_nw ?_ hk
    rw [i3]
    simp only [List.set_cons_succ, List.set_cons_zero, List.cons_append, List.nil_append, List.append_assoc, uc_vb, List.getD_cons_zero, List.getD_cons_succ]
theorem k_X6_init {l : Launch} {D : va_G} {gc : FieldType → ClassId} {b u8 h0 : Nat} {ws : va_W} (d : Nat) : uc_M l D gc b u8 yX6_init mX6_init [.ref h0] ((h0, .inr (4, [.null, .null, .int 0, .int 0])) :: ws) (kp_X6 gc u8 h0 ws) (d + 2) 130 1152 := by
  refine uc_enter rfl rfl rfl rfl (show (1 : Nat) ≤ 2 by decide) ?_
  refine uc_aload_n 0 dX6_init_0 rfl ?_
  refine uc_objInit dX6_init_1 ww_79 ww_31 ww_32 (by omega) (show (0 : Nat) ≤ 8 by decide) ?_
  refine uc_aload_n 0 dX6_init_4 rfl ?_
  refine uc_bipush 16 dX6_init_5 (by decide) ?_
  refine uc_newq 16 dX6_init_7 ww_80 (by decide) (by decide +kernel) (by decide) (by decide) (by decide) (fun qs => ?_)
  refine uc_put (k0 := 0) dX6_init_10 fk_RX6_11 rfl rfl rfl (show (0 : Nat) < 4 by decide) ?_
  refine uc_aload_n 0 dX6_init_13 rfl ?_
  refine uc_bipush 16 dX6_init_14 (by decide) ?_
  refine uc_newq 16 dX6_init_16 ww_80 (by decide) (by decide +kernel) (by decide) (by decide) (by decide) (fun qc => ?_)
  refine uc_put (k0 := 0) dX6_init_19 fk_RX6_17 rfl rfl rfl (show (1 : Nat) < 4 by decide) ?_
  refine uc_iconst 0 dX6_init_22 (by decide) ?_
  refine uc_istore_n dX6_init_23 (by decide) rfl ?_
  have hk := kt_X6_24 (l := l) (D := D) (gc := gc) (b := b) (u8 := u8) (h0 := h0) (ws := ws) d (qs := qs) (qc := qc) 16 0 (fun _ _ => 0) rfl
  have e0 : ∀ j, uc_f (fun _ _ => 0) 0 j = fun _ => none := fun j => by funext k; simp [uc_f]
  rw [e0, e0] at hk
  refine uc_nw (ws' := ([(h0, .inr (4, [.ref qs, .ref qc, .int 0, .int 0]))] ++ ws) ++ [(qs, .inl (gc (.object "ByteViews$View"), 16, .inr (.inr (.inr (.inr (fun _ => none)))))), (qc, .inl (gc (.object "ByteViews$View"), 16, .inr (.inr (.inr (.inr (fun _ => none))))))]) (by simp only [List.set_cons_zero, List.cons_append, List.nil_append, List.append_assoc, List.set_cons_succ]) ?_
  refine uc_swap ?_
  refine uc_nw ?_ hk
  simp [uc_L]
