/-! from the law's entry to its loop -/
def zs_K (b : Nat) (kad : Nat → Nat) (kr : Nat) (sK sV : Nat → Nat) : Nat → Fin 32 → Nat := fun g i => if g = 59 then b else if g = 60 then kad i.val else if g = 61 then kr else if g = 62 then sK i.val else sV i.val
theorem zs_m {i : Nat} (h : i < 32) : (Fin.ofNat 32 i).val = i := Nat.mod_eq_of_lt h
theorem zs_N {D : va_G} {gc : FieldType → ClassId} {A : Nat → Prop} {w : va_W} {s : State} {b kr : Nat} {kad sK sV : Nat → Nat}
    (n1 : va_En "ByteViews$Kind" "LByteViews$Kind;" ae_kn ae_kF kad A s s.heap)
    (n2 : ∀ i : Nat, i < 9 → va_OF "ByteViews$Kind" "word" "Ljava/lang/String;" (.ref (sK (ae_kw i).val)) (kad i) A s s.heap)
    (n3 : va_Z "ByteViews" "KINDS" "[LByteViews$Kind;" (.ref kr) A s s.heap)
    (n4 : va_T (.object "ByteViews$Kind") kr 9 (fun j => .ref (kad j)) A s s.heap)
    (n5 : vk_S 28 zn_l ae_sx sK sV A s s.heap) (n6 : ∀ q ∈ ae_sr, vk_R q.1 q.2.1 q.2.2.1 (sK q.2.2.2.val) s)
    (n7 : va_Z "java/lang/String" "COMPACT_STRINGS" "Z" (.int 1) A s s.heap)
    (n8 : va_Zq "jdk/internal/util/Preconditions" "SIOOBE_FORMATTER" "Ljava/util/function/BiFunction;" A s s.heap)
    (n9 : va_Nw (.fieldLinkNest "ByteViews$Tokens" 112 "ByteViews" "KINDS" "[LByteViews$Kind;" "ByteViews") s) : ae_N (zw_G D gc A (zs_K b kad kr sK sV) w) s := by
  have e60 : ∀ i, i < 32 → ae_ga (zw_G D gc A (zs_K b kad kr sK sV) w) 60 (Fin.ofNat 32 i) = kad i := fun i h => by
    show kad (Fin.ofNat 32 i).val = kad i
    rw [zs_m h]
  have e62 : ∀ i, i < 32 → ae_ga (zw_G D gc A (zs_K b kad kr sK sV) w) 62 (Fin.ofNat 32 i) = sK i := fun i h => by
    show sK (Fin.ofNat 32 i).val = sK i
    rw [zs_m h]
  have e63 : ∀ i, i < 32 → ae_ga (zw_G D gc A (zs_K b kad kr sK sV) w) 63 (Fin.ofNat 32 i) = sV i := fun i h => by
    show sV (Fin.ofNat 32 i).val = sV i
    rw [zs_m h]
  have l9 : ae_kn.length = 9 := rfl
  refine ⟨⟨fun i hi => ?_, fun i j hi hj h => ?_⟩, fun i hi => ?_, n3, ?_, ⟨fun i hi => ?_, fun i j hi hj h => ?_⟩, n6, n7, n8, n9⟩
  · show va_Z _ _ _ (.ref (ae_ga _ 60 (Fin.ofNat 32 i))) _ _ _ ∧ va_O _ (ae_ga _ 60 (Fin.ofNat 32 i)) _ _ _ ∧ _
    have h9 := n1.1 i hi
    rw [e60 i (by omega)]
    refine ⟨h9.1, h9.2.1, fun q hq => ?_⟩
    show va_OF _ _ _ _ (ae_ga _ 60 (Fin.ofNat 32 i)) _ _ _
    rw [e60 i (by omega)]
    exact h9.2.2 q hq
  · have h9 : ae_ga _ 60 (Fin.ofNat 32 i) = ae_ga _ 60 (Fin.ofNat 32 j) := h
    rw [e60 i (by omega), e60 j (by omega)] at h9
    exact n1.2 i j hi hj h9
  · rw [e60 i (by omega)]
    exact n2 i hi
  · obtain ⟨cell, a1, a2, a3, a4, a5, a6, a7⟩ := n4
    refine ⟨cell, a1, a2, a3, a4, a5, fun j hj => ?_, a7⟩
    show cell.slots[j]? = some (.ref (ae_ga _ 60 (Fin.ofNat 32 j)))
    rw [e60 j (by omega)]
    exact a6 j hj
  · show va_O _ (ae_ga _ 62 (Fin.ofNat 32 i)) _ _ _ ∧ va_OF _ _ _ _ (ae_ga _ 62 (Fin.ofNat 32 i)) _ _ _ ∧ va_OF _ _ _ (.ref (ae_ga _ 63 (Fin.ofNat 32 i))) (ae_ga _ 62 (Fin.ofNat 32 i)) _ _ _ ∧ va_T _ (ae_ga _ 63 (Fin.ofNat 32 i)) _ _ _ _ _
    rw [e62 i (by omega), e63 i (by omega)]
    exact n5.1 i hi
  · have h9 : ae_ga _ 62 (Fin.ofNat 32 i) = ae_ga _ 62 (Fin.ofNat 32 j) := h
    rw [e62 i (by omega), e62 j (by omega)] at h9
    exact n5.2 i j hi hj h9
