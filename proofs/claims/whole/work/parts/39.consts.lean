/-! THE CONSTANTS at the law's entry: the enum's nine, their row, the Strings -/
abbrev zn_f : List Cond := flatC (Jvm.Cond.and given_1 narrow_1)
def zn_s : List (String × Nat) := [("ByteViews$Tokens", 79), ("ByteViews$Tokens", 85), ("ByteViews$Tokens", 87), ("ByteViews$Tokens", 89), ("ByteViews$Tokens", 91), ("ByteViews$Tokens", 93), ("ByteViews$Tokens", 95), ("ByteViews$Tokens", 97), ("ByteViews$Tokens", 99), ("ByteViews$View", 164), ("ByteViews$View", 166), ("ByteViews$View", 171), ("ByteViews$View", 173), ("ByteViews$View", 175), ("ByteViews$View", 177), ("ByteViews$View", 179), ("ByteViewsModel", 203), ("ByteViewsModel", 209), ("ByteViewsModel", 211), ("ByteViewsModel", 213), ("ByteViewsModel", 215), ("ByteViewsModel", 217), ("ByteViewsModel", 219), ("ByteViewsModel", 221), ("ByteViewsModel", 223), ("ByteViewsModel", 497), ("ByteViewsModel", 499), ("ByteViewsModel", 501)]
def zn_t (i : Nat) : Term := .string (zn_s.getD i ("", 0)).1 (zn_s.getD i ("", 0)).2
abbrev zn_l : List Nat := ae_sx.map List.length
theorem zn_1_0 : ∀ i, i < 7 → Cond.exactly (zn_t (i + 0)) "java/lang/String" ∈ zn_f := by decide +kernel
theorem zn_1_1 : ∀ i, i < 7 → Cond.exactly (zn_t (i + 7)) "java/lang/String" ∈ zn_f := by decide +kernel
theorem zn_1_2 : ∀ i, i < 7 → Cond.exactly (zn_t (i + 14)) "java/lang/String" ∈ zn_f := by decide +kernel
theorem zn_1_3 : ∀ i, i < 7 → Cond.exactly (zn_t (i + 21)) "java/lang/String" ∈ zn_f := by decide +kernel
theorem zn_1 : ∀ i, i < 28 → Cond.exactly (zn_t i) "java/lang/String" ∈ zn_f := fun i hi => by
  rcases Nat.lt_or_ge i 7 with h | h
  · exact zn_1_0 i h
  rcases Nat.lt_or_ge i 14 with h2 | h2
  · have := zn_1_1 (i - 7) (by omega); rwa [show i - 7 + 7 = i by omega] at this
  rcases Nat.lt_or_ge i 21 with h3 | h3
  · have := zn_1_2 (i - 14) (by omega); rwa [show i - 14 + 14 = i by omega] at this
  · have := zn_1_3 (i - 21) (by omega); rwa [show i - 21 + 21 = i by omega] at this
theorem zn_2_0 : ∀ i, i < 7 → Cond.eq (.field (zn_t (i + 0)) "java/lang/String" "coder" "B") (.int 0) ∈ zn_f := by decide +kernel
theorem zn_2_1 : ∀ i, i < 7 → Cond.eq (.field (zn_t (i + 7)) "java/lang/String" "coder" "B") (.int 0) ∈ zn_f := by decide +kernel
theorem zn_2_2 : ∀ i, i < 7 → Cond.eq (.field (zn_t (i + 14)) "java/lang/String" "coder" "B") (.int 0) ∈ zn_f := by decide +kernel
theorem zn_2_3 : ∀ i, i < 7 → Cond.eq (.field (zn_t (i + 21)) "java/lang/String" "coder" "B") (.int 0) ∈ zn_f := by decide +kernel
theorem zn_2 : ∀ i, i < 28 → Cond.eq (.field (zn_t i) "java/lang/String" "coder" "B") (.int 0) ∈ zn_f := fun i hi => by
  rcases Nat.lt_or_ge i 7 with h | h
  · exact zn_2_0 i h
  rcases Nat.lt_or_ge i 14 with h2 | h2
  · have := zn_2_1 (i - 7) (by omega); rwa [show i - 7 + 7 = i by omega] at this
  rcases Nat.lt_or_ge i 21 with h3 | h3
  · have := zn_2_2 (i - 14) (by omega); rwa [show i - 14 + 14 = i by omega] at this
  · have := zn_2_3 (i - 21) (by omega); rwa [show i - 21 + 21 = i by omega] at this
theorem zn_3_0 : ∀ i, i < 7 → Cond.arrayOf (.field (zn_t (i + 0)) "java/lang/String" "value" "[B") .byte ∈ zn_f := by decide +kernel
theorem zn_3_1 : ∀ i, i < 7 → Cond.arrayOf (.field (zn_t (i + 7)) "java/lang/String" "value" "[B") .byte ∈ zn_f := by decide +kernel
theorem zn_3_2 : ∀ i, i < 7 → Cond.arrayOf (.field (zn_t (i + 14)) "java/lang/String" "value" "[B") .byte ∈ zn_f := by decide +kernel
theorem zn_3_3 : ∀ i, i < 7 → Cond.arrayOf (.field (zn_t (i + 21)) "java/lang/String" "value" "[B") .byte ∈ zn_f := by decide +kernel
theorem zn_3 : ∀ i, i < 28 → Cond.arrayOf (.field (zn_t i) "java/lang/String" "value" "[B") .byte ∈ zn_f := fun i hi => by
  rcases Nat.lt_or_ge i 7 with h | h
  · exact zn_3_0 i h
  rcases Nat.lt_or_ge i 14 with h2 | h2
  · have := zn_3_1 (i - 7) (by omega); rwa [show i - 7 + 7 = i by omega] at this
  rcases Nat.lt_or_ge i 21 with h3 | h3
  · have := zn_3_2 (i - 14) (by omega); rwa [show i - 14 + 14 = i by omega] at this
  · have := zn_3_3 (i - 21) (by omega); rwa [show i - 21 + 21 = i by omega] at this
theorem zn_4_0 : ∀ i, i < 7 → Cond.eq (.length (.field (zn_t (i + 0)) "java/lang/String" "value" "[B")) (.int (Int32.ofNat (zn_l.getD (i + 0) 0))) ∈ zn_f := by decide +kernel
theorem zn_4_1 : ∀ i, i < 7 → Cond.eq (.length (.field (zn_t (i + 7)) "java/lang/String" "value" "[B")) (.int (Int32.ofNat (zn_l.getD (i + 7) 0))) ∈ zn_f := by decide +kernel
theorem zn_4_2 : ∀ i, i < 7 → Cond.eq (.length (.field (zn_t (i + 14)) "java/lang/String" "value" "[B")) (.int (Int32.ofNat (zn_l.getD (i + 14) 0))) ∈ zn_f := by decide +kernel
theorem zn_4_3 : ∀ i, i < 7 → Cond.eq (.length (.field (zn_t (i + 21)) "java/lang/String" "value" "[B")) (.int (Int32.ofNat (zn_l.getD (i + 21) 0))) ∈ zn_f := by decide +kernel
theorem zn_4 : ∀ i, i < 28 → Cond.eq (.length (.field (zn_t i) "java/lang/String" "value" "[B")) (.int (Int32.ofNat (zn_l.getD i 0))) ∈ zn_f := fun i hi => by
  rcases Nat.lt_or_ge i 7 with h | h
  · exact zn_4_0 i h
  rcases Nat.lt_or_ge i 14 with h2 | h2
  · have := zn_4_1 (i - 7) (by omega); rwa [show i - 7 + 7 = i by omega] at this
  rcases Nat.lt_or_ge i 21 with h3 | h3
  · have := zn_4_2 (i - 14) (by omega); rwa [show i - 14 + 14 = i by omega] at this
  · have := zn_4_3 (i - 21) (by omega); rwa [show i - 21 + 21 = i by omega] at this
theorem zn_5_0 : ∀ j, j < zn_l.getD 0 0 → Cond.eq (.elem (.field (zn_t 0) "java/lang/String" "value" "[B") (.int (Int32.ofNat j))) (.int ((ae_sx.getD 0 []).getD j 0)) ∈ zn_f := by decide +kernel
theorem zn_5_1 : ∀ j, j < zn_l.getD 1 0 → Cond.eq (.elem (.field (zn_t 1) "java/lang/String" "value" "[B") (.int (Int32.ofNat j))) (.int ((ae_sx.getD 1 []).getD j 0)) ∈ zn_f := by decide +kernel
theorem zn_5_2 : ∀ j, j < zn_l.getD 2 0 → Cond.eq (.elem (.field (zn_t 2) "java/lang/String" "value" "[B") (.int (Int32.ofNat j))) (.int ((ae_sx.getD 2 []).getD j 0)) ∈ zn_f := by decide +kernel
theorem zn_5_3 : ∀ j, j < zn_l.getD 3 0 → Cond.eq (.elem (.field (zn_t 3) "java/lang/String" "value" "[B") (.int (Int32.ofNat j))) (.int ((ae_sx.getD 3 []).getD j 0)) ∈ zn_f := by decide +kernel
theorem zn_5_4 : ∀ j, j < zn_l.getD 4 0 → Cond.eq (.elem (.field (zn_t 4) "java/lang/String" "value" "[B") (.int (Int32.ofNat j))) (.int ((ae_sx.getD 4 []).getD j 0)) ∈ zn_f := by decide +kernel
theorem zn_5_5 : ∀ j, j < zn_l.getD 5 0 → Cond.eq (.elem (.field (zn_t 5) "java/lang/String" "value" "[B") (.int (Int32.ofNat j))) (.int ((ae_sx.getD 5 []).getD j 0)) ∈ zn_f := by decide +kernel
theorem zn_5_6 : ∀ j, j < zn_l.getD 6 0 → Cond.eq (.elem (.field (zn_t 6) "java/lang/String" "value" "[B") (.int (Int32.ofNat j))) (.int ((ae_sx.getD 6 []).getD j 0)) ∈ zn_f := by decide +kernel
theorem zn_5_7 : ∀ j, j < zn_l.getD 7 0 → Cond.eq (.elem (.field (zn_t 7) "java/lang/String" "value" "[B") (.int (Int32.ofNat j))) (.int ((ae_sx.getD 7 []).getD j 0)) ∈ zn_f := by decide +kernel
theorem zn_5_8 : ∀ j, j < zn_l.getD 8 0 → Cond.eq (.elem (.field (zn_t 8) "java/lang/String" "value" "[B") (.int (Int32.ofNat j))) (.int ((ae_sx.getD 8 []).getD j 0)) ∈ zn_f := by decide +kernel
theorem zn_5_9 : ∀ j, j < zn_l.getD 9 0 → Cond.eq (.elem (.field (zn_t 9) "java/lang/String" "value" "[B") (.int (Int32.ofNat j))) (.int ((ae_sx.getD 9 []).getD j 0)) ∈ zn_f := by decide +kernel
theorem zn_5_10 : ∀ j, j < zn_l.getD 10 0 → Cond.eq (.elem (.field (zn_t 10) "java/lang/String" "value" "[B") (.int (Int32.ofNat j))) (.int ((ae_sx.getD 10 []).getD j 0)) ∈ zn_f := by decide +kernel
theorem zn_5_11 : ∀ j, j < zn_l.getD 11 0 → Cond.eq (.elem (.field (zn_t 11) "java/lang/String" "value" "[B") (.int (Int32.ofNat j))) (.int ((ae_sx.getD 11 []).getD j 0)) ∈ zn_f := by decide +kernel
theorem zn_5_12 : ∀ j, j < zn_l.getD 12 0 → Cond.eq (.elem (.field (zn_t 12) "java/lang/String" "value" "[B") (.int (Int32.ofNat j))) (.int ((ae_sx.getD 12 []).getD j 0)) ∈ zn_f := by decide +kernel
theorem zn_5_13 : ∀ j, j < zn_l.getD 13 0 → Cond.eq (.elem (.field (zn_t 13) "java/lang/String" "value" "[B") (.int (Int32.ofNat j))) (.int ((ae_sx.getD 13 []).getD j 0)) ∈ zn_f := by decide +kernel
theorem zn_5_14 : ∀ j, j < zn_l.getD 14 0 → Cond.eq (.elem (.field (zn_t 14) "java/lang/String" "value" "[B") (.int (Int32.ofNat j))) (.int ((ae_sx.getD 14 []).getD j 0)) ∈ zn_f := by decide +kernel
theorem zn_5_15 : ∀ j, j < zn_l.getD 15 0 → Cond.eq (.elem (.field (zn_t 15) "java/lang/String" "value" "[B") (.int (Int32.ofNat j))) (.int ((ae_sx.getD 15 []).getD j 0)) ∈ zn_f := by decide +kernel
theorem zn_5_16 : ∀ j, j < zn_l.getD 16 0 → Cond.eq (.elem (.field (zn_t 16) "java/lang/String" "value" "[B") (.int (Int32.ofNat j))) (.int ((ae_sx.getD 16 []).getD j 0)) ∈ zn_f := by decide +kernel
theorem zn_5_17 : ∀ j, j < zn_l.getD 17 0 → Cond.eq (.elem (.field (zn_t 17) "java/lang/String" "value" "[B") (.int (Int32.ofNat j))) (.int ((ae_sx.getD 17 []).getD j 0)) ∈ zn_f := by decide +kernel
theorem zn_5_18 : ∀ j, j < zn_l.getD 18 0 → Cond.eq (.elem (.field (zn_t 18) "java/lang/String" "value" "[B") (.int (Int32.ofNat j))) (.int ((ae_sx.getD 18 []).getD j 0)) ∈ zn_f := by decide +kernel
theorem zn_5_19 : ∀ j, j < zn_l.getD 19 0 → Cond.eq (.elem (.field (zn_t 19) "java/lang/String" "value" "[B") (.int (Int32.ofNat j))) (.int ((ae_sx.getD 19 []).getD j 0)) ∈ zn_f := by decide +kernel
theorem zn_5_20 : ∀ j, j < zn_l.getD 20 0 → Cond.eq (.elem (.field (zn_t 20) "java/lang/String" "value" "[B") (.int (Int32.ofNat j))) (.int ((ae_sx.getD 20 []).getD j 0)) ∈ zn_f := by decide +kernel
theorem zn_5_21 : ∀ j, j < zn_l.getD 21 0 → Cond.eq (.elem (.field (zn_t 21) "java/lang/String" "value" "[B") (.int (Int32.ofNat j))) (.int ((ae_sx.getD 21 []).getD j 0)) ∈ zn_f := by decide +kernel
theorem zn_5_22 : ∀ j, j < zn_l.getD 22 0 → Cond.eq (.elem (.field (zn_t 22) "java/lang/String" "value" "[B") (.int (Int32.ofNat j))) (.int ((ae_sx.getD 22 []).getD j 0)) ∈ zn_f := by decide +kernel
theorem zn_5_23 : ∀ j, j < zn_l.getD 23 0 → Cond.eq (.elem (.field (zn_t 23) "java/lang/String" "value" "[B") (.int (Int32.ofNat j))) (.int ((ae_sx.getD 23 []).getD j 0)) ∈ zn_f := by decide +kernel
theorem zn_5_24 : ∀ j, j < zn_l.getD 24 0 → Cond.eq (.elem (.field (zn_t 24) "java/lang/String" "value" "[B") (.int (Int32.ofNat j))) (.int ((ae_sx.getD 24 []).getD j 0)) ∈ zn_f := by decide +kernel
theorem zn_5_25 : ∀ j, j < zn_l.getD 25 0 → Cond.eq (.elem (.field (zn_t 25) "java/lang/String" "value" "[B") (.int (Int32.ofNat j))) (.int ((ae_sx.getD 25 []).getD j 0)) ∈ zn_f := by decide +kernel
theorem zn_5_26 : ∀ j, j < zn_l.getD 26 0 → Cond.eq (.elem (.field (zn_t 26) "java/lang/String" "value" "[B") (.int (Int32.ofNat j))) (.int ((ae_sx.getD 26 []).getD j 0)) ∈ zn_f := by decide +kernel
theorem zn_5_27 : ∀ j, j < zn_l.getD 27 0 → Cond.eq (.elem (.field (zn_t 27) "java/lang/String" "value" "[B") (.int (Int32.ofNat j))) (.int ((ae_sx.getD 27 []).getD j 0)) ∈ zn_f := by decide +kernel
theorem zn_5 : ∀ i, i < 28 → ∀ j, j < zn_l.getD i 0 → Cond.eq (.elem (.field (zn_t i) "java/lang/String" "value" "[B") (.int (Int32.ofNat j))) (.int ((ae_sx.getD i []).getD j 0)) ∈ zn_f := fun i hi => match i, hi with
  | 0, _ => zn_5_0
  | 1, _ => zn_5_1
  | 2, _ => zn_5_2
  | 3, _ => zn_5_3
  | 4, _ => zn_5_4
  | 5, _ => zn_5_5
  | 6, _ => zn_5_6
  | 7, _ => zn_5_7
  | 8, _ => zn_5_8
  | 9, _ => zn_5_9
  | 10, _ => zn_5_10
  | 11, _ => zn_5_11
  | 12, _ => zn_5_12
  | 13, _ => zn_5_13
  | 14, _ => zn_5_14
  | 15, _ => zn_5_15
  | 16, _ => zn_5_16
  | 17, _ => zn_5_17
  | 18, _ => zn_5_18
  | 19, _ => zn_5_19
  | 20, _ => zn_5_20
  | 21, _ => zn_5_21
  | 22, _ => zn_5_22
  | 23, _ => zn_5_23
  | 24, _ => zn_5_24
  | 25, _ => zn_5_25
  | 26, _ => zn_5_26
  | 27, _ => zn_5_27
  | i + 28, hi => absurd hi (by omega)
theorem zn_6 : ∀ i, i < 28 → zn_l.getD i 0 < 2 ^ 31 := by decide +kernel
theorem zn_7 : ∀ i, i < 28 → ∀ j, j < 28 → i ≠ j → Int32.ofNat (zn_l.getD i 0) ≠ Int32.ofNat (zn_l.getD j 0) ∨ ∃ k, k < zn_l.getD i 0 ∧ k < zn_l.getD j 0 ∧ (ae_sx.getD i []).getD k 0 ≠ (ae_sx.getD j []).getD k 0 := by decide +kernel
theorem zn_8 : ∀ q ∈ ae_sr, (q.1, q.2.1) = zn_s.getD q.2.2.2.val ("", 0) ∨ Cond.eq (zn_t q.2.2.2.val) (.string q.1 q.2.1) ∈ zn_f := by decide +kernel
theorem zn_9_0 : ∀ q ∈ (ae_sr.drop 0).take 8, Cond.stringRef q.1 q.2.1 q.2.2.1 ∈ lw_tbl := by decide +kernel
theorem zn_9_1 : ∀ q ∈ (ae_sr.drop 8).take 8, Cond.stringRef q.1 q.2.1 q.2.2.1 ∈ lw_tbl := by decide +kernel
theorem zn_9_2 : ∀ q ∈ (ae_sr.drop 16).take 8, Cond.stringRef q.1 q.2.1 q.2.2.1 ∈ lw_tbl := by decide +kernel
theorem zn_9_3 : ∀ q ∈ (ae_sr.drop 24).take 8, Cond.stringRef q.1 q.2.1 q.2.2.1 ∈ lw_tbl := by decide +kernel
theorem zn_9_4 : ∀ q ∈ (ae_sr.drop 32).take 8, Cond.stringRef q.1 q.2.1 q.2.2.1 ∈ lw_tbl := by decide +kernel
theorem zn_9_5 : ∀ q ∈ (ae_sr.drop 40).take 8, Cond.stringRef q.1 q.2.1 q.2.2.1 ∈ lw_tbl := by decide +kernel
theorem zn_9_6 : ∀ q ∈ (ae_sr.drop 48).take 8, Cond.stringRef q.1 q.2.1 q.2.2.1 ∈ lw_tbl := by decide +kernel
theorem zn_9_7 : ∀ q ∈ (ae_sr.drop 56).take 8, Cond.stringRef q.1 q.2.1 q.2.2.1 ∈ lw_tbl := by decide +kernel
theorem zn_9 : ∀ q ∈ ae_sr, Cond.stringRef q.1 q.2.1 q.2.2.1 ∈ lw_tbl := by
  have h : ae_sr = (ae_sr.drop 0).take 8 ++ (ae_sr.drop 8).take 8 ++ (ae_sr.drop 16).take 8 ++ (ae_sr.drop 24).take 8 ++ (ae_sr.drop 32).take 8 ++ (ae_sr.drop 40).take 8 ++ (ae_sr.drop 48).take 8 ++ (ae_sr.drop 56).take 8 := rfl
  intro q hq
  rw [h] at hq
  simp only [List.mem_append] at hq
  rcases hq with ((((((h | h) | h) | h) | h) | h) | h) | h
  · exact zn_9_0 q h
  · exact zn_9_1 q h
  · exact zn_9_2 q h
  · exact zn_9_3 q h
  · exact zn_9_4 q h
  · exact zn_9_5 q h
  · exact zn_9_6 q h
  · exact zn_9_7 q h
theorem zn_a : ∀ i, i < 9 → Cond.laysStatic "ByteViews$Kind" (ae_kn.getD i "") "LByteViews$Kind;" ∈ lw_tbl := by decide +kernel
theorem zn_b : ∀ i, i < 9 → Cond.exactly (.static "ByteViews$Kind" (ae_kn.getD i "") "LByteViews$Kind;") "ByteViews$Kind" ∈ zn_f := by decide +kernel
theorem zn_c : ∀ q ∈ ae_kF, ∀ i, i < 9 → Cond.eq (.field (.static "ByteViews$Kind" (ae_kn.getD i "") "LByteViews$Kind;") q.1 q.2.1 q.2.2.1) (.int (q.2.2.2.getD i 0)) ∈ zn_f := by decide +kernel
theorem zn_d : ∀ i, i < 9 → ∀ j, j < 9 → i ≠ j → Cond.not (.eq (.static "ByteViews$Kind" (ae_kn.getD i "") "LByteViews$Kind;") (.static "ByteViews$Kind" (ae_kn.getD j "") "LByteViews$Kind;")) ∈ zn_f ∨ Cond.not (.eq (.static "ByteViews$Kind" (ae_kn.getD j "") "LByteViews$Kind;") (.static "ByteViews$Kind" (ae_kn.getD i "") "LByteViews$Kind;")) ∈ zn_f := by decide +kernel
def zn_kx : List Nat := [69, 75, 78, 81, 84, 87, 90, 93, 96]
theorem zn_e : ∀ i, i < 9 → Cond.eq (.field (.static "ByteViews$Kind" (ae_kn.getD i "") "LByteViews$Kind;") "ByteViews$Kind" "word" "Ljava/lang/String;") (.string "ByteViews$Kind" (zn_kx.getD i 0)) ∈ zn_f := by decide +kernel
theorem zn_g : ∀ i, i < 9 → Cond.eq (zn_t (ae_kw i).val) (.string "ByteViews$Kind" (zn_kx.getD i 0)) ∈ zn_f := by decide +kernel
theorem zn_h : ∀ j, j < 9 → Cond.eq (.elem (.static "ByteViews" "KINDS" "[LByteViews$Kind;") (.int (Int32.ofNat j))) (.static "ByteViews$Kind" (ae_kn.getD j "") "LByteViews$Kind;") ∈ zn_f := by decide +kernel
theorem zn_eq {args : Array Value} {s : State} {t u : Term} {a : Nat} (h : (Cond.eq t u).before args s = true) (hu : u.eval args s none [] s = some (.ref a)) : t.eval args s none [] s = some (.ref a) := by
  cases hv : t.eval args s none [] s with
  | none => simp [Cond.before, Cond.holds, Cond.value, hv] at h
  | some w =>
    simp only [Cond.before, Cond.holds, Cond.value, hv, hu] at h
    cases w <;> simp_all
theorem zn_eq2 {args : Array Value} {s : State} {t u : Term} {a : Nat} (h : (Cond.eq t u).before args s = true) (ht : t.eval args s none [] s = some (.ref a)) : u.eval args s none [] s = some (.ref a) := by
  cases hv : u.eval args s none [] s with
  | none => simp [Cond.before, Cond.holds, Cond.value, hv] at h
  | some w =>
    simp only [Cond.before, Cond.holds, Cond.value, hv, ht] at h
    cases w <;> simp_all
theorem zn_S {args : Array Value} {s : State} {A : Nat → Prop} (hs : ∀ w ∈ zn_f, w.before args s = true) (hA : ∀ a : Nat, a < s.heap.size → ¬ A a) : ∃ adK adV : Nat → Nat, vk_S 28 zn_l ae_sx adK adV A s s.heap ∧ ∀ i : Nat, i < 28 → (zn_t i).eval args s none [] s = some (.ref (adK i)) := by
  have h0 : ∀ i : Nat, ∃ q : Nat × Nat, i < 28 → ((zn_t i).eval args s none [] s = some (.ref q.1)) ∧ va_O "java/lang/String" q.1 A s s.heap ∧ va_OF "java/lang/String" "coder" "B" (.int 0) q.1 A s s.heap ∧ va_OF "java/lang/String" "value" "[B" (.ref q.2) q.1 A s s.heap ∧ va_T .byte q.2 (zn_l.getD i 0) (fun j => .int ((ae_sx.getD i []).getD j 0)) A s s.heap := by
    intro i
    by_cases hi : i < 28
    · obtain ⟨k1, k2, h1, h2⟩ := vk_Sof (args := args) (s := s) (N := 1) (tm := fun _ => zn_t i) (len := [zn_l.getD i 0]) (byt := [ae_sx.getD i []]) (A := A) (fun j hj => by rw [show j = 0 by omega]; exact zn_6 i hi) (fun j _ => hs _ (zn_1 i hi)) (fun j _ => hs _ (zn_2 i hi)) (fun j _ => hs _ (zn_3 i hi)) (fun j hj => by rw [show j = 0 by omega]; exact hs _ (zn_4 i hi)) (fun j hj k hk => by
        rw [show j = 0 by omega] at hk ⊢
        exact hs _ (zn_5 i hi k hk)) (fun i j hi hj hij => absurd (show i = j by omega) hij) hA
      exact ⟨(k1 0, k2 0), fun _ => ⟨h2 0 (by decide), h1.1 0 (by decide)⟩⟩
    · exact ⟨(0, 0), fun h => absurd h hi⟩
  obtain ⟨ad, had⟩ := Classical.axiomOfChoice h0
  refine ⟨fun i => (ad i).1, fun i => (ad i).2, ⟨fun i hi => (had i hi).2, fun i j hi hj e => ?_⟩, fun i hi => (had i hi).1⟩
  by_cases hij : i = j
  · exact hij
  · exfalso
    obtain ⟨-, -, -, ⟨cf, k, x, f, cell, a1, a2, a3, a4, a5, a6⟩, ⟨ca, b1, b2, b3, b4, b5, b6, b7⟩⟩ := had i hi
    obtain ⟨-, -, -, ⟨cf', k', x', f', cell', a1', a2', a3', a4', a5', a6'⟩, ⟨ca', b1', b2', b3', b4', b5', b6', b7'⟩⟩ := had j hj
    have e : (ad i).1 = (ad j).1 := e
    rw [a1] at a1'
    cases a1'
    rw [e, a3'] at a3
    cases a3
    rw [a5] at a5'
    have ev : (ad i).2 = (ad j).2 := by
      have h9 := Option.some.inj a5'
      exact Value.ref.inj h9
    rw [ev, b1'] at b1
    cases b1
    rcases zn_7 i hi j hj hij with h | ⟨k0, q1, q2, q3⟩
    · exact h (b5.symm.trans b5')
    · have h9 := (b6 k0 q1).symm.trans (b6' k0 q2)
      exact q3 (Value.int.inj (Option.some.inj h9))
