/-! the Shelf's constructor: a loop; worlds turned -/
section UCR2
variable {l : Launch} {D : va_G} {gc : FieldType → ClassId} {b u8 d MC MS : Nat} {M : ae_M} {Pw : va_W → Prop} {pc : Nat} {lv : List (Nat × Value)} {st : List Value} {ws : va_W} {cells slots : Nat}
theorem uc_rotF {x : Nat × va_E} (k : uc_T l D gc b u8 d MC MS M Pw pc lv st (x :: ws) cells slots) : uc_T l D gc b u8 d MC MS M Pw pc lv st (ws ++ [x]) cells slots := by
  intro p e s m args below meth c H locs ls hX hl hP hD hS
  exact k p e s m args below meth c H locs ls hX hl (va_P.swap (a := []) (b := ws) (c := [x]) hP) (va_D.swap (a := []) (b := ws) (c := [x]) hD) hS
theorem uc_rotE {x : Nat × va_E} (k : uc_T l D gc b u8 d MC MS M Pw pc lv st (ws ++ [x]) cells slots) : uc_T l D gc b u8 d MC MS M Pw pc lv st (x :: ws) cells slots := by
  intro p e s m args below meth c H locs ls hX hl hP hD hS
  exact k p e s m args below meth c H locs ls hX hl (va_P.swap (a := []) (b := [x]) (c := ws) hP) (va_D.swap (a := []) (b := [x]) (c := ws) hD) hS
theorem uc_swap {a b2 c2 : va_W} (k : uc_T l D gc b u8 d MC MS M Pw pc lv st ((a ++ c2) ++ b2) cells slots) : uc_T l D gc b u8 d MC MS M Pw pc lv st ((a ++ b2) ++ c2) cells slots := by
  intro p e s m args below meth c H locs ls hX hl hP hD hS
  exact k p e s m args below meth c H locs ls hX hl (va_P.swap hP) (va_D.swap hD) hS
theorem uc_rot3 {x y z : Nat × va_E} (k : uc_T l D gc b u8 d MC MS M Pw pc lv st (ws ++ [x, y, z]) cells slots) : uc_T l D gc b u8 d MC MS M Pw pc lv st (x :: y :: z :: ws) cells slots := by
  intro p e s m args below meth c H locs ls hX hl hP hD hS
  exact k p e s m args below meth c H locs ls hX hl (va_P.swap (a := []) (b := [x, y, z]) (c := ws) hP) (va_D.swap (a := []) (b := [x, y, z]) (c := ws) hD) hS
end UCR2
/-- the cells of one View, made: its three rows, itself -/
def uc_vb (gc : FieldType → ClassId) (u8 : Nat) (v r1 r2 r3 : Nat) : va_W := [(r1, .inl (gc .long, 8, .inr (.inl (fun _ => 0)))), (r2, .inl (gc .int, 8, .inl (fun _ => 0))), (r3, .inl (gc .int, 8, .inl (fun _ => 0))), (v, .inr (7, [.ref r1, .ref r2, .ref r3, .long 0, .ref u8, .int 0, .int 0, .int 0, .int 0, .int 0, .int 0]))]
def uc_L (gc : FieldType → ClassId) (u8 : Nat) (ad : Nat → Nat → Nat) (n : Nat) : va_W := (List.range n).flatMap fun i => uc_vb gc u8 (ad i 0) (ad i 1) (ad i 2) (ad i 3) ++ uc_vb gc u8 (ad i 4) (ad i 5) (ad i 6) (ad i 7)
theorem uc_L_succ (gc : FieldType → ClassId) (u8 : Nat) (ad : Nat → Nat → Nat) (n : Nat) : uc_L gc u8 ad (n + 1) = uc_L gc u8 ad n ++ (uc_vb gc u8 (ad n 0) (ad n 1) (ad n 2) (ad n 3) ++ uc_vb gc u8 (ad n 4) (ad n 5) (ad n 6) (ad n 7)) := by
  unfold uc_L
  rw [List.range_succ, List.flatMap_append, List.flatMap_singleton]
def uc_ad (ad : Nat → Nat → Nat) (n : Nat) (a : Nat → Nat) : Nat → Nat → Nat := fun i => if i = n then a else ad i
theorem uc_ad_at (ad : Nat → Nat → Nat) (n : Nat) (a : Nat → Nat) : uc_ad ad n a n = a := if_pos rfl
theorem uc_L_ad (gc : FieldType → ClassId) (u8 : Nat) (ad : Nat → Nat → Nat) (n : Nat) (a : Nat → Nat) : uc_L gc u8 (uc_ad ad n a) n = uc_L gc u8 ad n := by
  unfold uc_L
  rw [List.flatMap_def, List.flatMap_def]
  congr 1
  apply List.map_congr_left
  intro i hi
  have : i ≠ n := by have := List.mem_range.mp hi; omega
  simp [uc_ad, this]
def uc_f (ad : Nat → Nat → Nat) (n j : Nat) : Nat → Option Nat := fun k => if k < n then some (ad k j) else none
theorem uc_f_up (ad : Nat → Nat → Nat) (n j q : Nat) (a : Nat → Nat) (h : a j = q) : va_up (uc_f ad n j) n (some q) = uc_f (uc_ad ad n a) (n + 1) j := by
  funext k
  unfold va_up uc_f uc_ad
  by_cases e : k = n
  · subst e
    simp [h]
  · by_cases h2 : k < n
    · simp [e, h2, Nat.lt_succ_of_lt h2]
    · simp [e, h2, show ¬ k < n + 1 by omega]
theorem uc_i16 : ∀ n, n < 16 → ¬ ((16 : Int32) ≤ Int32.ofNat n) ∧ vp_in (Int32.ofNat n) 16 ∧ (Int32.ofNat n).toNatClampNeg = n ∧ Int32.ofNat n + Int32.ofInt 1 = Int32.ofNat (n + 1) := by unfold vp_in; decide +kernel
