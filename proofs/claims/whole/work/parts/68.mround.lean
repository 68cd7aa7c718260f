/-! ROUNDING: the encoding of what is rounded, by its digits; bits that were cut off kept as a lowest one (sticky) -/
theorem mf_b0 {A B : Nat} (j : Nat) : FP.Core.Below A B (j : Int) ↔ A < B * 2 ^ j := by
  have h := FP.Core.below_iff A B j 0
  rw [show ((j : Int) - ((0 : Nat) : Int)) = (j : Int) by omega, Nat.pow_zero, Nat.mul_one] at h
  exact h
theorem mf_lead {D a : Nat} (h1 : 2 ^ a ≤ D) (h2 : D < 2 ^ (a + 1)) : FP.Core.leading D 1 = (a : Int) := by
  have hD : 0 < D := Nat.lt_of_lt_of_le (Nat.two_pow_pos a) h1
  obtain ⟨s1, s2⟩ := FP.Core.leading_spec hD (show 0 < 1 by decide)
  have b1 : ¬ FP.Core.Below D 1 (a : Int) := fun h => by rw [mf_b0, Nat.one_mul] at h; omega
  have b2 : FP.Core.Below D 1 ((a + 1 : Nat) : Int) := by rw [mf_b0, Nat.one_mul]; exact h2
  have l1 := FP.Core.lt_of_below s1 b2
  have l2 := FP.Core.lt_of_below b1 s2
  omega
theorem mf_asm (f : FP.Core.Fmt) (s : Bool) (E t : Nat) : FP.Core.assemble f s E t = s.toNat * FP.Core.half f + FP.Core.assemble f false E t := by
  unfold FP.Core.assemble FP.Core.half
  rw [Nat.add_mul, Nat.mul_assoc, Bool.toNat_false, Nat.zero_mul, Nat.zero_add, Nat.add_assoc]
theorem mf_eF (f : FP.Core.Fmt) (s : Bool) (c : Nat) (q : Int) : FP.Core.encode f (.fin s c q) = if c < f.tails then FP.Core.assemble f s 0 c else FP.Core.assemble f s ((q - f.qmin).toNat + 1) (c - f.tails) := rfl
theorem mf_eI (f : FP.Core.Fmt) (s : Bool) : FP.Core.encode f (.inf s) = FP.Core.assemble f s (f.exps - 1) 0 := rfl
theorem mf_encF (f : FP.Core.Fmt) (s : Bool) (c : Nat) (q : Int) : FP.Core.encode f (.fin s c q) = s.toNat * FP.Core.half f + FP.Core.encode f (.fin false c q) := by
  rw [mf_eF, mf_eF]
  by_cases h : c < f.tails
  · rw [if_pos h, if_pos h]; exact mf_asm ..
  · rw [if_neg h, if_neg h]; exact mf_asm ..
theorem mf_encI (f : FP.Core.Fmt) (s : Bool) : FP.Core.encode f (.inf s) = s.toNat * FP.Core.half f + FP.Core.encode f (.inf false) := by
  rw [mf_eI, mf_eI]; exact mf_asm ..
theorem mf_encB (f : FP.Core.Fmt) (s : Bool) (c : Nat) (q : Int) : FP.Core.encode f (FP.Core.bound f s c q) = s.toNat * FP.Core.half f + FP.Core.encode f (FP.Core.bound f false c q) := by
  unfold FP.Core.bound
  by_cases h : q ≤ f.qmax
  · rw [if_pos h, if_pos h]; exact mf_encF ..
  · rw [if_neg h, if_neg h]; exact mf_encI ..
theorem mf_encR (f : FP.Core.Fmt) (s : Bool) (A B : Nat) (e : Int) : FP.Core.encode f (FP.Core.roundRatio f s A B e) = s.toNat * FP.Core.half f + FP.Core.encode f (FP.Core.roundRatio f false A B e) := by
  unfold FP.Core.roundRatio
  by_cases h : A = 0
  · rw [if_pos h, if_pos h]; exact mf_encF ..
  · rw [if_neg h, if_neg h]
    unfold FP.Core.roundAt FP.Core.settle
    generalize FP.Core.nearest (FP.Core.unitsNum A e (FP.Core.quantum f A B e)) (FP.Core.unitsDen B e (FP.Core.quantum f A B e)) = c
    by_cases h2 : c < 2 ^ f.p
    · rw [if_pos h2, if_pos h2]; exact mf_encB ..
    · rw [if_neg h2, if_neg h2]; exact mf_encB ..
/-- what is rounded: its bits without the sign -/
theorem mf_enc {f : FP.Core.Fmt} (hf : FP.Core.Good f) {A B : Nat} {e q : Int} (hA : 0 < A) (hB : 0 < B) (hq : FP.Core.quantum f A B e = q) : FP.Core.encode f (FP.Core.roundRatio f false A B e) = if q ≤ f.qmax then (q - f.qmin).toNat * f.tails + FP.Core.nearest (FP.Core.unitsNum A e q) (FP.Core.unitsDen B e q) else FP.Core.infBits f := by
  have h1 := FP.Core.two_tails hf
  have h2 := FP.Core.emax_exps hf
  have h3 := FP.Core.qmax_qmin f
  have h4 := FP.Core.emax_pos hf
  have h5 := FP.Core.tails_two hf
  have hle := FP.Core.nearest_units_le (f := f) hA hB e
  have hge := FP.Core.quantum_ge f A B e
  have hn : q = f.qmin ∨ f.tails ≤ FP.Core.nearest (FP.Core.unitsNum A e q) (FP.Core.unitsDen B e q) := by
    rcases FP.Core.quantum_not_below (f := f) hA hB e with h | h
    · exact .inl (hq.symm.trans h)
    · refine .inr (FP.Core.nearest_ge (FP.Core.unitsDen_pos hB ..) ?_)
      rw [hq, show (f.p : Int) - 1 = ((f.p - 1 : Nat) : Int) by have := hf.2; omega, ← FP.Core.units_below] at h
      exact Nat.le_of_not_lt h
  have ea : ∀ E t, FP.Core.assemble f false E t = E * f.tails + t := fun E t => by
    unfold FP.Core.assemble
    rw [Bool.toNat_false, Nat.zero_mul, Nat.zero_add]
  rw [hq] at hle hge
  unfold FP.Core.roundRatio
  rw [if_neg (show ¬ A = 0 by omega), hq]
  unfold FP.Core.roundAt FP.Core.settle FP.Core.bound
  generalize FP.Core.nearest (FP.Core.unitsNum A e q) (FP.Core.unitsDen B e q) = c at hle hn ⊢
  by_cases hc : c < 2 ^ f.p
  · rw [if_pos hc]
    by_cases hx : q ≤ f.qmax
    · rw [if_pos hx, if_pos hx, mf_eF]
      by_cases ht : c < f.tails
      · rw [if_pos ht, ea, show (q - f.qmin).toNat = 0 by omega]
      · rw [if_neg ht, ea, Nat.add_mul, Nat.one_mul]
        omega
    · rw [if_neg hx, if_neg hx, mf_eI, ea]
      rfl
  · rw [if_neg hc]
    by_cases hx : q + 1 ≤ f.qmax
    · rw [if_pos hx, if_pos (show q ≤ f.qmax by omega), mf_eF, if_neg (Nat.lt_irrefl _), ea, show (q + 1 - f.qmin).toNat = (q - f.qmin).toNat + 1 by omega, Nat.add_mul, Nat.add_mul, Nat.one_mul]
      omega
    · rw [if_neg hx, mf_eI, ea]
      by_cases hy : q ≤ f.qmax
      · rw [if_pos hy, show f.exps - 1 = (q - f.qmin).toNat + 2 by omega, Nat.add_mul]
        omega
      · rw [if_neg hy]
        rfl
/-- half way or beyond -/
theorem mf_nr (D k : Nat) : FP.Core.nearest D (2 ^ (k + 1)) = D / 2 ^ (k + 1) + (if 2 ^ k < D % 2 ^ (k + 1) ∨ D % 2 ^ (k + 1) = 2 ^ k ∧ D / 2 ^ (k + 1) % 2 = 1 then 1 else 0) := by
  have hp : 2 ^ (k + 1) = 2 * 2 ^ k := by rw [Nat.pow_succ, Nat.mul_comm]
  have hpp : 0 < 2 ^ k := Nat.two_pow_pos k
  unfold FP.Core.nearest
  generalize D % 2 ^ (k + 1) = r
  generalize D / 2 ^ (k + 1) = m
  rw [hp]
  generalize 2 ^ k = u at hpp ⊢
  by_cases h1 : 2 * r < 2 * u
  · rw [if_pos h1, if_neg (by omega)]; rfl
  · rw [if_neg h1]
    by_cases h2 : 2 * u < 2 * r
    · rw [if_pos h2, if_pos (by omega)]
    · rw [if_neg h2]
      by_cases h3 : m % 2 = 1
      · rw [h3, if_pos (by omega)]
      · rw [if_neg (by omega), show m % 2 = 0 by omega]
theorem mf_n0 {D k : Nat} (hD : D ≤ 2 ^ 63) (hk : 64 ≤ k) : FP.Core.nearest D (2 ^ k) = 0 := by
  have h : 2 ^ 64 ≤ 2 ^ k := Nat.pow_le_pow_right (by decide) hk
  unfold FP.Core.nearest
  rw [Nat.mod_eq_of_lt (by omega), Nat.div_eq_of_lt (by omega)]
  by_cases h1 : 2 * D < 2 ^ k
  · rw [if_pos h1]
  · rw [if_neg h1, if_neg (by omega)]
theorem mf_n1 (M : Nat) : FP.Core.nearest M 1 = M := by
  have := FP.Core.nearest_exact (B := 1) M (by decide)
  rwa [Nat.mul_one] at this
theorem mf_nst {A B D k : Nat} (hB : 0 < B) (hk : 2 ≤ k) (hD : D % 2 = 1) (h1 : (D - 1) * B < A) (h2 : A < (D + 1) * B) : FP.Core.nearest A (B * 2 ^ k) = FP.Core.nearest D (2 ^ k) := by
  obtain ⟨j, rfl⟩ : ∃ j, k = j + 2 := ⟨k - 2, by omega⟩
  have hp : 2 ^ (j + 2) = 4 * 2 ^ j := by rw [Nat.pow_add, Nat.mul_comm]
  have hu : 0 < 2 ^ j := Nat.two_pow_pos j
  rw [hp]
  generalize 2 ^ j = u at hu ⊢
  have hdm := Nat.div_add_mod D (4 * u)
  have hrl := Nat.mod_lt D (show 0 < 4 * u by omega)
  unfold FP.Core.nearest
  generalize D / (4 * u) = m at hdm ⊢
  generalize D % (4 * u) = r at hdm hrl ⊢
  have hdm2 : 2 * (2 * (u * m)) + r = D := by rw [← hdm]; congr 1; rw [Nat.mul_assoc, ← Nat.mul_assoc 2 2]
  have hr : r % 2 = 1 := by omega
  have e0 : B * (4 * u) * m = (4 * u * m) * B := by rw [Nat.mul_comm B, Nat.mul_assoc, Nat.mul_comm B, ← Nat.mul_assoc]
  have a1 : (4 * u * m + (r - 1)) * B < A := by rw [show 4 * u * m + (r - 1) = D - 1 by omega]; exact h1
  have a2 : A < (4 * u * m + (r + 1)) * B := by rw [show 4 * u * m + (r + 1) = D + 1 by omega]; exact h2
  rw [Nat.add_mul] at a1 a2
  have a3 : (r + 1) * B ≤ (4 * u) * B := Nat.mul_le_mul_right B (by omega)
  have e1 : A / (B * (4 * u)) = m := by
    refine Nat.div_eq_of_lt_le ?_ ?_
    · rw [Nat.mul_comm m, e0]; omega
    · rw [Nat.mul_comm (m + 1), Nat.mul_add, e0, Nat.mul_one, Nat.mul_comm B]; omega
  have e2 : A % (B * (4 * u)) = A - (4 * u * m) * B := by
    have := Nat.div_add_mod A (B * (4 * u))
    rw [e1, e0] at this
    omega
  rw [e1, e2]
  have e3 : B * (4 * u) = 2 * ((2 * u) * B) := by rw [Nat.mul_comm B, show 4 * u = 2 * (2 * u) by omega, Nat.mul_assoc]
  rw [e3]
  generalize 4 * u * m * B = X at a1 a2 ⊢
  by_cases q : 2 * r < 4 * u
  · have a4 : (r + 1) * B ≤ (2 * u) * B := Nat.mul_le_mul_right B (by omega)
    rw [if_pos q, if_pos (by omega)]
  · have a4 : (2 * u) * B ≤ (r - 1) * B := Nat.mul_le_mul_right B (by omega)
    rw [if_neg q, if_pos (show 4 * u < 2 * r by omega), if_neg (by omega), if_pos (by omega)]
theorem mf_sticky {f : FP.Core.Fmt} (hf : FP.Core.Good f) {s : Bool} {A B D : Nat} {e : Int} (hB : 0 < B) (h : D * B = A ∨ 2 ^ (f.p + 1) ≤ D ∧ D % 2 = 1 ∧ (D - 1) * B < A ∧ A < (D + 1) * B) : FP.Core.roundRatio f s A B e = FP.Core.roundRatio f s D 1 e := by
  rcases h with h | ⟨hD, h0, h1, h2⟩
  · refine FP.Core.roundRatio_congr hB (by decide) ?_
    rw [Nat.mul_one, h]
  · have hp : 0 < 2 ^ (f.p + 1) := Nat.two_pow_pos _
    have hA : 0 < A := by omega
    have hDp : 0 < D := by omega
    have key : ∀ j : Nat, 1 ≤ j → (FP.Core.Below A B (j : Int) ↔ FP.Core.Below D 1 (j : Int)) := fun j hj => by
      rw [mf_b0, mf_b0, Nat.one_mul]
      obtain ⟨i, rfl⟩ : ∃ i, j = i + 1 := ⟨j - 1, by omega⟩
      have hp2 : 2 ^ (i + 1) = 2 * 2 ^ i := by rw [Nat.pow_succ, Nat.mul_comm]
      constructor
      · intro q
        apply Nat.lt_of_not_le
        intro q2
        have : 2 ^ (i + 1) * B ≤ (D - 1) * B := Nat.mul_le_mul_right B (by omega)
        rw [Nat.mul_comm] at this
        omega
      · intro q
        have : (D + 1) * B ≤ 2 ^ (i + 1) * B := Nat.mul_le_mul_right B (by omega)
        rw [Nat.mul_comm (2 ^ (i + 1))] at this
        omega
    have hq2 : e + 2 ≤ FP.Core.quantum f D 1 e := by
      have hb : ¬ FP.Core.Below D 1 ((f.p + 1 : Nat) : Int) := fun q => by rw [mf_b0, Nat.one_mul] at q; omega
      have := FP.Core.lt_of_below hb (FP.Core.leading_spec hDp (show 0 < 1 by decide)).2
      unfold FP.Core.quantum
      omega
    have hqe : FP.Core.quantum f A B e = FP.Core.quantum f D 1 e := by
      have g1 := FP.Core.quantum_below (f := f) hDp (show 0 < 1 by decide) e
      have g2 := FP.Core.quantum_not_below (f := f) hDp (show 0 < 1 by decide) e
      have g3 := FP.Core.quantum_ge f D 1 e
      have hfp := hf.2
      generalize FP.Core.quantum f D 1 e = q at g1 g2 g3 hq2 ⊢
      refine FP.Core.quantum_eq hA hB g3 ?_ (g2.imp id (fun q2 q3 => q2 ?_))
      · rw [show q - e + f.p = (((q - e).toNat + f.p : Nat) : Int) by omega] at g1 ⊢
        exact (key _ (by omega)).mpr g1
      · rw [show q - e + ((f.p : Int) - 1) = (((q - e).toNat + (f.p - 1) : Nat) : Int) by omega] at q3 ⊢
        exact (key _ (by omega)).mp q3
    unfold FP.Core.roundRatio
    rw [if_neg (by omega), if_neg (by omega), hqe]
    generalize FP.Core.quantum f D 1 e = q at hq2 ⊢
    unfold FP.Core.roundAt FP.Core.unitsNum FP.Core.unitsDen
    rw [show (e - q).toNat = 0 by omega, Nat.pow_zero, Nat.mul_one, Nat.mul_one, Nat.one_mul, mf_nst hB (by omega) h0 h1 h2]
