/-! PURE MATHEMATICS, its base: what a function answers and leaves (ma_wp), what it leaves alone (ma_fr), numbers -/
def ma_wp {α : Type} (m : Option (α × ae_S)) (Q : α → ae_S → Prop) : Prop := ∃ r s, m = some (r, s) ∧ Q r s
section MA
variable {α β : Type} {Q : α → ae_S → Prop}
theorem ma_ret {r : α} {s : ae_S} (h : Q r s) : ma_wp (some (r, s)) Q := ⟨r, s, rfl, h⟩
theorem ma_lt {γ : Type} {x : γ} {f : γ → Option (α × ae_S)} (h : ma_wp (f x) Q) : ma_wp (ae_lt x f) Q := h
theorem ma_gd {b : Bool} {x : Option (α × ae_S)} (hb : b = true) (h : ma_wp x Q) : ma_wp (ae_gd b x) Q := by
  rw [ae_gd, if_pos hb]; exact h
theorem ma_bd {x : Option (β × ae_S)} {f : β → ae_S → Option (α × ae_S)} {P : β → ae_S → Prop} (h : ma_wp x P) (k : ∀ r s, P r s → ma_wp (f r s) Q) : ma_wp (ae_bd x f) Q := by
  obtain ⟨r, s, rfl, hp⟩ := h
  exact k r s hp
theorem ma_be {x : Option (β × ae_S)} {f : β → ae_S → Option (α × ae_S)} {r : β} {s : ae_S} (h : x = some (r, s)) (k : ma_wp (f r s) Q) : ma_wp (ae_bd x f) Q := by
  subst h; exact k
theorem ma_mono {m : Option (α × ae_S)} {P : α → ae_S → Prop} (h : ma_wp m P) (k : ∀ r s, P r s → Q r s) : ma_wp m Q := by
  obtain ⟨r, s, e, hp⟩ := h
  exact ⟨r, s, e, k r s hp⟩
theorem ma_T {c : Prop} {i : Decidable c} {a b : Option (α × ae_S)} (h : c) (k : ma_wp a Q) : ma_wp (@ite _ c i a b) Q := by rw [if_pos h]; exact k
theorem ma_F {c : Prop} {i : Decidable c} {a b : Option (α × ae_S)} (h : ¬ c) (k : ma_wp b Q) : ma_wp (@ite _ c i a b) Q := by rw [if_neg h]; exact k
theorem ma_if {c : Prop} {i : Decidable c} {a b : Option (α × ae_S)} (f : c → ma_wp a Q) (g : ¬ c → ma_wp b Q) : ma_wp (@ite _ c i a b) Q := by
  by_cases h : c
  · exact ma_T h (f h)
  · exact ma_F h (g h)
theorem ma_mo {x : Option ae_R} {g : Nat} {j : Fin 32} {f : Fin 32 → Option (α × ae_S)} (h : x = some (g, j)) (k : ma_wp (f j) Q) : ma_wp (ae_mo (ae_gk x g) none f) Q := by
  subst h
  have e : ae_gk (some (g, j)) g = some j := if_pos rfl
  rw [e]; exact k
theorem ma_eq {m : Option (α × ae_S)} {r : α} {s : ae_S} (h : ma_wp m (fun x t => x = r ∧ t = s)) : m = some (r, s) := by
  obtain ⟨x, t, e, rfl, rfl⟩ := h
  exact e
theorem ma_of {m : Option (α × ae_S)} {r : α} {s : ae_S} (h : m = some (r, s)) (k : Q r s) : ma_wp m Q := ⟨r, s, h, k⟩
/-- comparisons of small numbers -/
theorem ma_le {x y : Int32} {a b : Option (α × ae_S)} (m n : Nat) (hx : x = nI m) (hy : y = nI n) (hm : m < 2 ^ 31) (hn : n < 2 ^ 31) (f : m ≤ n → ma_wp a Q) (g : n < m → ma_wp b Q) : ma_wp (if x ≤ y then a else b) Q := by
  subst hx hy
  refine ma_if (fun h => f ((nI_leI hm hn).mp h)) (fun h => g ?_)
  rw [nI_leI hm hn] at h; omega
theorem ma_ls {x y : Int32} {a b : Option (α × ae_S)} (m n : Nat) (hx : x = nI m) (hy : y = nI n) (hm : m < 2 ^ 31) (hn : n < 2 ^ 31) (f : m < n → ma_wp a Q) (g : n ≤ m → ma_wp b Q) : ma_wp (if x < y then a else b) Q := by
  subst hx hy
  refine ma_if (fun h => f ((nI_ltI hm hn).mp h)) (fun h => g ?_)
  rw [nI_ltI hm hn] at h; omega
theorem ma_en {x y : Int32} {a b : Option (α × ae_S)} (m n : Nat) (hx : x = nI m) (hy : y = nI n) (hm : m < 2 ^ 31) (hn : n < 2 ^ 31) (f : m = n → ma_wp a Q) (g : m ≠ n → ma_wp b Q) : ma_wp (if x = y then a else b) Q := by
  subst hx hy
  exact ma_if (fun h => f ((nI_eq hm hn).mp h)) (fun h => g (fun e => h (by rw [e])))
end MA
theorem ma_ib {x : Int32} (n : Nat) {N : Nat} (hx : x = nI n) (h : n < N) (hN : N < 2 ^ 31) : ae_ib x N = true := by
  subst hx
  rw [ae_ib, nI_clamp (by omega)]
  simp [nI_pos (show n < 2 ^ 31 by omega), h]
theorem ma_cl {x : Int32} (n : Nat) (hx : x = nI n) (h : n < 2 ^ 31) : x.toNatClampNeg = n := by subst hx; exact nI_clamp h
theorem ma_z0 : ae_zz 0 = true := by decide
theorem ma_z1 : ae_zz 1 = true := by decide
theorem ma_01 : ¬ ((1 : Int32) = 0) := by decide
theorem ma_neg {x : Int32} {n : Nat} (hx : x = nI n) (hn : n < 2 ^ 31) : ¬ x < 0 := by subst hx; exact nI_pos hn
/-! what is left alone -/
def ma_fr (P : Nat → Fin 32 → Nat → Prop) (σ τ : ae_S) : Prop := ∀ g i k, P g i k → τ.1 g i k = σ.1 g i k ∧ τ.2.1 g i k = σ.2.1 g i k ∧ τ.2.2.1 g i k = σ.2.2.1 g i k ∧ τ.2.2.2 g i k = σ.2.2.2 g i k
section MF
variable {P R : Nat → Fin 32 → Nat → Prop} {σ τ υ : ae_S} {g k : Nat} {j : Fin 32}
theorem ma_fr.rf : ma_fr P σ σ := fun _ _ _ _ => ⟨rfl, rfl, rfl, rfl⟩
theorem ma_fr.tr (h : ma_fr P σ τ) (k : ma_fr P τ υ) : ma_fr P σ υ := fun g i n hp =>
  have a := h g i n hp
  have b := k g i n hp
  ⟨b.1.trans a.1, b.2.1.trans a.2.1, b.2.2.1.trans a.2.2.1, b.2.2.2.trans a.2.2.2⟩
theorem ma_fr.mo (h : ma_fr P σ τ) (k : ∀ g i n, R g i n → P g i n) : ma_fr R σ τ := fun g i n hp => h g i n (k g i n hp)
theorem ma_fr.i (h : ma_fr P σ τ) (hp : P g j k) : τ.1 g j k = σ.1 g j k := (h g j k hp).1
theorem ma_fr.l (h : ma_fr P σ τ) (hp : P g j k) : τ.2.1 g j k = σ.2.1 g j k := (h g j k hp).2.1
theorem ma_fr.d (h : ma_fr P σ τ) (hp : P g j k) : τ.2.2.1 g j k = σ.2.2.1 g j k := (h g j k hp).2.2.1
theorem ma_fr.r (h : ma_fr P σ τ) (hp : P g j k) : τ.2.2.2 g j k = σ.2.2.2 g j k := (h g j k hp).2.2.2
theorem ma_fwI {x : Int32} (h : ¬ P g j k) : ma_fr P σ (ae_wI σ g j k x) := fun a b c hp =>
  ⟨if_neg (fun e => h (by obtain ⟨rfl, rfl, rfl⟩ := e; exact hp)), rfl, rfl, rfl⟩
theorem ma_fwL {x : Int64} (h : ¬ P g j k) : ma_fr P σ (ae_wL σ g j k x) := fun a b c hp =>
  ⟨rfl, if_neg (fun e => h (by obtain ⟨rfl, rfl, rfl⟩ := e; exact hp)), rfl, rfl⟩
theorem ma_fwD {x : UInt64} (h : ¬ P g j k) : ma_fr P σ (ae_wD σ g j k x) := fun a b c hp =>
  ⟨rfl, rfl, if_neg (fun e => h (by obtain ⟨rfl, rfl, rfl⟩ := e; exact hp)), rfl⟩
theorem ma_fwR {x : Option ae_R} (h : ¬ P g j k) : ma_fr P σ (ae_wR σ g j k x) := fun a b c hp =>
  ⟨rfl, rfl, rfl, if_neg (fun e => h (by obtain ⟨rfl, rfl, rfl⟩ := e; exact hp))⟩
theorem ma_fwC {q0 q1 : ae_R} {sp dp n : Nat} (h : ∀ k, ¬ P q1.1 q1.2 k) : ma_fr P σ (ae_wC σ q0 q1 sp dp n) := fun a b c hp =>
  ⟨if_neg (fun e => h c (by obtain ⟨rfl, rfl⟩ := e; exact hp)), rfl, rfl, rfl⟩
end MF
/-! reads behind writes -/
theorem ma_rI {σ : ae_S} {g : Nat} {i : Fin 32} {k : Nat} {x : Int32} : (ae_wI σ g i k x).1 g i k = x := if_pos ⟨rfl, rfl, rfl⟩
theorem ma_rIn {σ : ae_S} {g a : Nat} {i b : Fin 32} {k c : Nat} {x : Int32} (h : ¬ (a = g ∧ b = i ∧ c = k)) : (ae_wI σ g i k x).1 a b c = σ.1 a b c := if_neg h
theorem ma_rL {σ : ae_S} {g : Nat} {i : Fin 32} {k : Nat} {x : Int64} : (ae_wL σ g i k x).2.1 g i k = x := if_pos ⟨rfl, rfl, rfl⟩
theorem ma_rLn {σ : ae_S} {g a : Nat} {i b : Fin 32} {k c : Nat} {x : Int64} (h : ¬ (a = g ∧ b = i ∧ c = k)) : (ae_wL σ g i k x).2.1 a b c = σ.2.1 a b c := if_neg h
theorem ma_rD {σ : ae_S} {g : Nat} {i : Fin 32} {k : Nat} {x : UInt64} : (ae_wD σ g i k x).2.2.1 g i k = x := if_pos ⟨rfl, rfl, rfl⟩
theorem ma_rDn {σ : ae_S} {g a : Nat} {i b : Fin 32} {k c : Nat} {x : UInt64} (h : ¬ (a = g ∧ b = i ∧ c = k)) : (ae_wD σ g i k x).2.2.1 a b c = σ.2.2.1 a b c := if_neg h
theorem ma_rR {σ : ae_S} {g : Nat} {i : Fin 32} {k : Nat} {x : Option ae_R} : (ae_wR σ g i k x).2.2.2 g i k = x := if_pos ⟨rfl, rfl, rfl⟩
theorem ma_rRn {σ : ae_S} {g a : Nat} {i b : Fin 32} {k c : Nat} {x : Option ae_R} (h : ¬ (a = g ∧ b = i ∧ c = k)) : (ae_wR σ g i k x).2.2.2 a b c = σ.2.2.2 a b c := if_neg h
/-- a row copied from its begin, 256 of it -/
theorem ma_rC {σ : ae_S} {q0 q1 : ae_R} {k : Nat} (h : k < 256) : (ae_wC σ q0 q1 (0 : Int32).toNatClampNeg (0 : Int32).toNatClampNeg (256 : Int32).toNatClampNeg).1 q1.1 q1.2 k = σ.1 q0.1 q0.2 k := by
  show (if q1.1 = q1.1 ∧ q1.2 = q1.2 then va_cpy (σ.1 q0.1 q0.2) (σ.1 q1.1 q1.2) 0 0 256 k else _) = _
  rw [if_pos ⟨rfl, rfl⟩, va_cpy, if_pos ⟨Nat.zero_le _, by omega⟩, Nat.zero_add, Nat.sub_zero]
theorem ma_rCn {σ : ae_S} {q0 q1 : ae_R} {sp dp n a c : Nat} {b : Fin 32} (h : ¬ (a = q1.1 ∧ b = q1.2)) : (ae_wC σ q0 q1 sp dp n).1 a b c = σ.1 a b c := if_neg h
theorem ma_ic {α : Type} {a b : Prop} {i : Decidable a} [j : Decidable b] {x y : α} (h : a ↔ b) : @ite α a i x y = @ite α b j x y := by
  by_cases q : a
  · rw [if_pos q, if_pos (h.mp q)]
  · rw [if_neg q, if_neg (fun c => q (h.mpr c))]
/-- the model's isIn -/
theorem ma_isIn (a lo hi : Int64) (σ : ae_S) : F_X12_isIn a lo hi σ = some (if lo ≤ a ∧ a ≤ hi then 1 else 0, σ) := by
  unfold F_X12_isIn F_X12_isIn_17 F_X12_isIn_18
  by_cases h1 : lo ≤ a
  · rw [if_neg (fun h => by rw [lg_cmp_lt, fa_lt64] at h; rw [fa_le64] at h1; omega)]
    by_cases h2 : a ≤ hi
    · rw [if_neg (fun h => by rw [lg_cmp_gt, fa_lt64] at h; rw [fa_le64] at h2; omega), if_pos ⟨h1, h2⟩]
      rfl
    · rw [if_pos (by rw [lg_cmp_gt, fa_lt64]; rw [fa_le64] at h2; omega), if_neg (fun h => h2 h.2)]
      rfl
  · rw [if_pos (by rw [lg_cmp_lt, fa_lt64]; rw [fa_le64] at h1; omega), if_neg (fun h => h1 h.1)]
    rfl
/-- isIn of an int from 0 on below n -/
theorem ma_isInN {x y : Int32} (n : Nat) (hy : y = nI n) (hn : n < 2 ^ 31) (σ : ae_S) : F_X12_isIn x.toInt64 (0 : Int64) ((y - (1 : Int32)).toInt64) σ = some (if 0 ≤ x.toInt ∧ x.toInt < n then 1 else 0, σ) := by
  rw [ma_isIn]
  have e : (y - (1 : Int32)).toInt = (n : Int) - 1 := by
    subst hy
    rcases Nat.eq_zero_or_pos n with rfl | h
    · decide
    · rw [show nI n - (1 : Int32) = nI (n - 1) by rw [← nI_pred (n - 1), show n - 1 + 1 = n by omega], nI_toInt (by omega)]
      omega
  congr 2
  refine ma_ic ?_
  rw [fa_le64, fa_le64, Int32.toInt_toInt64, Int32.toInt_toInt64, e]
  show (0 : Int) ≤ _ ∧ _ ↔ _
  omega
theorem ma_isInL {x y : Int32} (n : Nat) (hy : y = nI n) (hn : n < 2 ^ 31) (σ : ae_S) : F_X12_isIn x.toInt64 (0 : Int64) y.toInt64 σ = some (if 0 ≤ x.toInt ∧ x.toInt ≤ n then 1 else 0, σ) := by
  rw [ma_isIn]
  congr 2
  refine ma_ic ?_
  rw [fa_le64, fa_le64, Int32.toInt_toInt64, Int32.toInt_toInt64, hy, nI_toInt hn]
  show (0 : Int) ≤ _ ∧ _ ↔ _
  omega
/-- an int: below 0, some number below n, or n and more -/
theorem ma_ix (x : Int32) {n : Nat} (hn : n < 2 ^ 31) : x < 0 ∧ x.toInt < 0 ∨ (¬ x < 0 ∧ nI n ≤ x ∧ (n : Int) ≤ x.toInt) ∨ ∃ j : Nat, j < n ∧ x = nI j ∧ x.toInt = (j : Int) := by
  by_cases h : x < 0
  · refine .inl ⟨h, ?_⟩
    rw [fa_lt] at h; exact h
  · obtain ⟨j, hj, rfl⟩ := nI_of h
    by_cases h2 : j < n
    · exact .inr (.inr ⟨j, h2, rfl, nI_toInt hj⟩)
    · refine .inr (.inl ⟨h, nI_le (by omega) hj, ?_⟩)
      rw [nI_toInt hj]; omega
