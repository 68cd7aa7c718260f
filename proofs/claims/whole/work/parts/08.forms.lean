/-! the forms of the functions that the methods are read as, and their ends -/
def ae_fu : Nat := 4096
def ae_lt {α β : Type} (x : α) (f : α → Option β) : Option β := f x
def ae_gd {β : Type} (b : Bool) (x : Option β) : Option β := if b = true then x else none
def ae_bd {α β : Type} (x : Option (α × ae_S)) (f : α → ae_S → Option β) : Option β := match x with
  | none => none
  | some q => f q.1 q.2
def ae_mo {α β : Type} (x : Option α) (a : Option β) (f : α → Option β) : Option β := match x with
  | none => a
  | some q => f q
def ae_gk (x : Option ae_R) (g : Nat) : Option (Fin 32) := match x with
  | none => none
  | some q => if q.1 = g then some q.2 else none
abbrev ae_ro (g : Nat) (x : Option (Fin 32)) : Option ae_R := x.map fun i => (g, i)
/-- an index within -/
def ae_ib (j : Int32) (n : Nat) : Bool := !(decide (j < 0)) && decide (j.toNatClampNeg < n)
/-- a truth -/
def ae_zz (x : Int32) : Bool := decide (x = 0) || decide (x = 1)
theorem ae_ltI {α β : Type} {x : α} {f : α → Option β} {r : Option β} (h : ae_lt x f = r) : ∃ y, y = x ∧ f y = r := ⟨x, rfl, h⟩
theorem ae_gdI {β : Type} {b : Bool} {x : Option β} {r : β} (h : ae_gd b x = some r) : b = true ∧ x = some r := by
  unfold ae_gd at h
  by_cases hb : b = true
  · rw [if_pos hb] at h; exact ⟨hb, h⟩
  · rw [if_neg hb] at h; cases h
theorem ae_bdI {α β : Type} {x : Option (α × ae_S)} {f : α → ae_S → Option β} {r : β} (h : ae_bd x f = some r) : ∃ a τ, x = some (a, τ) ∧ f a τ = some r := by
  cases x with
  | none => cases h
  | some q => exact ⟨q.1, q.2, rfl, h⟩
theorem ae_moN {α β : Type} {a : Option β} {f : α → Option β} {r : Option β} (h : ae_mo none a f = r) : a = r := h
theorem ae_moS {α β : Type} {q : α} {a : Option β} {f : α → Option β} {r : Option β} (h : ae_mo (some q) a f = r) : f q = r := h
theorem ae_moO {α β : Type} {x : Option α} {f : α → Option β} {r : β} (h : ae_mo x none f = some r) : ∃ q, x = some q ∧ f q = some r := by
  cases x with
  | none => cases h
  | some q => exact ⟨q, rfl, h⟩
theorem ae_moK {β : Type} {x : Option ae_R} {g : Nat} {f : Fin 32 → Option β} {r : β} (h : ae_mo (ae_gk x g) none f = some r) : ∃ i, x = some (g, i) ∧ f i = some r := by
  cases x with
  | none => cases h
  | some q =>
    unfold ae_gk at h
    by_cases hq : q.1 = g
    · rw [show (match (some q : Option ae_R) with | none => none | some q => if q.1 = g then some q.2 else none) = some q.2 from if_pos hq] at h
      exact ⟨q.2, by rw [← hq], h⟩
    · rw [show (match (some q : Option ae_R) with | none => none | some q => if q.1 = g then some q.2 else none) = none from if_neg hq] at h
      cases h
theorem ae_ifT {α : Type} {c : Prop} [Decidable c] {a b r : α} (h : c) (hF : (if c then a else b) = r) : a = r := by rw [if_pos h] at hF; exact hF
theorem ae_ifF {α : Type} {c : Prop} [Decidable c] {a b r : α} (h : ¬ c) (hF : (if c then a else b) = r) : b = r := by rw [if_neg h] at hF; exact hF
/-- of 'not c': the other way round -/
theorem ae_ifT2 {α : Type} {c : Prop} [Decidable c] {a b r : α} (h : ¬ c) (hF : (if c then a else b) = r) : b = r := ae_ifF h hF
theorem ae_retI {α : Type} {x y : α} {σ τ : ae_S} (h : some (x, σ) = some (y, τ)) : x = y ∧ σ = τ := by cases h; exact ⟨rfl, rfl⟩
theorem ae_ibI {j : Int32} {n : Nat} (h : ae_ib j n = true) : vp_in j n := by
  unfold ae_ib at h
  simp only [Bool.and_eq_true, Bool.not_eq_true', decide_eq_false_iff_not, decide_eq_true_eq] at h
  exact fun q => q.elim h.1 (fun q => absurd h.2 (by omega))
theorem ae_zzI {x : Int32} (h : ae_zz x = true) : x = 0 ∨ x = 1 := by
  unfold ae_zz at h
  simpa using h
theorem ae_zzN {x : Int32} (h : x = 0 ∨ x = 1) : narrow .boolean (.int x) = .int x := by rcases h with rfl | rfl <;> decide
/-- what comes back: just this, in just this state -/
def ae_Po (v : Option ae_V) (τ : ae_S) : Option ae_V → ae_S → Prop := fun ro t => ro = v ∧ t = τ
section AEF
variable {l : Launch} {G : ae_G} {d : Nat} {M : ae_M} {Po : Option ae_V → ae_S → Prop} {pc : Nat} {lv : List (Nat × ae_V)} {st : List ae_V} {σ : ae_S}
theorem ae_nmS {τ : ae_S} (h : τ = σ) (k : ae_T l G d M Po pc lv st τ) : ae_T l G d M Po pc lv st σ := h ▸ k
theorem ae_nmI {x y : Int32} (h : y = x) (k : ae_T l G d M Po pc lv (ae_i y :: st) σ) : ae_T l G d M Po pc lv (ae_i x :: st) σ := h ▸ k
theorem ae_nmL {x y : Int64} (h : y = x) (k : ae_T l G d M Po pc lv (ae_l y :: st) σ) : ae_T l G d M Po pc lv (ae_l x :: st) σ := h ▸ k
theorem ae_nmD {x y : UInt64} (h : y = x) (k : ae_T l G d M Po pc lv (ae_d y :: st) σ) : ae_T l G d M Po pc lv (ae_d x :: st) σ := h ▸ k
theorem ae_nmR {x y : Option ae_R} (h : x = y) (k : ae_T l G d M Po pc lv (ae_r y :: st) σ) : ae_T l G d M Po pc lv (ae_r x :: st) σ := h ▸ k
theorem ae_cV1 {idx n ci : Nat} {y : MethodName} {M' : ae_M} {q : ae_R} {As sk : List ae_V} {T : u_T} {N : Nat} {v : ae_V} {τ : ae_S} (hd : decode M.2.1 pc = .ok (.invokevirtual idx, 3)) (hlk : Cond.methodLink M.1 idx y ∈ lw_g) (hy : ae_VY y M' n) (hq : ae_ok q = true) (hc : (ae_sh q.1).2 = .inl ci) (hcl : vwCl[ci]? = some (y.cls, T, N)) (hst : sk = As.reverse ++ (ae_r (some q) :: st)) (hn : As.length = n) (hrm : (st.map ae_cat).sum ≤ 8)
    (hM : ae_Met l G d y M' (ae_r (some q) :: As) σ (ae_Po (some v) τ)) (k : ae_T l G (d + 1) M Po (pc + 3) lv (v :: st) τ) : ae_T l G (d + 1) M Po pc lv sk σ :=
  ae_callV hd hlk hy hq hc hcl hst hn hrm hM (fun ro σ' h => by obtain ⟨rfl, rfl⟩ := h; exact k)
theorem ae_cV0 {idx n ci : Nat} {y : MethodName} {M' : ae_M} {q : ae_R} {As sk : List ae_V} {T : u_T} {N : Nat} {τ : ae_S} (hd : decode M.2.1 pc = .ok (.invokevirtual idx, 3)) (hlk : Cond.methodLink M.1 idx y ∈ lw_g) (hy : ae_VY y M' n) (hq : ae_ok q = true) (hc : (ae_sh q.1).2 = .inl ci) (hcl : vwCl[ci]? = some (y.cls, T, N)) (hst : sk = As.reverse ++ (ae_r (some q) :: st)) (hn : As.length = n) (hrm : (st.map ae_cat).sum ≤ 8)
    (hM : ae_Met l G d y M' (ae_r (some q) :: As) σ (ae_Po none τ)) (k : ae_T l G (d + 1) M Po (pc + 3) lv st τ) : ae_T l G (d + 1) M Po pc lv sk σ :=
  ae_callV hd hlk hy hq hc hcl hst hn hrm hM (fun ro σ' h => by obtain ⟨rfl, rfl⟩ := h; exact k)
theorem ae_cS1 {idx n : Nat} {y : MethodName} {M' : ae_M} {As sk : List ae_V} {v : ae_V} {τ : ae_S} (hd : decode M.2.1 pc = .ok (.invokestatic idx, 3)) (hlk : Cond.methodLink M.1 idx y ∈ lw_g) (hy : ae_SY y M' n) (hst : sk = As.reverse ++ st) (hn : As.length = n) (hrm : (st.map ae_cat).sum ≤ 8)
    (hM : ae_Met l G d y M' As σ (ae_Po (some v) τ)) (k : ae_T l G (d + 1) M Po (pc + 3) lv (v :: st) τ) : ae_T l G (d + 1) M Po pc lv sk σ :=
  ae_callS hd hlk hy hst hn hrm hM (fun ro σ' h => by obtain ⟨rfl, rfl⟩ := h; exact k)
theorem ae_cS0 {idx n : Nat} {y : MethodName} {M' : ae_M} {As sk : List ae_V} {τ : ae_S} (hd : decode M.2.1 pc = .ok (.invokestatic idx, 3)) (hlk : Cond.methodLink M.1 idx y ∈ lw_g) (hy : ae_SY y M' n) (hst : sk = As.reverse ++ st) (hn : As.length = n) (hrm : (st.map ae_cat).sum ≤ 8)
    (hM : ae_Met l G d y M' As σ (ae_Po none τ)) (k : ae_T l G (d + 1) M Po (pc + 3) lv st τ) : ae_T l G (d + 1) M Po pc lv sk σ :=
  ae_callS hd hlk hy hst hn hrm hM (fun ro σ' h => by obtain ⟨rfl, rfl⟩ := h; exact k)
end AEF
