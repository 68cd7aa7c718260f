/-! A PURE PICTURE OF THE MACHINE: cells by group and place, values, states; what it is that a walk comes to its end (ae_T), a method's contract (ae_Met) -/
abbrev ae_R : Type := Nat × Fin 32
abbrev ae_V : Type := Int32 ⊕ (Int64 ⊕ (UInt64 ⊕ (UInt32 ⊕ Option ae_R)))
abbrev ae_i (x : Int32) : ae_V := .inl x
abbrev ae_l (x : Int64) : ae_V := .inr (.inl x)
abbrev ae_d (x : UInt64) : ae_V := .inr (.inr (.inl x))
abbrev ae_f (x : UInt32) : ae_V := .inr (.inr (.inr (.inl x)))
abbrev ae_r (x : Option ae_R) : ae_V := .inr (.inr (.inr (.inr x)))
/-- what all cells hold, by group, place, slot: ints, longs, doubles, the references that change -/
abbrev ae_S : Type := (Nat → Fin 32 → Nat → Int32) × (Nat → Fin 32 → Nat → Int64) × (Nat → Fin 32 → Nat → UInt64) × (Nat → Fin 32 → Nat → Option ae_R)
/-- what a run fixes: class numbers, slots, addresses, array classes, which cells may change -/
abbrev ae_G : Type := (Nat → ClassId) × (Nat → Nat → Nat) × (Nat → Fin 32 → Nat) × (FieldType → ClassId) × (Nat → Prop)
abbrev ae_gD (G : ae_G) : va_G := (G.1, G.2.1)
abbrev ae_ga (G : ae_G) : Nat → Fin 32 → Nat := G.2.2.1
abbrev ae_gc (G : ae_G) : FieldType → ClassId := G.2.2.2.1
abbrev ae_gA (G : ae_G) : Nat → Prop := G.2.2.2.2
/-- a group: how many cells; a class by its number in vwCl, or the elements' type and the length -/
abbrev ae_Sh : Type := Nat × (Nat ⊕ (FieldType × (Fin 32 → Nat)))
def ae_tb : List ae_Sh := [
  (1, .inl 9),
  (2, .inl 5),
  (2, .inr (.int, fun i => if i = 0 then 500 else 256)),
  (1, .inl 0),
  (16, .inr (.int, fun _ => 256)),
  (1, .inr (.array .int, fun _ => 8)),
  (1, .inl 4),
  (2, .inr (.object "ByteViews$View", fun _ => 16)),
  (32, .inl 7),
  (32, .inr (.long, fun _ => 8)),
  (32, .inr (.int, fun _ => 8)),
  (32, .inr (.int, fun _ => 8)),
  (1, .inl 6),
  (3, .inr (.int, fun _ => 501)),
  (1, .inr (.long, fun _ => 501)),
  (1, .inl 1),
  (2, .inr (.int, fun _ => 1002)),
  (1, .inr (.long, fun _ => 1002)),
  (1, .inl 8),
  (1, .inl 3),
  (3, .inr (.int, fun _ => 501)),
  (1, .inl 2),
  (1, .inr (.long, fun _ => 252)),
  (1, .inr (.boolean, fun _ => 252)),
  (1, .inr (.array .int, fun _ => 6)),
  (2, .inr (.int, fun _ => 6)),
  (1, .inr (.int, fun _ => 20)),
  (1, .inr (.long, fun _ => 64)),
  (0, .inl 0),
  (0, .inl 0),
  (1, .inl 10),
  (1, .inr (.int, fun _ => 256)),
  (1, .inr (.int, fun _ => 256)),
  (1, .inr (.boolean, fun _ => 256)),
  (1, .inr (.int, fun _ => 2048)),
  (1, .inr (.long, fun _ => 32)),
  (1, .inr (.int, fun _ => 32)),
  (1, .inr (.int, fun _ => 32)),
  (1, .inr (.int, fun _ => 32)),
  (1, .inr (.int, fun _ => 32)),
  (1, .inr (.int, fun _ => 32)),
  (1, .inr (.int, fun _ => 32)),
  (1, .inr (.int, fun _ => 32)),
  (1, .inr (.long, fun _ => 256)),
  (1, .inr (.int, fun _ => 256)),
  (1, .inr (.int, fun _ => 256)),
  (1, .inr (.int, fun _ => 500)),
  (1, .inr (.int, fun _ => 600)),
  (1, .inr (.int, fun _ => 600)),
  (1, .inr (.int, fun _ => 600)),
  (1, .inr (.int, fun _ => 600)),
  (1, .inr (.long, fun _ => 600)),
  (1, .inr (.double, fun _ => 600)),
  (1, .inr (.int, fun _ => 20)),
  (1, .inr (.int, fun _ => 1792)),
  (1, .inr (.long, fun _ => 64)),
  (1, .inr (.double, fun _ => 64)),
  (1, .inr (.int, fun _ => 600))]
def ae_sh (g : Nat) : ae_Sh := ae_tb.getD g (0, .inl 0)
/-- the class numbers of vwCl: field types -/
def ae_tys : List (Nat → FieldType) := [tyX0, tyX1, tyX4, tyX5, tyX6, tyX7, tyX8, tyX9, tyX10, tyX11, tyX12]
def ae_ty (ci : Nat) : Nat → FieldType := ae_tys.getD ci (fun _ => .int)
/-- the references that never change -/
def ae_rc (g : Nat) (i : Fin 32) (k : Nat) : Option ae_R :=
  if g = 0 then ([some (1, 0), some (1, 1), some (3, 0), some (6, 0), some (12, 0), some (18, 0), some (19, 0), some (21, 0), some (27, 0)] : List (Option ae_R)).getD k none
  else if g = 1 then some (2, i)
  else if g = 3 then ([some (4, 0), some (4, 1), some (5, 0)] : List (Option ae_R)).getD k none
  else if g = 5 then some (4, Fin.ofNat 32 (k + 2))
  else if g = 7 then some (8, Fin.ofNat 32 (16 * i.val + k))
  else if g = 8 then ([some (9, i), some (10, i), some (11, i)] : List (Option ae_R)).getD k none
  else if g = 12 then ([some (1, 0), some (13, 0), some (13, 1), some (13, 2), some (14, 0)] : List (Option ae_R)).getD k none
  else if g = 15 then ([some (16, 0), some (17, 0), some (16, 1)] : List (Option ae_R)).getD k none
  else if g = 18 then ([some (12, 0), some (6, 0)] : List (Option ae_R)).getD k none
  else if g = 19 then ([some (12, 0), some (6, 0), some (15, 0), some (20, 0), some (20, 1), some (20, 2)] : List (Option ae_R)).getD k none
  else if g = 21 then ([some (15, 0), some (6, 0), some (3, 0), some (22, 0), some (23, 0), some (24, 0), some (25, 0), some (25, 1), some (26, 0)] : List (Option ae_R)).getD k none
  else if g = 24 then some (4, Fin.ofNat 32 (k + 10))
  else if g = 30 then ([none, some (31, 0), some (32, 0), some (33, 0), some (34, 0), none, some (35, 0), some (36, 0), some (37, 0), some (38, 0), some (39, 0), some (40, 0), some (41, 0), some (42, 0), some (43, 0), some (44, 0), some (45, 0), none, none, some (46, 0), none, none, none, none, none, none, none, none, none, none, none, none, some (47, 0), some (48, 0), some (49, 0), some (50, 0), some (51, 0), some (52, 0), none, none, none, none, some (53, 0), none, some (54, 0), none, none, none, some (55, 0), some (56, 0), some (57, 0)] : List (Option ae_R)).getD k none
  else none
/-- the references that change: a Shelf's two rows, a View's kind -/
def ae_mu (g k : Nat) : Bool := (g == 6 && k < 2) || (g == 8 && k == 4)
def ae_rv (σ : ae_S) (g : Nat) (i : Fin 32) (k : Nat) : Option ae_R := if ae_mu g k = true then σ.2.2.2 g i k else ae_rc g i k
def ae_ar (G : ae_G) (r : Option ae_R) : Option Nat := r.map fun q => ae_ga G q.1 q.2
def ae_fv (G : ae_G) (σ : ae_S) (g : Nat) (i : Fin 32) (k : Nat) (ty : FieldType) : Value := match ty with
  | .long => .long (σ.2.1 g i k)
  | .double => .double (σ.2.2.1 g i k)
  | .object _ => va_rf (ae_ar G (ae_rv σ g i k))
  | .array _ => va_rf (ae_ar G (ae_rv σ g i k))
  | _ => .int (σ.1 g i k)
def ae_av (G : ae_G) (σ : ae_S) (g : Nat) (i : Fin 32) (ty : FieldType) : (Nat → Int32) ⊕ (Nat → Int64) ⊕ (Nat → UInt32) ⊕ (Nat → UInt64) ⊕ (Nat → Option Nat) := match ty with
  | .long => .inr (.inl (σ.2.1 g i))
  | .double => .inr (.inr (.inr (.inl (σ.2.2.1 g i))))
  | .object _ => .inr (.inr (.inr (.inr (fun j => ae_ar G (ae_rv σ g i j)))))
  | .array _ => .inr (.inr (.inr (.inr (fun j => ae_ar G (ae_rv σ g i j)))))
  | _ => .inl (σ.1 g i)
def ae_fs (G : ae_G) (σ : ae_S) (g : Nat) (i : Fin 32) (ci : Nat) : List Value := (List.range ((vwCl.getD ci ("", TX0, 0)).2.2)).map fun k => ae_fv G σ g i k (ae_ty ci k)
def ae_ce (G : ae_G) (σ : ae_S) (r : ae_R) : va_E := match (ae_sh r.1).2 with
  | .inl ci => .inr (ci, ae_fs G σ r.1 r.2 ci)
  | .inr (ty, n) => .inl (ae_gc G ty, n r.2, ae_av G σ r.1 r.2 ty)
def ae_cs : List ae_R := (List.range 58).flatMap fun g => ((List.range 32).filter fun i => decide (i < (ae_sh g).1)).map fun i => (g, Fin.ofNat 32 i)
def ae_wl (G : ae_G) (σ : ae_S) : va_W := ae_cs.map fun r => (ae_ga G r.1 r.2, ae_ce G σ r)
def ae_ok (r : ae_R) : Bool := decide (r.1 < 58) && ((ae_sh r.1).1 == 32 || decide (r.2.val < (ae_sh r.1).1))
theorem ae_in {r : ae_R} (h : ae_ok r = true) : r ∈ ae_cs := by
  simp only [ae_ok, Bool.and_eq_true, Bool.or_eq_true, decide_eq_true_eq, beq_iff_eq] at h
  refine List.mem_flatMap.mpr ⟨r.1, List.mem_range.mpr h.1, List.mem_map.mpr ⟨r.2.val, List.mem_filter.mpr ⟨List.mem_range.mpr r.2.isLt, ?_⟩, ?_⟩⟩
  · refine decide_eq_true ?_
    rcases h.2 with h2 | h2
    · rw [h2]; exact r.2.isLt
    · exact h2
  · exact Prod.ext rfl (Fin.ext (Nat.mod_eq_of_lt r.2.isLt))
theorem ae_place {G : ae_G} {σ : ae_S} {r : ae_R} (h : ae_ok r = true) : ∃ k : Nat, (ae_wl G σ)[k]? = some (ae_ga G r.1 r.2, ae_ce G σ r) ∧ ae_cs[k]? = some r := by
  obtain ⟨k, hk⟩ := List.getElem?_of_mem (ae_in h)
  exact ⟨k, by rw [ae_wl, List.getElem?_map, hk]; rfl, hk⟩
/-- one cell changes -/
theorem ae_wset {G : ae_G} {σ σ' : ae_S} {r : ae_R} {k : Nat} (hk : ae_cs[k]? = some r) (hD : va_D (ae_gA G) (ae_wl G σ)) (ho : ∀ q : ae_R, q ≠ r → ae_ce G σ' q = ae_ce G σ q) : (ae_wl G σ).set k (ae_ga G r.1 r.2, ae_ce G σ' r) = ae_wl G σ' := by
  apply List.ext_getElem?
  intro j
  rw [List.getElem?_set]
  by_cases hj : k = j
  · subst hj
    have hlt : k < (ae_wl G σ).length := by rw [ae_wl, List.length_map]; exact (List.getElem?_eq_some_iff.mp hk).1
    rw [if_pos rfl, if_pos hlt, ae_wl, List.getElem?_map, hk]
    rfl
  · rw [if_neg hj, ae_wl, ae_wl, List.getElem?_map, List.getElem?_map]
    cases hq : ae_cs[j]? with
    | none => rfl
    | some q =>
      have hne : q ≠ r := fun e => by
        subst e
        exact hj (hD.1 k j (ae_ga G q.1 q.2, ae_ce G σ q) (ae_ga G q.1 q.2, ae_ce G σ q) (by rw [ae_wl, List.getElem?_map, hk]; rfl) (by rw [ae_wl, List.getElem?_map, hq]; rfl) rfl)
      show some (ae_ga G q.1 q.2, ae_ce G σ q) = some (ae_ga G q.1 q.2, ae_ce G σ' q)
      rw [ho q hne]
/-! what values and states stand for -/
def ae_sv (G : ae_G) (v : ae_V) (w : Value) : Prop := match v with
  | .inl x => w = .int x
  | .inr (.inl x) => w = .long x
  | .inr (.inr (.inl x)) => ∃ y : UInt64, w = .double y ∧ alike64 y x = true
  | .inr (.inr (.inr (.inl x))) => ∃ y : UInt32, w = .float y ∧ alike32 y x = true
  | .inr (.inr (.inr (.inr r))) => w = va_rf (ae_ar G r)
def ae_cat (v : ae_V) : Nat := match v with
  | .inr (.inl _) => 2
  | .inr (.inr (.inl _)) => 2
  | _ => 1
theorem ae_rf1 (r : Option Nat) : (va_rf r).category = 1 := by cases r <;> rfl
theorem ae_sv_cat {G : ae_G} {v : ae_V} {w : Value} (h : ae_sv G v w) : w.category = ae_cat v := by
  rcases v with x | x | x | x | r
  · cases h; rfl
  · cases h; rfl
  · obtain ⟨y, rfl, -⟩ := h; rfl
  · obtain ⟨y, rfl, -⟩ := h; rfl
  · have h1 : w = va_rf (ae_ar G r) := h
    rw [h1]; exact ae_rf1 _
def ae_ss (G : ae_G) : List ae_V → List Value → Prop
  | [], [] => True
  | v :: vs, w :: ws => ae_sv G v w ∧ ae_ss G vs ws
  | _, _ => False
theorem ae_ss_c {G : ae_G} {v : ae_V} {vs : List ae_V} {ws : List Value} (h : ae_ss G (v :: vs) ws) : ∃ w r, ws = w :: r ∧ ae_sv G v w ∧ ae_ss G vs r := by
  cases ws with
  | nil => exact h.elim
  | cons w r => exact ⟨w, r, rfl, h.1, h.2⟩
theorem ae_ss_n {G : ae_G} {ws : List Value} (h : ae_ss G [] ws) : ws = [] := by
  cases ws with
  | nil => rfl
  | cons w r => exact h.elim
theorem ae_ss_i {G : ae_G} {x : Int32} {vs : List ae_V} {ws : List Value} (h : ae_ss G (ae_i x :: vs) ws) : ∃ r, ws = .int x :: r ∧ ae_ss G vs r := by
  obtain ⟨w, r, rfl, h1, h2⟩ := ae_ss_c h
  exact ⟨r, by rw [show w = .int x from h1], h2⟩
theorem ae_ss_l {G : ae_G} {x : Int64} {vs : List ae_V} {ws : List Value} (h : ae_ss G (ae_l x :: vs) ws) : ∃ r, ws = .long x :: r ∧ ae_ss G vs r := by
  obtain ⟨w, r, rfl, h1, h2⟩ := ae_ss_c h
  exact ⟨r, by rw [show w = .long x from h1], h2⟩
theorem ae_ss_r {G : ae_G} {q : ae_R} {vs : List ae_V} {ws : List Value} (h : ae_ss G (ae_r (some q) :: vs) ws) : ∃ r, ws = .ref (ae_ga G q.1 q.2) :: r ∧ ae_ss G vs r := by
  obtain ⟨w, r, rfl, h1, h2⟩ := ae_ss_c h
  exact ⟨r, by rw [show w = .ref (ae_ga G q.1 q.2) from h1], h2⟩
theorem ae_ss_app {G : ae_G} : ∀ {as bs : List ae_V} {ws : List Value}, ae_ss G (as ++ bs) ws → ∃ us vs, ws = us ++ vs ∧ ae_ss G as us ∧ ae_ss G bs vs
  | [], _, ws, h => ⟨[], ws, rfl, trivial, h⟩
  | a :: as, bs, ws, h => by
    obtain ⟨w, r, rfl, h1, h2⟩ := ae_ss_c h
    obtain ⟨us, vs, rfl, h3, h4⟩ := ae_ss_app h2
    exact ⟨w :: us, vs, rfl, ⟨h1, h3⟩, h4⟩
theorem ae_ss_app2 {G : ae_G} : ∀ {as bs : List ae_V} {us vs : List Value}, ae_ss G as us → ae_ss G bs vs → ae_ss G (as ++ bs) (us ++ vs)
  | [], _, us, vs, h, h2 => by rw [ae_ss_n h]; exact h2
  | a :: as, bs, us, vs, h, h2 => by
    obtain ⟨w, r, rfl, h1, h3⟩ := ae_ss_c h
    exact ⟨h1, ae_ss_app2 h3 h2⟩
theorem ae_ss_rev {G : ae_G} : ∀ {as : List ae_V} {us : List Value}, ae_ss G as us → ae_ss G as.reverse us.reverse
  | [], us, h => by rw [ae_ss_n h]; exact trivial
  | a :: as, us, h => by
    obtain ⟨w, r, rfl, h1, h2⟩ := ae_ss_c h
    rw [List.reverse_cons, List.reverse_cons]
    exact ae_ss_app2 (ae_ss_rev h2) ⟨h1, trivial⟩
theorem ae_ss_len {G : ae_G} : ∀ {as : List ae_V} {us : List Value}, ae_ss G as us → us.length = as.length
  | [], us, h => by rw [ae_ss_n h]; rfl
  | a :: as, us, h => by
    obtain ⟨w, r, rfl, -, h2⟩ := ae_ss_c h
    rw [List.length_cons, List.length_cons, ae_ss_len h2]
theorem ae_ss_cat {G : ae_G} : ∀ {as : List ae_V} {us : List Value}, ae_ss G as us → (us.map fun v => v.category).sum = (as.map ae_cat).sum
  | [], us, h => by rw [ae_ss_n h]; rfl
  | a :: as, us, h => by
    obtain ⟨w, r, rfl, h1, h2⟩ := ae_ss_c h
    rw [List.map_cons, List.map_cons, List.sum_cons, List.sum_cons, ae_ss_cat h2, ae_sv_cat h1]
/-- states alike but for the bits of NaNs -/
def ae_sS (σ σ0 : ae_S) : Prop := σ0.1 = σ.1 ∧ σ0.2.1 = σ.2.1 ∧ (∀ g i k, alike64 (σ0.2.2.1 g i k) (σ.2.2.1 g i k) = true) ∧ σ0.2.2.2 = σ.2.2.2
/-- locals -/
def ae_hl (G : ae_G) (ls : Array Slot) (n : Nat) (lv : List (Nat × ae_V)) : Prop := ls.size = n ∧ lv_wf ls ∧ ∀ q ∈ lv, ∃ w : Value, ls[q.1]? = some (.val w) ∧ ae_sv G q.2 w
def ae_st1 (i : Nat) (v : ae_V) (lv : List (Nat × ae_V)) : List (Nat × ae_V) := (i, v) :: lv.filter (fun q => !(q.1 == i) && !(q.1 + 1 == i && ae_cat q.2 == 2))
def ae_st2 (i : Nat) (v : ae_V) (lv : List (Nat × ae_V)) : List (Nat × ae_V) := (i, v) :: lv.filter (fun q => !(q.1 == i) && (!(q.1 == i + 1) && !(q.1 + 1 == i && ae_cat q.2 == 2)))
theorem ae_hl_one {G : ae_G} {ls : Array Slot} {n : Nat} {lv : List (Nat × ae_V)} (h : ae_hl G ls n lv) {q : Nat × ae_V} (hq : q ∈ lv) : ∃ w : Value, lv_has ls n [(q.1, w)] ∧ ae_sv G q.2 w := by
  obtain ⟨w, h1, h2⟩ := h.2.2 q hq
  exact ⟨w, ⟨h.1, h.2.1, fun x hx => by rw [List.mem_singleton.mp hx]; exact h1⟩, h2⟩
theorem ae_hl_st1 {G : ae_G} {ls : Array Slot} {n i : Nat} {lv : List (Nat × ae_V)} {v : ae_V} {w : Value} (h : ae_hl G ls n lv) (hi : i < n) (hv : ae_sv G v w) (hc : ae_cat v = 1) : ∃ ls', storeLocals ls i w = some ls' ∧ ae_hl G ls' n (ae_st1 i v lv) := by
  have hw : w.category = 1 := (ae_sv_cat hv).trans hc
  obtain ⟨ls', e1, h1⟩ := lv_store1 (l := []) (v := w) ⟨h.1, h.2.1, fun x hx => by cases hx⟩ hi hw
  refine ⟨ls', e1, h1.1, h1.2.1, fun q hq => ?_⟩
  rcases List.mem_cons.mp hq with rfl | hq
  · exact ⟨w, h1.2.2 (i, w) List.mem_cons_self, hv⟩
  · obtain ⟨hm, hp⟩ := List.mem_filter.mp hq
    obtain ⟨w2, h2, h3⟩ := ae_hl_one h hm
    obtain ⟨ls2, e2, h4⟩ := lv_store1 (v := w) h2 hi hw
    cases e1.symm.trans e2
    refine ⟨w2, h4.2.2 (q.1, w2) (List.mem_cons_of_mem _ (List.mem_filter.mpr ⟨List.mem_cons_self, ?_⟩)), h3⟩
    rw [← ae_sv_cat h3] at hp
    exact hp
theorem ae_hl_st2 {G : ae_G} {ls : Array Slot} {n i : Nat} {lv : List (Nat × ae_V)} {v : ae_V} {w : Value} (h : ae_hl G ls n lv) (hi : i + 1 < n) (hv : ae_sv G v w) (hc : ae_cat v = 2) : ∃ ls', storeLocals ls i w = some ls' ∧ ae_hl G ls' n (ae_st2 i v lv) := by
  have hw : w.category = 2 := (ae_sv_cat hv).trans hc
  obtain ⟨ls', e1, h1⟩ := lv_store2 (l := []) (v := w) ⟨h.1, h.2.1, fun x hx => by cases hx⟩ hi hw
  refine ⟨ls', e1, h1.1, h1.2.1, fun q hq => ?_⟩
  rcases List.mem_cons.mp hq with rfl | hq
  · exact ⟨w, h1.2.2 (i, w) List.mem_cons_self, hv⟩
  · obtain ⟨hm, hp⟩ := List.mem_filter.mp hq
    obtain ⟨w2, h2, h3⟩ := ae_hl_one h hm
    obtain ⟨ls2, e2, h4⟩ := lv_store2 (v := w) h2 hi hw
    cases e1.symm.trans e2
    refine ⟨w2, h4.2.2 (q.1, w2) (List.mem_cons_of_mem _ (List.mem_filter.mpr ⟨List.mem_cons_self, ?_⟩)), h3⟩
    rw [← ae_sv_cat h3] at hp
    exact hp
/-- the locals with which a method begins -/
def ae_la : Nat → List ae_V → List (Nat × ae_V)
  | _, [] => []
  | i, v :: vs => (i, v) :: ae_la (if ae_cat v = 2 then i + 2 else i + 1) vs
theorem ae_la_in {G : ae_G} : ∀ {as : List ae_V} {us : List Value} (i : Nat), ae_ss G as us → ∀ q ∈ ae_la i as, ∃ w : Value, (q.1, w) ∈ lv_args i us ∧ ae_sv G q.2 w
  | [], us, i, h, q, hq => by cases hq
  | a :: as, us, i, h, q, hq => by
    obtain ⟨w, r, rfl, h1, h2⟩ := ae_ss_c h
    rcases List.mem_cons.mp hq with rfl | hq
    · exact ⟨w, List.mem_cons_self, h1⟩
    · rw [← ae_sv_cat h1] at hq
      obtain ⟨w2, h3, h4⟩ := ae_la_in (if w.category = 2 then i + 2 else i + 1) h2 q hq
      exact ⟨w2, List.mem_cons_of_mem _ h3, h4⟩
theorem ae_sl_len : ∀ (us : List Value), (lg_sl us).length = (us.map fun v => v.category).sum
  | [] => rfl
  | u :: us => by
    have h : lg_sl (u :: us) = (if u.category = 2 then [Slot.val u, .second] else [.val u]) ++ lg_sl us := rfl
    rw [h, List.length_append, ae_sl_len us, List.map_cons, List.sum_cons]
    rcases lv_cat u with h1 | h1 <;> rw [h1] <;> rfl
/-- the words that go from a method to those that it calls -/
def lw_g : List Cond := lw_tbl.filter goodWord
theorem lw_g_good : GoodIn lw_g lw_g := fun w h => ⟨h, good_of_word (List.mem_filter.mp h).2⟩
/-- what is known of the tables and of the constants at a state -/
def ae_at : List FieldType := [.int, .long, .boolean, .double, .array .int, .object "ByteViews$View"]
/-- the constants: the enum's nine, their words, their row; the Strings -/
def ae_kn : List String := ["U8", "S8", "U16", "S16", "U32", "S32", "S64", "F32", "F64"]
def ae_kF : List (String × String × String × List Int32) := [("ByteViews$Kind", "number", "I", [0, 1, 2, 3, 4, 5, 6, 7, 8]), ("ByteViews$Kind", "bytes", "I", [1, 1, 2, 2, 4, 4, 8, 4, 8]), ("ByteViews$Kind", "signed", "Z", [0, 1, 0, 1, 0, 1, 1, 1, 1]), ("ByteViews$Kind", "floating", "Z", [0, 0, 0, 0, 0, 0, 0, 1, 1])]
def ae_kw (i : Nat) : Fin 32 := ([16, 17, 18, 19, 20, 21, 22, 23, 24] : List (Fin 32)).getD i 0
def ae_sx : List (List Int32) := [[98, 105, 103], [97, 116], [120], [98, 121], [114, 111], [111, 110, 101, 115], [114, 101, 97, 100, 115], [105, 102], [102, 97, 105, 108], [32, 98, 105, 103], [32, 97, 116, 32], [32, 120, 32], [32, 98, 121, 32], [32, 114, 111], [32, 111, 110, 101, 115], [32, 114, 101, 97, 100, 115], [117, 56], [115, 56], [117, 49, 54], [115, 49, 54], [117, 51, 50], [115, 51, 50], [115, 54, 52], [102, 51, 50], [102, 54, 52], [102], [115], [117]]
def ae_sr : List (String × Nat × String × Fin 32) := [("ByteViews$Tokens", 79, "big", 0), ("ByteViews$Tokens", 85, "at", 1), ("ByteViews$Tokens", 87, "x", 2), ("ByteViews$Tokens", 89, "by", 3), ("ByteViews$Tokens", 91, "ro", 4), ("ByteViews$Tokens", 93, "ones", 5), ("ByteViews$Tokens", 95, "reads", 6), ("ByteViews$Tokens", 97, "if", 7), ("ByteViews$Tokens", 99, "fail", 8), ("ByteViews$ViewReader", 106, "big", 0), ("ByteViews$ViewReader", 115, "at", 1), ("ByteViews$ViewReader", 127, "x", 2), ("ByteViews$ViewReader", 138, "by", 3), ("ByteViews$ViewReader", 146, "ro", 4), ("ByteViews$ViewReader", 151, "ones", 5), ("ByteViews$ViewReader", 153, "reads", 6), ("ByteViews$ScriptReader", 71, "if", 7), ("ByteViews$ScriptReader", 84, "fail", 8), ("ByteViews$View", 164, " big", 9), ("ByteViews$View", 166, " at ", 10), ("ByteViews$View", 171, " x ", 11), ("ByteViews$View", 173, " by ", 12), ("ByteViews$View", 175, " ro", 13), ("ByteViews$View", 177, " ones", 14), ("ByteViews$View", 179, " reads", 15), ("ByteViewsModel", 231, "big", 0), ("ByteViewsModel", 232, "at", 1), ("ByteViewsModel", 234, "x", 2), ("ByteViewsModel", 236, "by", 3), ("ByteViewsModel", 225, "ro", 4), ("ByteViewsModel", 227, "ones", 5), ("ByteViewsModel", 229, "reads", 6), ("ByteViewsModel", 241, "if", 7), ("ByteViewsModel", 243, "fail", 8), ("ByteViewsModel", 203, "u8", 16), ("ByteViewsModel", 209, "s8", 17), ("ByteViewsModel", 211, "u16", 18), ("ByteViewsModel", 213, "s16", 19), ("ByteViewsModel", 215, "u32", 20), ("ByteViewsModel", 217, "s32", 21), ("ByteViewsModel", 219, "s64", 22), ("ByteViewsModel", 221, "f32", 23), ("ByteViewsModel", 223, "f64", 24), ("ByteViewsModel", 497, "f", 25), ("ByteViewsModel", 499, "s", 26), ("ByteViewsModel", 501, "u", 27), ("ByteViewsModel", 516, " big", 9), ("ByteViewsModel", 518, " at ", 10), ("ByteViewsModel", 520, " x ", 11), ("ByteViewsModel", 522, " by ", 12), ("ByteViewsModel", 524, " ro", 13), ("ByteViewsModel", 526, " ones", 14), ("ByteViewsModel", 528, " reads", 15), ("ByteViews$Kind", 69, "u8", 16), ("ByteViews$Kind", 75, "s8", 17), ("ByteViews$Kind", 78, "u16", 18), ("ByteViews$Kind", 81, "s16", 19), ("ByteViews$Kind", 84, "u32", 20), ("ByteViews$Kind", 87, "s32", 21), ("ByteViews$Kind", 90, "s64", 22), ("ByteViews$Kind", 93, "f32", 23), ("ByteViews$Kind", 96, "f64", 24)]
def ae_N (G : ae_G) (U : State) : Prop :=
  va_En "ByteViews$Kind" "LByteViews$Kind;" ae_kn ae_kF (fun i => ae_ga G 60 (Fin.ofNat 32 i)) (ae_gA G) U U.heap ∧
  (∀ i : Nat, i < 9 → va_OF "ByteViews$Kind" "word" "Ljava/lang/String;" (.ref (ae_ga G 62 (ae_kw i))) (ae_ga G 60 (Fin.ofNat 32 i)) (ae_gA G) U U.heap) ∧
  va_Z "ByteViews" "KINDS" "[LByteViews$Kind;" (.ref (ae_ga G 61 0)) (ae_gA G) U U.heap ∧
  va_T (.object "ByteViews$Kind") (ae_ga G 61 0) 9 (fun j => .ref (ae_ga G 60 (Fin.ofNat 32 j))) (ae_gA G) U U.heap ∧
  vk_S 28 (ae_sx.map List.length) ae_sx (fun i => ae_ga G 62 (Fin.ofNat 32 i)) (fun i => ae_ga G 63 (Fin.ofNat 32 i)) (ae_gA G) U U.heap ∧
  (∀ q ∈ ae_sr, vk_R q.1 q.2.1 q.2.2.1 (ae_ga G 62 q.2.2.2) U) ∧
  va_Z "java/lang/String" "COMPACT_STRINGS" "Z" (.int 1) (ae_gA G) U U.heap ∧
  va_Zq "jdk/internal/util/Preconditions" "SIOOBE_FORMATTER" "Ljava/util/function/BiFunction;" (ae_gA G) U U.heap ∧
  va_Nw (.fieldLinkNest "ByteViews$Tokens" 112 "ByteViews" "KINDS" "[LByteViews$Kind;" "ByteViews") U
theorem ae_N.step {G : ae_G} {u v : State} (h : ae_N G u) (hW : u.WarmedH v.vm) (hk : ∀ a : Nat, a < u.heap.size → ¬ ae_gA G a → v.heap[a]? = u.heap[a]?) : ae_N G v := by
  obtain ⟨h1, h2, h3, h4, h5, h6, h7, h8, h9⟩ := h
  exact ⟨(va_En.moved hW.alike h1).kept hk, fun i hi => (va_OF.moved hW.alike (h2 i hi)).kept hk, (va_Z.moved hW.alike h3).kept hk, (va_T.moved hW.alike h4).kept hk, (vk_S.moved hW.alike h5).kept hk, fun q hq => vk_R.warm hW (h6 q hq), (va_Z.moved hW.alike h7).kept hk, (va_Zq.moved hW.alike h8).kept hk, va_Nw.warmF hW h9⟩
def ae_K (G : ae_G) (U : State) : Prop := va_K (ae_gD G) vwCl [] U ∧ (∀ ty ∈ ae_at, ArrOfT U (ae_gc G ty) ty ∧ va_RA U (ae_gc G ty) ty) ∧ (∀ σ : ae_S, va_D (ae_gA G) (ae_wl G σ)) ∧ ae_N G U
theorem ae_K.step {G : ae_G} {u v : State} (h : ae_K G u) (hW : u.WarmedH v.vm) (_hz : u.heap.size ≤ v.heap.size) (hk : ∀ a : Nat, a < u.heap.size → ¬ ae_gA G a → v.heap[a]? = u.heap[a]?) : ae_K G v :=
  ⟨va_K.moved hW.alike h.1, fun ty ht => ⟨arrOfT_moved hW.alike (h.2.1 ty ht).1, (h.2.1 ty ht).2.moved hW.alike⟩, h.2.2.1, h.2.2.2.step hW hk⟩
theorem ae_K.arr {G : ae_G} {U : State} (h : ae_K G U) {ty : FieldType} (ht : ty ∈ ae_at) : va_K (ae_gD G) vwCl [(ae_gc G ty, ty)] U := ⟨h.1.1, fun k q hk => by
  have h0 : k < 1 := (List.getElem?_eq_some_iff.mp hk).1
  rw [show k = 0 by omega] at hk
  cases hk
  exact h.2.1 ty ht⟩
/-- a method: its class, its bytes, its locals, what it returns -/
abbrev ae_M : Type := String × ByteArray × Nat × Option FieldType
def ae_rm (d : Nat) : Room := { frames := d, cells := 0, slots := 0, locals := 40 * d }
def ae_X (G : ae_G) (M : ae_M) (p : Program) (s : State) (m : MethodId) (args : Array Value) (meth : Method) (c : Code) : Prop :=
  p.tables.exec = Jvm.exec ∧ c.code = M.2.1 ∧ c.maxLocals = M.2.2.1 ∧ s.vm.findClass M.1 = some m.cls ∧ (∀ w ∈ lw_g, w.before args s = true) ∧ meth.sig.returnType = M.2.2.2 ∧ meth.locks = false ∧ ae_K G s
def ae_so (G : ae_G) (r : Option ae_V) (w : Option Value) : Prop := match r, w with
  | none, none => True
  | some v, some x => ae_sv G v x
  | _, _ => False
def ae_Q (G : ae_G) (Po : Option ae_V → ae_S → Prop) : Array Value → State → Outcome → State → Prop := fun _ st oc t =>
  ∃ (r : Option ae_V) (w : Option Value) (σ σ0 : ae_S), oc = .returned w ∧ ae_so G r w ∧ Po r σ ∧ ae_sS σ σ0 ∧ va_P (ae_gD G) vwCl (ae_wl G σ0) t.heap ∧ va_F (ae_gA G) st t
/-- from pc, with these locals and this stack, in the state σ: the method comes to its end, and Po holds of its answer and of the state -/
def ae_T (l : Launch) (G : ae_G) (d : Nat) (M : ae_M) (Po : Option ae_V → ae_S → Prop) (pc : Nat) (lv : List (Nat × ae_V)) (st : List ae_V) (σ : ae_S) : Prop :=
  ∀ (p : Program) (e : Env) (s : State) (m : MethodId) (args : Array Value) (below : List Frame) (meth : Method) (c : Code) (H : Heap) (locs : List Loc) (d0 : Drawn) (ls : Array Slot) (st0 : List Value) (σ0 : ae_S),
    ae_X G M p s m args meth c → ae_hl G ls M.2.2.1 lv → ae_ss G st st0 → ae_sS σ σ0 → va_P (ae_gD G) vwCl (ae_wl G σ0) H → va_S (ae_gA G) s.heap H locs → s.drawn.sameBut d0 lw_cs →
    W p l e (ae_rm d) (s.setDrawn d0) m args below meth c H locs 0 0 (MQD lw_cs below (ae_Q G Po) args s 0 0 (ae_gA G)) (F0 m pc ls st0)
/-- a method's contract at depth d, called with these arguments in the state σ -/
def ae_Met (l : Launch) (G : ae_G) (d : Nat) (y : MethodName) (M : ae_M) (As : List ae_V) (σ : ae_S) (Po : Option ae_V → ae_S → Prop) : Prop :=
  ∀ As0 : List Value, ae_ss G As As0 → MetD lw_cs l y (Cond.code y M.2.1 M.2.2.1 M.2.2.2 :: lw_g) (ae_rm d) (va_Pc As0 (fun U => (∃ σ0 : ae_S, ae_sS σ σ0 ∧ va_P (ae_gD G) vwCl (ae_wl G σ0) U.heap) ∧ ae_K G U)) (ae_Q G Po) 0 0 (ae_gA G)
theorem ae_enter {l : Launch} {G : ae_G} {d : Nat} {y : MethodName} {M : ae_M} {As : List ae_V} {σ : ae_S} {Po : Option ae_V → ae_S → Prop} (hy : plainName y.cls = true) (hM : y.cls = M.1) (hn : (As.map ae_cat).sum ≤ M.2.2.1) (k : ae_T l G d M Po 0 (ae_la 0 As) [] σ) : ae_Met l G d y M As σ Po := by
  intro As0 hA
  refine MetD.ofW (cc := M.2.1) (maxL := M.2.2.1) (ret := M.2.2.2) hy rfl ?_
  intro p e s m args below meth c s₁ B hml hv hd0
  obtain ⟨rfl, ⟨σ0, hs, hP⟩, hK⟩ := hv
  have hts := atoms_spec (ws := Cond.code y M.2.1 M.2.2.1 M.2.2.2 :: lw_g) B.pre
  have hown : s.vm.findClass M.1 = some m.cls := by rw [← hM]; exact findClass_of_methodNamed B.named
  have hle : (lg_sl As0).length ≤ M.2.2.1 := by rw [ae_sl_len, ae_ss_cat hA]; exact hn
  have hl := lv_entry As0 hle
  rw [lg_entry_eq]
  exact k p e s m _ below meth c s.heap [] s.drawn _ [] σ0 ⟨B.exec, B.bytes, hml, hown, fun w h => hts w (List.mem_cons_of_mem _ h), B.returns, B.notSynchronized, hK⟩ ⟨hl.1, hl.2.1, fun q hq => by
    obtain ⟨w, h1, h2⟩ := ae_la_in 0 hA q hq
    exact ⟨w, hl.2.2 (q.1, w) h1, h2⟩⟩ trivial hs hP va_S.rf hd0
