/-! what is read is well formed -/
section KM
variable {T : kt_T} {j k st ct sd ac sz : Nat} {nm : Int64} {bg : Bool} {fs : List mv_F} {vs : List mv_V}
abbrev kGd {α : Type} (o : kv_O α) (B : α → Prop) : Prop := kv_po o (fun f _ => f ≠ 0) B
theorem kGd.bn {α β : Type} {o : kv_O α} {f : α → kv_O β} {A : α → Prop} {B : β → Prop} (h : kGd o A) (k : ∀ x, A x → kGd (f x) B) : kGd (kv_bn o f) B := by
  cases o with
  | inl e => exact h
  | inr x => exact k x h
theorem kv_nmN (hT : kt_W T) (h : kt_nm T j = true) : mv_oN (kt_wv T j) := by
  have h2 := of_decide_eq_true h
  have h3 := kt_eL hT j
  have hn : kt_s T j + kt_n T j ≤ T.1 := by unfold kt_n; omega
  refine ⟨kt_fw T (kt_s T j) (kt_n T j), Nat.lt_of_lt_of_le (kt_fwB hT _ _ hn) ?_, rfl⟩
  exact Nat.le_trans (Nat.pow_le_pow_right (by decide) h2.2.1) (by decide)
theorem kv_rowW (hk : k < 9) (h : st + mv_by k ≤ sz) : kGd (kv_row T sz k st j) (fun x => 1 ≤ x.1 ∧ x.1 ≤ 64 ∧ 1 ≤ x.2.1 ∧ x.2.1 ≤ 64 ∧ st + (x.1 - 1) * x.2.1 + mv_by k ≤ sz) := by
  have hb := mv_byle k hk
  have hb64 : mv_by k ≤ 64 := by omega
  have h1z : st + (1 - 1) * mv_by k + mv_by k ≤ sz := by omega
  unfold kv_row
  split
  · split
    · split
      · rename_i h1
        split
        · split
          · split
            · rename_i h2
              split
              · rename_i h3
                exact kv_por ⟨h1.1, h1.2, h2.1, h2.2, h3⟩
              · exact kv_pol (by decide)
            · exact kv_pol (by decide)
          · exact kv_pol (by decide)
        · split
          · rename_i h3
            exact kv_por ⟨h1.1, h1.2, hb.1, hb64, h3⟩
          · exact kv_pol (by decide)
      · exact kv_pol (by decide)
    · exact kv_pol (by decide)
  · exact kv_por ⟨(by decide : 1 ≤ 1), (by decide : 1 ≤ 64), hb.1, hb64, h1z⟩
def kFq (k : Nat) (q : mv_F) : Prop := q.2.1 ≤ q.2.2 ∧ q.2.2 < 8 * mv_by k ∧ q.2.2 - q.2.1 < 63 ∧ mv_oN q.1
theorem kv_fldW (hT : kt_W T) (hl : fs.length ≤ 8) : kGd (kv_fld T k fs j) (fun x => kFq k x.1 ∧ kv_fix fs x.1.1 = -1 ∧ fs.length < 8) := by
  unfold kv_fld
  split
  · rename_i h1
    split
    · rename_i h2
      split
      · exact kv_pol (by decide)
      · rename_i h3
        split
        · split
          · split
            · split
              · split
                · split
                  · rename_i h4
                    exact kv_por ⟨⟨h4.2.1, h4.1, h4.2.2, kv_nmN hT h1⟩, h2, by omega⟩
                  · exact kv_pol (by decide)
                · exact kv_pol (by decide)
              · exact kv_pol (by decide)
            · exact kv_pol (by decide)
          · exact kv_pol (by decide)
        · exact kv_pol (by decide)
    · exact kv_pol (by decide)
  · exact kv_pol (by decide)
theorem my_fdN {p : Nat → Bool} : ∀ r i, i + r ≤ 100 → my_fd p r i = -1 → ∀ k, i ≤ k → k < i + r → p k = false := by
  intro r
  induction r with
  | zero => intro i _ _ k h1 h2; omega
  | succ r ih =>
    intro i hi h k h1 h2
    rw [my_fd] at h
    have hne : ∀ i, i < 100 → nI i ≠ -1 := by decide
    cases hp : p i with
    | true => rw [hp, if_pos (c := true = true) rfl] at h; exact absurd h (hne i (by omega))
    | false =>
      rw [hp, if_neg (c := false = true) (by decide)] at h
      by_cases e : k = i
      · rw [e]; exact hp
      · exact ih (i + 1) (by omega) h k (by omega) (by omega)
def kFs (k : Nat) (fs : List mv_F) : Prop := fs.length ≤ 8 ∧ (∀ q ∈ fs, kFq k q) ∧ ∀ (i j : Nat) (p q : mv_F), fs[i]? = some p → fs[j]? = some q → p.1 = q.1 → i = j
theorem kFs.app {q : mv_F} (h : kFs k fs) (hl : fs.length < 8) (hq : kFq k q) (hx : kv_fix fs q.1 = -1) : kFs k (fs ++ [q]) := by
  have no : ∀ (i : Nat) (p : mv_F), fs[i]? = some p → p.1 ≠ q.1 := fun i p e => by
    have hi := (List.getElem?_eq_some_iff.mp e).1
    have := my_fdN (p := fun k => decide (fs[k]?.map (fun q => q.1) = some q.1)) fs.length 0 (by omega) hx i (by omega) (by omega)
    rw [e] at this
    exact fun g => of_decide_eq_false this (congrArg some g)
  have cs : ∀ (i : Nat) (p : mv_F), (fs ++ [q])[i]? = some p → fs[i]? = some p ∨ i = fs.length ∧ p = q := fun i p e => by
    by_cases hi : i < fs.length
    · rw [List.getElem?_append_left hi] at e
      exact .inl e
    · have hi2 : i = fs.length := by
        have h3 := (List.getElem?_eq_some_iff.mp e).1
        rw [List.length_append, List.length_singleton] at h3
        omega
      rw [hi2, List.getElem?_append_right (Nat.le_refl _), Nat.sub_self] at e
      exact .inr ⟨hi2, (Option.some.inj e).symm⟩
  refine ⟨by rw [List.length_append, List.length_singleton]; omega, fun z hz => ?_, fun i j a b ea eb e => ?_⟩
  · rcases List.mem_append.mp hz with g | g
    · exact h.2.1 z g
    · rw [List.mem_singleton.mp g]; exact hq
  · rcases cs i a ea with ga | ⟨ga, ga2⟩
    · rcases cs j b eb with gb | ⟨gb, gb2⟩
      · exact h.2.2 i j a b ga gb e
      · exact absurd (e.trans (by rw [gb2])) (no i a ga)
    · rcases cs j b eb with gb | ⟨gb, gb2⟩
      · exact absurd (e.symm.trans (by rw [ga2])) (no j b gb)
      · omega
theorem kv_fldsW (hT : kt_W T) : ∀ m fs j, fs.length + m = 9 → kFs k fs → kGd (kv_flds T k m fs j) (fun x => kFs k x.1) := by
  intro m
  induction m with
  | zero => intro fs j h1 h2; have := h2.1; omega
  | succ m ih =>
    intro fs j h1 h2
    unfold kv_flds
    refine (kv_fldW hT h2.1).bn (fun x hx => ?_)
    have hz := h2.app hx.2.2 hx.1 hx.2.1
    split
    · exact ih _ _ (by rw [List.length_append, List.length_singleton]; omega) hz
    · split
      · exact kv_por hz
      · exact kv_pol (by decide)
theorem kv_viewW (hT : kt_W T) : kGd (kv_view T sz vs j) (fun x => mv_W1 sz x.1 ∧ vs.length ≠ 16) := by
  unfold kv_view
  split
  · rename_i h1
    split
    · split
      · exact kv_pol (by decide)
      · rename_i h3
        split
        · exact kv_pol (by decide)
        · rename_i h4
          have hk : kt_kd T (j + 1) < 9 := by have := kt_kdB (T := T) (j := j + 1); omega
          generalize kt_kd T (j + 1) = k at hk ⊢
          generalize (if kt_wd T (j + 2) 0 = true then j + 3 else j + 2) = i
          have hN := kv_nmN hT h1
          generalize kt_wv T j = nm at hN ⊢
          unfold kv_v2
          split
          · split
            · split
              · rename_i h5
                refine (kv_rowW hk h5).bn (fun x hx => ?_)
                have ha := kt_acB (T := T) (j := x.2.2)
                have mk : ∀ fs, kFs k fs → (7 ≤ k → fs = []) → mv_W1 sz (nm, k, kt_wd T (j + 2) 0, kt_nv T (i + 1), x.1, x.2.1, kt_ac T x.2.2, fs) := fun fs h h7 => ⟨hk, hx.1, hx.2.1, hx.2.2.1, hx.2.2.2.1, hx.2.2.2.2, Nat.lt_succ_of_le ha, h.1, hN, h.2.1, h.2.2, h7⟩
                have v4 : ∀ fs i2, kFs k fs → (7 ≤ k → fs = []) → kGd (kv_v4 T (nm, k, kt_wd T (j + 2) 0, kt_nv T (i + 1), x.1, x.2.1, kt_ac T x.2.2, fs) i2) (fun x => mv_W1 sz x.1 ∧ vs.length ≠ 16) := fun fs i2 h h7 => by
                  unfold kv_v4
                  split
                  · exact kv_por ⟨mk fs h h7, h3⟩
                  · exact kv_pol (by decide)
                have e0 : kFs k [] := ⟨by decide, fun q h => by simp at h, fun i j p q h => by simp at h⟩
                show kGd (kv_v3 T nm k (kt_wd T (j + 2) 0) (kt_nv T (i + 1)) x.1 x.2.1 (kt_ac T x.2.2) (if kt_ac T x.2.2 = 0 then x.2.2 else x.2.2 + 1)) _
                generalize (if kt_ac T x.2.2 = 0 then x.2.2 else x.2.2 + 1) = i3
                unfold kv_v3
                split
                · split
                  · exact kv_pol (by decide)
                  · rename_i h7
                    exact (kv_fldsW hT 9 [] _ rfl e0).bn (fun y hy => v4 y.1 y.2 hy (fun g => absurd g h7))
                · exact v4 [] _ e0 (fun _ => rfl)
              · exact kv_pol (by decide)
            · exact kv_pol (by decide)
          · exact kv_pol (by decide)
    · exact kv_pol (by decide)
  · exact kv_pol (by decide)
theorem kv_allW (hT : kt_W T) : ∀ m vs j, vs.length + m = 17 → mv_W sz vs → kGd (kv_all T sz m vs j) (fun ws => mv_W sz ws) := by
  intro m
  induction m with
  | zero => intro vs j h1 h2; have := h2.1; omega
  | succ m ih =>
    intro vs j h1 h2
    unfold kv_all
    split
    · exact kv_por h2
    · refine (kv_viewW hT).bn (fun x hx => ?_)
      have h3 := h2.1
      have h4 := hx.2
      refine ih _ _ (by rw [List.length_append, List.length_singleton]; omega) ⟨by rw [List.length_append, List.length_singleton]; omega, fun w hw => ?_⟩
      rcases List.mem_append.mp hw with g | g
      · exact h2.2 w g
      · rw [List.mem_singleton.mp g]; exact hx.1
end KM
