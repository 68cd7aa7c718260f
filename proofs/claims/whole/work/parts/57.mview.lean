/-! views by their numbers, of the class and of the model; what a view covers -/
theorem mv_val {p : Nat} (h : p < 32) : (Fin.ofNat 32 p).val = p := Nat.mod_eq_of_lt h
theorem mv_byle : ∀ k, k < 9 → 1 ≤ mv_by k ∧ mv_by k ≤ 8 := by decide
theorem mv_kB : ∀ k, k < 9 → ae_kByt (Fin.ofNat 32 k) = nI (mv_by k) := by decide
theorem mv_kN : ∀ k, k < 9 → ae_kNum (Fin.ofNat 32 k) = nI k := by decide
theorem mv_kF : ∀ k, k < 9 → ae_kFlo (Fin.ofNat 32 k) = mv_bI (decide (7 ≤ k)) := by decide
theorem mv_kS : ∀ k, k < 9 → ae_kSgn (Fin.ofNat 32 k) = mv_bI (decide (k ≠ 0 ∧ k ≠ 2 ∧ k ≠ 4)) := by decide
theorem mv_k9 : ∀ k, k < 9 → decide ((Fin.ofNat 32 k).val < 9) = true := by decide
theorem mv_b0 {b : Bool} : mv_bI b = 0 ↔ b = false := by cases b <;> decide
theorem mv_bz (b : Bool) : ae_zz (mv_bI b) = true := by cases b <;> decide
theorem mv_ix (vs : List mv_V) (x : Int32) (hl : vs.length ≤ 16) : ¬ (0 ≤ x.toInt ∧ x.toInt < vs.length) ∨ ∃ v w, x = nI v ∧ v < vs.length ∧ vs[v]? = some w := by
  rcases ma_ix x (n := vs.length) (by omega) with ⟨q1, q2⟩ | ⟨q1, q2, q3⟩ | ⟨j, q1, q2, q3⟩
  · exact .inl (by omega)
  · exact .inl (by omega)
  · exact .inr ⟨j, vs[j], q2, q1, List.getElem?_eq_getElem q1⟩
section MW
variable {α : Type} {Q : α → ae_S → Prop}
/-- the kind of a view of the class -/
theorem mv_kk {σ : ae_S} {j : Fin 32} {k : Nat} {f : Fin 32 → Option (α × ae_S)} (h : σ.2.2.2 8 j 4 = some (60, Fin.ofNat 32 k)) (hk : k < 9) (q : ma_wp (f (Fin.ofNat 32 k)) Q) : ma_wp (ae_mo (ae_gk (σ.2.2.2 8 j 4) 60) none (fun j1 => ae_gd (decide ((j1 : Fin 32).val < 9)) (f j1))) Q :=
  ma_mo h (ma_gd (mv_k9 k hk) q)
theorem ma_ms {β : Type} {x : β} {a : Option (α × ae_S)} {f : β → Option (α × ae_S)} (h : ma_wp (f x) Q) : ma_wp (ae_mo (some x) a f) Q := h
theorem ma_mn {β : Type} {a : Option (α × ae_S)} {f : β → Option (α × ae_S)} (h : ma_wp a Q) : ma_wp (ae_mo none a f) Q := h
end MW
theorem mv_getS {p v : Nat} {vs : List mv_V} {σ : ae_S} (H : mv_Cp p vs σ) (hl : vs.length ≤ 16) (hv : v < vs.length) : F_X6_get (nI v) σ = some (some (mv_at p v), σ) := by
  obtain ⟨h1, h2, h3, h4, h5⟩ := H
  refine ma_eq ?_
  unfold F_X6_get F_X6_get_28
  refine ma_F (nI_pos (by omega)) (ma_F (by rw [h4]; exact nI_ge hv (by omega)) (ma_F (nI_ge (b := 16) (by omega) (by decide)) (ma_mo h2 (ma_gd (ma_ib v rfl (by omega) (by decide)) (ma_gd ?_ (ma_ret ⟨?_, rfl⟩))))))
  · have : p = 0 ∨ p = 1 := by omega
    rcases this with rfl | rfl <;> decide
  · rw [nI_clamp (by omega), mv_val (by omega)]; rfl
theorem mv_getN {p : Nat} {vs : List mv_V} {σ : ae_S} {x : Int32} (H : mv_Cp p vs σ) (hl : vs.length ≤ 16) (hx : ¬ (0 ≤ x.toInt ∧ x.toInt < vs.length)) : F_X6_get x σ = some (none, σ) := by
  obtain ⟨h1, h2, h3, h4, h5⟩ := H
  refine ma_eq ?_
  unfold F_X6_get F_X6_get_27 F_X6_get_28
  rcases ma_ix x (n := vs.length) (by omega) with ⟨q1, q2⟩ | ⟨q1, q2, q3⟩ | ⟨j, q1, q2, q3⟩
  · exact ma_T q1 (ma_ret ⟨rfl, rfl⟩)
  · exact ma_F q1 (ma_T (by rw [h4]; exact q2) (ma_ret ⟨rfl, rfl⟩))
  · exact absurd ⟨by omega, by omega⟩ hx
theorem mv_isViewS {v : Nat} {vs : List mv_V} {σ : ae_S} (H : mv_M vs σ) (hl : vs.length ≤ 16) (hv : v < vs.length) : F_X12_isView (nI v) σ = some (1, σ) := by
  refine ma_eq ?_
  unfold F_X12_isView
  refine ma_be (ma_isInN vs.length H.1 (by omega) σ) ?_
  rw [nI_toInt (by omega), if_pos (by omega)]
  exact ma_gd ma_z1 (ma_ret ⟨rfl, rfl⟩)
theorem mv_isViewN {x : Int32} {vs : List mv_V} {σ : ae_S} (H : mv_M vs σ) (hl : vs.length ≤ 16) (hx : ¬ (0 ≤ x.toInt ∧ x.toInt < vs.length)) : F_X12_isView x σ = some (0, σ) := by
  refine ma_eq ?_
  unfold F_X12_isView
  refine ma_be (ma_isInN vs.length H.1 (by omega) σ) ?_
  rw [if_neg hx]
  exact ma_gd ma_z0 (ma_ret ⟨rfl, rfl⟩)
theorem mv_bytesOf {k : Nat} (h : k < 9) (σ : ae_S) : F_X12_bytesOf (nI k) σ = some (nI (mv_by k), σ) := by
  have key : ∀ k, k < 9 → (if (2 : Int32) ≤ nI k then (if (4 : Int32) ≤ nI k then (if nI k < (6 : Int32) then (4 : Int32) else (if nI k = (7 : Int32) then 4 else 8)) else 2) else 1) = nI (mv_by k) := by decide
  rw [← key k h]
  refine ma_eq ?_
  unfold F_X12_bytesOf F_X12_bytesOf_30 F_X12_bytesOf_36
  refine ma_if (fun h1 => ?_) (fun h1 => ?_)
  · rw [if_pos h1]
    refine ma_if (fun h2 => ?_) (fun h2 => ?_)
    · rw [if_pos h2]
      refine ma_if (fun h3 => ?_) (fun h3 => ?_)
      · rw [if_pos h3]; exact ma_ret ⟨rfl, rfl⟩
      · rw [if_neg h3]
        refine ma_if (fun h4 => ?_) (fun h4 => ?_)
        · rw [if_pos h4]; exact ma_ret ⟨rfl, rfl⟩
        · rw [if_neg h4]; exact ma_ret ⟨rfl, rfl⟩
    · rw [if_neg h2]; exact ma_ret ⟨rfl, rfl⟩
  · rw [if_neg h1]; exact ma_ret ⟨rfl, rfl⟩
def mv_tell (w : mv_V) (x : Int32) : Int32 := if x = 0 then nI (mv_kd w) else if x = 1 then mv_bI (mv_bg w) else if x = 2 then nI (mv_st w) else if x = 3 then nI (mv_ct w) else if x = 4 then nI (mv_sd w) else if x = 5 then nI (mv_ac w) else if x = 6 then nI (mv_fs w).length else -1
theorem mv_W.at {sz v : Nat} {vs : List mv_V} {w : mv_V} (h : mv_W sz vs) (e : vs[v]? = some w) : mv_W1 sz w := h.2 w (List.mem_of_getElem? e)
theorem mz_view : zp_view mi_I := fun v1 v2 => mi_zp (fun a hW => by
  have hl : (mi_v a).length ≤ 16 := hW.2.1.1
  rcases mv_ix (mi_v a) v1 hl with hx | ⟨v, w, rfl, hv, e⟩
  · refine ⟨-1, a, hW, mi_c1 (fun σ H => ?_), mi_d1 (fun σ H => ?_)⟩
    · obtain ⟨p, Hp⟩ := H.2.1
      unfold F_X11_view F_X11_view_22
      exact ma_be (mv_getN Hp hl hx) (ma_ret ⟨rfl, rfl⟩)
    · unfold F_X12_view
      exact ma_be (mv_isViewN H.2.1 hl hx) (ma_T rfl (ma_ret ⟨rfl, rfl⟩))
  · have w1 := hW.2.1.at e
    refine ⟨mv_tell w v2, a, hW, mi_c1 (fun σ H => ?_), mi_d1 (fun σ H => ?_)⟩
    · obtain ⟨p, Hp⟩ := H.2.1
      obtain ⟨c1, c2, c3, c4, c5, c6, c7, c8, c9⟩ := Hp.2.2.2.2 v w e
      unfold F_X11_view F_X11_view_22
      refine ma_be (mv_getS Hp hl hv) (ma_ms (ma_bd (P := fun x τ => x = mv_tell w v2 ∧ τ = σ) ?_ (fun x τ q => ma_ret q)))
      unfold F_X9_told F_X9_told_64 mv_tell
      refine ma_if (fun h => ?_) (fun h => ?_)
      · rw [if_pos h]
        exact mv_kk c2 w1.1 (ma_ret ⟨mv_kN _ w1.1, rfl⟩)
      rw [if_neg h]
      refine ma_if (fun h => ?_) (fun h => ?_)
      · rw [if_pos h, c3]
        refine ma_if (fun h => ?_) (fun h => ?_)
        · rw [mv_b0.mp h]; exact ma_ret ⟨rfl, rfl⟩
        · rw [show mv_bg w = true by cases hb : mv_bg w with | true => rfl | false => exact absurd (mv_b0.mpr hb) h]; exact ma_ret ⟨rfl, rfl⟩
      rw [if_neg h]
      refine ma_if (fun h => ?_) (fun h => ?_)
      · rw [if_pos h]; exact ma_ret ⟨c4, rfl⟩
      rw [if_neg h]
      refine ma_if (fun h => ?_) (fun h => ?_)
      · rw [if_pos h]; exact ma_ret ⟨c5, rfl⟩
      rw [if_neg h]
      refine ma_if (fun h => ?_) (fun h => ?_)
      · rw [if_pos h]; exact ma_ret ⟨c6, rfl⟩
      rw [if_neg h]
      refine ma_if (fun h => ?_) (fun h => ?_)
      · rw [if_pos h]; exact ma_ret ⟨c7, rfl⟩
      rw [if_neg h]
      refine ma_if (fun h => ?_) (fun h => ?_)
      · rw [if_pos h]; exact ma_ret ⟨c8, rfl⟩
      rw [if_neg h]
      exact ma_ret ⟨rfl, rfl⟩
    · obtain ⟨c1, c2, c3, c4, c5, c6, c7, c8, c9⟩ := H.2.1.2 v w e
      unfold F_X12_view mv_tell
      refine ma_be (mv_isViewS H.2.1 hl hv) (ma_F ma_01 ?_)
      rw [nI_clamp (by omega)]
      refine ma_if (fun h => ?_) (fun h => ?_)
      · rw [if_pos h]; exact ma_gd (ma_ib v rfl (by omega) (by decide)) (ma_ret ⟨c2, rfl⟩)
      rw [if_neg h]
      refine ma_if (fun h => ?_) (fun h => ?_)
      · rw [if_pos h]; exact ma_gd (ma_ib v rfl (by omega) (by decide)) (ma_ret ⟨c3, rfl⟩)
      rw [if_neg h]
      refine ma_if (fun h => ?_) (fun h => ?_)
      · rw [if_pos h]; exact ma_gd (ma_ib v rfl (by omega) (by decide)) (ma_ret ⟨c4, rfl⟩)
      rw [if_neg h]
      refine ma_if (fun h => ?_) (fun h => ?_)
      · rw [if_pos h]; exact ma_gd (ma_ib v rfl (by omega) (by decide)) (ma_ret ⟨c5, rfl⟩)
      rw [if_neg h]
      refine ma_if (fun h => ?_) (fun h => ?_)
      · rw [if_pos h]; exact ma_gd (ma_ib v rfl (by omega) (by decide)) (ma_ret ⟨c6, rfl⟩)
      rw [if_neg h]
      refine ma_if (fun h => ?_) (fun h => ?_)
      · rw [if_pos h]; exact ma_gd (ma_ib v rfl (by omega) (by decide)) (ma_ret ⟨c7, rfl⟩)
      rw [if_neg h]
      refine ma_if (fun h => ?_) (fun h => ?_)
      · rw [if_pos h]; exact ma_gd (ma_ib v rfl (by omega) (by decide)) (ma_ret ⟨c8, rfl⟩)
      rw [if_neg h]
      exact ma_ret ⟨rfl, rfl⟩)
/-- where element i lies; whether it has the byte k; whether some element has it -/
def mv_of (w : mv_V) (i : Nat) : Nat := mv_st w + i * mv_sd w
def mv_on (w : mv_V) (i k : Nat) : Bool := decide (mv_of w i ≤ k ∧ k < mv_of w i + mv_by (mv_kd w))
def mv_cv (w : mv_V) (k : Nat) : Bool := (List.range (mv_ct w)).any fun i => mv_on w i k
theorem mv_cvT {w : mv_V} {k : Nat} : mv_cv w k = true ↔ ∃ i, i < mv_ct w ∧ mv_on w i k = true := by
  unfold mv_cv
  rw [List.any_eq_true]
  exact ⟨fun ⟨i, h1, h2⟩ => ⟨i, List.mem_range.mp h1, h2⟩, fun ⟨i, h1, h2⟩ => ⟨i, List.mem_range.mpr h1, h2⟩⟩
theorem mv_onT {w : mv_V} {i k : Nat} : mv_on w i k = true ↔ mv_of w i ≤ k ∧ k < mv_of w i + mv_by (mv_kd w) := decide_eq_true_iff
theorem mv_ofle {sz : Nat} {w : mv_V} (h : mv_W1 sz w) {i : Nat} (hi : i < mv_ct w) : mv_of w i + mv_by (mv_kd w) ≤ sz := by
  have h1 : i * mv_sd w ≤ (mv_ct w - 1) * mv_sd w := Nat.mul_le_mul_right _ (by omega)
  have h2 := h.2.2.2.2.2.1
  unfold mv_of
  omega
theorem mv_covers {sz v k : Nat} {w : mv_V} {j : Fin 32} {σ : ae_S} (hs : sz ≤ 256) (hk : k < 256) (h : mv_W1 sz w) (c : mv_C1 j w σ) : F_X9_covers j (nI k) σ = some (mv_bI (mv_cv w k), σ) := by
  obtain ⟨c1, c2, c3, c4, c5, c6, c7, c8, c9⟩ := c
  have b := mv_byle _ h.1
  have hst : mv_st w ≤ 256 := by have := h.2.2.2.2.2.1; omega
  have hct := h.2.1
  have hct2 := h.2.2.1
  have hsd := h.2.2.2.1
  have hsd2 := h.2.2.2.2.1
  refine ma_eq ?_
  unfold F_X9_covers F_X9_covers_19 F_X9_covers_60
  rw [c4, c5, c6]
  refine ma_lt ?_
  by_cases q : k < mv_st w
  · refine ma_T (pk_sneg (by omega) q) (ma_ret ⟨?_, rfl⟩)
    rw [show mv_cv w k = false by
      cases hc : mv_cv w k with
      | false => rfl
      | true =>
        obtain ⟨i, -, hi⟩ := mv_cvT.mp hc
        have hi := (mv_onT.mp hi).1
        unfold mv_of at hi
        omega]
    rfl
  · rw [pk_sub (show mv_st w ≤ k by omega)]
    refine ma_F (nI_pos (by omega)) (ma_T (nI_le (a := 1) hsd (by omega)) (ma_gd ?_ (ma_lt (mv_kk c2 h.1 ?_))))
    · rw [decide_eq_false (nI_ne0 hsd (by omega))]; rfl
    · rw [pk_div (by omega) hsd (by omega), show nI (mv_ct w) - (1 : Int32) = nI (mv_ct w - 1) by rw [← nI_pred (mv_ct w - 1), show mv_ct w - 1 + 1 = mv_ct w by omega], mv_kB _ h.1]
      have em : (if nI (mv_ct w - 1) < nI ((k - mv_st w) / mv_sd w) then nI (mv_ct w - 1) else nI ((k - mv_st w) / mv_sd w)) = nI (min (mv_ct w - 1) ((k - mv_st w) / mv_sd w)) := by
        have hd : (k - mv_st w) / mv_sd w ≤ k - mv_st w := Nat.div_le_self _ _
        by_cases q2 : mv_ct w - 1 < (k - mv_st w) / mv_sd w
        · rw [if_pos (nI_lt q2 (by omega)), Nat.min_eq_left (by omega)]
        · rw [if_neg (nI_nlt (by omega) (by omega)), Nat.min_eq_right (by omega)]
      rw [em, pk_mul]
      have hm : min (mv_ct w - 1) ((k - mv_st w) / mv_sd w) * mv_sd w ≤ k - mv_st w := Nat.le_trans (Nat.mul_le_mul_right _ (Nat.min_le_right _ _)) (Nat.div_mul_le_self _ _)
      rw [pk_sub hm]
      have key : mv_cv w k = true ↔ k - mv_st w - min (mv_ct w - 1) ((k - mv_st w) / mv_sd w) * mv_sd w < mv_by (mv_kd w) := by
        rw [mv_cvT]
        constructor
        · rintro ⟨i, hi, ho⟩
          have ho := mv_onT.mp ho
          unfold mv_of at ho
          have hi2 : i ≤ (k - mv_st w) / mv_sd w := (Nat.le_div_iff_mul_le hsd).mpr (by omega)
          have hi3 : i * mv_sd w ≤ min (mv_ct w - 1) ((k - mv_st w) / mv_sd w) * mv_sd w := Nat.mul_le_mul_right _ (by omega)
          omega
        · intro hlt
          refine ⟨min (mv_ct w - 1) ((k - mv_st w) / mv_sd w), by omega, mv_onT.mpr ?_⟩
          unfold mv_of
          omega
      refine ma_le _ _ rfl rfl (by omega) (by omega) (fun q3 => ?_) (fun q3 => ?_)
      · rw [show mv_cv w k = false by
          cases hc : mv_cv w k with
          | false => rfl
          | true => have := key.mp hc; omega]
        exact ma_gd ma_z0 (ma_ret ⟨rfl, rfl⟩)
      · rw [key.mpr q3]
        exact ma_gd ma_z1 (ma_ret ⟨rfl, rfl⟩)
theorem mv_isOn {sz v i k : Nat} {w : mv_V} {σ : ae_S} (hs : sz ≤ 256) (hv : v < 16) (hk : k < 256) (h : mv_W1 sz w) (hi : i < mv_ct w) (c : mv_M1 v w σ) : F_X12_isOn (nI v) (nI i) (nI k) σ = some (mv_bI (mv_on w i k), σ) := by
  obtain ⟨c1, c2, c3, c4, c5, c6, c7, c8, c9⟩ := c
  have b := mv_byle _ h.1
  have ho := mv_ofle h hi
  refine ma_eq ?_
  unfold F_X12_isOn
  rw [nI_clamp (by omega), c2, c4, c6]
  have ib : ae_ib (nI v) 32 = true := ma_ib v rfl (by omega) (by decide)
  refine ma_gd ib (ma_gd ib (ma_lt (ma_gd ib (ma_be (mv_bytesOf h.1 σ) ?_))))
  rw [pk_mul, nI_add, Nat.mul_comm, show mv_st w + i * mv_sd w = mv_of w i from rfl, nI_add, show nI (mv_of w i + mv_by (mv_kd w)) - (1 : Int32) = nI (mv_of w i + mv_by (mv_kd w) - 1) by rw [← nI_pred (mv_of w i + mv_by (mv_kd w) - 1), show mv_of w i + mv_by (mv_kd w) - 1 + 1 = mv_of w i + mv_by (mv_kd w) by omega], nI_l (by omega), nI_l (by omega), nI_l (by omega), ma_isIn]
  refine ma_be rfl ?_
  have e : (if lN (mv_of w i) ≤ lN k ∧ lN k ≤ lN (mv_of w i + mv_by (mv_kd w) - 1) then (1 : Int32) else 0) = mv_bI (mv_on w i k) := by
    rw [ma_ic (b := mv_of w i ≤ k ∧ k ≤ mv_of w i + mv_by (mv_kd w) - 1) (by rw [lN_le (by omega) (by omega), lN_le (by omega) (by omega)])]
    by_cases q : mv_of w i ≤ k ∧ k ≤ mv_of w i + mv_by (mv_kd w) - 1
    · rw [if_pos q, mv_onT.mpr (by omega)]; rfl
    · rw [if_neg q, show mv_on w i k = false by
        cases hc : mv_on w i k with
        | false => rfl
        | true => have := mv_onT.mp hc; omega]
      rfl
  rw [e]
  exact ma_gd (mv_bz _) (ma_ret ⟨rfl, rfl⟩)
theorem mv_isUnder {sz v k : Nat} {w : mv_V} {σ : ae_S} (hs : sz ≤ 256) (hv : v < 16) (hk : k < 256) (h : mv_W1 sz w) (c : mv_M1 v w σ) : F_X12_isUnder (nI v) (nI k) σ = some (mv_bI (mv_cv w k), σ) := by
  have hct2 := h.2.2.1
  have loop : ∀ n i : Nat, mv_ct w < i + n → i ≤ mv_ct w → (∀ j, j < i → mv_on w j k = false) → ma_wp (F_X12_isUnder_2 n (nI v) (nI k) (nI i) σ) (fun r τ => r = mv_bI (mv_cv w k) ∧ τ = σ) := by
    intro n
    induction n with
    | zero => intro i a b; omega
    | succ n ih =>
      intro i a b hf
      unfold F_X12_isUnder_2
      rw [nI_clamp (by omega)]
      refine ma_gd (ma_ib v rfl (by omega) (by decide)) (ma_le _ i c.2.2.2.2.1 rfl (by omega) (by omega) (fun q => ma_ret ⟨?_, rfl⟩) (fun q => ma_be (mv_isOn hs hv hk h q c) ?_))
      · rw [show mv_cv w k = false by
          cases hc : mv_cv w k with
          | false => rfl
          | true =>
            obtain ⟨j, hj, ho⟩ := mv_cvT.mp hc
            rw [hf j (by omega)] at ho
            cases ho]
        rfl
      · cases ho : mv_on w i k with
        | true =>
          refine ma_F ma_01 (ma_ret ⟨?_, rfl⟩)
          rw [mv_cvT.mpr ⟨i, q, ho⟩]; rfl
        | false =>
          refine ma_T rfl (ma_lt ?_)
          rw [nI_1]
          refine ih (i + 1) (by omega) (by omega) (fun j hj => ?_)
          by_cases e : j = i
          · rw [e]; exact ho
          · exact hf j (by omega)
  exact ma_eq (loop ae_fu 0 (by rw [ae_fu]; omega) (by omega) (fun j hj => by omega))
