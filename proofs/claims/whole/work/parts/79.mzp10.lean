/-! sort: an insertion, step by step, of the class over keys, of the model over values -/
def my_up {α : Type} (r : Nat → α) (p : Nat) (x : α) : Nat → α := fun j => if j = p then x else r j
theorem my_up1 {α : Type} {r : Nat → α} {p : Nat} {x : α} : my_up r p x p = x := if_pos rfl
theorem my_upn {α : Type} {r : Nat → α} {p j : Nat} {x : α} (h : j ≠ p) : my_up r p x j = r j := if_neg h
def my_ins {α : Type} (gt : α → α → Bool) (x : α) : Nat → (Nat → α) → (Nat → α)
  | 0, r => my_up r 0 x
  | k + 1, r => if gt (r k) x = true then my_ins gt x k (my_up r (k + 1) (r k)) else my_up r (k + 1) x
def my_srt {α : Type} (gt : α → α → Bool) (f : Nat → α) : Nat → (Nat → α)
  | 0 => f
  | i + 1 => my_ins gt (f i) i (my_srt gt f i)
section MYS
variable {α : Type} {gt : α → α → Bool}
theorem my_insC {key : α → Int64} (hcmp : ∀ a b, lg_cmp (key a) (key b) ≤ 0 ↔ gt a b = false) {k2 : Fin 32 → Int32 → ae_S → Option (Unit × ae_S)} {j0 : Fin 32} {i : Nat} {x : α} {Q : Unit → ae_S → Prop} (hi : i < 64) : ∀ (f at0 : Nat) (τ : ae_S) (r : Nat → α), at0 < f → at0 ≤ i → (∀ j, j ≤ i → j ≠ at0 → τ.2.1 27 0 j = key (r j)) → (∀ υ, (∀ j, j ≤ i → υ.2.1 27 0 j = key (my_ins gt x at0 r j)) → (∀ j, i < j → υ.2.1 27 0 j = τ.2.1 27 0 j) → ma_fr (fun g _ _ => g ≠ 27) τ υ → ma_wp (k2 j0 (nI (i + 1)) υ) Q) → ma_wp (F_X9_orderRow_36 k2 f j0 (nI i) (key x) (nI at0) (iN ((at0 : Int) - 1)) τ) Q := by
  intro f
  induction f with
  | zero => intro at0 τ r h; omega
  | succ f ih =>
    intro at0 τ r h hai hr K
    have fin : (∀ j, my_ins gt x at0 r j = my_up r at0 x j) → ma_wp (F_X9_orderRow_70 k2 j0 (nI i) (key x) (nI at0) τ) Q := by
      intro he
      unfold F_X9_orderRow_70
      refine ma_gd (ma_ib at0 rfl (by omega) (by decide)) (ma_lt (ma_lt ?_))
      rw [nI_clamp (by omega), nI_1]
      refine K _ (fun j hj => ?_) (fun j hj => ?_) (ma_fwL (fun q => q rfl))
      · rw [he j]
        by_cases q : j = at0
        · rw [q, ma_rL, my_up1]
        · rw [ma_rLn (fun g => q g.2.2), my_upn q]; exact hr j hj q
      · rw [ma_rLn (fun g => by have := g.2.2; omega)]
    unfold F_X9_orderRow_36
    cases at0 with
    | zero =>
      refine ma_T (by decide) (fin (fun j => rfl))
    | succ k =>
      rw [show (((k + 1 : Nat) : Int) - 1) = (k : Int) by omega, ← iN_nI]
      refine ma_F (nI_pos (by omega)) (ma_gd (ma_ib k rfl (by omega) (by decide)) ?_)
      rw [nI_clamp (show k < 2 ^ 31 by omega), hr k (by omega) (by omega)]
      refine ma_if (fun g => fin (fun j => ?_)) (fun g => ma_gd (ma_ib k rfl (by omega) (by decide)) (ma_gd (ma_ib (k + 1) (nI_1 k) (by omega) (by decide)) (ma_lt (ma_lt ?_))))
      · rw [my_ins, if_neg (by rw [(hcmp _ _).mp g]; decide)]
      · rw [nI_1, nI_clamp (by omega), show nI k + (-1 : Int32) = iN ((k : Int) - 1) by rw [iN_nI, show (-1 : Int32) = iN (-1) by decide, iN_add]; rfl]
        have hg : gt (r k) x = true := by
          cases q : gt (r k) x with
          | true => rfl
          | false => exact absurd ((hcmp _ _).mpr q) g
        refine ih k _ (my_up r (k + 1) (r k)) (by omega) (by omega) (fun j hj hne => ?_) (fun υ h1 h2 h3 => K υ (fun j hj => ?_) (fun j hj => ?_) ((ma_fwL (fun q => q rfl)).tr h3))
        · by_cases q : j = k + 1
          · rw [q, ma_rL, my_up1]
          · rw [ma_rLn (fun g => q g.2.2), my_upn q]; exact hr j hj q
        · rw [my_ins, if_pos hg]; exact h1 j hj
        · rw [h2 j hj, ma_rLn (fun g => by have := g.2.2; omega)]
theorem my_insM {gt : Int64 → Int64 → Bool} (hcmp : ∀ a b, lg_cmp a b ≤ 0 ↔ gt a b = false) {k2 : Int32 → Int32 → ae_S → Option (Int32 × ae_S)} {j0 : Int32} {i : Nat} {x : Int64} {Q : Int32 → ae_S → Prop} (hi : i < 64) : ∀ (f at0 : Nat) (τ : ae_S) (r : Nat → Int64), at0 < f → at0 ≤ i → (∀ j, j ≤ i → j ≠ at0 → τ.2.1 55 0 j = r j) → (∀ υ, (∀ j, j ≤ i → υ.2.1 55 0 j = my_ins gt x at0 r j) → ma_fr (fun g _ _ => g ≠ 55) τ υ → ma_wp (k2 j0 (nI (i + 1)) υ) Q) → ma_wp (F_X12_sort_130 k2 f j0 (nI i) (nI at0) x τ) Q := by
  intro f
  induction f with
  | zero => intro at0 τ r h; omega
  | succ f ih =>
    intro at0 τ r h hai hr K
    have fin : (∀ j, my_ins gt x at0 r j = my_up r at0 x j) → ma_wp (F_X12_sort_168 k2 j0 (nI i) (nI at0) x τ) Q := by
      intro he
      unfold F_X12_sort_168 F_X12_sort_176
      refine ma_gd (ma_ib at0 rfl (by omega) (by decide)) (ma_lt (ma_lt ?_))
      rw [nI_clamp (by omega), nI_1]
      refine K _ (fun j hj => ?_) (ma_fwL (fun q => q rfl))
      rw [he j]
      by_cases q : j = at0
      · rw [q, ma_rL, my_up1]
      · rw [ma_rLn (fun g => q g.2.2), my_upn q]; exact hr j hj q
    unfold F_X12_sort_130
    cases at0 with
    | zero =>
      refine ma_T (by decide) (fin (fun j => rfl))
    | succ k =>
      refine ma_F (nI_nle (by omega) (by omega)) ?_
      rw [nI_pred]
      refine ma_gd (ma_ib k rfl (by omega) (by decide)) ?_
      rw [nI_clamp (show k < 2 ^ 31 by omega), hr k (by omega) (by omega)]
      refine ma_if (fun g => fin (fun j => ?_)) (fun g => ma_gd (ma_ib k rfl (by omega) (by decide)) (ma_gd (ma_ib (k + 1) rfl (by omega) (by decide)) (ma_lt (ma_lt ?_))))
      · rw [my_ins, if_neg (by rw [(hcmp _ _).mp g]; decide)]
      · rw [nI_clamp (by omega), show nI (k + 1) + (-1 : Int32) = nI k by have := nI_pred k; rw [Int32.sub_eq_add_neg] at this; exact this]
        have hg : gt (r k) x = true := by
          cases q : gt (r k) x with
          | true => rfl
          | false => exact absurd ((hcmp _ _).mpr q) g
        refine ih k _ (my_up r (k + 1) (r k)) (by omega) (by omega) (fun j hj hne => ?_) (fun υ h1 h3 => K υ (fun j hj => ?_) ((ma_fwL (fun q => q rfl)).tr h3))
        · by_cases q : j = k + 1
          · rw [q, ma_rL, my_up1]
          · rw [ma_rLn (fun g => q g.2.2), my_upn q]; exact hr j hj q
        · rw [my_ins, if_pos hg]; exact h1 j hj
theorem my_insD {gt : UInt64 → UInt64 → Bool} (hcmp : ∀ a b (σ : ae_S), ∃ z, F_Jxe99ae_compare_56a58 a b σ = some (z, σ) ∧ (z ≤ 0 ↔ gt a b = false)) {k2 : Int32 → Int32 → ae_S → Option (Int32 × ae_S)} {j0 : Int32} {i : Nat} {x : UInt64} {Q : Int32 → ae_S → Prop} (hi : i < 64) : ∀ (f at0 : Nat) (τ : ae_S) (r : Nat → UInt64), at0 < f → at0 ≤ i → (∀ j, j ≤ i → j ≠ at0 → τ.2.2.1 56 0 j = r j) → (∀ υ, (∀ j, j ≤ i → υ.2.2.1 56 0 j = my_ins gt x at0 r j) → ma_fr (fun g _ _ => g ≠ 56) τ υ → ma_wp (k2 j0 (nI (i + 1)) υ) Q) → ma_wp (F_X12_sort_71 k2 f j0 (nI i) (nI at0) x τ) Q := by
  intro f
  induction f with
  | zero => intro at0 τ r h; omega
  | succ f ih =>
    intro at0 τ r h hai hr K
    have fin : (∀ j, my_ins gt x at0 r j = my_up r at0 x j) → ma_wp (F_X12_sort_111 k2 j0 (nI i) (nI at0) x τ) Q := by
      intro he
      unfold F_X12_sort_111 F_X12_sort_176
      refine ma_gd (ma_ib at0 rfl (by omega) (by decide)) (ma_lt (ma_lt ?_))
      rw [nI_clamp (by omega), nI_1]
      refine K _ (fun j hj => ?_) (ma_fwD (fun q => q rfl))
      rw [he j]
      by_cases q : j = at0
      · rw [q, ma_rD, my_up1]
      · rw [ma_rDn (fun g => q g.2.2), my_upn q]; exact hr j hj q
    unfold F_X12_sort_71
    cases at0 with
    | zero =>
      refine ma_T (by decide) (fin (fun j => rfl))
    | succ k =>
      refine ma_F (nI_nle (by omega) (by omega)) ?_
      rw [nI_pred]
      refine ma_gd (ma_ib k rfl (by omega) (by decide)) ?_
      rw [nI_clamp (show k < 2 ^ 31 by omega), hr k (by omega) (by omega)]
      obtain ⟨z, hz1, hz2⟩ := hcmp (r k) x τ
      refine ma_be hz1 (ma_if (fun g => fin (fun j => ?_)) (fun g => ma_gd (ma_ib k rfl (by omega) (by decide)) (ma_gd (ma_ib (k + 1) rfl (by omega) (by decide)) (ma_lt (ma_lt ?_)))))
      · rw [my_ins, if_neg (by rw [hz2.mp g]; decide)]
      · rw [nI_clamp (by omega), show nI (k + 1) + (-1 : Int32) = nI k by have := nI_pred k; rw [Int32.sub_eq_add_neg] at this; exact this]
        have hg : gt (r k) x = true := by
          cases q : gt (r k) x with
          | true => rfl
          | false => exact absurd (hz2.mpr q) g
        refine ih k _ (my_up r (k + 1) (r k)) (by omega) (by omega) (fun j hj hne => ?_) (fun υ h1 h3 => K υ (fun j hj => ?_) ((ma_fwD (fun q => q rfl)).tr h3))
        · by_cases q : j = k + 1
          · rw [q, ma_rD, my_up1]; exact hr k (by omega) (by omega)
          · rw [ma_rDn (fun g => q g.2.2), my_upn q]; exact hr j hj q
        · rw [my_ins, if_pos hg]; exact h1 j hj
end MYS
/-- keys of doubles -/
def my_od (x : Int64) : Int64 := if 0 ≤ lg_cmp x 0 then x else x ^^^ (9223372036854775807 : Int64)
theorem my_odF (x : Int64) (σ : ae_S) : F_X2_orderOf x σ = some (my_od x, σ) := by
  refine ma_eq ?_
  unfold F_X2_orderOf F_X2_orderOf_15 my_od
  refine ma_if (fun g => ?_) (fun g => ?_)
  · rw [if_pos g]; exact ma_ret ⟨rfl, rfl⟩
  · rw [if_neg g]; exact ma_ret ⟨rfl, rfl⟩
theorem my_odT {n : Nat} (hn : n < 2 ^ 64) : (my_od (lN n)).toInt = if n < 2 ^ 63 then (n : Int) else -1 - ((n % 2 ^ 63 : Nat) : Int) := by
  have σ : ae_S := (fun _ _ _ => 0, fun _ _ _ => 0, fun _ _ _ => 0, fun _ _ _ => none)
  obtain ⟨z, h1, h2⟩ := mf_order hn σ
  have h3 := my_odF (lN n) σ
  rw [h1] at h3
  cases h3
  exact h2
theorem my_odd (x : Int64) : my_od (my_od x) = x := by
  obtain ⟨n, hn, rfl⟩ := wb_of x
  have h2 := my_odT hn
  by_cases g : 0 ≤ lg_cmp (lN n) 0
  · have e : my_od (lN n) = lN n := if_pos g
    rw [e, e]
  · have e : my_od (lN n) = lN n ^^^ (9223372036854775807 : Int64) := if_neg g
    have g2 : ¬ n < 2 ^ 63 := fun q => g ((mf_lsg hn).mpr q)
    rw [if_neg g2] at h2
    have g3 : ¬ 0 ≤ lg_cmp (my_od (lN n)) 0 := by
      rw [lg_cmp_ge, fa_le64, h2]
      show ¬ (0 : Int) ≤ _
      omega
    have e2 : my_od (my_od (lN n)) = my_od (lN n) ^^^ (9223372036854775807 : Int64) := if_neg g3
    rw [e2, e, Int64.xor_assoc, Int64.xor_self, Int64.xor_zero]
def my_gtD (a b : UInt64) : Bool := decide ((my_od (ae_db b)).toInt < (my_od (ae_db a)).toInt)
theorem my_cmpD (a b : UInt64) (σ : ae_S) : ∃ z, F_Jxe99ae_compare_56a58 a b σ = some (z, σ) ∧ (z ≤ 0 ↔ my_gtD a b = false) := by
  have hn := mg_plLt a.toNat
  have hm := mg_plLt b.toNat
  have hc : FP.dcmp a b = FP.Core.cmp FP.Core.b64 (mf_pl64 a.toNat) (mf_pl64 b.toNat) := by
    unfold FP.Core.cmp
    rw [mg_plD, mg_plD]
    rfl
  have hN : ∀ d : UInt64, 9218868437227405312 < mf_pl64 d.toNat % 2 ^ 63 → mf_pl64 d.toNat = 9221120237041090560 := fun d h => by
    rcases mf_cs (mg_plLt d.toNat) with ⟨h1, h2⟩ | ⟨h1, h2⟩ | ⟨h1, h2⟩
    · rw [mg_plD] at h2
      unfold mf_pl64
      rw [h2]; exact mf_encnan
    · omega
    · omega
  have na := hN a
  have nb := hN b
  unfold my_gtD F_Jxe99ae_compare_56a58 F_Jxe99ae_compare_56a58_53
  rw [mg_db a, mg_db b, hc, my_odT hn, my_odT hm]
  generalize mf_pl64 a.toNat = n at hn na hc ⊢
  generalize mf_pl64 b.toNat = m at hm nb hc ⊢
  have low : (∀ A B : Int, A = (if n < 2 ^ 63 then (n : Int) else -1 - ((n % 2 ^ 63 : Nat) : Int)) → B = (if m < 2 ^ 63 then (m : Int) else -1 - ((m % 2 ^ 63 : Nat) : Int)) → ((lN n).toInt ≤ (lN m).toInt ↔ ¬ B < A)) → ∃ z, (ae_lt (lN n) (fun x5 => ae_lt (lN m) (fun x7 => if (lg_cmp x5 x7) = 0 then (some ((0 : Int32), σ)) else (if 0 ≤ (lg_cmp x5 x7) then (some ((1 : Int32), σ)) else (some ((-1 : Int32), σ)))))) = some (z, σ) ∧ (z ≤ 0 ↔ decide ((if m < 2 ^ 63 then (m : Int) else -1 - ((m % 2 ^ 63 : Nat) : Int)) < (if n < 2 ^ 63 then (n : Int) else -1 - ((n % 2 ^ 63 : Nat) : Int))) = false) := by
    intro K
    have K2 := K _ _ rfl rfl
    rw [decide_eq_false_iff_not, ← K2]
    dsimp only [ae_lt]
    by_cases g : lg_cmp (lN n) (lN m) = 0
    · rw [if_pos g]
      rw [lg_cmp_eq] at g
      exact ⟨0, rfl, iff_of_true (by decide) (by rw [g]; omega)⟩
    · rw [if_neg g]
      rw [lg_cmp_eq, fa_eq64] at g
      by_cases g2 : 0 ≤ lg_cmp (lN n) (lN m)
      · rw [if_pos g2]
        rw [lg_cmp_ge, fa_le64] at g2
        exact ⟨1, rfl, iff_of_false (by decide) (by omega)⟩
      · rw [if_neg g2]
        rw [lg_cmp_ge, fa_le64] at g2
        exact ⟨-1, rfl, iff_of_true (by decide) (by omega)⟩
  by_cases h : 9218868437227405312 < n % 2 ^ 63 ∨ 9218868437227405312 < m % 2 ^ 63
  · rw [mf_cmpN hn hm h, if_pos (by decide), if_pos (by decide)]
    refine low (fun A B hA hB => ?_)
    rw [lN_ti hn, lN_ti hm, hA, hB]
    rcases h with h | h
    · have := na h
      subst this
      rw [if_pos (c := 9221120237041090560 < 2 ^ 63) (by decide), if_pos (c := 9221120237041090560 < 2 ^ 63) (by decide)]
      by_cases q : m < 2 ^ 63
      · rw [if_pos q, if_pos q]; omega
      · rw [if_neg q, if_neg q]; omega
    · have := nb h
      subst this
      rw [if_pos (c := 9221120237041090560 < 2 ^ 63) (by decide), if_pos (c := 9221120237041090560 < 2 ^ 63) (by decide)]
      by_cases q : n < 2 ^ 63
      · rw [if_pos q, if_pos q]; omega
      · rw [if_neg q, if_neg q]; omega
  · rw [mf_cmpK hn hm (fun q => h (.inl q)) (fun q => h (.inr q))]
    rcases Int.lt_trichotomy (FP.Core.key FP.Core.b64 n) (FP.Core.key FP.Core.b64 m) with g | g | g
    · rw [(FP.Core.compare_lt_iff _ _).mpr g, if_neg (by decide)]
      refine ⟨-1, rfl, iff_of_true (by decide) (decide_eq_false ?_)⟩
      rw [mf_key, mf_key] at g
      by_cases q1 : n < 2 ^ 63
      · rw [if_pos q1] at g ⊢
        by_cases q2 : m < 2 ^ 63
        · rw [if_pos q2] at g ⊢; omega
        · rw [if_neg q2] at g ⊢; omega
      · rw [if_neg q1] at g ⊢
        by_cases q2 : m < 2 ^ 63
        · rw [if_pos q2] at g ⊢; omega
        · rw [if_neg q2] at g ⊢; omega
    · rw [(FP.Core.compare_eq_iff _ _).mpr g, if_pos (by decide), if_pos (by decide)]
      refine low (fun A B hA hB => ?_)
      rw [lN_ti hn, lN_ti hm, hA, hB]
      rw [mf_key, mf_key] at g
      by_cases q1 : n < 2 ^ 63
      · rw [if_pos q1] at g
        rw [if_pos q1, if_pos q1]
        by_cases q2 : m < 2 ^ 63
        · rw [if_pos q2] at g
          rw [if_pos q2, if_pos q2]; omega
        · rw [if_neg q2] at g
          rw [if_neg q2, if_neg q2]; omega
      · rw [if_neg q1] at g
        rw [if_neg q1, if_neg q1]
        by_cases q2 : m < 2 ^ 63
        · rw [if_pos q2] at g
          rw [if_pos q2, if_pos q2]; omega
        · rw [if_neg q2] at g
          rw [if_neg q2, if_neg q2]; omega
    · rw [(FP.Core.compare_gt_iff _ _).mpr g, if_pos (by decide), if_neg (by decide)]
      refine ⟨1, rfl, iff_of_false (by decide) (fun h0 => ?_)⟩
      rw [decide_eq_false_iff_not] at h0
      rw [mf_key, mf_key] at g
      by_cases q1 : n < 2 ^ 63
      · rw [if_pos q1] at g h0
        by_cases q2 : m < 2 ^ 63
        · rw [if_pos q2] at g h0; omega
        · rw [if_neg q2] at g h0; omega
      · rw [if_neg q1] at g h0
        by_cases q2 : m < 2 ^ 63
        · rw [if_pos q2] at g h0; omega
        · rw [if_neg q2] at g h0; omega
