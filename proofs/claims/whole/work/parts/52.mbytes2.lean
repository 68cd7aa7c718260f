/-! the class's memory: made anew, a step back, counts -/
theorem mb_restart {σ : ae_S} {sz : Nat} (hs : sz ≤ 256) : ma_wp (F_X0_restart (nI sz) σ) (fun _ τ => mb_C sz (fun _ => 0) (fun _ => 0) [] τ ∧ ma_fr (fun g _ _ => g ≠ 3 ∧ g ≠ 4) σ τ) := by
  have loop : ∀ n k : Nat, 256 < k + n → k ≤ 256 → ∀ τ : ae_S, ma_fr (fun g _ _ => g ≠ 3 ∧ g ≠ 4) σ τ → (∀ j, j < k → τ.1 4 0 j = 0 ∧ τ.1 4 1 j = 0) → ma_wp (F_X0_restart_2 n (nI sz) (nI k) τ) (fun _ τ => mb_C sz (fun _ => 0) (fun _ => 0) [] τ ∧ ma_fr (fun g _ _ => g ≠ 3 ∧ g ≠ 4) σ τ) := by
    intro n
    induction n with
    | zero => intro k h hk; omega
    | succ n ih =>
      intro k h hk τ hf hz
      unfold F_X0_restart_2
      refine ma_le 256 k rfl rfl (by decide) (by omega) (fun q => ma_lt (ma_lt (ma_lt (ma_ret ⟨⟨?_, fun k hk => ?_, fun k hk => ?_, 0, by decide, ?_, ?_, fun j m e => ?_⟩, hf.tr ((ma_fwI (fun q => q.1 rfl)).tr ((ma_fwI (fun q => q.1 rfl)).tr (ma_fwI (fun q => q.1 rfl))))⟩)))) (fun q => ?_)
      · rw [ma_rIn (by simp), ma_rIn (by simp), ma_rI]
      · rw [ma_rIn (fun q => by have := q.1; omega), ma_rIn (fun q => by have := q.1; omega), ma_rIn (fun q => by have := q.1; omega)]; exact (hz k (by omega)).1
      · rw [ma_rIn (fun q => by have := q.1; omega), ma_rIn (fun q => by have := q.1; omega), ma_rIn (fun q => by have := q.1; omega)]; exact (hz k (by omega)).2
      · rw [ma_rIn (by simp), ma_rI]; rfl
      · rw [ma_rI]; rfl
      · simp at e
      · refine ma_gd (ma_ib k rfl q (by decide)) (ma_lt (ma_gd (ma_ib k rfl q (by decide)) (ma_lt (ma_lt ?_))))
        rw [nI_clamp (by omega), nI_1]
        refine ih (k + 1) (by omega) (by omega) _ (hf.tr ((ma_fwI (fun q => q.2 rfl)).tr (ma_fwI (fun q => q.2 rfl)))) (fun j hj => ?_)
        by_cases e : j = k
        · subst e
          exact ⟨by rw [ma_rIn (by simp), ma_rI], by rw [ma_rI]⟩
        · have := hz j (by omega)
          exact ⟨by rw [ma_rIn (by simp), ma_rIn (fun q => e q.2.2)]; exact this.1, by rw [ma_rIn (fun q => e q.2.2), ma_rIn (fun q => e q.2.2)]; exact this.2⟩
  exact loop ae_fu 0 (by rw [ae_fu]; omega) (by omega) σ ma_fr.rf (fun j hj => by omega)
theorem mb_stepBack {sz : Nat} {now ahead : Nat → Int32} {h : List (Nat → Int32)} {σ : ae_S} (hl : h.length ≤ 8) (H : mb_C sz now ahead h σ) : ma_wp (F_X0_stepBack σ) (fun r τ => (h = [] ∧ r = 0 ∧ τ = σ) ∨ ∃ h' m, h = h' ++ [m] ∧ r = 1 ∧ mb_C sz m now h' τ ∧ ma_fr (fun g _ _ => g ≠ 3 ∧ g ≠ 4) σ τ) := by
  obtain ⟨h1, h2, h3, o, ho, h4, h5, h6⟩ := id H
  unfold F_X0_stepBack
  refine ma_en h.length 0 h5 rfl (by omega) (by decide) (fun e => ma_ret (.inl ⟨List.eq_nil_of_length_eq_zero e, rfl, rfl⟩)) (fun e => ?_)
  refine ma_bd (mb_begin H) (fun _ τ q => ?_)
  obtain ⟨⟨g1, g2, g3, o2, ho2, g4, g5, g6⟩, gf⟩ := q
  refine ma_lt ?_
  have r5 : (ae_wI τ 3 0 5 (τ.1 3 0 5 - 1)).1 3 0 5 = nI (h.length - 1) := by
    rw [ma_rI, g5, show h.length = h.length - 1 + 1 by omega, nI_pred]; rfl
  have r4 : (ae_wI τ 3 0 5 (τ.1 3 0 5 - 1)).1 3 0 4 = nI o2 := by rw [ma_rIn (by simp), g4]
  have r3 : (ae_wI τ 3 0 5 (τ.1 3 0 5 - 1)).1 3 0 3 = nI sz := by rw [ma_rIn (by simp), g1]
  have rr : ∀ a b c, ¬ a = 3 → (ae_wI τ 3 0 5 (τ.1 3 0 5 - 1)).1 a b c = τ.1 a b c := fun a b c ha => by rw [ma_rIn (fun q => ha q.1)]
  have rf : ma_fr (fun g _ _ => g ≠ 3 ∧ g ≠ 4) τ (ae_wI τ 3 0 5 (τ.1 3 0 5 - 1)) := ma_fwI (fun q => q.1 rfl)
  generalize ae_wI τ 3 0 5 (τ.1 3 0 5 - 1) = υ at r5 r4 r3 rr rf ⊢
  have ee : (υ.1 3 0 4 + υ.1 3 0 5) - (υ.1 3 0 4 + υ.1 3 0 5) / (8 : Int32) * (8 : Int32) = nI ((o2 + (h.length - 1)) % 8) := by
    rw [r4, r5, nI_add]
    exact pk_rem (d := 8) (by omega) (by decide) (by decide)
  rw [ee]
  refine ma_gd (ma_ib ((o2 + (h.length - 1)) % 8) rfl (by omega) (by decide)) ?_
  rw [nI_clamp (by omega)]
  have hne : h ≠ [] := fun q => e (by rw [q]; rfl)
  have hd : h = h.dropLast ++ [h.getLast hne] := (List.dropLast_concat_getLast hne).symm
  have hg : h[h.length - 1]? = some (h.getLast hne) := by rw [List.getLast_eq_getElem, List.getElem?_eq_getElem]
  refine ma_be (r := ()) (s := ae_wC υ (4, Fin.ofNat 32 ((o2 + (h.length - 1)) % 8 + 2)) (4, 0) (0 : Int32).toNatClampNeg (0 : Int32).toNatClampNeg (256 : Int32).toNatClampNeg) (ma_eq ?_) (ma_ret (.inr ⟨h.dropLast, h.getLast hne, hd, rfl, ⟨?_, fun k hk => ?_, fun k hk => ?_, o2, ho2, ?_, ?_, fun j m e2 k hk => ?_⟩, ?_⟩))
  · unfold F_X0_loadFrom
    exact ma_gd (mb_ok4 _ (by omega)) (ma_lt (ma_ret ⟨rfl, rfl⟩))
  · rw [ma_rCn (by simp), r3]
  · exact (ma_rC (q0 := (4, Fin.ofNat 32 ((o2 + (h.length - 1)) % 8 + 2))) (q1 := (4, 0)) hk).trans ((rr _ _ _ (by simp)).trans (g6 _ _ hg k hk))
  · rw [ma_rCn (by simp), rr _ _ _ (by simp), g3 k hk]
  · rw [ma_rCn (by simp), r4]
  · rw [ma_rCn (by simp), r5, List.length_dropLast]
  · rw [ma_rCn (fun q => by have := mb_fin (b := 0) (by omega) (by decide) q.2; omega), rr _ _ _ (by simp)]
    refine g6 j m ?_ k hk
    rw [List.getElem?_dropLast] at e2
    by_cases hj : j < h.length - 1
    · rw [if_pos hj] at e2; exact e2
    · rw [if_neg hj] at e2; cases e2
  · exact (gf.mo (fun g i n q => q.2)).tr (rf.tr (ma_fwC (fun k q => q.2 rfl)))
def mb_sum (f : Nat → Int32) : Nat → Int32
  | 0 => 0
  | n + 1 => mb_sum f n + f n
theorem mb_sum_cong {f g : Nat → Int32} : ∀ {n : Nat}, (∀ k, k < n → f k = g k) → mb_sum f n = mb_sum g n
  | 0, _ => rfl
  | n + 1, h => by rw [mb_sum, mb_sum, mb_sum_cong (fun k hk => h k (by omega)), h n (by omega)]
theorem mb_countSet {σ : ae_S} {sz : Nat} (hs : sz ≤ 256) (h3 : σ.1 3 0 3 = nI sz) : F_X0_countSet σ = some (nI (fb_ct (fun k => decide (¬ σ.1 4 0 k = 0)) sz), σ) := by
  have loop : ∀ n k : Nat, sz < k + n → k ≤ sz → ma_wp (F_X0_countSet_4 n (nI (fb_ct (fun k => decide (¬ σ.1 4 0 k = 0)) k)) (nI k) σ) (fun r τ => r = nI (fb_ct (fun k => decide (¬ σ.1 4 0 k = 0)) sz) ∧ τ = σ) := by
    intro n
    induction n with
    | zero => intro k h hk; omega
    | succ n ih =>
      intro k h hk
      unfold F_X0_countSet_4 F_X0_countSet_24
      refine ma_le sz k h3 rfl (by omega) (by omega) (fun q => ma_ret ⟨by rw [show k = sz by omega], rfl⟩) (fun q => ?_)
      refine ma_gd (ma_ib k rfl (by omega) (by decide)) ?_
      rw [nI_clamp (by omega)]
      refine ma_if (fun e => ma_lt ?_) (fun e => ma_lt (ma_lt ?_))
      · rw [nI_1]
        have := ih (k + 1) (by omega) (by omega)
        rw [fb_ct_succ, if_neg (by simp [e]), Nat.add_zero] at this
        exact this
      · rw [nI_1, nI_1]
        have := ih (k + 1) (by omega) (by omega)
        rw [fb_ct_succ, if_pos (by simp [e])] at this
        exact this
  exact ma_eq (loop ae_fu 0 (by rw [ae_fu]; omega) (by omega))
theorem mb_total {σ : ae_S} {sz : Nat} (hs : sz ≤ 256) (h3 : σ.1 3 0 3 = nI sz) : F_X0_total σ = some (mb_sum (σ.1 4 0) sz, σ) := by
  have loop : ∀ n k : Nat, sz < k + n → k ≤ sz → ma_wp (F_X0_total_4 n (mb_sum (σ.1 4 0) k) (nI k) σ) (fun r τ => r = mb_sum (σ.1 4 0) sz ∧ τ = σ) := by
    intro n
    induction n with
    | zero => intro k h hk; omega
    | succ n ih =>
      intro k h hk
      unfold F_X0_total_4
      refine ma_le sz k h3 rfl (by omega) (by omega) (fun q => ma_ret ⟨by rw [show k = sz by omega], rfl⟩) (fun q => ?_)
      refine ma_gd (ma_ib k rfl (by omega) (by decide)) (ma_lt (ma_lt ?_))
      rw [nI_clamp (by omega), nI_1]
      exact ih (k + 1) (by omega) (by omega)
  exact ma_eq (loop ae_fu 0 (by rw [ae_fu]; omega) (by omega))
