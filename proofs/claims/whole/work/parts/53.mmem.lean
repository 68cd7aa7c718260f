/-! THE MEMORY of the model: mb_M sz now ahead h -/
def mb_M (sz : Nat) (now ahead : Nat → Int32) (h : List (Nat → Int32)) (σ : ae_S) : Prop :=
  σ.1 30 0 0 = nI sz ∧ (∀ k, k < 256 → σ.1 31 0 k = now k) ∧ (∀ k, k < sz → σ.1 33 0 k = if now k = ahead k then 0 else 1) ∧ σ.1 30 0 5 = nI h.length ∧ ∀ j m, h[j]? = some m → ∀ k, k < sz → σ.1 34 0 (256 * j + k) = m k
/-- in the midst of a call: what was ahead stands in another row -/
def mb_N (sz : Nat) (now ahead : Nat → Int32) (h : List (Nat → Int32)) (σ : ae_S) : Prop :=
  σ.1 30 0 0 = nI sz ∧ (∀ k, k < 256 → σ.1 31 0 k = now k) ∧ (∀ k, k < sz → σ.1 32 0 k = ahead k) ∧ σ.1 30 0 5 = nI h.length ∧ ∀ j m, h[j]? = some m → ∀ k, k < sz → σ.1 34 0 (256 * j + k) = m k
theorem mb_M.fr {sz : Nat} {now ahead : Nat → Int32} {h : List (Nat → Int32)} {σ τ : ae_S} (H : mb_M sz now ahead h σ) {P : Nat → Fin 32 → Nat → Prop} (f : ma_fr P σ τ) (p0 : P 30 0 0) (p5 : P 30 0 5) (p1 : ∀ i k, P 31 i k) (p3 : ∀ i k, P 33 i k) (p4 : ∀ i k, P 34 i k) : mb_M sz now ahead h τ := by
  obtain ⟨h1, h2, h3, h4, h5⟩ := H
  exact ⟨(f.i p0).trans h1, fun k hk => (f.i (p1 _ _)).trans (h2 k hk), fun k hk => (f.i (p3 _ _)).trans (h3 k hk), (f.i p5).trans h4, fun j m e k hk => (f.i (p4 _ _)).trans (h5 j m e k hk)⟩
theorem mb_N.fr {sz : Nat} {now ahead : Nat → Int32} {h : List (Nat → Int32)} {σ τ : ae_S} (H : mb_N sz now ahead h σ) {P : Nat → Fin 32 → Nat → Prop} (f : ma_fr P σ τ) (p0 : P 30 0 0) (p5 : P 30 0 5) (p1 : ∀ i k, P 31 i k) (p3 : ∀ i k, P 32 i k) (p4 : ∀ i k, P 34 i k) : mb_N sz now ahead h τ := by
  obtain ⟨h1, h2, h3, h4, h5⟩ := H
  exact ⟨(f.i p0).trans h1, fun k hk => (f.i (p1 _ _)).trans (h2 k hk), fun k hk => (f.i (p3 _ _)).trans (h3 k hk), (f.i p5).trans h4, fun j m e k hk => (f.i (p4 _ _)).trans (h5 j m e k hk)⟩
theorem mb_begins {sz : Nat} {now ahead : Nat → Int32} {h : List (Nat → Int32)} {σ : ae_S} (hs : sz ≤ 256) (H : mb_M sz now ahead h σ) : ma_wp (F_X12_begins σ) (fun _ τ => mb_N sz now now h τ ∧ ma_fr (fun g _ _ => g ≠ 32) σ τ) := by
  obtain ⟨h1, h2, h3, h4, h5⟩ := id H
  have loop : ∀ n k : Nat, sz < k + n → k ≤ sz → ∀ τ : ae_S, ma_fr (fun g _ _ => g ≠ 32) σ τ → (∀ j, j < k → τ.1 32 0 j = now j) → ma_wp (F_X12_begins_2 n (nI k) τ) (fun _ τ => mb_N sz now now h τ ∧ ma_fr (fun g _ _ => g ≠ 32) σ τ) := by
    intro n
    induction n with
    | zero => intro k h hk; omega
    | succ n ih =>
      intro k h hk τ hf hz
      unfold F_X12_begins_2
      refine ma_le sz k ((hf.i (by simp)).trans h1) rfl (by omega) (by omega) (fun q => ma_ret ⟨⟨(hf.i (by simp)).trans h1, fun k hk => (hf.i (by simp)).trans (h2 k hk), fun j hj => hz j (by omega), (hf.i (by simp)).trans h4, fun j m e k hk => (hf.i (by simp)).trans (h5 j m e k hk)⟩, hf⟩) (fun q => ?_)
      refine ma_gd (ma_ib k rfl (by omega) (by decide)) (ma_gd (ma_ib k rfl (by omega) (by decide)) (ma_lt (ma_lt ?_)))
      rw [nI_clamp (by omega), nI_1]
      refine ih (k + 1) (by omega) (by omega) _ (hf.tr (ma_fwI (fun q => q rfl))) (fun j hj => ?_)
      by_cases e : j = k
      · subst e
        rw [ma_rI, hf.i (by simp), h2 j (by omega)]
      · rw [ma_rIn (fun q => e q.2.2)]; exact hz j (by omega)
  exact loop ae_fu 0 (by rw [ae_fu]; omega) (by omega) σ ma_fr.rf (fun j hj => by omega)
/-- the row of what was kept goes to its place -/
theorem mb_ends129 {sz : Nat} {now ahead : Nat → Int32} {h : List (Nat → Int32)} {σ : ae_S} (hs : sz ≤ 256) (hl : h.length < 8) (h1 : σ.1 30 0 0 = nI sz) (h3 : ∀ k, k < sz → σ.1 32 0 k = ahead k) (h4 : σ.1 30 0 5 = nI h.length) (h5 : ∀ j m, h[j]? = some m → ∀ k, k < sz → σ.1 34 0 (256 * j + k) = m k) : ma_wp (F_X12_ends_129 σ) (fun _ τ => τ.1 30 0 5 = nI (h.length + 1) ∧ (∀ j m, (h ++ [ahead])[j]? = some m → ∀ k, k < sz → τ.1 34 0 (256 * j + k) = m k) ∧ ma_fr (fun g _ k => g ≠ 34 ∧ ¬ (g = 30 ∧ k = 5)) σ τ) := by
  have loop : ∀ n k : Nat, sz < k + n → k ≤ sz → ∀ τ : ae_S, ma_fr (fun g _ _ => g ≠ 34) σ τ → (∀ j, j < k → τ.1 34 0 (256 * h.length + j) = ahead j) → (∀ j, j < 256 * h.length → τ.1 34 0 j = σ.1 34 0 j) → ma_wp (F_X12_ends_131 n (nI k) τ) (fun _ τ => τ.1 30 0 5 = nI (h.length + 1) ∧ (∀ j m, (h ++ [ahead])[j]? = some m → ∀ k, k < sz → τ.1 34 0 (256 * j + k) = m k) ∧ ma_fr (fun g _ k => g ≠ 34 ∧ ¬ (g = 30 ∧ k = 5)) σ τ) := by
    intro n
    induction n with
    | zero => intro k h hk; omega
    | succ n ih =>
      intro k hh hk τ hf hz ho
      unfold F_X12_ends_131
      have t5 : τ.1 30 0 5 = nI h.length := (hf.i (by simp)).trans h4
      refine ma_le sz k ((hf.i (by simp)).trans h1) rfl (by omega) (by omega) (fun q => ma_lt (ma_ret ⟨?_, fun j m e i hi => ?_, ?_⟩)) (fun q => ?_)
      · rw [ma_rI, t5, nI_1]
      · rw [ma_rIn (fun q => by have := q.1; omega)]
        by_cases hj : j < h.length
        · rw [List.getElem?_append_left hj] at e
          rw [ho _ (by omega)]
          exact h5 j m e i hi
        · rw [List.getElem?_append_right (by omega)] at e
          have hj8 : j = h.length := by
            rcases Nat.lt_or_ge (j - h.length) 1 with q | q
            · omega
            · rw [List.getElem?_eq_none (by simpa using q)] at e; cases e
          subst hj8
          have e2 : ahead = m := by simpa using e
          subst e2
          exact hz i (by omega)
      · exact (hf.mo (fun g i k q => q.1)).tr (ma_fwI (fun q => q.2 ⟨rfl, rfl⟩))
      · have ei : (256 : Int32) * τ.1 30 0 5 + nI k = nI (256 * h.length + k) := by
          rw [t5, show (256 : Int32) = nI 256 from rfl, pk_mul, nI_add]
        rw [ei]
        refine ma_gd (ma_ib k rfl (by omega) (by decide)) (ma_gd (ma_ib _ rfl (by omega) (by decide)) (ma_lt (ma_lt ?_)))
        rw [nI_clamp (by omega), nI_clamp (by omega), nI_1]
        refine ih (k + 1) (by omega) (by omega) _ (hf.tr (ma_fwI (fun q => q rfl))) (fun j hj => ?_) (fun j hj => ?_)
        · by_cases e : j = k
          · subst e
            rw [ma_rI, hf.i (by simp), h3 j (by omega)]
          · rw [ma_rIn (fun q => e (by have := q.2.2; omega))]; exact hz j (by omega)
        · rw [ma_rIn (fun q => by have := q.2.2; omega)]; exact ho j hj
  exact loop ae_fu 0 (by rw [ae_fu]; omega) (by omega) σ ma_fr.rf (fun j hj => by omega) (fun j hj => rfl)
/-- the oldest goes -/
theorem mb_ends90 {sz : Nat} {ahead : Nat → Int32} {h : List (Nat → Int32)} {σ : ae_S} (hs : sz ≤ 256) (hl : h.length = 8) (h1 : σ.1 30 0 0 = nI sz) (h3 : ∀ k, k < sz → σ.1 32 0 k = ahead k) (h4 : σ.1 30 0 5 = nI h.length) (h5 : ∀ j m, h[j]? = some m → ∀ k, k < sz → σ.1 34 0 (256 * j + k) = m k) : ma_wp (F_X12_ends_90 ae_fu (0 : Int32) σ) (fun _ τ => τ.1 30 0 5 = nI 8 ∧ (∀ j m, (h.tail ++ [ahead])[j]? = some m → ∀ k, k < sz → τ.1 34 0 (256 * j + k) = m k) ∧ ma_fr (fun g _ k => g ≠ 34 ∧ ¬ (g = 30 ∧ k = 5)) σ τ) := by
  have loop : ∀ n k : Nat, 1792 < k + n → k ≤ 1792 → ∀ τ : ae_S, ma_fr (fun g _ _ => g ≠ 34) σ τ → (∀ j, j < k → τ.1 34 0 j = σ.1 34 0 (j + 256)) → (∀ j, k ≤ j → τ.1 34 0 j = σ.1 34 0 j) → ma_wp (F_X12_ends_90 n (nI k) τ) (fun _ τ => τ.1 30 0 5 = nI 8 ∧ (∀ j m, (h.tail ++ [ahead])[j]? = some m → ∀ k, k < sz → τ.1 34 0 (256 * j + k) = m k) ∧ ma_fr (fun g _ k => g ≠ 34 ∧ ¬ (g = 30 ∧ k = 5)) σ τ) := by
    intro n
    induction n with
    | zero => intro k h hk; omega
    | succ n ih =>
      intro k hh hk τ hf hz ho
      unfold F_X12_ends_90
      have t5 : τ.1 30 0 5 = nI 8 := by rw [hf.i (by simp), h4, hl]
      refine ma_le 1792 k rfl rfl (by decide) (by omega) (fun q => ma_lt ?_) (fun q => ?_)
      · have ht : h.tail.length = 7 := by rw [List.length_tail, hl]
        have := mb_ends129 (h := h.tail) (σ := ae_wI τ 30 0 5 (τ.1 30 0 5 - 1)) (ahead := ahead) (now := ahead) hs (by omega) (by rw [ma_rIn (by simp), hf.i (by simp), h1]) (fun k hk => by rw [ma_rIn (fun q => by have := q.1; omega), hf.i (by simp), h3 k hk]) (by rw [ma_rI, t5, ht]; decide) (fun j m e k2 hk2 => by
          have hj : j < 7 := by
            rcases Nat.lt_or_ge j 7 with q | q
            · exact q
            · rw [List.getElem?_eq_none (by omega)] at e; cases e
          rw [ma_rIn (fun q => by have := q.1; omega), hz _ (by omega)]
          rw [List.getElem?_tail] at e
          have := h5 (j + 1) m e k2 hk2
          rw [show 256 * j + k2 + 256 = 256 * (j + 1) + k2 by omega]
          exact this)
        rw [ht] at this
        exact ma_mono this (fun _ υ H => ⟨H.1, H.2.1, (hf.mo (fun g i k q => q.1)).tr ((ma_fwI (fun q => q.2 ⟨rfl, rfl⟩)).tr H.2.2)⟩)
      · have ei : nI k + (256 : Int32) = nI (k + 256) := by rw [show (256 : Int32) = nI 256 from rfl, nI_add]
        rw [ei]
        refine ma_gd (ma_ib _ rfl (by omega) (by decide)) (ma_gd (ma_ib k rfl (by omega) (by decide)) (ma_lt (ma_lt ?_)))
        rw [nI_clamp (by omega), nI_clamp (by omega), nI_1]
        refine ih (k + 1) (by omega) (by omega) _ (hf.tr (ma_fwI (fun q => q rfl))) (fun j hj => ?_) (fun j hj => ?_)
        · by_cases e : j = k
          · subst e
            rw [ma_rI, ho _ (by omega)]
          · rw [ma_rIn (fun q => e q.2.2)]; exact hz j (by omega)
        · rw [ma_rIn (fun q => by have := q.2.2; omega)]; exact ho j (by omega)
  exact loop ae_fu 0 (by rw [ae_fu]; omega) (by omega) σ ma_fr.rf (fun j hj => by omega) (fun j hj => rfl)
/-- a call's end: what is other; kept, if kp isn't 0 -/
theorem mb_ends {sz : Nat} {now ahead : Nat → Int32} {h : List (Nat → Int32)} {σ : ae_S} {kp : Int32} (hs : sz ≤ 256) (hl : h.length ≤ 8) (H : mb_N sz now ahead h σ) : ma_wp (F_X12_ends kp σ) (fun _ τ => mb_M sz now ahead (if kp = 0 then h else mb_kp sz now ahead h) τ ∧ ma_fr (fun g _ k => g ≠ 33 ∧ g ≠ 34 ∧ ¬ (g = 30 ∧ k = 5)) σ τ) := by
  obtain ⟨h1, h2, h3, h4, h5⟩ := id H
  have loop : ∀ n k : Nat, 256 < k + n → k ≤ 256 → ∀ (τ : ae_S) (any : Int32), ma_fr (fun g _ _ => g ≠ 33) σ τ → (∀ j, j < k → j < sz → τ.1 33 0 j = if now j = ahead j then 0 else 1) → ((any = 0 ∧ ∀ j, j < k → j < sz → now j = ahead j) ∨ (any = 1 ∧ ∃ j, j < sz ∧ ¬ now j = ahead j)) → ma_wp (F_X12_ends_4 n kp any (nI k) τ) (fun _ τ => mb_M sz now ahead (if kp = 0 then h else mb_kp sz now ahead h) τ ∧ ma_fr (fun g _ k => g ≠ 33 ∧ g ≠ 34 ∧ ¬ (g = 30 ∧ k = 5)) σ τ) := by
    intro n
    induction n with
    | zero => intro k h hk; omega
    | succ n ih =>
      intro k hh hk τ any hf hz ha
      unfold F_X12_ends_4
      have t1 : τ.1 30 0 0 = nI sz := (hf.i (by simp)).trans h1
      have t2 : ∀ k, k < 256 → τ.1 31 0 k = now k := fun k hk => (hf.i (by simp)).trans (h2 k hk)
      have t3 : ∀ k, k < sz → τ.1 32 0 k = ahead k := fun k hk => (hf.i (by simp)).trans (h3 k hk)
      have t4 : τ.1 30 0 5 = nI h.length := (hf.i (by simp)).trans h4
      have t5 : ∀ j m, h[j]? = some m → ∀ k, k < sz → τ.1 34 0 (256 * j + k) = m k := fun j m e k hk => (hf.i (by simp)).trans (h5 j m e k hk)
      have tf : ma_fr (fun g _ k => g ≠ 33 ∧ g ≠ 34 ∧ ¬ (g = 30 ∧ k = 5)) σ τ := hf.mo (fun g i k q => q.1)
      refine ma_le 256 k rfl rfl (by decide) (by omega) (fun q => ?_) (fun q => ?_)
      · have hz2 : ∀ j, j < sz → τ.1 33 0 j = if now j = ahead j then 0 else 1 := fun j hj => hz j (by omega) hj
        rcases ha with ⟨rfl, ha⟩ | ⟨rfl, j, hj, ha⟩
        · refine ma_T rfl ?_
          have e : mb_kp sz now ahead h = h := if_pos (fun j hj => ha j (by omega) hj)
          rw [e, ite_self]
          exact ma_ret ⟨⟨t1, t2, hz2, t4, t5⟩, tf⟩
        · refine ma_F ma_01 (ma_if (fun e => ?_) (fun e => ?_))
          · rw [if_pos e]
            exact ma_ret ⟨⟨t1, t2, hz2, t4, t5⟩, tf⟩
          · rw [if_neg e]
            have e2 : mb_kp sz now ahead h = mb_push h ahead := if_neg (fun a => ha (a j hj))
            rw [e2]
            refine ma_en h.length 8 t4 rfl (by omega) (by decide) (fun e8 => ?_) (fun e8 => ?_)
            · rw [mb_push, if_pos e8]
              refine ma_mono (mb_ends90 hs e8 t1 t3 t4 t5) (fun _ υ q => ⟨⟨?_, fun k hk => ?_, fun k hk => ?_, ?_, q.2.1⟩, tf.tr (q.2.2.mo (fun g i k q => ⟨q.2.1, q.2.2⟩))⟩)
              · exact (q.2.2.i (by simp)).trans t1
              · exact (q.2.2.i (by omega)).trans (t2 k hk)
              · exact (q.2.2.i (by omega)).trans (hz2 k hk)
              · rw [q.1, List.length_append, List.length_tail, e8]; rfl
            · rw [mb_push, if_neg e8]
              refine ma_mono (mb_ends129 (now := now) hs (by omega) t1 t3 t4 t5) (fun _ υ q => ⟨⟨?_, fun k hk => ?_, fun k hk => ?_, ?_, q.2.1⟩, tf.tr (q.2.2.mo (fun g i k q => ⟨q.2.1, q.2.2⟩))⟩)
              · exact (q.2.2.i (by simp)).trans t1
              · exact (q.2.2.i (by omega)).trans (t2 k hk)
              · exact (q.2.2.i (by omega)).trans (hz2 k hk)
              · rw [q.1, List.length_append]; rfl
      · have key : ∀ x : Int32, x = 0 ∨ x = 1 → (k < sz → x = if now k = ahead k then 0 else 1) → (sz ≤ k → x = 0) → ma_wp (F_X12_ends_44 (F_X12_ends_4 n) kp any (nI k) x (nI k) τ) (fun _ τ => mb_M sz now ahead (if kp = 0 then h else mb_kp sz now ahead h) τ ∧ ma_fr (fun g _ k => g ≠ 33 ∧ g ≠ 34 ∧ ¬ (g = 30 ∧ k = 5)) σ τ) := by
          intro x hx hx2 hx3
          unfold F_X12_ends_44 F_X12_ends_58 F_X12_ends_63
          refine ma_gd (ma_ib k rfl q (by decide)) (ma_gd (by rcases hx with rfl | rfl <;> decide) (ma_lt ?_))
          rw [nI_clamp (by omega)]
          have hz3 : ∀ j, j < k + 1 → j < sz → (ae_wI τ 33 0 k x).1 33 0 j = if now j = ahead j then 0 else 1 := fun j hj hj2 => by
            by_cases e : j = k
            · subst e; rw [ma_rI]; exact hx2 hj2
            · rw [ma_rIn (fun q => e q.2.2)]; exact hz j (by omega) hj2
          have hf3 : ma_fr (fun g _ _ => g ≠ 33) σ (ae_wI τ 33 0 k x) := hf.tr (ma_fwI (fun q => q rfl))
          rcases ha with ⟨rfl, ha⟩ | ⟨rfl, ha⟩
          · refine ma_T rfl (ma_gd (ma_ib k rfl q (by decide)) ?_)
            rw [ma_rI]
            refine ma_if (fun e => ma_lt ?_) (fun e => ma_lt ?_)
            · rw [nI_1]
              refine ih (k + 1) (by omega) (by omega) _ 0 hf3 hz3 (.inl ⟨rfl, fun j hj hj2 => ?_⟩)
              by_cases e3 : j = k
              · subst e3
                have := hx2 hj2
                rw [e] at this
                by_cases e4 : now j = ahead j
                · exact e4
                · rw [if_neg e4] at this; exact absurd this (by decide)
              · exact ha j (by omega) hj2
            · rw [nI_1]
              refine ih (k + 1) (by omega) (by omega) _ 1 hf3 hz3 (.inr ⟨rfl, k, ?_⟩)
              rcases Nat.lt_or_ge k sz with q2 | q2
              · refine ⟨q2, fun e4 => e ?_⟩
                rw [hx2 q2, if_pos e4]
              · exact absurd (hx3 q2) e
          · refine ma_F ma_01 (ma_lt ?_)
            rw [nI_1]
            exact ih (k + 1) (by omega) (by omega) _ 1 hf3 hz3 (.inr ⟨rfl, ha⟩)
        refine ma_le sz k t1 rfl (by omega) (by omega) (fun q2 => key 0 (.inl rfl) (fun q3 => by omega) (fun _ => rfl)) (fun q2 => ?_)
        refine ma_gd (ma_ib k rfl (by omega) (by decide)) (ma_gd (ma_ib k rfl (by omega) (by decide)) ?_)
        rw [nI_clamp (by omega), t2 k (by omega), t3 k q2]
        refine ma_if (fun e => key 0 (.inl rfl) (fun _ => by rw [if_pos e]) (fun _ => rfl)) (fun e => key 1 (.inr rfl) (fun _ => by rw [if_neg e]) (fun q3 => by omega))
  exact loop ae_fu 0 (by rw [ae_fu]; omega) (by omega) σ 0 ma_fr.rf (fun j hj => by omega) (.inl ⟨rfl, fun j hj => by omega⟩)
theorem mb_undoM {sz : Nat} {now ahead : Nat → Int32} {h : List (Nat → Int32)} {σ : ae_S} (hs : sz ≤ 256) (hl : h.length ≤ 8) (hn : ∀ k, sz ≤ k → now k = 0) (hm : ∀ m ∈ h, ∀ k, sz ≤ k → m k = 0) (H : mb_M sz now ahead h σ) : ma_wp (F_X12_undo σ) (fun r τ => (h = [] ∧ r = 0 ∧ τ = σ) ∨ ∃ h' m, h = h' ++ [m] ∧ r = 1 ∧ mb_M sz m now h' τ ∧ ma_fr (fun g _ k => g ≠ 31 ∧ g ≠ 32 ∧ g ≠ 33 ∧ g ≠ 34 ∧ ¬ (g = 30 ∧ k = 5)) σ τ) := by
  obtain ⟨h1, h2, h3, h4, h5⟩ := id H
  unfold F_X12_undo
  refine ma_en h.length 0 h4 rfl (by omega) (by decide) (fun e => ma_ret (.inl ⟨List.eq_nil_of_length_eq_zero e, rfl, rfl⟩)) (fun e => ?_)
  refine ma_bd (mb_begins hs H) (fun _ τ q => ma_lt ?_)
  obtain ⟨⟨g1, g2, g3, g4, g5⟩, gf⟩ := q
  have hne : h ≠ [] := fun q => e (by rw [q]; rfl)
  have hd : h = h.dropLast ++ [h.getLast hne] := (List.dropLast_concat_getLast hne).symm
  have hg : h[h.length - 1]? = some (h.getLast hne) := by rw [List.getLast_eq_getElem, List.getElem?_eq_getElem]
  have hdl : h.dropLast.length = h.length - 1 := List.length_dropLast
  have hdg : ∀ j m, h.dropLast[j]? = some m → h[j]? = some m := fun j m e2 => by
    rw [List.getElem?_dropLast] at e2
    by_cases hj : j < h.length - 1
    · rw [if_pos hj] at e2; exact e2
    · rw [if_neg hj] at e2; cases e2
  have loop : ∀ n k : Nat, sz < k + n → k ≤ sz → ∀ υ : ae_S, ma_fr (fun g _ k => g ≠ 31 ∧ ¬ (g = 30 ∧ k = 5)) τ υ → υ.1 30 0 5 = nI (h.length - 1) → (∀ j, j < k → υ.1 31 0 j = h.getLast hne j) → (∀ j, sz ≤ j → j < 256 → υ.1 31 0 j = 0) → ma_wp (F_X12_undo_25 n (nI k) υ) (fun r τ => (h = [] ∧ r = 0 ∧ τ = σ) ∨ ∃ h' m, h = h' ++ [m] ∧ r = 1 ∧ mb_M sz m now h' τ ∧ ma_fr (fun g _ k => g ≠ 31 ∧ g ≠ 32 ∧ g ≠ 33 ∧ g ≠ 34 ∧ ¬ (g = 30 ∧ k = 5)) σ τ) := by
    intro n
    induction n with
    | zero => intro k h hk; omega
    | succ n ih =>
      intro k hh hk υ hf h5u hz hb
      unfold F_X12_undo_25
      refine ma_le sz k ((hf.i (by simp)).trans g1) rfl (by omega) (by omega) (fun q => ?_) (fun q => ?_)
      · have HN : mb_N sz (h.getLast hne) now h.dropLast υ := by
          refine ⟨(hf.i (by simp)).trans g1, fun k2 hk2 => ?_, fun k2 hk2 => (hf.i (by omega)).trans (g3 k2 hk2), by rw [h5u, hdl], fun j m e2 k2 hk2 => (hf.i (by omega)).trans (g5 j m (hdg j m e2) k2 hk2)⟩
          rcases Nat.lt_or_ge k2 sz with q2 | q2
          · exact hz k2 (by omega)
          · rw [hb k2 q2 hk2, hm _ (List.getLast_mem hne) k2 q2]
        refine ma_bd (mb_ends (kp := 0) hs (by omega) HN) (fun _ ω q2 => ma_ret (.inr ⟨h.dropLast, h.getLast hne, hd, rfl, q2.1, ?_⟩))
        exact (gf.mo (fun g i k q => q.2.1)).tr ((hf.mo (fun g i k q => ⟨q.1, q.2.2.2.2⟩)).tr (q2.2.mo (fun g i k q => ⟨q.2.2.1, q.2.2.2.1, q.2.2.2.2⟩)))
      · have ei : (256 : Int32) * υ.1 30 0 5 + nI k = nI (256 * (h.length - 1) + k) := by
          rw [h5u, show (256 : Int32) = nI 256 from rfl, pk_mul, nI_add]
        rw [ei]
        refine ma_gd (ma_ib _ rfl (by omega) (by decide)) (ma_gd (ma_ib k rfl (by omega) (by decide)) (ma_lt (ma_lt ?_)))
        rw [nI_clamp (by omega), nI_clamp (by omega), nI_1]
        refine ih (k + 1) (by omega) (by omega) _ (hf.tr (ma_fwI (fun q => q.1 rfl))) ?_ (fun j hj => ?_) (fun j hj hj2 => ?_)
        · rw [ma_rIn (by simp)]; exact h5u
        · by_cases e3 : j = k
          · subst e3
            rw [ma_rI, hf.i (by omega)]
            exact g5 _ _ hg j q
          · rw [ma_rIn (fun q => e3 q.2.2)]; exact hz j (by omega)
        · rw [ma_rIn (fun q => by have := q.2.2; omega)]; exact hb j hj hj2
  refine loop ae_fu 0 (by rw [ae_fu]; omega) (by omega) _ (ma_fwI (fun q => q.2 ⟨rfl, rfl⟩)) ?_ (fun j hj => by omega) (fun j hj hj2 => ?_)
  · rw [ma_rI, g4, show h.length = h.length - 1 + 1 by omega, nI_pred]; rfl
  · rw [ma_rIn (fun q => by have := q.1; omega), g2 j hj2, hn j hj]
theorem mb_memoryM {σ : ae_S} {sz : Nat} (h0 : 1 ≤ sz) (hs : sz ≤ 256) : ma_wp (F_X12_memory (nI sz) σ) (fun r τ => r = 1 ∧ mb_M sz (fun _ => 0) (fun _ => 0) [] τ ∧ τ.1 30 0 17 = 0 ∧ ma_fr (fun g _ k => g ≠ 31 ∧ g ≠ 33 ∧ ¬ (g = 30 ∧ (k = 0 ∨ k = 5 ∨ k = 17))) σ τ) := by
  unfold F_X12_memory
  rw [ma_isIn]
  refine ma_be rfl ?_
  have hin : (1 : Int64) ≤ (nI sz).toInt64 ∧ (nI sz).toInt64 ≤ (256 : Int64) := by
    rw [nI_l (by omega), show (1 : Int64) = lN 1 from rfl, show (256 : Int64) = lN 256 from rfl, lN_le (by decide) (by omega), lN_le (by omega) (by decide)]
    omega
  rw [if_pos hin]
  refine ma_F ma_01 (ma_lt ?_)
  have loop : ∀ n k : Nat, 256 < k + n → k ≤ 256 → ∀ τ : ae_S, ma_fr (fun g _ k => g ≠ 31 ∧ g ≠ 33 ∧ ¬ (g = 30 ∧ (k = 0 ∨ k = 5 ∨ k = 17))) σ τ → τ.1 30 0 0 = nI sz → (∀ j, j < k → τ.1 31 0 j = 0 ∧ τ.1 33 0 j = 0) → ma_wp (F_X12_memory_21 n (nI k) τ) (fun r τ => r = 1 ∧ mb_M sz (fun _ => 0) (fun _ => 0) [] τ ∧ τ.1 30 0 17 = 0 ∧ ma_fr (fun g _ k => g ≠ 31 ∧ g ≠ 33 ∧ ¬ (g = 30 ∧ (k = 0 ∨ k = 5 ∨ k = 17))) σ τ) := by
    intro n
    induction n with
    | zero => intro k h hk; omega
    | succ n ih =>
      intro k hh hk τ hf hz0 hz
      unfold F_X12_memory_21
      refine ma_le 256 k rfl rfl (by decide) (by omega) (fun q => ma_lt (ma_lt (ma_ret ⟨rfl, ⟨?_, fun k hk => ?_, fun k hk => ?_, ?_, fun j m e => ?_⟩, ?_, hf.tr ((ma_fwI (fun q => q.2.2 ⟨rfl, .inr (.inr rfl)⟩)).tr (ma_fwI (fun q => q.2.2 ⟨rfl, .inr (.inl rfl)⟩)))⟩))) (fun q => ?_)
      · rw [ma_rIn (by simp), ma_rIn (by simp)]; exact hz0
      · rw [ma_rIn (fun q => by have := q.1; omega), ma_rIn (fun q => by have := q.1; omega)]; exact (hz k (by omega)).1
      · rw [ma_rIn (fun q => by have := q.1; omega), ma_rIn (fun q => by have := q.1; omega), if_pos rfl]; exact (hz k (by omega)).2
      · rw [ma_rI]; rfl
      · simp at e
      · rw [ma_rIn (by simp), ma_rI]
      · refine ma_gd (ma_ib k rfl q (by decide)) (ma_lt (ma_gd (ma_ib k rfl q (by decide)) (ma_lt (ma_lt ?_))))
        rw [nI_clamp (by omega), nI_1]
        refine ih (k + 1) (by omega) (by omega) _ (hf.tr ((ma_fwI (fun q => q.1 rfl)).tr (ma_fwI (fun q => q.2.1 rfl)))) ?_ (fun j hj => ?_)
        · rw [ma_rIn (by simp), ma_rIn (by simp)]; exact hz0
        · by_cases e : j = k
          · subst e
            exact ⟨by rw [ma_rIn (by simp), ma_rI], by rw [ma_rI]⟩
          · have := hz j (by omega)
            exact ⟨by rw [ma_rIn (by simp), ma_rIn (fun q => e q.2.2)]; exact this.1, by rw [ma_rIn (fun q => e q.2.2), ma_rIn (by simp)]; exact this.2⟩
  exact loop ae_fu 0 (by rw [ae_fu]; omega) (by omega) _ (ma_fwI (fun q => q.2.2 ⟨rfl, .inl rfl⟩)) ma_rI (fun j hj => by omega)
