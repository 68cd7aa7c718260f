/-! THE MEMORY of the class: mb_C sz now ahead h: its size, its bytes, how they were ahead of the latest call, the history (the oldest first) -/
def mb_by (x : Int32) : Prop := ∃ b : Nat, b < 256 ∧ x = nI b
theorem mb_by0 : mb_by 0 := ⟨0, by decide, rfl⟩
theorem mb_byA (x : Int32) : mb_by (x &&& 255) := by
  obtain ⟨j, hj, e⟩ := pk_andE x (m := 255) 8 (by decide)
  exact ⟨j, hj, e⟩
def mb_W (sz : Nat) (now ahead : Nat → Int32) (h : List (Nat → Int32)) : Prop := 1 ≤ sz ∧ sz ≤ 256 ∧ h.length ≤ 8 ∧ (∀ k, mb_by (now k)) ∧ (∀ k, sz ≤ k → now k = 0) ∧ (∀ k, sz ≤ k → ahead k = 0) ∧ ∀ m ∈ h, (∀ k, mb_by (m k)) ∧ ∀ k, sz ≤ k → m k = 0
def mb_C (sz : Nat) (now ahead : Nat → Int32) (h : List (Nat → Int32)) (σ : ae_S) : Prop :=
  σ.1 3 0 3 = nI sz ∧ (∀ k, k < 256 → σ.1 4 0 k = now k) ∧ (∀ k, k < 256 → σ.1 4 1 k = ahead k) ∧ ∃ o : Nat, o < 8 ∧ σ.1 3 0 4 = nI o ∧ σ.1 3 0 5 = nI h.length ∧ ∀ j m, h[j]? = some m → ∀ k, k < 256 → σ.1 4 (Fin.ofNat 32 ((o + j) % 8 + 2)) k = m k
def mb_push (h : List (Nat → Int32)) (m : Nat → Int32) : List (Nat → Int32) := if h.length = 8 then h.tail ++ [m] else h ++ [m]
noncomputable def mb_kp (sz : Nat) (now ahead : Nat → Int32) (h : List (Nat → Int32)) : List (Nat → Int32) := @ite _ (∀ k, k < sz → now k = ahead k) (Classical.propDecidable _) h (mb_push h ahead)
theorem mb_fin {a b : Nat} (ha : a < 32) (hb : b < 32) (h : Fin.ofNat 32 a = Fin.ofNat 32 b) : a = b := by
  have h2 := congrArg Fin.val h
  have h3 : a % 32 = b % 32 := h2
  rw [Nat.mod_eq_of_lt ha, Nat.mod_eq_of_lt hb] at h3
  exact h3
theorem mb_ok4 : ∀ j, j < 16 → ae_ok (4, Fin.ofNat 32 j) = true := by decide
theorem mb_C.fr {sz : Nat} {now ahead : Nat → Int32} {h : List (Nat → Int32)} {σ τ : ae_S} (H : mb_C sz now ahead h σ) {P : Nat → Fin 32 → Nat → Prop} (f : ma_fr P σ τ) (p3 : ∀ i k, P 3 i k) (p4 : ∀ i k, P 4 i k) : mb_C sz now ahead h τ := by
  obtain ⟨h1, h2, h3, o, ho, h4, h5, h6⟩ := H
  refine ⟨(f.i (p3 _ _)).trans h1, fun k hk => (f.i (p4 _ _)).trans (h2 k hk), fun k hk => (f.i (p4 _ _)).trans (h3 k hk), o, ho, (f.i (p3 _ _)).trans h4, (f.i (p3 _ _)).trans h5, fun j m e k hk => (f.i (p4 _ _)).trans (h6 j m e k hk)⟩
theorem mb_begin {sz : Nat} {now ahead : Nat → Int32} {h : List (Nat → Int32)} {σ : ae_S} (H : mb_C sz now ahead h σ) : ma_wp (F_X0_begin σ) (fun _ τ => mb_C sz now now h τ ∧ ma_fr (fun g _ _ => g ≠ 4) σ τ) := by
  obtain ⟨h1, h2, h3, o, ho, h4, h5, h6⟩ := H
  unfold F_X0_begin
  refine ma_lt (ma_ret ⟨⟨?_, fun k hk => ?_, fun k hk => ?_, o, ho, ?_, ?_, fun j m e k hk => ?_⟩, ma_fwC (fun k h => h rfl)⟩)
  · rw [ma_rCn (by simp)]; exact h1
  · rw [ma_rCn (by simp)]; exact h2 k hk
  · exact (ma_rC (q0 := (4, 0)) (q1 := (4, 1)) hk).trans (h2 k hk)
  · rw [ma_rCn (by simp)]; exact h4
  · rw [ma_rCn (by simp)]; exact h5
  · rw [ma_rCn (fun q => by have := mb_fin (b := 1) (by omega) (by decide) q.2; omega)]; exact h6 j m e k hk
theorem mb_get {σ : ae_S} {k : Nat} (hk : k < 256) : F_X0_get (nI k) σ = some (σ.1 4 0 k, σ) := by
  refine ma_eq ?_
  unfold F_X0_get
  refine ma_F (nI_pos (by omega)) (ma_F (nI_ge (b := 256) hk (by decide)) (ma_gd (ma_ib k rfl hk (by decide)) ?_))
  rw [nI_clamp (by omega)]
  exact ma_ret ⟨rfl, rfl⟩
theorem mb_set {σ : ae_S} {k : Nat} {v : Int32} (hk : k < 256) : F_X0_set (nI k) v σ = some ((), ae_wI σ 4 0 k (v &&& 255)) := by
  refine ma_eq ?_
  unfold F_X0_set
  refine ma_F (nI_pos (by omega)) (ma_F (nI_ge (b := 256) hk (by decide)) (ma_gd (ma_ib k rfl hk (by decide)) ?_))
  rw [nI_clamp (by omega)]
  exact ma_ret ⟨rfl, rfl⟩
theorem mb_has {σ : ae_S} {x : Int32} {sz : Nat} (hs : sz < 2 ^ 31) (h : σ.1 3 0 3 = nI sz) : F_X0_has x σ = some (if 0 ≤ x.toInt ∧ x.toInt < sz then 1 else 0, σ) := by
  refine ma_eq ?_
  unfold F_X0_has F_X0_has_16 F_X0_has_17
  rcases ma_ix x hs with ⟨h1, h2⟩ | ⟨h1, h2, h3⟩ | ⟨j, h1, h2, h3⟩
  · rw [if_neg (c := 0 ≤ x.toInt ∧ x.toInt < (sz : Int)) (fun q => by omega)]
    exact ma_T h1 (ma_gd ma_z0 (ma_ret ⟨rfl, rfl⟩))
  · rw [if_neg (c := 0 ≤ x.toInt ∧ x.toInt < (sz : Int)) (fun q => by omega)]
    exact ma_F h1 (ma_T (by rw [h]; exact h2) (ma_gd ma_z0 (ma_ret ⟨rfl, rfl⟩)))
  · rw [if_pos (c := 0 ≤ x.toInt ∧ x.toInt < (sz : Int)) (by omega)]
    exact ma_F (ma_neg h2 (by omega)) (ma_F (by rw [h, h2]; exact nI_ge h1 hs) (ma_gd ma_z1 (ma_ret ⟨rfl, rfl⟩)))
theorem mb_differs {σ : ae_S} {k : Nat} (hk : k < 256) : F_X0_differs (nI k) σ = some (if σ.1 4 0 k = σ.1 4 1 k then 0 else 1, σ) := by
  refine ma_eq ?_
  unfold F_X0_differs F_X0_differs_30 F_X0_differs_31
  refine ma_F (nI_pos (by omega)) (ma_F (nI_ge (b := 256) hk (by decide)) (ma_gd (ma_ib k rfl hk (by decide)) (ma_gd (ma_ib k rfl hk (by decide)) ?_)))
  rw [nI_clamp (by omega)]
  refine ma_if (fun e => ?_) (fun e => ?_)
  · rw [if_pos e]; exact ma_gd ma_z0 (ma_ret ⟨rfl, rfl⟩)
  · rw [if_neg e]; exact ma_gd ma_z1 (ma_ret ⟨rfl, rfl⟩)
theorem mb_anyD {σ : ae_S} {sz : Nat} (hs : sz ≤ 256) (h3 : σ.1 3 0 3 = nI sz) : ∀ n k : Nat, sz < k + n → k ≤ sz → ma_wp (F_X0_anyDiffers_2 n (nI k) σ) (fun r τ => τ = σ ∧ ((r = 0 ∧ ∀ j, k ≤ j → j < sz → σ.1 4 0 j = σ.1 4 1 j) ∨ (r = 1 ∧ ∃ j, j < sz ∧ ¬ σ.1 4 0 j = σ.1 4 1 j)))
  | 0, k, h, hk => by omega
  | n + 1, k, h, hk => by
    unfold F_X0_anyDiffers_2
    refine ma_le sz k h3 rfl (by omega) (by omega) (fun q => ma_ret ⟨rfl, .inl ⟨rfl, fun j a b => by omega⟩⟩) (fun q => ?_)
    refine ma_gd (ma_ib k rfl (by omega) (by decide)) (ma_gd (ma_ib k rfl (by omega) (by decide)) ?_)
    rw [nI_clamp (by omega)]
    refine ma_if (fun e => ma_lt ?_) (fun e => ma_ret ⟨rfl, .inr ⟨rfl, k, q, e⟩⟩)
    rw [nI_1]
    refine ma_mono (mb_anyD hs h3 n (k + 1) (by omega) (by omega)) (fun r τ H => ⟨H.1, H.2.imp (fun H => ⟨H.1, fun j a b => ?_⟩) id⟩)
    by_cases e2 : j = k
    · rw [e2]; exact e
    · exact H.2 j (by omega) b
theorem mb_keep40 {σ : ae_S} {o c : Nat} (ho : o < 8) (hc : c < 8) (h4 : σ.1 3 0 4 = nI o) (h5 : σ.1 3 0 5 = nI c) : F_X0_keep_40 σ = some ((), ae_wI (ae_wC σ (4, 1) (4, Fin.ofNat 32 ((o + c) % 8 + 2)) (0 : Int32).toNatClampNeg (0 : Int32).toNatClampNeg (256 : Int32).toNatClampNeg) 3 0 5 (nI (c + 1))) := by
  have e : (σ.1 3 0 4 + σ.1 3 0 5) - (σ.1 3 0 4 + σ.1 3 0 5) / (8 : Int32) * (8 : Int32) = nI ((o + c) % 8) := by
    rw [h4, h5, nI_add]
    exact pk_rem (d := 8) (by omega) (by decide) (by decide)
  refine ma_eq ?_
  unfold F_X0_keep_40
  rw [e]
  refine ma_lt (ma_gd (ma_ib ((o + c) % 8) rfl (by omega) (by decide)) ?_)
  rw [nI_clamp (by omega)]
  refine ma_gd (mb_ok4 _ (by omega)) (ma_lt (ma_lt (ma_ret ⟨rfl, ?_⟩)))
  rw [ma_rCn (by simp), h5, nI_1]
theorem mb_keepC {sz : Nat} {now ahead : Nat → Int32} {h : List (Nat → Int32)} {σ : ae_S} (hs : sz ≤ 256) (hl : h.length ≤ 8) (H : mb_C sz now ahead h σ) : ma_wp (F_X0_keep σ) (fun _ τ => mb_C sz now ahead (mb_kp sz now ahead h) τ ∧ ma_fr (fun g _ _ => g ≠ 3 ∧ g ≠ 4) σ τ) := by
  obtain ⟨h1, h2, h3, o, ho, h4, h5, h6⟩ := id H
  unfold F_X0_keep F_X0_anyDiffers
  refine ma_bd (mb_anyD hs h1 ae_fu 0 (by rw [ae_fu]; omega) (by omega)) (fun r τ q => ?_)
  obtain ⟨rfl, q⟩ := q
  have hk : ∀ j, j < sz → (τ.1 4 0 j = τ.1 4 1 j ↔ now j = ahead j) := fun j hj => by rw [h2 j (by omega), h3 j (by omega)]
  rcases q with ⟨rfl, q⟩ | ⟨rfl, j, hj, q⟩
  · refine ma_T rfl (ma_ret ⟨?_, ma_fr.rf⟩)
    rw [mb_kp, if_pos (fun k hk2 => (hk k hk2).mp (q k (Nat.zero_le _) hk2))]
    exact H
  · refine ma_F ma_01 ?_
    have e : mb_kp sz now ahead h = mb_push h ahead := if_neg (fun a => q ((hk j hj).mpr (a j hj)))
    rw [e]
    refine ma_en h.length 8 h5 rfl (by omega) (by decide) (fun e8 => ma_lt (ma_lt ?_)) (fun e8 => ?_)
    · have r4 : (ae_wI (ae_wI τ 3 0 4 (τ.1 3 0 4 + 1 - (τ.1 3 0 4 + 1) / 8 * 8)) 3 0 5 ((ae_wI τ 3 0 4 (τ.1 3 0 4 + 1 - (τ.1 3 0 4 + 1) / 8 * 8)).1 3 0 5 - 1)).1 3 0 4 = nI ((o + 1) % 8) := by
        rw [ma_rIn (by simp), ma_rI, h4, nI_1]
        exact pk_rem (d := 8) (by omega) (by decide) (by decide)
      have r5 : (ae_wI (ae_wI τ 3 0 4 (τ.1 3 0 4 + 1 - (τ.1 3 0 4 + 1) / 8 * 8)) 3 0 5 ((ae_wI τ 3 0 4 (τ.1 3 0 4 + 1 - (τ.1 3 0 4 + 1) / 8 * 8)).1 3 0 5 - 1)).1 3 0 5 = nI 7 := by
        rw [ma_rI, ma_rIn (by simp), h5, e8]
        decide
      have rr : ∀ a b c, ¬ a = 3 → (ae_wI (ae_wI τ 3 0 4 (τ.1 3 0 4 + 1 - (τ.1 3 0 4 + 1) / 8 * 8)) 3 0 5 ((ae_wI τ 3 0 4 (τ.1 3 0 4 + 1 - (τ.1 3 0 4 + 1) / 8 * 8)).1 3 0 5 - 1)).1 a b c = τ.1 a b c := fun a b c ha => by
        rw [ma_rIn (fun q => ha q.1), ma_rIn (fun q => ha q.1)]
      have r3 : (ae_wI (ae_wI τ 3 0 4 (τ.1 3 0 4 + 1 - (τ.1 3 0 4 + 1) / 8 * 8)) 3 0 5 ((ae_wI τ 3 0 4 (τ.1 3 0 4 + 1 - (τ.1 3 0 4 + 1) / 8 * 8)).1 3 0 5 - 1)).1 3 0 3 = nI sz := by
        rw [ma_rIn (by simp), ma_rIn (by simp), h1]
      have rf : ma_fr (fun g _ _ => g ≠ 3 ∧ g ≠ 4) τ (ae_wI (ae_wI τ 3 0 4 (τ.1 3 0 4 + 1 - (τ.1 3 0 4 + 1) / 8 * 8)) 3 0 5 ((ae_wI τ 3 0 4 (τ.1 3 0 4 + 1 - (τ.1 3 0 4 + 1) / 8 * 8)).1 3 0 5 - 1)) := (ma_fwI (fun q => q.1 rfl)).tr (ma_fwI (fun q => q.1 rfl))
      generalize (ae_wI (ae_wI τ 3 0 4 (τ.1 3 0 4 + 1 - (τ.1 3 0 4 + 1) / 8 * 8)) 3 0 5 ((ae_wI τ 3 0 4 (τ.1 3 0 4 + 1 - (τ.1 3 0 4 + 1) / 8 * 8)).1 3 0 5 - 1)) = υ at r4 r5 rr r3 rf ⊢
      refine ma_of (mb_keep40 (o := (o + 1) % 8) (c := 7) (by omega) (by decide) r4 r5) ⟨⟨?_, fun k hk2 => ?_, fun k hk2 => ?_, (o + 1) % 8, by omega, ?_, ?_, fun j m e k hk2 => ?_⟩, rf.tr ((ma_fwC (fun k q => q.2 rfl)).tr (ma_fwI (fun q => q.1 rfl)))⟩
      · rw [ma_rIn (by simp), ma_rCn (by simp), r3]
      · rw [ma_rIn (by simp), ma_rCn (fun q => by have := mb_fin (a := 0) (by decide) (by omega) q.2; omega), rr _ _ _ (by simp), h2 k hk2]
      · rw [ma_rIn (by simp), ma_rCn (fun q => by have := mb_fin (a := 1) (by decide) (by omega) q.2; omega), rr _ _ _ (by simp), h3 k hk2]
      · rw [ma_rIn (by simp), ma_rCn (by simp), r4]
      · rw [ma_rI, mb_push, if_pos e8, List.length_append, List.length_tail, e8]; rfl
      · rw [mb_push, if_pos e8] at e
        rw [ma_rIn (fun q => by have := q.1; omega)]
        have ht : h.tail.length = 7 := by rw [List.length_tail, e8]
        by_cases hj7 : j < 7
        · rw [List.getElem?_append_left (by omega), List.getElem?_tail] at e
          rw [ma_rCn (fun q => by have := mb_fin (by omega) (by omega) q.2; omega), rr _ _ _ (by simp)]
          have := h6 (j + 1) m e k hk2
          rw [show ((o + 1) % 8 + j) % 8 = (o + (j + 1)) % 8 by omega]
          exact this
        · rw [List.getElem?_append_right (by omega), ht] at e
          have hj8 : j = 7 := by
            rcases Nat.lt_or_ge (j - 7) 1 with q | q
            · omega
            · rw [List.getElem?_eq_none (by simpa using q)] at e; cases e
          subst hj8
          have e2 : ahead = m := by simpa using e
          subst e2
          exact (ma_rC (q0 := (4, 1)) (q1 := (4, Fin.ofNat 32 (((o + 1) % 8 + 7) % 8 + 2))) hk2).trans ((rr 4 1 k (by decide)).trans (h3 k hk2))
    · refine ma_of (mb_keep40 (o := o) (c := h.length) ho (by omega) h4 h5) ⟨⟨?_, fun k hk2 => ?_, fun k hk2 => ?_, o, ho, ?_, ?_, fun j m e k hk2 => ?_⟩, (ma_fwC (fun k q => q.2 rfl)).tr (ma_fwI (fun q => q.1 rfl))⟩
      · rw [ma_rIn (by simp), ma_rCn (by simp), h1]
      · rw [ma_rIn (by simp), ma_rCn (fun q => by have := mb_fin (a := 0) (by decide) (by omega) q.2; omega), h2 k hk2]
      · rw [ma_rIn (by simp), ma_rCn (fun q => by have := mb_fin (a := 1) (by decide) (by omega) q.2; omega), h3 k hk2]
      · rw [ma_rIn (by simp), ma_rCn (by simp), h4]
      · rw [ma_rI, mb_push, if_neg e8, List.length_append]; rfl
      · rw [mb_push, if_neg e8] at e
        rw [ma_rIn (fun q => by have := q.1; omega)]
        by_cases hj7 : j < h.length
        · rw [List.getElem?_append_left (by omega)] at e
          rw [ma_rCn (fun q => by have := mb_fin (by omega) (by omega) q.2; omega)]
          exact h6 j m e k hk2
        · rw [List.getElem?_append_right (by omega)] at e
          have hj8 : j = h.length := by
            rcases Nat.lt_or_ge (j - h.length) 1 with q | q
            · omega
            · rw [List.getElem?_eq_none (by simpa using q)] at e; cases e
          subst hj8
          have e2 : ahead = m := by simpa using e
          subst e2
          exact (ma_rC (q0 := (4, 1)) (q1 := (4, Fin.ofNat 32 ((o + h.length) % 8 + 2))) hk2).trans (h3 k hk2)
