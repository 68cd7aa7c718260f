/-! memory, at, poke, undo, changed -/
theorem mb_C.now {sz : Nat} {now now' ahead : Nat → Int32} {h : List (Nat → Int32)} {σ τ : ae_S} (H : mb_C sz now ahead h σ) (f : ma_fr (fun g i _ => ¬ (g = 4 ∧ i = 0)) σ τ) (hn : ∀ k, k < 256 → τ.1 4 0 k = now' k) : mb_C sz now' ahead h τ := by
  obtain ⟨h1, h2, h3, o, ho, h4, h5, h6⟩ := H
  exact ⟨(f.i (by simp)).trans h1, hn, fun k hk => (f.i (by simp)).trans (h3 k hk), o, ho, (f.i (by simp)).trans h4, (f.i (by simp)).trans h5, fun j m e k hk => (f.i (fun q => by have := mb_fin (b := 0) (by omega) (by decide) q.2; omega)).trans (h6 j m e k hk)⟩
theorem mb_N.now {sz : Nat} {now now' ahead : Nat → Int32} {h : List (Nat → Int32)} {σ τ : ae_S} (H : mb_N sz now ahead h σ) (f : ma_fr (fun g _ _ => g ≠ 31) σ τ) (hn : ∀ k, k < 256 → τ.1 31 0 k = now' k) : mb_N sz now' ahead h τ := by
  obtain ⟨h1, h2, h3, h4, h5⟩ := H
  exact ⟨(f.i (by simp)).trans h1, hn, fun k hk => (f.i (by simp)).trans (h3 k hk), (f.i (by simp)).trans h4, fun j m e k hk => (f.i (by simp)).trans (h5 j m e k hk)⟩
theorem mb_push_le {h : List (Nat → Int32)} {m : Nat → Int32} (hl : h.length ≤ 8) : (mb_push h m).length ≤ 8 := by
  unfold mb_push
  by_cases e : h.length = 8
  · rw [if_pos e, List.length_append, List.length_tail, e]; show 8 - 1 + 1 ≤ 8; omega
  · rw [if_neg e, List.length_append]; show h.length + 1 ≤ 8; omega
theorem mb_push_in {h : List (Nat → Int32)} {m x : Nat → Int32} (hx : x ∈ mb_push h m) : x ∈ h ∨ x = m := by
  unfold mb_push at hx
  by_cases e : h.length = 8
  · rw [if_pos e] at hx
    rcases List.mem_append.mp hx with q | q
    · exact .inl (List.mem_of_mem_tail q)
    · exact .inr (List.mem_singleton.mp q)
  · rw [if_neg e] at hx
    rcases List.mem_append.mp hx with q | q
    · exact .inl q
    · exact .inr (List.mem_singleton.mp q)
theorem mb_W.com {sz : Nat} {now now' ahead : Nat → Int32} {h : List (Nat → Int32)} (H : mb_W sz now ahead h) (hb : ∀ k, mb_by (now' k)) (hz : ∀ k, sz ≤ k → now' k = 0) : mb_W sz now' now (mb_kp sz now' now h) := by
  obtain ⟨h1, h2, h3, h4, h5, h6, h7⟩ := H
  unfold mb_kp
  by_cases e : ∀ k, k < sz → now' k = now k
  · rw [if_pos e]
    exact ⟨h1, h2, h3, hb, hz, h5, h7⟩
  · rw [if_neg e]
    refine ⟨h1, h2, mb_push_le h3, hb, hz, h5, fun m hm => ?_⟩
    rcases mb_push_in hm with q | q
    · exact h7 m q
    · subst q; exact ⟨h4, h5⟩
theorem mz_lit (x : Int32) (n : Nat) (h : n < 2 ^ 31) : (x < nI n ↔ x.toInt < n) ∧ (x ≤ nI n ↔ x.toInt ≤ n) ∧ (nI n ≤ x ↔ (n : Int) ≤ x.toInt) := by
  rw [fa_lt, fa_le, fa_le, nI_toInt h]
  exact ⟨Iff.rfl, Iff.rfl, Iff.rfl⟩
theorem mz_memory : zp_memory mi_I := fun v1 => mi_zp (fun a hW => by
  obtain ⟨w1, w2, w3, w4, w5⟩ := hW
  by_cases h : 1 ≤ v1.toInt ∧ v1.toInt ≤ 256
  · obtain ⟨j, hj, rfl⟩ := nI_of (x := v1) (by rw [fa_lt]; show ¬ v1.toInt < 0; omega)
    rw [nI_toInt hj] at h
    have hj1 : 1 ≤ j := by omega
    have hj2 : j ≤ 256 := by omega
    refine ⟨1, ((j, (fun _ => 0), (fun _ => 0), []), [], a.2.2), ⟨⟨hj1, hj2, Nat.zero_le _, fun _ => mb_by0, fun _ _ => rfl, fun _ _ => rfl, fun m hm => by cases hm⟩, ⟨Nat.zero_le _, fun w hw => by cases hw⟩, w3, w4, w5⟩, fun σ H => ?_, fun σ H => ?_⟩
    · unfold F_X11_memory F_X6_empty
      refine ma_F (nI_nlt (b := 1) hj1 hj) (ma_T (nI_le (b := 256) hj2 (by decide)) (ma_bd (mb_restart hj2) (fun _ τ q => ma_be rfl (ma_ret ⟨rfl, ?_, ?_⟩))))
      · obtain ⟨h1, ⟨p, g1, g2, g3, g4, g5⟩, h3, h4, h5, h6⟩ := H
        have f : ma_fr (fun g _ _ => g ≠ 3 ∧ g ≠ 4 ∧ g ≠ 6) σ (ae_wI τ 6 0 2 0) := (q.2.mo (fun g i k q => ⟨q.1, q.2.1⟩)).tr (ma_fwI (fun q => q.2.2 rfl))
        refine ⟨mb_C.fr (P := fun g _ _ => g ≠ 6) q.1 (ma_fwI (fun q => q rfl)) (fun _ _ => by decide) (fun _ _ => by decide), ⟨p, g1, ?_, ?_, ma_rI, fun v w e => by have e : ([] : List mv_V)[v]? = some w := e; simp at e⟩, h3.fr f (by decide) (fun _ => by decide), h4.fr f (by decide) (fun _ => by decide), h5.fr f (by decide) (fun _ => by decide), h6.fr f (by decide) (by decide)⟩
        · exact (q.2.r (by simp)).trans g2
        · exact (q.2.r (by simp)).trans g3
      · exact (q.2.mo (fun g i k q => by omega)).tr (ma_fwI (by decide))
    · refine ma_mono (mb_memoryM hj1 hj2) (fun x τ q => ?_)
      obtain ⟨q1, q2, q3, q4⟩ := q
      obtain ⟨h1, h2, h3, h4, h5, h6⟩ := H
      exact ⟨q1, ⟨q2, ⟨q3, fun v w e => by have e : ([] : List mv_V)[v]? = some w := e; simp at e⟩, h3.fr q4 (by decide) (fun _ => by omega), h4.fr q4 (by decide) (fun _ => by omega), h5.fr q4 (by decide) (fun _ => by omega), h6.fr q4 (by decide) (by decide)⟩, q4.mo (fun g i k q => by omega)⟩
  · refine ⟨0, a, ⟨w1, w2, w3, w4, w5⟩, mi_c1 (fun σ H => ?_), mi_d1 (fun σ H => ?_)⟩
    · unfold F_X11_memory F_X11_memory_12
      refine ma_if (fun _ => ma_ret ⟨rfl, rfl⟩) (fun q1 => ma_F (fun q2 => h ?_) (ma_ret ⟨rfl, rfl⟩))
      rw [show (1 : Int32) = nI 1 from rfl, (mz_lit v1 1 (by decide)).1] at q1
      rw [show (256 : Int32) = nI 256 from rfl, (mz_lit v1 256 (by decide)).2.1] at q2
      omega
    · unfold F_X12_memory
      rw [ma_isIn]
      refine ma_be rfl (ma_T (if_neg (fun q => h ?_)) (ma_ret ⟨rfl, rfl⟩))
      rw [fa_le64, fa_le64, Int32.toInt_toInt64] at q
      exact q)
theorem mz_at : zp_at mi_I := fun v1 => mi_zp (fun a hW => by
  have hs : (mi_m a).1 ≤ 256 := hW.1.2.1
  refine ⟨if 0 ≤ v1.toInt ∧ v1.toInt < (mi_m a).1 then (mi_m a).2.1 v1.toNatClampNeg else -1, a, hW, mi_c1 (fun σ H => ?_), mi_d1 (fun σ H => ?_)⟩
  · obtain ⟨⟨h1, h2, -⟩, -⟩ := H
    unfold F_X11_at F_X11_at_23
    refine ma_be (mb_has (by omega) h1) ?_
    by_cases q : 0 ≤ v1.toInt ∧ v1.toInt < (mi_m a).1
    · rw [if_pos q, if_pos q]
      obtain ⟨j, hj, rfl⟩ := nI_of (x := v1) (by rw [fa_lt]; show ¬ v1.toInt < 0; omega)
      rw [nI_toInt hj] at q
      refine ma_F ma_01 (ma_be (mb_get (by omega)) (ma_ret ⟨?_, rfl⟩))
      rw [nI_clamp hj]; exact h2 j (by omega)
    · rw [if_neg q, if_neg q]
      exact ma_T rfl (ma_ret ⟨rfl, rfl⟩)
  · obtain ⟨⟨h1, h2, -⟩, -⟩ := H
    unfold F_X12_at F_X12_at_26
    refine ma_be (ma_isInN (mi_m a).1 h1 (by omega) σ) ?_
    by_cases q : 0 ≤ v1.toInt ∧ v1.toInt < (mi_m a).1
    · rw [if_pos q, if_pos q]
      obtain ⟨j, hj, rfl⟩ := nI_of (x := v1) (by rw [fa_lt]; show ¬ v1.toInt < 0; omega)
      rw [nI_toInt hj] at q
      refine ma_F ma_01 (ma_gd (ma_ib j rfl (by omega) (by decide)) (ma_ret ⟨?_, rfl⟩))
      rw [nI_clamp hj]; exact h2 j (by omega)
    · rw [if_neg q, if_neg q]
      exact ma_T rfl (ma_ret ⟨rfl, rfl⟩))
/-- the whole of a call that changes memory: of the class from begin to keep, of the model from begins to ends -/
noncomputable def mz_com (a : mi_A) (now' : Nat → Int32) : mi_A := (((mi_m a).1, now', (mi_m a).2.1, mb_kp (mi_m a).1 now' (mi_m a).2.1 (mi_m a).2.2.2), a.2)
theorem mz_comW {a : mi_A} {now' : Nat → Int32} (hW : mi_W a) (hb : ∀ k, mb_by (now' k)) (hz : ∀ k, (mi_m a).1 ≤ k → now' k = 0) : mi_W (mz_com a now') := ⟨hW.1.com hb hz, hW.2⟩
theorem mz_keep {a : mi_A} {now' : Nat → Int32} {σ τ : ae_S} (hW : mi_W a) (H : mi_C a σ) (f : ma_fr (fun g _ _ => g ≠ 3 ∧ g ≠ 4) σ τ) (h : mb_C (mi_m a).1 now' (mi_m a).2.1 (mi_m a).2.2.2 τ) : ma_wp (F_X0_keep τ) (fun _ υ => mi_C (mz_com a now') υ ∧ ma_fr (fun g _ _ => 30 ≤ g) σ υ) :=
  ma_mono (mb_keepC hW.1.2.1 hW.1.2.2.1 h) (fun _ υ q => ⟨mi_Cset H (f.tr q.2) q.1, (f.tr q.2).mo (fun g i k q => by omega)⟩)
theorem mz_ends {a : mi_A} {now' : Nat → Int32} {σ τ : ae_S} (hW : mi_W a) (H : mi_M a σ) (f : ma_fr (fun g _ _ => g ≠ 31 ∧ g ≠ 32) σ τ) (h : mb_N (mi_m a).1 now' (mi_m a).2.1 (mi_m a).2.2.2 τ) : ma_wp (F_X12_ends 1 τ) (fun _ υ => mi_M (mz_com a now') υ ∧ ma_fr (fun g _ _ => g < 30) σ υ) :=
  ma_mono (mb_ends (kp := 1) hW.1.2.1 hW.1.2.2.1 h) (fun _ υ q => ⟨mi_Mset H ((f.mo (fun g i k q => ⟨q.1, q.2.1⟩)).tr (q.2.mo (fun g i k q => q.2.2))) q.1, (f.mo (fun g i k q => by omega)).tr (q.2.mo (fun g i k q => by omega))⟩)
theorem mz_poke : zp_poke mi_I := fun v1 v2 => mi_zp (fun a hW => by
  have hs : (mi_m a).1 ≤ 256 := hW.1.2.1
  by_cases q : 0 ≤ v1.toInt ∧ v1.toInt < (mi_m a).1
  · obtain ⟨j, hj, rfl⟩ := nI_of (x := v1) (by rw [fa_lt]; show ¬ v1.toInt < 0; omega)
    rw [nI_toInt hj] at q
    refine ⟨1, mz_com a (fun k => if k = j then v2 &&& 255 else (mi_m a).2.1 k), mz_comW hW (fun k => ?_) (fun k hk => ?_), fun σ H => ?_, fun σ H => ?_⟩
    · show mb_by (if k = j then v2 &&& 255 else (mi_m a).2.1 k)
      by_cases e : k = j
      · rw [if_pos e]; exact mb_byA v2
      · rw [if_neg e]; exact hW.1.2.2.2.1 k
    · show (if k = j then v2 &&& 255 else (mi_m a).2.1 k) = 0
      rw [if_neg (by omega)]; exact hW.1.2.2.2.2.1 k hk
    · unfold F_X11_poke
      refine ma_be (mb_has (by omega) H.1.1) ?_
      rw [nI_toInt hj, if_pos q]
      refine ma_F ma_01 (ma_bd (mb_begin H.1) (fun _ τ b => ma_be (mb_set (by omega)) (ma_bd (mz_keep (now' := fun k => if k = j then v2 &&& 255 else (mi_m a).2.1 k) hW H ((b.2.mo (fun g i k q => q.2)).tr (ma_fwI (fun q => q.2 rfl))) (b.1.now (ma_fwI (by decide)) (fun k hk => ?_))) (fun _ υ c => ma_ret ⟨rfl, c⟩))))
      show _ = if k = j then v2 &&& 255 else (mi_m a).2.1 k
      by_cases e : k = j
      · rw [if_pos e, e, ma_rI]
      · rw [if_neg e, ma_rIn (fun q => e q.2.2)]; exact b.1.2.1 k hk
    · unfold F_X12_poke
      refine ma_be (ma_isInN (mi_m a).1 H.1.1 (by omega) σ) ?_
      rw [nI_toInt hj, if_pos q]
      refine ma_F ma_01 (ma_bd (mb_begins hs H.1) (fun _ τ b => ma_gd (ma_ib j rfl (by omega) (by decide)) (ma_lt ?_)))
      rw [nI_clamp hj]
      refine ma_bd (mz_ends (now' := fun k => if k = j then v2 &&& 255 else (mi_m a).2.1 k) hW H ((b.2.mo (fun g i k q => q.2)).tr (ma_fwI (fun q => q.1 rfl))) (b.1.now (ma_fwI (by decide)) (fun k hk => ?_))) (fun _ υ c => ma_ret ⟨rfl, c⟩)
      show _ = if k = j then v2 &&& 255 else (mi_m a).2.1 k
      by_cases e : k = j
      · rw [if_pos e, e, ma_rI]
      · rw [if_neg e, ma_rIn (fun q => e q.2.2)]; exact b.1.2.1 k hk
  · refine ⟨0, a, hW, mi_c1 (fun σ H => ?_), mi_d1 (fun σ H => ?_)⟩
    · unfold F_X11_poke
      refine ma_be (mb_has (by omega) H.1.1) ?_
      rw [if_neg q]
      exact ma_T rfl (ma_ret ⟨rfl, rfl⟩)
    · unfold F_X12_poke
      refine ma_be (ma_isInN (mi_m a).1 H.1.1 (by omega) σ) ?_
      rw [if_neg q]
      exact ma_T rfl (ma_ret ⟨rfl, rfl⟩))
theorem mz_undo : zp_undo mi_I := mi_zp (fun a hW => by
  obtain ⟨w1, w2, w3, w4, w5, w6, w7⟩ := hW.1
  by_cases e : (mi_m a).2.2.2 = []
  · refine ⟨0, a, hW, mi_c1 (fun σ H => ?_), mi_d1 (fun σ H => ?_)⟩
    · unfold F_X11_undo
      refine ma_bd (mb_stepBack w3 H.1) (fun r τ q => ?_)
      rcases q with ⟨-, rfl, rfl⟩ | ⟨h', m, q, -⟩
      · exact ma_gd ma_z0 (ma_ret ⟨rfl, rfl⟩)
      · rw [e] at q; simp at q
    · refine ma_mono (mb_undoM w2 w3 w5 (fun m hm => (w7 m hm).2) H.1) (fun r τ q => ?_)
      rcases q with ⟨-, rfl, rfl⟩ | ⟨h', m, q, -⟩
      · exact ⟨rfl, rfl⟩
      · rw [e] at q; simp at q
  · have hd : (mi_m a).2.2.2 = (mi_m a).2.2.2.dropLast ++ [(mi_m a).2.2.2.getLast e] := (List.dropLast_concat_getLast e).symm
    have hin := w7 _ (List.getLast_mem e)
    refine ⟨1, (((mi_m a).1, (mi_m a).2.2.2.getLast e, (mi_m a).2.1, (mi_m a).2.2.2.dropLast), a.2), ⟨⟨w1, w2, by rw [List.length_dropLast]; omega, hin.1, hin.2, w5, fun m hm => w7 m ((List.dropLast_sublist _).subset hm)⟩, hW.2⟩, fun σ H => ?_, fun σ H => ?_⟩
    · unfold F_X11_undo
      refine ma_bd (mb_stepBack w3 H.1) (fun r τ q => ?_)
      rcases q with ⟨q, -⟩ | ⟨h', m, q, rfl, q2, q3⟩
      · exact absurd q e
      · have q4 := hd.symm.trans q
        obtain ⟨q5, q6⟩ := List.append_inj' q4 rfl
        have q7 : (mi_m a).2.2.2.getLast e = m := by simpa using q6
        rw [q5, q7]
        exact ma_gd ma_z1 (ma_ret ⟨rfl, mi_Cset H q3 q2, q3.mo (fun g i k q => by omega)⟩)
    · refine ma_mono (mb_undoM w2 w3 w5 (fun m hm => (w7 m hm).2) H.1) (fun r τ q => ?_)
      rcases q with ⟨q, -⟩ | ⟨h', m, q, rfl, q2, q3⟩
      · exact absurd q e
      · have q4 := hd.symm.trans q
        obtain ⟨q5, q6⟩ := List.append_inj' q4 rfl
        have q7 : (mi_m a).2.2.2.getLast e = m := by simpa using q6
        rw [q5, q7]
        exact ⟨rfl, mi_Mset H q3 q2, q3.mo (fun g i k q => by omega)⟩)
/-- the v-th of those that are meant, from k on, c seen already; with v = -1 how many -/
def mz_nth (p : Nat → Bool) (v : Int32) : Nat → Nat → Int32 → Int32
  | 0, _, c => if v = -1 then c else -1
  | n + 1, k, c => if p k = true then (if c = v then nI k else mz_nth p v n (k + 1) (c + 1)) else mz_nth p v n (k + 1) c
theorem mz_nthT {p : Nat → Bool} {v c : Int32} {n k : Nat} (h : p k = true) : mz_nth p v (n + 1) k c = if c = v then nI k else mz_nth p v n (k + 1) (c + 1) := if_pos h
theorem mz_nthF {p : Nat → Bool} {v c : Int32} {n k : Nat} (h : p k = false) : mz_nth p v (n + 1) k c = mz_nth p v n (k + 1) c := if_neg (by rw [h]; decide)
theorem mz_changed : zp_changed mi_I := fun v1 => mi_zp (fun a hW => by
  have hs : (mi_m a).1 ≤ 256 := hW.1.2.1
  refine ⟨mz_nth (fun k => decide (¬ (mi_m a).2.1 k = (mi_m a).2.2.1 k)) v1 (mi_m a).1 0 0, a, hW, mi_c1 (fun σ H => ?_), mi_d1 (fun σ H => ?_)⟩
  · obtain ⟨⟨h1, h2, h3, -⟩, -⟩ := H
    have loop : ∀ n k m : Nat, m < n → (mi_m a).1 = k + m → ∀ c : Int32, ma_wp (F_X11_changed_4 n v1 c (nI k) σ) (fun x τ => x = mz_nth (fun k => decide (¬ (mi_m a).2.1 k = (mi_m a).2.2.1 k)) v1 m k c ∧ τ = σ) := by
      intro n
      induction n with
      | zero => intro k m h; omega
      | succ n ih =>
        intro k m hm hk c
        unfold F_X11_changed_4 F_X11_changed_52 F_X11_changed_36 F_X0_size
        refine ma_be rfl (ma_le (mi_m a).1 k h1 rfl (by omega) (by omega) (fun q => ?_) (fun q => ?_))
        · obtain rfl : m = 0 := by omega
          rw [mz_nth]
          refine ma_if (fun e => ?_) (fun e => ?_)
          · rw [if_pos e]; exact ma_ret ⟨rfl, rfl⟩
          · rw [if_neg e]; exact ma_ret ⟨rfl, rfl⟩
        · obtain ⟨m, rfl⟩ : ∃ m', m = m' + 1 := ⟨m - 1, by omega⟩
          refine ma_be (mb_differs (by omega)) ?_
          rw [h2 k (by omega), h3 k (by omega)]
          by_cases e : (mi_m a).2.1 k = (mi_m a).2.2.1 k
          · rw [if_pos e, mz_nthF (decide_eq_false (fun q => q e))]
            refine ma_T rfl (ma_lt ?_)
            rw [nI_1]
            exact ih (k + 1) m (by omega) (by omega) c
          · rw [if_neg e, mz_nthT (decide_eq_true e)]
            refine ma_F ma_01 (ma_if (fun e2 => ?_) (fun e2 => ma_lt (ma_lt ?_)))
            · rw [if_pos e2]; exact ma_ret ⟨rfl, rfl⟩
            · rw [if_neg e2, nI_1]
              exact ih (k + 1) m (by omega) (by omega) (c + 1)
    exact loop ae_fu 0 (mi_m a).1 (by rw [ae_fu]; omega) (by omega) 0
  · obtain ⟨⟨h1, h2, h3, -⟩, -⟩ := H
    have loop : ∀ n k m : Nat, m < n → (mi_m a).1 = k + m → ∀ c : Int32, ma_wp (F_X12_changed_4 n v1 c (nI k) σ) (fun x τ => x = mz_nth (fun k => decide (¬ (mi_m a).2.1 k = (mi_m a).2.2.1 k)) v1 m k c ∧ τ = σ) := by
      intro n
      induction n with
      | zero => intro k m h; omega
      | succ n ih =>
        intro k m hm hk c
        unfold F_X12_changed_4 F_X12_changed_50 F_X12_changed_34
        refine ma_le (mi_m a).1 k h1 rfl (by omega) (by omega) (fun q => ?_) (fun q => ?_)
        · obtain rfl : m = 0 := by omega
          rw [mz_nth]
          refine ma_if (fun e => ?_) (fun e => ?_)
          · rw [if_pos e]; exact ma_ret ⟨rfl, rfl⟩
          · rw [if_neg e]; exact ma_ret ⟨rfl, rfl⟩
        · obtain ⟨m, rfl⟩ : ∃ m', m = m' + 1 := ⟨m - 1, by omega⟩
          refine ma_gd (ma_ib k rfl (by omega) (by decide)) ?_
          rw [nI_clamp (by omega), h3 k (by omega)]
          by_cases e : (mi_m a).2.1 k = (mi_m a).2.2.1 k
          · rw [if_pos e, mz_nthF (decide_eq_false (fun q => q e))]
            refine ma_T rfl (ma_lt ?_)
            rw [nI_1]
            exact ih (k + 1) m (by omega) (by omega) c
          · rw [if_neg e, mz_nthT (decide_eq_true e)]
            refine ma_F ma_01 (ma_if (fun e2 => ?_) (fun e2 => ma_lt (ma_lt ?_)))
            · rw [if_pos e2]; exact ma_ret ⟨rfl, rfl⟩
            · rw [if_neg e2, nI_1]
              exact ih (k + 1) m (by omega) (by omega) (c + 1)
    exact loop ae_fu 0 (mi_m a).1 (by rw [ae_fu]; omega) (by omega) 0)
