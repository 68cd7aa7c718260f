/-! the class's machine runs -/
section KA
variable {σ τ σ0 : ae_S} {sz p : Nat} {vs : List mv_V} {C : ks_E} {s s' : ka_S} {x : Int64} {f : Int32}
theorem kz_len15 (H : kz_cd C σ) : F_X1_length σ = some (nI C.length, σ) := by
  unfold F_X1_length
  rw [H.1]
theorem kz_opr (H : kz_cd C σ) (hC : C.length ≤ 1000) {i : Nat} {t : ks_S} (e : C[i]? = some t) : F_X1_operation (nI i) σ = some (t.1, σ) ∧ F_X1_first (nI i) σ = some (t.2.1, σ) ∧ F_X1_second (nI i) σ = some (t.2.2, σ) := by
  have hi := (List.getElem?_eq_some_iff.mp e).1
  have h := H.2 i t e
  have h1 : ¬ (nI i < 0) := nI_pos (by omega)
  have h2 : ¬ (σ.1 15 0 3 ≤ nI i) := by rw [H.1]; exact nI_ge hi (by omega)
  have ib : ae_ib (nI i) 1002 = true := ma_ib i rfl (by omega) (by decide)
  refine ⟨ma_eq ?_, ma_eq ?_, ma_eq ?_⟩
  · unfold F_X1_operation F_X1_operation_22
    refine ma_F h1 (ma_F h2 (ma_gd ib ?_))
    rw [nI_clamp (by omega)]
    exact ma_ret ⟨h.1, rfl⟩
  · unfold F_X1_first F_X1_first_22
    refine ma_F h1 (ma_F h2 (ma_gd ib ?_))
    rw [nI_clamp (by omega)]
    exact ma_ret ⟨h.2.1, rfl⟩
  · unfold F_X1_second F_X1_second_22
    refine ma_F h1 (ma_F h2 (ma_gd ib ?_))
    rw [nI_clamp (by omega)]
    exact ma_ret ⟨h.2.2, rfl⟩
theorem ka_turn (H : ka_C sz p vs C σ0 s σ) (hW : mv_W sz vs) (hs : sz ≤ 256) (hC : C.length ≤ 1000) (ht : s.2.2.2.2.2.1 < 2 ^ 30) (e : ka_step vs C s = some s') {n t : Nat} (htu : t ≤ s.1) {Q : Int32 → ae_S → Prop} (k : ∀ τ, ka_C sz p vs C σ0 s' τ → ma_wp (F_X4_run_27 n (nI (t + 1)) τ) Q) : ma_wp (F_X4_run_27 (n + 1) (nI t) σ) Q := by
  obtain ⟨u, e1, e⟩ := Option.bind_eq_some_iff.mp e
  obtain ⟨s2, e2, e⟩ := Option.bind_eq_some_iff.mp e
  have es : s2 = s' := by
    split at e
    · exact Option.some.inj e
    · cases e
  subst es
  have hi := (List.getElem?_eq_some_iff.mp e1).1
  obtain ⟨o1, o2, o3⟩ := kz_opr H.2.1 hC e1
  have h12 : σ.1 21 0 12 = nI s.1 := H.2.2.2.2.2.2.2.1
  rw [F_X4_run_27]
  refine ma_be (kz_len15 H.2.1) (ma_F (nI_ge (by omega) (by omega)) (ma_be (kz_len15 H.2.1) ?_))
  rw [h12]
  refine ma_F (nI_ge hi (by omega)) (ma_lt (ma_be o1 (ma_be o2 (ma_lt ?_))))
  rw [h12, nI_1]
  have H1 := H.pc (s.1 + 1)
  generalize ae_wI σ 21 0 12 (nI (s.1 + 1)) = φ at H1 ⊢
  have k1 : ∀ (r : Unit) τ, ka_C sz p vs C σ0 s2 τ → ma_wp (F_X4_run_341 (F_X4_run_27 n) (nI t) τ) Q := fun _ τ h => by
    unfold F_X4_run_341
    refine ma_lt ?_
    rw [nI_1]
    exact k τ h
  unfold ka_do at e2
  by_cases h1 : u.1 = 1
  · rw [if_pos h1] at e2
    exact ma_T h1 (ma_bd (H1.push (v := (u.2.1, false)) (fun h => by cases h) e2) k1)
  rw [if_neg h1] at e2
  refine ma_F h1 ?_
  by_cases h2 : u.1 = 2
  · rw [if_pos h2] at e2
    split at e2
    · rename_i hc
      exact ma_T h2 (ma_bd (H1.push (v := (u.2.1, true)) (fun _ => hc) e2) k1)
    · cases e2
  rw [if_neg h2] at e2
  refine ma_F h2 ?_
  by_cases h3 : u.1 = 3
  · rw [if_pos h3] at e2
    obtain ⟨j, g1, g2⟩ := ka_opIx H1 hW ht e2
    exact ma_T h3 (ma_be g1 (ma_ms (ma_bd g2 k1)))
  rw [if_neg h3] at e2
  refine ma_F h3 ?_
  obtain ⟨_, _, o4⟩ := kz_opr H1.2.1 hC e1
  by_cases h4 : u.1 = 4
  · rw [if_pos h4] at e2
    obtain ⟨j, g1, g2⟩ := ka_opLd H1 hW hs e2
    exact ma_T h4 (ma_be g1 (ma_be o4 (ma_ms (ma_bd g2 k1))))
  rw [if_neg h4] at e2
  refine ma_F h4 ?_
  by_cases h5 : u.1 = 5
  · rw [if_pos h5] at e2
    obtain ⟨j, g1, g2⟩ := ka_opSt H1 hW hs ht e2
    exact ma_T h5 (ma_be g1 (ma_be o4 (ma_ms (ma_bd g2 k1))))
  rw [if_neg h5] at e2
  refine ma_F h5 ?_
  by_cases h6 : u.1 = 6
  · rw [if_pos h6] at e2
    exact ma_T h6 (ma_bd (ka_opNg H1 e2) k1)
  rw [if_neg h6] at e2
  refine ma_F h6 ?_
  by_cases h15 : u.1 = 15
  · rw [if_pos h15] at e2
    exact ma_T h15 (ma_bd (ka_opUn H1 e2) k1)
  rw [if_neg h15] at e2
  refine ma_F h15 ?_
  by_cases h16 : u.1 = 16
  · rw [if_pos h16] at e2
    exact ma_T h16 (ma_bd (H1.meet ht e2) k1)
  rw [if_neg h16] at e2
  refine ma_F h16 ?_
  by_cases h17 : u.1 = 17
  · rw [if_pos h17] at e2
    exact ma_T h17 (ma_bd (ka_opOp H1 e2) k1)
  rw [if_neg h17] at e2
  refine ma_F h17 ?_
  by_cases h18 : u.1 = 18
  · rw [if_pos h18] at e2
    exact ma_T h18 (ma_lt (k1 () _ (ka_opCl H1 e2)))
  rw [if_neg h18] at e2
  refine ma_F h18 ?_
  by_cases h19 : u.1 = 19
  · rw [if_pos h19] at e2
    exact ma_T h19 (ma_be (kz_len15 H1.2.1) (ma_bd (ka_opSm H1 e2) k1))
  rw [if_neg h19] at e2
  exact ma_F h19 (ma_bd (ka_opCm H1 ht e2) k1)
/-! troubles: one more with a step, at most -/
theorem ka_pushT {v : ka_V} (e : ka_push v s = some s') : s'.2.2 = s.2.2 := by
  unfold ka_push at e
  split at e
  · rw [← Option.some.inj e]
  · cases e
theorem ka_meetT {t : Int32} {lv : List ka_L} {tr : mt_T} (e : ka_meet t lv tr = some s') : s'.2.2.2.2.2.1 = tr.1 + 1 := by
  obtain ⟨y, e1, e⟩ := Option.bind_eq_some_iff.mp e
  rw [← Option.some.inj e]
  rfl
theorem ka_trB {N : Nat} {t : ks_S} (e : ka_do vs N t s = some s') : s'.2.2.2.2.2.1 ≤ s.2.2.2.2.2.1 + 1 := by
  obtain ⟨pc, st, m, lv, dn, tr⟩ := s
  have pt : ∀ {v : ka_V} {a : Nat} {b : List ka_V} {c : Nat → Int32} {d : List ka_L} {g : Nat}, ka_push v (a, b, c, d, g, tr) = some s' → s'.2.2.2.2.2.1 ≤ tr.1 + 1 := fun h => by
    rw [ka_pushT h]
    exact Nat.le_succ _
  have mt : ∀ {q : Int32}, ka_meet q lv tr = some s' → s'.2.2.2.2.2.1 ≤ tr.1 + 1 := fun h => by
    rw [ka_meetT h]
    exact Nat.le_refl _
  show s'.2.2.2.2.2.1 ≤ tr.1 + 1
  unfold ka_do at e
  split at e
  · exact pt e
  split at e
  · split at e
    · exact pt e
    · cases e
  split at e
  · unfold ka_ix at e
    cases st with
    | nil => cases e
    | cons i st =>
      obtain ⟨v, e1, e⟩ := Option.bind_eq_some_iff.mp e
      obtain ⟨w, e2, e⟩ := Option.bind_eq_some_iff.mp e
      split at e
      · exact pt e
      · exact mt e
  split at e
  · unfold ka_ld at e
    cases st with
    | nil => cases e
    | cons i st =>
      obtain ⟨v, e1, e⟩ := Option.bind_eq_some_iff.mp e
      obtain ⟨w, e2, e⟩ := Option.bind_eq_some_iff.mp e
      obtain ⟨k, e3, e⟩ := Option.bind_eq_some_iff.mp e
      obtain ⟨y, e4, e⟩ := Option.bind_eq_some_iff.mp e
      exact pt e
  split at e
  · unfold ka_sto at e
    match st, e with
    | [], e => cases e
    | [_], e => cases e
    | a :: i :: st, e =>
      obtain ⟨v, e1, e⟩ := Option.bind_eq_some_iff.mp e
      obtain ⟨w, e2, e⟩ := Option.bind_eq_some_iff.mp e
      split at e
      · exact mt e
      · obtain ⟨k, e3, e⟩ := Option.bind_eq_some_iff.mp e
        obtain ⟨y, e4, e⟩ := Option.bind_eq_some_iff.mp e
        rw [← Option.some.inj e]
        exact Nat.le_succ _
  split at e
  · unfold ka_neg at e
    cases st with
    | nil => cases e
    | cons i st => exact pt e
  split at e
  · unfold ka_un at e
    cases st with
    | nil => cases e
    | cons i st =>
      have e : @ite _ (ka_z i) (Classical.propDecidable _) ((ka_in t.2.1.toInt32 2000).bind fun k => some (k, st, m, lv, dn, tr)) (some (pc, st, m, lv, dn, tr)) = some s' := e
      by_cases hz : ka_z i
      · rw [if_pos hz] at e
        obtain ⟨k, e3, e⟩ := Option.bind_eq_some_iff.mp e
        rw [← Option.some.inj e]
        exact Nat.le_succ _
      · rw [if_neg hz] at e
        rw [← Option.some.inj e]
        exact Nat.le_succ _
  split at e
  · exact mt e
  split at e
  · unfold ka_open at e
    split at e
    · obtain ⟨k, e3, e⟩ := Option.bind_eq_some_iff.mp e
      rw [← Option.some.inj e]
      exact Nat.le_succ _
    · cases e
  split at e
  · unfold ka_close at e
    split at e
    · rw [← Option.some.inj e]
      exact Nat.le_succ _
    · cases e
  split at e
  · rw [← Option.some.inj e]
    exact Nat.le_succ _
  · unfold ka_cmb at e
    match st, e with
    | [], e => cases e
    | [_], e => cases e
    | b :: a :: st, e =>
      have e : ka_wr (ka_bin t.1 a b) (pc, st, m, lv, dn, tr) = some s' := by
        rw [← e]
        unfold ka_wr
        rfl
      cases hb : ka_bin t.1 a b with
      | some v => rw [hb] at e; exact pt e
      | none => rw [hb] at e; exact mt e
theorem ka_loop (hW : mv_W sz vs) (hs : sz ≤ 256) (hC : C.length ≤ 1000) {g : ka_S} (hg : C.length ≤ g.1) : ∀ (k n t : Nat) (s : ka_S) (σ : ae_S), ka_it vs C k s = some g → ka_C sz p vs C σ0 s σ → t ≤ s.1 → s.2.2.2.2.2.1 ≤ s.1 → s.1 ≤ C.length → C.length < n + s.1 → ma_wp (F_X4_run_27 n (nI t) σ) (fun r τ => r = nI g.2.2.2.2.1 ∧ ka_C sz p vs C σ0 g τ ∧ g.2.2.2.2.2.1 ≤ 1000) := by
  intro k
  induction k with
  | zero =>
    intro n t s σ e H ht htr hsC hn
    have e : some s = some g := e
    have e := Option.some.inj e
    subst e
    obtain ⟨n, rfl⟩ : ∃ n2, n = n2 + 1 := ⟨n - 1, by omega⟩
    rw [F_X4_run_27]
    unfold F_X4_run_347
    have fin : ma_wp (some (σ.1 21 0 11, σ)) (fun r τ => r = nI s.2.2.2.2.1 ∧ ka_C sz p vs C σ0 s τ ∧ s.2.2.2.2.2.1 ≤ 1000) := ma_ret ⟨H.2.2.2.2.2.2.1, H, by omega⟩
    refine ma_be (kz_len15 H.2.1) (ma_if (fun _ => fin) (fun _ => ma_be (kz_len15 H.2.1) (ma_T ?_ fin)))
    rw [H.2.2.2.2.2.2.2.1]
    exact nI_le hg (by omega)
  | succ k ih =>
    intro n t s σ e H ht htr hsC hn
    obtain ⟨n, rfl⟩ : ∃ n2, n = n2 + 1 := ⟨n - 1, by omega⟩
    rw [ka_it] at e
    obtain ⟨s1, e1, e⟩ := Option.bind_eq_some_iff.mp e
    refine ka_turn H hW hs hC (by omega) e1 ht (fun τ h => ?_)
    obtain ⟨u, g1, g2⟩ := Option.bind_eq_some_iff.mp e1
    obtain ⟨s2, g3, g2⟩ := Option.bind_eq_some_iff.mp g2
    have htr2 := ka_trB g3
    have htr2 : s2.2.2.2.2.2.1 ≤ s.2.2.2.2.2.1 + 1 := htr2
    split at g2
    · rename_i hb
      have es := Option.some.inj g2
      subst es
      exact ih n (t + 1) s2 τ e h (by omega) (by omega) hb.2 (by omega)
    · cases g2
def ka_0 (m : Nat → Int32) : ka_S := (0, [], m, [], 0, (0, fun _ => 0))
theorem ka_run (hW : mv_W sz vs) (hs : sz ≤ 256) (hC : C.length ≤ 1000) {m : Nat → Int32} (b1 : ∀ k, mb_by (m k)) (b2 : ∀ k, sz ≤ k → m k = 0) {g : ka_S} (hg : C.length ≤ g.1) (e : ka_to vs C (ka_0 m) g) (H1 : kz_cd C σ) (H2 : mv_Cp p vs σ) (H3 : ∀ k, k < 256 → σ.1 4 0 k = m k) : ma_wp (F_X4_run σ) (fun r τ => r = nI g.2.2.2.2.1 ∧ ka_W sz g ∧ mi_Cr g.2.2.2.2.2 τ ∧ (∀ k, k < 256 → τ.1 4 0 k = g.2.2.1 k) ∧ mv_Cp p vs τ ∧ ma_fr kaF σ τ ∧ g.2.2.2.2.2.1 ≤ 1000) := by
  obtain ⟨k, e⟩ := e
  unfold F_X4_run
  refine ma_lt (ma_lt (ma_lt (ma_lt (ma_lt ?_))))
  have f : ma_fr (fun g _ k => ¬ (g = 21 ∧ 9 ≤ k)) σ (ae_wI (ae_wI (ae_wI (ae_wI (ae_wI σ 21 0 9 0) 21 0 10 0) 21 0 11 0) 21 0 12 0) 21 0 13 0) := (ma_fwI (by simp)).tr ((ma_fwI (by simp)).tr ((ma_fwI (by simp)).tr ((ma_fwI (by simp)).tr (ma_fwI (by simp)))))
  have e9 : (ae_wI (ae_wI (ae_wI (ae_wI (ae_wI σ 21 0 9 0) 21 0 10 0) 21 0 11 0) 21 0 12 0) 21 0 13 0).1 21 0 9 = nI 0 := by rw [ma_rIn (by simp), ma_rIn (by simp), ma_rIn (by simp), ma_rIn (by simp), ma_rI]; rfl
  have e10 : (ae_wI (ae_wI (ae_wI (ae_wI (ae_wI σ 21 0 9 0) 21 0 10 0) 21 0 11 0) 21 0 12 0) 21 0 13 0).1 21 0 10 = nI 0 := by rw [ma_rIn (by simp), ma_rIn (by simp), ma_rIn (by simp), ma_rI]; rfl
  have e11 : (ae_wI (ae_wI (ae_wI (ae_wI (ae_wI σ 21 0 9 0) 21 0 10 0) 21 0 11 0) 21 0 12 0) 21 0 13 0).1 21 0 11 = nI 0 := by rw [ma_rIn (by simp), ma_rIn (by simp), ma_rI]; rfl
  have e12 : (ae_wI (ae_wI (ae_wI (ae_wI (ae_wI σ 21 0 9 0) 21 0 10 0) 21 0 11 0) 21 0 12 0) 21 0 13 0).1 21 0 12 = nI 0 := by rw [ma_rIn (by simp), ma_rI]; rfl
  have e13 : (ae_wI (ae_wI (ae_wI (ae_wI (ae_wI σ 21 0 9 0) 21 0 10 0) 21 0 11 0) 21 0 12 0) 21 0 13 0).1 21 0 13 = nI 0 := ma_rI
  generalize ae_wI (ae_wI (ae_wI (ae_wI (ae_wI σ 21 0 9 0) 21 0 10 0) 21 0 11 0) 21 0 12 0) 21 0 13 0 = φ at f e9 e10 e11 e12 e13 ⊢
  have H : ka_C sz p vs C σ (ka_0 m) φ := ⟨⟨b1, b2, fun l hl => by simp [ka_0] at hl⟩, H1.fr f (fun g i k q1 q2 => by omega), H2.fr f (fun _ => by omega) (fun _ _ => by omega) (fun _ _ => by omega) (fun _ _ => by omega) (fun _ _ => by omega), ⟨e9, by simp [ka_0], fun v hv => by simp [ka_0] at hv, fun i v h => by simp [ka_0] at h⟩, ⟨e10, by simp [ka_0], fun i l h => by simp [ka_0] at h⟩, ⟨e13, fun k h => by have h : k < 0 := h; omega⟩, e11, e12, fun k hk => (f.i (by omega)).trans (H3 k hk), f.mo (fun g i k q => by unfold kaF at q; omega)⟩
  exact ma_mono (ka_loop hW hs hC hg k ae_fu 0 (ka_0 m) φ e H (by simp [ka_0]) (by simp [ka_0]) (by simp [ka_0]) (by rw [ae_fu]; omega)) (fun r τ q => ⟨q.1, q.2.1.1, q.2.1.2.2.2.2.2.1, q.2.1.2.2.2.2.2.2.2.2.1, q.2.1.2.2.1, q.2.1.2.2.2.2.2.2.2.2.2, q.2.2⟩)
end KA
