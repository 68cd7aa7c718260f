/-! the reference does expressions -/
section KX
variable {σ τ σ0 : ae_S} {sz dn : Nat} {vs : List mv_V} {C : ks_E} {m : Nat → Int32} {tr : mt_T} {v : ka_V} {lv : List ka_L} {x : ka_L} {b : Nat} {st : List ka_V} {c d es : ks_E} {s s' : ka_S}
theorem ka_do1 (vs : List mv_V) (N : Nat) (y : Int64) (f : Int32) (s : ka_S) : ka_do vs N (1, y, f) s = ka_push (y, false) s := by
  unfold ka_do
  rw [if_pos (show (1 : Int32) = 1 from rfl)]
theorem ka_do3 (vs : List mv_V) (N : Nat) (y : Int64) (f : Int32) (s : ka_S) : ka_do vs N (3, y, f) s = ka_ix vs y s := by
  unfold ka_do
  rw [if_neg (show ¬ (3 : Int32) = 1 by decide), if_neg (show ¬ (3 : Int32) = 2 by decide), if_pos (show (3 : Int32) = 3 from rfl)]
theorem ka_do4 (vs : List mv_V) (N : Nat) (y : Int64) (f : Int32) (s : ka_S) : ka_do vs N (4, y, f) s = ka_ld vs y f s := by
  unfold ka_do
  rw [if_neg (show ¬ (4 : Int32) = 1 by decide), if_neg (show ¬ (4 : Int32) = 2 by decide), if_neg (show ¬ (4 : Int32) = 3 by decide), if_pos (show (4 : Int32) = 4 from rfl)]
theorem ka_do5 (vs : List mv_V) (N : Nat) (y : Int64) (f : Int32) (s : ka_S) : ka_do vs N (5, y, f) s = ka_sto vs y f s := by
  unfold ka_do
  rw [if_neg (show ¬ (5 : Int32) = 1 by decide), if_neg (show ¬ (5 : Int32) = 2 by decide), if_neg (show ¬ (5 : Int32) = 3 by decide), if_neg (show ¬ (5 : Int32) = 4 by decide), if_pos (show (5 : Int32) = 5 from rfl)]
theorem ka_do6 (vs : List mv_V) (N : Nat) (y : Int64) (f : Int32) (s : ka_S) : ka_do vs N (6, y, f) s = ka_neg s := by
  unfold ka_do
  rw [if_neg (show ¬ (6 : Int32) = 1 by decide), if_neg (show ¬ (6 : Int32) = 2 by decide), if_neg (show ¬ (6 : Int32) = 3 by decide), if_neg (show ¬ (6 : Int32) = 4 by decide), if_neg (show ¬ (6 : Int32) = 5 by decide), if_pos (show (6 : Int32) = 6 from rfl)]
theorem ka_do15 (vs : List mv_V) (N : Nat) (y : Int64) (f : Int32) (s : ka_S) : ka_do vs N (15, y, f) s = ka_un y s := by
  unfold ka_do
  rw [if_neg (show ¬ (15 : Int32) = 1 by decide), if_neg (show ¬ (15 : Int32) = 2 by decide), if_neg (show ¬ (15 : Int32) = 3 by decide), if_neg (show ¬ (15 : Int32) = 4 by decide), if_neg (show ¬ (15 : Int32) = 5 by decide), if_neg (show ¬ (15 : Int32) = 6 by decide), if_pos (show (15 : Int32) = 15 from rfl)]
theorem ka_do16 (vs : List mv_V) (N : Nat) (y : Int64) (f : Int32) (s : ka_S) : ka_do vs N (16, y, f) s = ka_meet 4 s.2.2.2.1 s.2.2.2.2.2 := by
  unfold ka_do
  rw [if_neg (show ¬ (16 : Int32) = 1 by decide), if_neg (show ¬ (16 : Int32) = 2 by decide), if_neg (show ¬ (16 : Int32) = 3 by decide), if_neg (show ¬ (16 : Int32) = 4 by decide), if_neg (show ¬ (16 : Int32) = 5 by decide), if_neg (show ¬ (16 : Int32) = 6 by decide), if_neg (show ¬ (16 : Int32) = 15 by decide), if_pos (show (16 : Int32) = 16 from rfl)]
theorem ka_do17 (vs : List mv_V) (N : Nat) (y : Int64) (f : Int32) (s : ka_S) : ka_do vs N (17, y, f) s = ka_open y s := by
  unfold ka_do
  rw [if_neg (show ¬ (17 : Int32) = 1 by decide), if_neg (show ¬ (17 : Int32) = 2 by decide), if_neg (show ¬ (17 : Int32) = 3 by decide), if_neg (show ¬ (17 : Int32) = 4 by decide), if_neg (show ¬ (17 : Int32) = 5 by decide), if_neg (show ¬ (17 : Int32) = 6 by decide), if_neg (show ¬ (17 : Int32) = 15 by decide), if_neg (show ¬ (17 : Int32) = 16 by decide), if_pos (show (17 : Int32) = 17 from rfl)]
theorem ka_do18 (vs : List mv_V) (N : Nat) (y : Int64) (f : Int32) (s : ka_S) : ka_do vs N (18, y, f) s = ka_close s := by
  unfold ka_do
  rw [if_neg (show ¬ (18 : Int32) = 1 by decide), if_neg (show ¬ (18 : Int32) = 2 by decide), if_neg (show ¬ (18 : Int32) = 3 by decide), if_neg (show ¬ (18 : Int32) = 4 by decide), if_neg (show ¬ (18 : Int32) = 5 by decide), if_neg (show ¬ (18 : Int32) = 6 by decide), if_neg (show ¬ (18 : Int32) = 15 by decide), if_neg (show ¬ (18 : Int32) = 16 by decide), if_neg (show ¬ (18 : Int32) = 17 by decide), if_pos (show (18 : Int32) = 18 from rfl)]
theorem ka_do19 (vs : List mv_V) (N : Nat) (y : Int64) (f : Int32) (s : ka_S) : ka_do vs N (19, y, f) s = ka_stat N s := by
  unfold ka_do
  rw [if_neg (show ¬ (19 : Int32) = 1 by decide), if_neg (show ¬ (19 : Int32) = 2 by decide), if_neg (show ¬ (19 : Int32) = 3 by decide), if_neg (show ¬ (19 : Int32) = 4 by decide), if_neg (show ¬ (19 : Int32) = 5 by decide), if_neg (show ¬ (19 : Int32) = 6 by decide), if_neg (show ¬ (19 : Int32) = 15 by decide), if_neg (show ¬ (19 : Int32) = 16 by decide), if_neg (show ¬ (19 : Int32) = 17 by decide), if_neg (show ¬ (19 : Int32) = 18 by decide), if_pos (show (19 : Int32) = 19 from rfl)]
theorem ka_do2 (vs : List mv_V) (N : Nat) (y : Int64) (f : Int32) (s : ka_S) (h : ae_db y.toUInt64 = y) : ka_do vs N (2, y, f) s = ka_push (y, true) s := by
  unfold ka_do
  rw [if_neg (show ¬ (2 : Int32) = 1 by decide), if_pos (show (2 : Int32) = 2 from rfl), if_pos (show ae_db y.toUInt64 = y from h)]
theorem ka_doB (vs : List mv_V) (N : Nat) {p : Int32} (h1 : 1 ≤ ks_rk p) (h2 : ks_rk p ≤ 3) (s : ka_S) : ka_do vs N (p, 0, 0) s = ka_cmb p s := by
  unfold ka_do
  have h : p ≠ 1 ∧ p ≠ 2 ∧ p ≠ 3 ∧ p ≠ 4 ∧ p ≠ 5 ∧ p ≠ 6 ∧ p ≠ 15 ∧ p ≠ 16 ∧ p ≠ 17 ∧ p ≠ 18 ∧ p ≠ 19 := by
    rcases ks_rkC h1 h2 with rfl | rfl | rfl | rfl | rfl | rfl | rfl | rfl <;> decide
  rw [if_neg h.1, if_neg h.2.1, if_neg h.2.2.1, if_neg h.2.2.2.1, if_neg h.2.2.2.2.1, if_neg h.2.2.2.2.2.1, if_neg h.2.2.2.2.2.2.1, if_neg h.2.2.2.2.2.2.2.1, if_neg h.2.2.2.2.2.2.2.2.1, if_neg h.2.2.2.2.2.2.2.2.2.1, if_neg h.2.2.2.2.2.2.2.2.2.2]
theorem kn_Een {n u : Nat} (h : kn_E vs n u c σ) : ∀ k, ks_en c k = k + 1 := by
  induction n generalizing u c with
  | zero => exact h.elim
  | succ n ih =>
    intro k
    unfold kn_E at h
    rcases h with ⟨_, rfl⟩ | ⟨_, rfl⟩ | ⟨h0, v, x, h1, h2, h3, h4⟩ | ⟨h0, q, e, h1, h2, h3, rfl⟩ | ⟨e, h1, rfl⟩ | ⟨p, q, r, e, x, h1, h2, h3, h4, h5, h6, h7, h8, h9, rfl⟩
    · rfl
    · rfl
    · rcases h4 with ⟨_, rfl⟩ | ⟨q, e, k1, k2, k3, rfl⟩
      · rfl
      · rw [ks_enA, ks_enA, ih k3]
        rfl
    · rw [ks_enA, ih h3]
      rfl
    · rw [ks_enA, ks_enA, ih h1]
      rfl
    · rw [ks_enA, ks_enA, ih h8, ih h9]
      rcases ks_rkC h1 h2 with rfl | rfl | rfl | rfl | rfl | rfl | rfl | rfl <;> rfl
def kx_at (C : ks_E) (b : Nat) (c : ks_E) : Prop := ∀ (i : Nat) (t : ks_S), c[i]? = some t → C[b + i]? = some t
theorem kx_at.l (h : kx_at C b (c ++ d)) : kx_at C b c := fun i t e => h i t (by rw [List.getElem?_append_left (List.getElem?_eq_some_iff.mp e).1]; exact e)
theorem kx_at.r (h : kx_at C b (c ++ d)) : kx_at C (b + c.length) d := fun i t e => by
  have := h (c.length + i) t (by rw [List.getElem?_append_right (by omega), Nat.add_sub_cancel_left]; exact e)
  rw [← Nat.add_assoc] at this
  exact this
theorem kx_at.h {t : ks_S} (h : kx_at C b (t :: c)) : C[b]? = some t := h 0 t rfl
theorem kx_at.z {t : ks_S} (h : kx_at C b (c ++ [t])) : C[b + c.length]? = some t := h.r.h
theorem kx_st {t : ks_S} {r : List ka_V × (Nat → Int32) × List ka_L × Nat × mt_T} (h : C[b]? = some t) (e : ka_do vs C.length t (b + 1, r) = some s') (h1 : b < s'.1) (h2 : s'.1 ≤ C.length) : ka_to vs C (b, r) s' := by
  refine ka_to.one ?_
  unfold ka_step
  rw [show C[(b, r).1]? = some t from h]
  show (ka_do vs C.length t (b + 1, r)).bind _ = some s'
  rw [e]
  show (if b < s'.1 ∧ s'.1 ≤ C.length then some s' else none) = some s'
  rw [if_pos ⟨h1, h2⟩]
/-- behind a trouble -/
def kx_mt (x : ka_L) (lv : List ka_L) (tr : mt_T) (t : Int32) : ka_S := (x.2.2, [], x.1, (if lv.length = 1 then lv else lv.dropLast), x.2.1, ka_tn t tr)
theorem kx_meet (hx : lv.getLast? = some x) (t : Int32) : ka_meet t lv tr = some (kx_mt x lv tr t) := by
  unfold ka_meet
  rw [hx]
  rfl
def kx_t (sz : Nat) (vs : List mv_V) (C : ks_E) (σ0 : ae_S) (lv : List ka_L) (x : ka_L) (dn : Nat) (tr : mt_T) (s : ka_S) (t : Int32) (τ : ae_S) : Prop := t ≠ 0 ∧ ka_to vs C s (kx_mt x lv tr t) ∧ τ.1 30 0 40 = t ∧ ∃ m', kx_R sz σ0 m' dn (ka_tn t tr) τ
def kx_w (sz : Nat) (vs : List mv_V) (C : ks_E) (σ0 : ae_S) (lv : List ka_L) (x : ka_L) (dn : Nat) (tr : mt_T) (F : ae_S → Option (Unit × ae_S)) (c : ks_E) : Prop := ∀ (b : Nat) (st : List ka_V) (m : Nat → Int32) (σ : ae_S), kx_at C b c → b + c.length ≤ x.2.2 → ks_pk c st.length ≤ 252 → kx_R sz σ0 m dn tr σ → σ.1 30 0 40 = 0 → ma_wp (F σ) (fun _ τ => ma_fr kxQ σ τ ∧ ((∃ v m', ka_to vs C (b, st, m, lv, dn, tr) (b + c.length, v :: st, m', lv, dn, tr) ∧ kx_v v τ ∧ kx_R sz σ0 m' dn tr τ ∧ τ.1 30 0 40 = 0) ∨ ∃ t, kx_t sz vs C σ0 lv x dn tr (b, st, m, lv, dn, tr) t τ))
def kx_e (sz : Nat) (vs : List mv_V) (C : ks_E) (σ0 : ae_S) (lv : List ka_L) (x : ka_L) (dn : Nat) (tr : mt_T) (F : ae_S → Option (Int32 × ae_S)) (w : mv_V) (c : ks_E) : Prop := ∀ (b : Nat) (st : List ka_V) (m : Nat → Int32) (σ : ae_S), kx_at C b c → b + c.length ≤ x.2.2 → ks_pk c st.length ≤ 252 → kx_R sz σ0 m dn tr σ → σ.1 30 0 40 = 0 → ma_wp (F σ) (fun r τ => ma_fr kxQ σ τ ∧ ((∃ k m', k < mv_ct w ∧ r = nI k ∧ ka_to vs C (b, st, m, lv, dn, tr) (b + c.length, ((nI k).toInt64, false) :: st, m', lv, dn, tr) ∧ kx_R sz σ0 m' dn tr τ ∧ τ.1 30 0 40 = 0) ∨ ∃ t, kx_t sz vs C σ0 lv x dn tr (b, st, m, lv, dn, tr) t τ))
theorem kx_tt {t : Int32} (h : ka_to vs C s s') (g : kx_t sz vs C σ0 lv x dn tr s' t τ) : kx_t sz vs C σ0 lv x dn tr s t τ := ⟨g.1, h.tr g.2.1, g.2.2⟩
theorem kx_push {r : (Nat → Int32) × List ka_L × Nat × mt_T} {n : Nat} (h : st.length < 252) : ka_push v (n, st, r) = some (n, v :: st, r) := by
  unfold ka_push
  rw [if_pos (show (n, st, r).2.1.length < 252 from h)]
theorem kx_neg {r : (Nat → Int32) × List ka_L × Nat × mt_T} (h : C[b]? = some (6, 0, 0)) (hl : st.length < 252) (hb : b + 1 ≤ C.length) : ka_to vs C (b, v :: st, r) (b + 1, ka_ng v :: st, r) := by
  refine kx_st h ?_ (by show b < b + 1; omega) hb
  rw [ka_do6]
  exact kx_push hl
theorem kx_i32 (n : Nat) : (nI n).toInt64.toInt32 = nI n := Int32.toInt32_toInt64 _
theorem kx_small {y : Int64} {n : Nat} (hn : n ≤ 64) (h : 0 ≤ y.toInt ∧ y.toInt < n) : ∃ k, k < n ∧ y = (nI k).toInt64 := by
  refine ⟨y.toInt.toNat, by omega, ?_⟩
  apply Int64.toInt_inj.mp
  rw [Int32.toInt_toInt64, nI_toInt (by omega)]
  omega
section
variable (hW : mv_W sz vs) (hs : sz ≤ 256) (hM : mv_M vs σ0) (hx : lv.getLast? = some x) (hxC : x.2.2 ≤ C.length) (htr : tr.1 < 2 ^ 30)
theorem kx_mv (hM : mv_M vs σ0) (f : ma_fr kxF σ0 σ) : mv_M vs σ := hM.fr f (by unfold kxF; omega) (fun g k _ _ => by unfold kxF; omega)
theorem kx_el (hW : mv_W sz vs) (hM : mv_M vs σ0) (hx : lv.getLast? = some x) (hxC : x.2.2 ≤ C.length) (htr : tr.1 < 2 ^ 30) {g : GT_C} {K u n : Nat} {f : Int32} {w : mv_V} (hp : kn_P vs K u n es f σ0) (hu : u < 600) (ew : vs[n]? = some w) (hI : ∀ q e, q < u → kn_E vs K q e σ0 → es = e ++ [(3, (nI n).toInt64, 0)] → kx_w sz vs C σ0 lv x dn tr (g.1 (nI q)) e) : kx_e sz vs C σ0 lv x dn tr (FZ_X12_elementOf g (nI u)) w es := by
  intro b st m σ ha hb hpk H h40
  have hw := hW.at ew
  have hn : n < vs.length := (List.getElem?_eq_some_iff.mp ew).1
  have hl := hW.1
  obtain ⟨p0, p1, p2, p3, p4⟩ := hp
  have ib : ae_ib (nI u) 600 = true := ma_ib u rfl hu (by decide)
  have n49 : σ.1 49 0 u = σ0.1 49 0 u := H.2.2.2.2.i (by unfold kxF; omega)
  unfold FZ_X12_elementOf
  rw [nI_clamp (show u < 2 ^ 31 by omega), n49]
  refine ma_gd ib ?_
  rcases p4 with ⟨k1, rfl⟩ | ⟨q, e, k1, k2, k3, rfl⟩
  · refine ma_T k1 (ma_ret ⟨ma_fr.rf, .inl ⟨0, m, hw.2.1, rfl, ?_, H, h40⟩⟩)
    have hpk : max st.length (st.length + 1) ≤ 252 := hpk
    have hb : b + 1 ≤ x.2.2 := hb
    refine kx_st ha.h ?_ (by show b < b + 1; omega) (by show b + 1 ≤ C.length; omega)
    rw [ka_do1]
    exact kx_push (by omega)
  · rw [k2]
    rw [List.length_append, List.length_singleton] at hb
    rw [ks_pkA] at hpk
    have en : ks_en e st.length ≤ ks_pk e st.length := (ks_pkL e st.length).2
    have hle := (ks_pkL [((3 : Int32), (nI n).toInt64, (0 : Int32))] (ks_en e st.length)).1
    refine ma_F (kn_nIne (by omega)) (ma_gd ib (ma_bd (hI q e k1 k3 rfl b st m σ ha.l (by omega) (by omega) H h40) (fun _ τ w1 => ?_)))
    obtain ⟨fq, w1⟩ := w1
    rcases w1 with ⟨v1, m', hto, hv1, H1, h1⟩ | ⟨t, ht⟩
    · refine ma_T h1 ?_
      have n48 : τ.1 48 0 u = nI n := (H1.2.2.2.2.i (by unfold kxF; omega)).trans p2
      have h252 : st.length < 252 := by
        have := kn_Een k3 st.length
        omega
      have step : ∀ s', ka_ix vs (nI n).toInt64 (b + e.length + 1, v1 :: st, m', lv, dn, tr) = some s' → b + e.length < s'.1 → s'.1 ≤ C.length → ka_to vs C (b, st, m, lv, dn, tr) s' := fun s' e1 l1 l2 => hto.tr (kx_st ha.z (by
        rw [ka_do3]
        exact e1) l1 l2)
      have eix : ka_ix vs (nI n).toInt64 (b + e.length + 1, v1 :: st, m', lv, dn, tr) = if 0 ≤ (ka_wh v1).toInt ∧ (ka_wh v1).toInt < mv_ct w then ka_push (ka_wh v1, false) (b + e.length + 1, st, m', lv, dn, tr) else ka_meet 1 lv tr := by
        unfold ka_ix
        show ((ka_in (nI n).toInt64.toInt32 vs.length).bind fun v => (vs[v]?).bind fun w => if 0 ≤ (ka_wh v1).toInt ∧ (ka_wh v1).toInt < mv_ct w then ka_push (ka_wh v1, false) (b + e.length + 1, st, m', lv, dn, tr) else ka_meet 1 lv tr) = _
        rw [kx_i32, ka_inI hn (by omega)]
        show ((vs[n]?).bind fun w => if 0 ≤ (ka_wh v1).toInt ∧ (ka_wh v1).toInt < mv_ct w then ka_push (ka_wh v1, false) (b + e.length + 1, st, m', lv, dn, tr) else ka_meet 1 lv tr) = _
        rw [ew]
        rfl
      have fin : ma_wp (F_X12_elementOf_50 g (nI u) (ka_wh v1) τ) (fun r τ => ma_fr kxQ σ τ ∧ ((∃ k m', k < mv_ct w ∧ r = nI k ∧ ka_to vs C (b, st, m, lv, dn, tr) (b + (e ++ [((3 : Int32), (nI n).toInt64, (0 : Int32))]).length, ((nI k).toInt64, false) :: st, m', lv, dn, tr) ∧ kx_R sz σ0 m' dn tr τ ∧ τ.1 30 0 40 = 0) ∨ ∃ t, kx_t sz vs C σ0 lv x dn tr (b, st, m, lv, dn, tr) t τ)) := by
        unfold F_X12_elementOf_50
        rw [nI_clamp (show u < 2 ^ 31 by omega), n48]
        refine ma_gd ib (ma_be (ml_isEl _ (kx_mv hM H1.2.2.2.2) hl hn ew hw) ?_)
        by_cases hc : 0 ≤ (ka_wh v1).toInt ∧ (ka_wh v1).toInt < mv_ct w
        · rw [if_pos hc] at eix ⊢
          obtain ⟨k, hk, ek⟩ := kx_small hw.2.2.1 hc
          rw [ek] at eix ⊢
          refine ma_F ma_01 (ma_ret ⟨fq, .inl ⟨k, m', hk, kx_i32 k, ?_, H1, h1⟩⟩)
          rw [List.length_append, List.length_singleton]
          exact step _ (eix.trans (kx_push h252)) (by show b + e.length < b + e.length + 1; omega) (by show b + e.length + 1 ≤ C.length; omega)
        · rw [if_neg hc] at eix ⊢
          refine ma_T rfl (ma_bd (kx_comes H1 h1 htr 1) (fun _ φ q => ma_ret ⟨fq.tr q.2.2, .inr ⟨1, by decide, ?_, q.1, m', q.2.1⟩⟩))
          exact step _ (eix.trans (kx_meet hx 1)) (by show b + e.length < x.2.2; omega) hxC
      rcases hv1 with ⟨g1, g2, g3⟩ | ⟨g1, g2, g3⟩
      · have ew1 : FP.d2l (τ.2.2.1 30 0 47) = ka_wh v1 := by
          unfold ka_wh
          rw [if_pos g1]
          exact ka_eqL (ka_dv g3).symm
        rw [ew1]
        exact ma_F (by rw [g2]; decide) fin
      · have ew1 : τ.2.1 30 0 46 = ka_wh v1 := by
          unfold ka_wh
          rw [g1, if_neg (c := false = true) (by decide)]
          exact g3
        rw [ew1]
        exact ma_T g2 fin
    · exact ma_F (by rw [ht.2.2.1]; exact ht.1) (ma_ret ⟨fq, .inr ⟨t, ht⟩⟩)
end
end KX
