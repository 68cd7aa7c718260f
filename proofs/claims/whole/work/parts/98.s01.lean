/-! a script's text, read as such -/
abbrev ks_S : Type := Int32 × Int64 × Int32
abbrev ks_E : Type := List ks_S
def ks_fix (vs : List mv_V) (v : Int32) (x : Int64) : Int32 := match vs[v.toNatClampNeg]? with
  | some w => kv_fix (mv_fs w) x
  | none => -1
def ks_fld (T : kt_T) (vs : List mv_V) (v : Int32) (j : Nat) : kv_O (Int32 × Nat) :=
  if kt_sg T j 46 = true then
    if kt_nm T (j + 1) = true then
      if ks_fix vs v (kt_wv T (j + 1)) = -1 then .inl (2, kt_s T (j + 1)) else .inr (ks_fix vs v (kt_wv T (j + 1)), j + 2)
    else .inl (1, kt_s T (j + 1))
  else .inr (-1, j)
def ks_nam (T : kt_T) (vs : List mv_V) (j : Nat) : kv_O Int32 :=
  if kt_nm T j = true then
    if kv_ix vs (kt_wv T j) = -1 then .inl (2, kt_s T j) else .inr (kv_ix vs (kt_wv T j))
  else .inl (1, kt_s T j)
/-- a view's name, its element's steps, its field -/
def ks_plc (T : kt_T) (vs : List mv_V) (A : Nat → kv_O (ks_E × Nat)) (j : Nat) : kv_O ((Int32 × ks_E × Int32) × Nat) :=
  kv_bn (ks_nam T vs j) (fun v =>
    if kt_sg T (j + 1) 91 = true then
      kv_bn (A (j + 2)) (fun x => if kt_sg T x.2 93 = true then kv_bn (ks_fld T vs v (x.2 + 1)) (fun y => .inr ((v, x.1 ++ [(3, v.toInt64, 0)], y.1), y.2)) else .inl (1, kt_s T x.2))
    else kv_bn (ks_fld T vs v (j + 1)) (fun y => .inr ((v, [(1, 0, 0)], y.1), y.2)))
def ks_by : Nat → UInt64
  | 0 => FP.dconst1
  | n + 1 => FP.dmul (ks_by n) (4621819117588971520 : UInt64)
def ks_dec (T : kt_T) (j : Nat) : UInt64 := FP.dadd (FP.l2d (lN (kt_nv T j))) (FP.ddiv (FP.l2d (lN (kt_nv T (j + 2)))) (ks_by (kt_n T (j + 2))))
def ks_num (T : kt_T) (j : Nat) : kv_O (ks_E × Nat) :=
  if kt_sg T (j + 1) 46 = true then
    if kt_nu T 9 (j + 2) = true then .inr ([(2, ae_db (ks_dec T j), 0)], j + 3) else .inl (1, kt_s T (j + 2))
  else .inr ([(1, lN (kt_nv T j), 0)], j + 1)
def ks_fac (T : kt_T) (vs : List mv_V) (A F : Nat → Nat → kv_O (ks_E × Nat)) (o j : Nat) : kv_O (ks_E × Nat) :=
  if kt_sg T j 45 = true then kv_bn (F o (j + 1)) (fun x => .inr (x.1 ++ [(6, 0, 0)], x.2))
  else if kt_sg T j 40 = true then
    if o < 5 then kv_bn (A (o + 1) (j + 1)) (fun x => if kt_sg T x.2 41 = true then .inr (x.1, x.2 + 1) else .inl (1, kt_s T x.2)) else .inl (5, kt_s T j)
  else if kt_nu T 9 j = true then ks_num T j
  else kv_bn (ks_plc T vs (A o) j) (fun x => .inr (x.1.2.1 ++ [(4, x.1.1.toInt64, x.1.2.2)], x.2))
def ks_op (T : kt_T) (j : Nat) : Int32 := if kt_sg T j 60 = true then 7 else if kt_sg T j 62 = true then 8 else if kt_sg T j 126 = true then 9 else if kt_sg T j 43 = true then 10 else if kt_sg T j 45 = true then 11 else if kt_sg T j 42 = true then 12 else if kt_sg T j 47 = true then 13 else if kt_sg T j 37 = true then 14 else -1
def ks_rk (x : Int32) : Nat := if x = 6 then 4 else if x = 7 then 1 else if x = 8 then 1 else if x = 9 then 1 else if x = 10 then 2 else if x = 11 then 2 else if x = 12 then 3 else if x = 13 then 3 else if x = 14 then 3 else 0
/-- what stands there, joined by signs of this rank -/
def ks_lp (T : kt_T) (r : Nat) (t : Nat → kv_O (ks_E × Nat)) : Nat → ks_E → Nat → kv_O (ks_E × Nat)
  | 0, _, _ => .inl (0, 0)
  | n + 1, c, j => if ks_rk (ks_op T j) = r then kv_bn (t (j + 1)) (fun x => ks_lp T r t n (c ++ x.1 ++ [(ks_op T j, 0, 0)]) x.2) else .inr (c, j)
def ks_trm (T : kt_T) (f : Nat → kv_O (ks_E × Nat)) (j : Nat) : kv_O (ks_E × Nat) := kv_bn (f j) (fun x => ks_lp T 3 f 501 x.1 x.2)
def ks_sum (T : kt_T) (f : Nat → kv_O (ks_E × Nat)) (j : Nat) : kv_O (ks_E × Nat) := kv_bn (ks_trm T f j) (fun x => ks_lp T 2 (ks_trm T f) 501 x.1 x.2)
def ks_all (T : kt_T) (f : Nat → kv_O (ks_E × Nat)) (j : Nat) : kv_O (ks_E × Nat) := kv_bn (ks_sum T f j) (fun x => if ks_rk (ks_op T x.2) = 1 then kv_bn (ks_sum T f (x.2 + 1)) (fun y => .inr (x.1 ++ y.1 ++ [(ks_op T x.2, 0, 0)], y.2)) else .inr x)
def ks_X (T : kt_T) (vs : List mv_V) : Nat → (Nat → Nat → kv_O (ks_E × Nat)) × (Nat → Nat → kv_O (ks_E × Nat))
  | 0 => (fun _ _ => .inl (0, 0), fun _ _ => .inl (0, 0))
  | n + 1 => (ks_fac T vs (ks_X T vs n).2 (ks_X T vs n).1, fun o => ks_all T (ks_fac T vs (ks_X T vs n).2 (ks_X T vs n).1 o))
def ks_ex (T : kt_T) (vs : List mv_V) (o j : Nat) : kv_O (ks_E × Nat) := (ks_X T vs 502).2 o j
/-- statements; b: the steps ahead of it -/
def ks_set (T : kt_T) (vs : List mv_V) (o j : Nat) : kv_O (ks_E × Nat) :=
  kv_bn (ks_plc T vs (ks_ex T vs o) j) (fun x => if kt_sg T x.2 61 = true then kv_bn (ks_ex T vs o (x.2 + 1)) (fun y => if kt_sg T y.2 59 = true then .inr (x.1.2.1 ++ y.1 ++ [(5, x.1.1.toInt64, x.1.2.2)], y.2 + 1) else .inl (1, kt_s T y.2)) else .inl (1, kt_s T x.2))
def ks_grp (T : kt_T) (s : Nat → Nat → kv_O (ks_E × Nat)) : Nat → Nat → ks_E → Nat → kv_O (ks_E × Nat)
  | 0, _, _, _ => .inl (0, 0)
  | n + 1, b, c, j => if kt_sg T j 41 = true then .inr (c, j + 1) else kv_bn (s (b + c.length) j) (fun x => ks_grp T s n b (c ++ x.1) x.2)
def ks_stm (T : kt_T) (vs : List mv_V) : Nat → Nat → Nat → Nat → kv_O (ks_E × Nat)
  | 0, _, _, _ => .inl (0, 0)
  | n + 1, o, b, j =>
    if kt_wd T j 7 = true then
      kv_bn (ks_ex T vs o (j + 1)) (fun x => kv_bn (ks_stm T vs n o (b + x.1.length + 1) x.2) (fun y => .inr (x.1 ++ [(15, lN (b + x.1.length + 1 + y.1.length), 0)] ++ y.1, y.2)))
    else if kt_wd T j 8 = true then
      if kt_sg T (j + 1) 59 = true then .inr ([(16, 0, 0)], j + 2) else .inl (1, kt_s T (j + 1))
    else if kt_sg T j 40 = true then
      if o < 5 then kv_bn (ks_grp T (ks_stm T vs n (o + 1)) 502 (b + 1) [] (j + 1)) (fun x => .inr ([(17, lN (b + 1 + x.1.length + 1), 0)] ++ x.1 ++ [(18, 0, 0)], x.2)) else .inl (5, kt_s T j)
    else ks_set T vs o j
def ks_prg (T : kt_T) (vs : List mv_V) : Nat → ks_E → Nat → kv_O ks_E
  | 0, _, _ => .inl (0, 0)
  | n + 1, c, j => if kt_ty T j = 0 then .inr c else kv_bn (ks_stm T vs 502 0 (c.length + 1) j) (fun x => ks_prg T vs n (c ++ [(19, 0, 0)] ++ x.1) x.2)
/-! the class's steps and its stack -/
def kz_cd (C : ks_E) (σ : ae_S) : Prop := σ.1 15 0 3 = nI C.length ∧ ∀ i s, C[i]? = some s → σ.1 16 0 i = s.1 ∧ σ.2.1 17 0 i = s.2.1 ∧ σ.1 16 1 i = s.2.2
def kz_wt (W : List (Int32 × Int32 × Int32)) (σ : ae_S) : Prop := σ.1 19 0 6 = nI W.length ∧ ∀ i w, W[i]? = some w → σ.1 20 0 i = w.1 ∧ σ.1 20 1 i = w.2.1 ∧ σ.1 20 2 i = w.2.2
section KZ
variable {T : kt_T} {C : ks_E} {W : List (Int32 × Int32 × Int32)} {w : Int32 × Int32 × Int32} {σ τ : ae_S} {P : Nat → Fin 32 → Nat → Prop}
theorem kz_cd.fr (H : kz_cd C σ) (f : ma_fr P σ τ) (p : ∀ g i k, 15 ≤ g → g ≤ 17 → P g i k) : kz_cd C τ := ⟨(f.i (p 15 0 3 (by decide) (by decide))).trans H.1, fun i s e => ⟨(f.i (p 16 0 i (by decide) (by decide))).trans (H.2 i s e).1, (f.l (p 17 0 i (by decide) (by decide))).trans (H.2 i s e).2.1, (f.i (p 16 1 i (by decide) (by decide))).trans (H.2 i s e).2.2⟩⟩
theorem kz_wt.fr (H : kz_wt W σ) (f : ma_fr P σ τ) (p6 : P 19 0 6) (p : ∀ i k, P 20 i k) : kz_wt W τ := ⟨(f.i p6).trans H.1, fun i s e => ⟨(f.i (p 0 i)).trans (H.2 i s e).1, (f.i (p 1 i)).trans (H.2 i s e).2.1, (f.i (p 2 i)).trans (H.2 i s e).2.2⟩⟩
theorem kz_app {α : Type} {l : List α} {x y : α} {i : Nat} (e : (l ++ [x])[i]? = some y) : i < l.length ∧ l[i]? = some y ∨ i = l.length ∧ y = x := by
  by_cases h : i < l.length
  · rw [List.getElem?_append_left h] at e
    exact .inl ⟨h, e⟩
  · have h3 := (List.getElem?_eq_some_iff.mp e).1
    rw [List.length_append, List.length_singleton] at h3
    have h2 : i = l.length := by omega
    rw [h2, List.getElem?_append_right (Nat.le_refl _), Nat.sub_self] at e
    exact .inr ⟨h2, (Option.some.inj e).symm⟩
theorem kz_last {α : Type} {l : List α} {x : α} : (l ++ [x])[l.length]? = some x := by
  rw [List.getElem?_append_right (Nat.le_refl _), Nat.sub_self]
  rfl
theorem kz_add (H : kz_cd C σ) (hl : C.length < 1002) (a : Int32) (x : Int64) (b : Int32) : ma_wp (F_X1_add a x b σ) (fun r τ => r = nI C.length ∧ kz_cd (C ++ [(a, x, b)]) τ ∧ ma_fr (fun g _ _ => g ≠ 15 ∧ g ≠ 16 ∧ g ≠ 17) σ τ) := by
  unfold F_X1_add F_X1_add_49
  have hib : ae_ib (σ.1 15 0 3) 1002 = true := ma_ib _ H.1 hl (by decide)
  have hcl : (σ.1 15 0 3).toNatClampNeg = C.length := ma_cl _ H.1 (by omega)
  refine ma_lt ?_
  refine ma_F (by rw [H.1]; exact nI_ge (b := 1002) hl (by decide)) ?_
  rw [hcl]
  refine ma_gd hib (ma_lt (ma_gd hib (ma_lt (ma_gd hib (ma_lt (ma_lt (ma_ret ⟨H.1, ⟨?_, fun i s e => ?_⟩, ?_⟩)))))))
  · rw [ma_rI, ma_rIn (by simp)]
    show (ae_wI σ 16 0 C.length a).1 15 0 3 + 1 = _
    rw [ma_rIn (by simp), H.1, nI_1, List.length_append, List.length_singleton]
  · have e1 : ∀ i, (ae_wI (ae_wI (ae_wL (ae_wI σ 16 0 C.length a) 17 0 C.length x) 16 1 C.length b) 15 0 3 ((ae_wI (ae_wL (ae_wI σ 16 0 C.length a) 17 0 C.length x) 16 1 C.length b).1 15 0 3 + 1)).1 16 0 i = (ae_wI σ 16 0 C.length a).1 16 0 i := fun i => by
      rw [ma_rIn (by simp), ma_rIn (by simp)]
      rfl
    have e2 : ∀ i, (ae_wI (ae_wI (ae_wL (ae_wI σ 16 0 C.length a) 17 0 C.length x) 16 1 C.length b) 15 0 3 ((ae_wI (ae_wL (ae_wI σ 16 0 C.length a) 17 0 C.length x) 16 1 C.length b).1 15 0 3 + 1)).2.1 17 0 i = (ae_wL σ 17 0 C.length x).2.1 17 0 i := fun i => rfl
    have e3 : ∀ i, (ae_wI (ae_wI (ae_wL (ae_wI σ 16 0 C.length a) 17 0 C.length x) 16 1 C.length b) 15 0 3 ((ae_wI (ae_wL (ae_wI σ 16 0 C.length a) 17 0 C.length x) 16 1 C.length b).1 15 0 3 + 1)).1 16 1 i = (ae_wI σ 16 1 C.length b).1 16 1 i := fun i => by
      rw [ma_rIn (by simp)]
      by_cases q : i = C.length
      · rw [q, ma_rI, ma_rI]
      · rw [ma_rIn (by simp [q]), ma_rIn (by simp [q])]
        show (ae_wI σ 16 0 C.length a).1 16 1 i = _
        rw [ma_rIn (by simp)]
    rw [e1, e2, e3]
    rcases kz_app e with ⟨hi, e⟩ | ⟨hi, rfl⟩
    · rw [ma_rIn (by omega), ma_rLn (by omega), ma_rIn (by omega)]
      exact H.2 i s e
    · rw [hi, ma_rI, ma_rL, ma_rI]
      exact ⟨rfl, rfl, rfl⟩
  · exact (ma_fwI (by simp)).tr ((ma_fwL (by simp)).tr ((ma_fwI (by simp)).tr (ma_fwI (by simp))))
def kz_ld (C : ks_E) (i : Nat) : ks_E := C.modify i (fun s => (s.1, lN C.length, s.2.2))
theorem kz_lead (H : kz_cd C σ) (hl : C.length ≤ 1002) {i : Nat} (hi : i < C.length) : ma_wp (F_X1_leadHere (nI i) σ) (fun _ τ => kz_cd (kz_ld C i) τ ∧ ma_fr (fun g _ _ => g ≠ 17) σ τ) := by
  unfold F_X1_leadHere F_X1_leadHere_22
  refine ma_F (nI_pos (by omega)) (ma_F (nI_ge (b := 1002) (by omega) (by decide)) (ma_gd (ma_ib i rfl (by omega) (by decide)) (ma_lt ?_)))
  rw [nI_clamp (by omega), H.1, nI_l (by omega)]
  refine ma_ret ⟨⟨?_, fun k s e => ?_⟩, ma_fwL (by simp)⟩
  · show σ.1 15 0 3 = _
    rw [H.1, kz_ld, List.length_modify]
  · rw [kz_ld, List.getElem?_modify] at e
    show σ.1 16 0 k = _ ∧ _ ∧ σ.1 16 1 k = _
    cases ek : C[k]? with
    | none => rw [ek] at e; cases e
    | some s0 =>
      rw [ek] at e
      have h := H.2 k s0 ek
      have e : (if i = k then (s0.1, lN C.length, s0.2.2) else s0) = s := Option.some.inj e
      by_cases q : i = k
      · rw [if_pos q] at e
        rw [← e, ← q, ma_rL]
        rw [← q] at h
        exact ⟨h.1, rfl, h.2.2⟩
      · rw [if_neg q] at e
        rw [← e, ma_rLn (by omega)]
        exact h
theorem kz_await (H : kz_wt W σ) (hl : W.length < 501) (w : Int32 × Int32 × Int32) : ma_wp (F_X5_await w.1 w.2.1 w.2.2 σ) (fun _ τ => kz_wt (W ++ [w]) τ ∧ ma_fr (fun g _ k => ¬ (g = 19 ∧ k = 6) ∧ g ≠ 20) σ τ) := by
  unfold F_X5_await F_X5_await_52
  refine ma_F (by rw [H.1]; exact nI_ge (b := 501) hl (by decide)) (ma_gd (ma_ib _ H.1 hl (by decide)) ?_)
  have hcl : (σ.1 19 0 6).toNatClampNeg = W.length := ma_cl _ H.1 (by omega)
  rw [hcl]
  refine ma_lt ?_
  have a1 : (ae_wI σ 20 0 W.length w.1).1 19 0 6 = nI W.length := (ma_rIn (by simp)).trans H.1
  have f1 : ma_fr (fun g i k => ¬ (g = 20 ∧ k = W.length)) σ (ae_wI σ 20 0 W.length w.1) := ma_fwI (by simp)
  have b1 : (ae_wI σ 20 0 W.length w.1).1 20 0 W.length = w.1 := ma_rI
  generalize ae_wI σ 20 0 W.length w.1 = σ1 at a1 f1 b1 ⊢
  refine ma_gd (ma_ib _ a1 hl (by decide)) ?_
  rw [ma_cl (x := σ1.1 19 0 6) _ a1 (by omega)]
  refine ma_lt ?_
  have a2 : (ae_wI σ1 20 1 W.length w.2.1).1 19 0 6 = nI W.length := (ma_rIn (by simp)).trans a1
  have f2 : ma_fr (fun g i k => ¬ (g = 20 ∧ k = W.length)) σ (ae_wI σ1 20 1 W.length w.2.1) := f1.tr (ma_fwI (by simp))
  have b2 : (ae_wI σ1 20 1 W.length w.2.1).1 20 0 W.length = w.1 := (ma_rIn (by simp)).trans b1
  have c2 : (ae_wI σ1 20 1 W.length w.2.1).1 20 1 W.length = w.2.1 := ma_rI
  generalize ae_wI σ1 20 1 W.length w.2.1 = σ2 at a2 f2 b2 c2 ⊢
  refine ma_gd (ma_ib _ a2 hl (by decide)) ?_
  rw [ma_cl (x := σ2.1 19 0 6) _ a2 (by omega)]
  refine ma_lt (ma_lt ?_)
  have a3 : (ae_wI σ2 20 2 W.length w.2.2).1 19 0 6 = nI W.length := (ma_rIn (by simp)).trans a2
  have f3 : ma_fr (fun g i k => ¬ (g = 20 ∧ k = W.length)) σ (ae_wI σ2 20 2 W.length w.2.2) := f2.tr (ma_fwI (by simp))
  have b3 : (ae_wI σ2 20 2 W.length w.2.2).1 20 0 W.length = w.1 := (ma_rIn (by simp)).trans b2
  have c3 : (ae_wI σ2 20 2 W.length w.2.2).1 20 1 W.length = w.2.1 := (ma_rIn (by simp)).trans c2
  have d3 : (ae_wI σ2 20 2 W.length w.2.2).1 20 2 W.length = w.2.2 := ma_rI
  generalize ae_wI σ2 20 2 W.length w.2.2 = σ3 at a3 f3 b3 c3 d3 ⊢
  refine ma_ret ⟨⟨?_, fun i u e => ?_⟩, (f3.mo (fun g i k q => by omega)).tr (ma_fwI (by simp))⟩
  · rw [ma_rI, a3, nI_1, List.length_append, List.length_singleton]
  · rw [ma_rIn (by simp), ma_rIn (by simp), ma_rIn (by simp)]
    rcases kz_app e with ⟨hi, e⟩ | ⟨hi, rfl⟩
    · have h := H.2 i u e
      exact ⟨(f3.i (by omega)).trans h.1, (f3.i (by omega)).trans h.2.1, (f3.i (by omega)).trans h.2.2⟩
    · rw [hi]
      exact ⟨b3, c3, d3⟩
theorem kz_top (H : kz_wt (W ++ [w]) σ) (hl : W.length < 501) : F_X5_awaited σ = some (w.1, σ) ∧ F_X5_awaitedFirst σ = some (w.2.1, σ) ∧ F_X5_awaitedSecond σ = some (w.2.2, σ) := by
  have h6 : σ.1 19 0 6 = nI (W.length + 1) := by rw [H.1, List.length_append, List.length_singleton]
  have hn : ¬ (σ.1 19 0 6) ≤ 0 := by rw [h6]; exact nI_ge (b := W.length + 1) (a := 0) (by omega) (by omega)
  have h7 : σ.1 19 0 6 - 1 = nI W.length := by rw [h6]; exact nI_pred W.length
  have hib : ae_ib (σ.1 19 0 6 - 1) 501 = true := ma_ib _ h7 hl (by decide)
  have hcl : (σ.1 19 0 6 - 1).toNatClampNeg = W.length := ma_cl _ h7 (by omega)
  have h := H.2 W.length w kz_last
  refine ⟨ma_eq ?_, ma_eq ?_, ma_eq ?_⟩
  · unfold F_X5_awaited F_X5_awaited_22
    refine ma_F hn (ma_gd hib ?_)
    rw [hcl]
    exact ma_ret ⟨h.1, rfl⟩
  · unfold F_X5_awaitedFirst F_X5_awaitedFirst_22
    refine ma_F hn (ma_gd hib ?_)
    rw [hcl]
    exact ma_ret ⟨h.2.1, rfl⟩
  · unfold F_X5_awaitedSecond F_X5_awaitedSecond_22
    refine ma_F hn (ma_gd hib ?_)
    rw [hcl]
    exact ma_ret ⟨h.2.2, rfl⟩
theorem kz_top0 (H : kz_wt [] σ) : F_X5_awaited σ = some (0, σ) ∧ F_X5_awaitedFirst σ = some (0, σ) := by
  have hn : σ.1 19 0 6 ≤ 0 := by rw [H.1]; decide
  refine ⟨ma_eq ?_, ma_eq ?_⟩
  · unfold F_X5_awaited F_X5_awaited_22
    exact ma_T hn (ma_ret ⟨rfl, rfl⟩)
  · unfold F_X5_awaitedFirst F_X5_awaitedFirst_22
    exact ma_T hn (ma_ret ⟨rfl, rfl⟩)
theorem kz_drop (H : kz_wt (W ++ [w]) σ) (hl : W.length < 501) : ma_wp (F_X5_drop σ) (fun _ τ => kz_wt W τ ∧ ma_fr (fun g _ k => ¬ (g = 19 ∧ k = 6)) σ τ) := by
  have h6 : σ.1 19 0 6 = nI (W.length + 1) := by rw [H.1, List.length_append, List.length_singleton]
  have hn : ¬ (σ.1 19 0 6) ≤ 0 := by rw [h6]; exact nI_ge (b := W.length + 1) (a := 0) (by omega) (by omega)
  have h7 : σ.1 19 0 6 - 1 = nI W.length := by rw [h6]; exact nI_pred W.length
  unfold F_X5_drop F_X5_drop_17
  refine ma_F hn (ma_lt (ma_ret ⟨⟨by rw [ma_rI]; exact h7, fun i u e => ?_⟩, ma_fwI (by simp)⟩))
  rw [ma_rIn (by simp), ma_rIn (by simp), ma_rIn (by simp)]
  exact H.2 i u (by rw [List.getElem?_append_left (List.getElem?_eq_some_iff.mp e).1]; exact e)
theorem kz_rank (x : Int32) (σ : ae_S) : F_X5_rankOf x σ = some (nI (ks_rk x), σ) := by
  unfold F_X5_rankOf ks_rk
  repeat' split
  all_goals rfl
end KZ
