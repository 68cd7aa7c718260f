/-! A MACHINE OF STEPS, as such: place, values (the top first), memory, levels (the innermost last), how many were done, troubles -/
section KA
abbrev ka_V : Type := Int64 × Bool
/-- a level: memory, done, where it ends -/
abbrev ka_L : Type := (Nat → Int32) × Nat × Nat
abbrev ka_S : Type := Nat × List ka_V × (Nat → Int32) × List ka_L × Nat × mt_T
def ka_tn (t : Int32) (tr : mt_T) : mt_T := (tr.1 + 1, fun k => if k = tr.1 then t else tr.2 k)
def ka_meet (t : Int32) (lv : List ka_L) (tr : mt_T) : Option ka_S := (lv.getLast?).bind fun x => some (x.2.2, [], x.1, (if lv.length = 1 then lv else lv.dropLast), x.2.1, ka_tn t tr)
def ka_push (v : ka_V) (s : ka_S) : Option ka_S := if s.2.1.length < 252 then some (s.1, v :: s.2.1, s.2.2) else none
def ka_in (x : Int32) (n : Nat) : Option Nat := if x = nI x.toNatClampNeg ∧ x.toNatClampNeg < n then some x.toNatClampNeg else none
def ka_wh (v : ka_V) : Int64 := if v.2 = true then FP.d2l v.1.toUInt64 else v.1
def ka_fl (v : ka_V) : UInt64 := if v.2 = true then v.1.toUInt64 else FP.l2d v.1
def ka_z (a : ka_V) : Prop := if a.2 = true then FP.dcmp a.1.toUInt64 FP.dconst0 = some .eq else a.1 = 0
def ka_ng (a : ka_V) : ka_V := if a.2 = true then (ae_db (FP.dneg a.1.toUInt64), true) else (-a.1, false)
def ka_fb (p : Int32) (x y : UInt64) : ka_V :=
  if p = 7 then (if FP.dcmp x y = some .lt then 1 else 0, false)
  else if p = 8 then (if FP.dcmp x y = some .gt then 1 else 0, false)
  else if p = 10 then (ae_db (FP.dadd x y), true)
  else if p = 11 then (ae_db (FP.dsub x y), true)
  else if p = 12 then (ae_db (FP.dmul x y), true)
  else if p = 13 then (ae_db (FP.ddiv x y), true)
  else if p = 14 then (ae_db (FP.drem x y), true)
  else (if FP.dcmp x y = some .eq then 1 else 0, false)
def ka_wb (p : Int32) (x y : Int64) : Option ka_V :=
  if p = 7 then some (if 0 ≤ lg_cmp x y then 0 else 1, false)
  else if p = 8 then some (if lg_cmp x y ≤ 0 then 0 else 1, false)
  else if p = 10 then some (x + y, false)
  else if p = 11 then some (x - y, false)
  else if p = 12 then some (x * y, false)
  else if p = 13 then (if lg_cmp y 0 = 0 then none else some (x / y, false))
  else if p = 14 then (if lg_cmp y 0 = 0 then none else some (x - x / y * y, false))
  else some (if lg_cmp x y = 0 then 1 else 0, false)
def ka_bin (p : Int32) (a b : ka_V) : Option ka_V := if a.2 = true ∨ b.2 = true then some (ka_fb p (ka_fl a) (ka_fl b)) else ka_wb p a.1 b.1
def ka_fd (w : mv_V) (f : Int32) (x : Int64) : Option ka_V := if f = -1 then some (mg_vl (mv_kd w) x, decide (7 ≤ mv_kd w)) else (ka_in f (mv_fs w).length).bind fun n => ((mv_fs w)[n]?).bind fun q => some (ml_fl x q, false)
def ka_cl (w : mv_V) (k : Nat) (m : Nat → Int32) : Nat → Int32 := if mv_ac w = 3 then ml_lay m w k 0 else m
def ka_all (q : mv_F) : Int64 := lN (2 ^ (q.2.2 - q.2.1 + 1) - 1) <<< ((nI q.2.1).toInt64 &&& 63)
def ka_mix (x y : Int64) (q : mv_F) : Int64 := (x &&& (ka_all q ^^^ (-1))) ||| ((y <<< ((nI q.2.1).toInt64 &&& 63)) &&& ka_all q)
def ka_wf (w : mv_V) (f : Int32) (a : ka_V) (x : Int64) : Option Int64 := if f = -1 then some (if a.2 = true then mg_bf (mv_kd w) a.1.toUInt64 else mg_bw (mv_kd w) a.1) else (ka_in f (mv_fs w).length).bind fun n => ((mv_fs w)[n]?).bind fun q => some (ka_mix x (ka_wh a) q)
def ka_ix (vs : List mv_V) (x : Int64) (s : ka_S) : Option ka_S := match s.2.1 with
  | [] => none
  | i :: st => (ka_in x.toInt32 vs.length).bind fun v => (vs[v]?).bind fun w => if 0 ≤ (ka_wh i).toInt ∧ (ka_wh i).toInt < mv_ct w then ka_push (ka_wh i, false) (s.1, st, s.2.2) else ka_meet 1 s.2.2.2.1 s.2.2.2.2.2
def ka_ld (vs : List mv_V) (x : Int64) (f : Int32) (s : ka_S) : Option ka_S := match s.2.1 with
  | [] => none
  | i :: st => (ka_in x.toInt32 vs.length).bind fun v => (vs[v]?).bind fun w => (ka_in i.1.toInt32 (mv_ct w)).bind fun k => (ka_fd w f (ml_bits s.2.2.1 w k)).bind fun y => ka_push y (s.1, st, ka_cl w k s.2.2.1, s.2.2.2)
def ka_sto (vs : List mv_V) (x : Int64) (f : Int32) (s : ka_S) : Option ka_S := match s.2.1 with
  | [] => none
  | [_] => none
  | a :: i :: st => (ka_in x.toInt32 vs.length).bind fun v => (vs[v]?).bind fun w => if mv_ac w = 1 then ka_meet 3 s.2.2.2.1 s.2.2.2.2.2 else (ka_in i.1.toInt32 (mv_ct w)).bind fun k => (ka_wf w f a (ml_bits s.2.2.1 w k)).bind fun y => some (s.1, st, ml_put s.2.2.1 w k y, s.2.2.2.1, s.2.2.2.2.1 + 1, s.2.2.2.2.2)
def ka_neg (s : ka_S) : Option ka_S := match s.2.1 with
  | [] => none
  | a :: st => ka_push (ka_ng a) (s.1, st, s.2.2)
noncomputable def ka_un (x : Int64) (s : ka_S) : Option ka_S := match s.2.1 with
  | [] => none
  | a :: st => @ite _ (ka_z a) (Classical.propDecidable _) ((ka_in x.toInt32 2000).bind fun k => some (k, st, s.2.2)) (some (s.1, st, s.2.2))
def ka_open (x : Int64) (s : ka_S) : Option ka_S := if 1 ≤ s.2.2.2.1.length ∧ s.2.2.2.1.length < 6 then (ka_in x.toInt32 2000).bind fun k => some (s.1, s.2.1, s.2.2.1, s.2.2.2.1 ++ [(s.2.2.1, s.2.2.2.2.1, k)], s.2.2.2.2) else none
def ka_close (s : ka_S) : Option ka_S := if 2 ≤ s.2.2.2.1.length then some (s.1, s.2.1, s.2.2.1, s.2.2.2.1.dropLast, s.2.2.2.2) else none
def ka_stat (N : Nat) (s : ka_S) : Option ka_S := some (s.1, s.2.1, s.2.2.1, [(s.2.2.1, s.2.2.2.2.1, N)], s.2.2.2.2)
def ka_cmb (p : Int32) (s : ka_S) : Option ka_S := match s.2.1 with
  | [] => none
  | [_] => none
  | b :: a :: st => match ka_bin p a b with
    | some v => ka_push v (s.1, st, s.2.2)
    | none => ka_meet 2 s.2.2.2.1 s.2.2.2.2.2
noncomputable def ka_do (vs : List mv_V) (N : Nat) (t : ks_S) (s : ka_S) : Option ka_S :=
  if t.1 = 1 then ka_push (t.2.1, false) s
  else if t.1 = 2 then (if ae_db t.2.1.toUInt64 = t.2.1 then ka_push (t.2.1, true) s else none)
  else if t.1 = 3 then ka_ix vs t.2.1 s
  else if t.1 = 4 then ka_ld vs t.2.1 t.2.2 s
  else if t.1 = 5 then ka_sto vs t.2.1 t.2.2 s
  else if t.1 = 6 then ka_neg s
  else if t.1 = 15 then ka_un t.2.1 s
  else if t.1 = 16 then ka_meet 4 s.2.2.2.1 s.2.2.2.2.2
  else if t.1 = 17 then ka_open t.2.1 s
  else if t.1 = 18 then ka_close s
  else if t.1 = 19 then ka_stat N s
  else ka_cmb t.1 s
noncomputable def ka_step (vs : List mv_V) (C : ks_E) (s : ka_S) : Option ka_S := (C[s.1]?).bind fun t => (ka_do vs C.length t (s.1 + 1, s.2)).bind fun s' => if s.1 < s'.1 ∧ s'.1 ≤ C.length then some s' else none
noncomputable def ka_it (vs : List mv_V) (C : ks_E) : Nat → ka_S → Option ka_S
  | 0, s => some s
  | n + 1, s => (ka_step vs C s).bind (ka_it vs C n)
def ka_to (vs : List mv_V) (C : ks_E) (s s' : ka_S) : Prop := ∃ k, ka_it vs C k s = some s'
variable {vs : List mv_V} {C : ks_E} {s s1 s2 : ka_S}
theorem ka_to.rf : ka_to vs C s s := ⟨0, rfl⟩
theorem ka_to.one (h : ka_step vs C s = some s1) : ka_to vs C s s1 := ⟨1, by rw [ka_it, h]; rfl⟩
theorem ka_itA : ∀ (k n : Nat) (s s1 : ka_S), ka_it vs C k s = some s1 → ka_it vs C (k + n) s = ka_it vs C n s1
  | 0, n, s, s1, h => by
    have h : some s = some s1 := h
    rw [Option.some.inj h, Nat.zero_add]
  | k + 1, n, s, s1, h => by
    rw [ka_it] at h
    rw [show k + 1 + n = (k + n) + 1 by omega, ka_it]
    cases e : ka_step vs C s with
    | none => rw [e] at h; cases h
    | some s' =>
      rw [e] at h
      exact ka_itA k n s' s1 h
theorem ka_to.tr (h : ka_to vs C s s1) (g : ka_to vs C s1 s2) : ka_to vs C s s2 := by
  obtain ⟨k, h⟩ := h
  obtain ⟨n, g⟩ := g
  exact ⟨k + n, by rw [ka_itA k n s s1 h]; exact g⟩
/-- it ends at one state alone -/
theorem ka_det : ∀ (k n : Nat) (s s1 s2 : ka_S), ka_it vs C k s = some s1 → ka_it vs C n s = some s2 → ka_step vs C s1 = none → ka_step vs C s2 = none → s1 = s2
  | 0, 0, s, s1, s2, h, g, _, _ => Option.some.inj ((show some s1 = some s from h.symm).trans g)
  | 0, n + 1, s, s1, s2, h, g, e, _ => by
    have h : some s = some s1 := h
    rw [ka_it, Option.some.inj h, e] at g
    cases g
  | k + 1, 0, s, s1, s2, h, g, _, e => by
    have g : some s = some s2 := g
    rw [ka_it, Option.some.inj g, e] at h
    cases h
  | k + 1, n + 1, s, s1, s2, h, g, e1, e2 => by
    rw [ka_it] at h g
    cases e : ka_step vs C s with
    | none => rw [e] at h; cases h
    | some s' =>
      rw [e] at h g
      exact ka_det k n s' s1 s2 h g e1 e2
theorem ka_inS {x : Int32} {n k : Nat} (h : ka_in x n = some k) : x = nI k ∧ k < n := by
  unfold ka_in at h
  split at h
  · rename_i g
    have h := Option.some.inj h
    rw [h] at g
    exact g
  · cases h
theorem ka_inI {n k : Nat} (h : k < n) (hn : n < 2 ^ 31) : ka_in (nI k) n = some k := by
  unfold ka_in
  rw [nI_clamp (by omega), if_pos ⟨rfl, h⟩]
/-! doubles by their bits -/
theorem ka_dv {d : UInt64} {x : Int64} (h : ae_db d = x) : FP.Core.decode FP.Core.b64 x.toUInt64.toNat = FP.Core.decode FP.Core.b64 d.toNat := by
  rw [← h, mg_db]
  have e : (lN (mf_pl64 d.toNat)).toUInt64.toNat = mf_pl64 d.toNat := lN_nat (mg_plLt _)
  rw [e, mg_plD]
theorem ka_isZ (a : UInt64) (σ : ae_S) : F_X2_isZero (ae_db a) σ = some (if FP.dcmp a FP.dconst0 = some .eq then 1 else 0, σ) := by
  have hn := mg_plLt a.toNat
  rw [mg_db, mf_isZero hn]
  have h := mf_alike hn (m := 0) (by decide) σ
  have g : F_X2_alike (lN (mf_pl64 a.toNat)) (lN 0) σ = some (if mf_pl64 a.toNat % 2 ^ 63 = 0 then 1 else 0, σ) := by
    generalize mf_pl64 a.toNat = n at hn ⊢
    refine ma_eq ?_
    unfold F_X2_alike F_X2_alike_14 F_X2_alike_36 F_X2_alike_40 F_X2_alike_41
    refine ma_be (mf_isNan hn σ) ?_
    by_cases h1 : 9218868437227405312 < n % 2 ^ 63
    · rw [if_pos h1, if_neg (show ¬ n % 2 ^ 63 = 0 by omega)]
      exact ma_F ma_01 (ma_ret ⟨rfl, rfl⟩)
    · rw [if_neg h1]
      refine ma_T rfl (ma_be (mf_isNan (by decide) σ) ?_)
      rw [if_neg (show ¬ 9218868437227405312 < 0 % 2 ^ 63 by omega)]
      refine ma_T rfl (ma_if (fun q => ?_) (fun q => ma_be (mf_isZero hn σ) ?_))
      · have e := (mf_lN_eq hn (by decide)).mp ((lg_cmp_eq _ _).mp q)
        rw [e, if_pos (show 0 % 2 ^ 63 = 0 by omega)]
        exact ma_gd ma_z1 (ma_ret ⟨rfl, rfl⟩)
      · by_cases h0 : n % 2 ^ 63 = 0
        · rw [if_pos h0]
          refine ma_F ma_01 (ma_be (mf_isZero (by decide) σ) ?_)
          rw [if_pos (show 0 % 2 ^ 63 = 0 by omega)]
          exact ma_F ma_01 (ma_gd ma_z1 (ma_ret ⟨rfl, rfl⟩))
        · rw [if_neg h0]
          exact ma_T rfl (ma_gd ma_z0 (ma_ret ⟨rfl, rfl⟩))
  rw [g] at h
  rw [h]
  have e : FP.Core.cmp FP.Core.b64 (mf_pl64 a.toNat) 0 = FP.dcmp a FP.dconst0 := by
    show FP.Core.order (FP.Core.decode FP.Core.b64 (mf_pl64 a.toNat)) (FP.Core.decode FP.Core.b64 0) = FP.Core.order (FP.Core.decode FP.Core.b64 a.toNat) (FP.Core.decode FP.Core.b64 FP.dconst0.toNat)
    rw [mg_plD]
    rfl
  rw [e]
theorem ka_shand (x y : Int64) {k : Nat} (hk : k < 64) : (x &&& y) <<< ((nI k).toInt64 &&& 63) = (x <<< ((nI k).toInt64 &&& 63)) &&& (y <<< ((nI k).toInt64 &&& 63)) := by
  apply wb_inj
  rw [Int64.toBitVec_and, Int64.toBitVec_shiftLeft, Int64.toBitVec_shiftLeft, Int64.toBitVec_shiftLeft, Int64.toBitVec_and, BitVec.shiftLeft_eq', BitVec.shiftLeft_eq', BitVec.shiftLeft_eq', BitVec.shiftLeft_and_distrib]
end KA
