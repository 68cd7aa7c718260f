/-! named; a text of views, read as such -/
theorem mz_named : zp_named mi_I := mi_zp (fun a hW => by
  have hT := kt_ofW hW
  have hTL : (mi_t a).1 ≤ 500 := hW.2.2.1.1
  have hl := hW.2.1.1
  obtain ⟨T, hTe⟩ : ∃ T, T = kt_of (mi_t a) := ⟨_, rfl⟩
  rw [← hTe] at hT
  refine ⟨if kt_nm T 0 = true then (if kt_ty T 1 = 0 then kv_ix (mi_v a) (kt_wv T 0) else -1) else -1, (a.1, a.2.1, (0, (mi_t a).2), a.2.2.2), ⟨hW.1, hW.2.1, ⟨Nat.zero_le _, hW.2.2.1.2⟩, hW.2.2.2⟩, fun σ H => ?_, fun σ H => ?_⟩
  · obtain ⟨h1, h2, h3, h4, h5, h6⟩ := id H
    have htp : kt_tp T σ := by rw [hTe]; exact kt_ofC hW H
    have post : ∀ (τ : ae_S), ma_fr (fun g j k => ¬ (g = 1 ∧ j = 0 ∧ k = 1) ∧ ¬ (g = 12 ∧ (k = 5 ∨ k = 6)) ∧ g ≠ 13 ∧ g ≠ 14) σ τ → τ.1 1 0 1 = 0 → mi_C (a.1, a.2.1, (0, (mi_t a).2), a.2.2.2) τ ∧ ma_fr (fun g _ _ => 30 ≤ g) σ τ := fun τ f h0 =>
      ⟨⟨h1.fr f (fun _ _ => by omega) (fun _ _ => by omega), h2.fr f (fun _ _ _ _ _ => by omega), ⟨h0, fun k hk => by have hk : k < 0 := hk; omega⟩, h4.fr f (by simp) (fun _ => by omega), h5.fr f (by omega) (fun _ => by omega), h6.fr f (by omega) (by omega)⟩, f.mo (fun g i k q => by omega)⟩
    unfold F_X11_named F_X11_named_65
    refine ma_bd (kt_scan (D := 3) hT (by decide) htp) (fun _ τ s => ?_)
    refine ma_be (r := ()) (s := ae_wI τ 1 0 1 0) (ma_eq ?_) ?_
    · unfold F_X7_cut
      exact ma_gd (by decide) (ma_lt (ma_ret ⟨rfl, rfl⟩))
    have f1 : ma_fr (fun g j k => ¬ (g = 1 ∧ j = 0 ∧ k = 1)) τ (ae_wI τ 1 0 1 0) := ma_fwI (by simp)
    have S1 : kt_St T 3 0 (ae_wI τ 1 0 1 0) := s.1.fr f1 (by simp) (by simp) (fun _ _ => by simp) (fun _ => by simp)
    have f2 : ma_fr (fun g j k => ¬ (g = 1 ∧ j = 0 ∧ k = 1) ∧ ¬ (g = 12 ∧ (k = 5 ∨ k = 6)) ∧ g ≠ 13 ∧ g ≠ 14) σ (ae_wI τ 1 0 1 0) := (s.2.mo (fun g i k q => q.2)).tr (f1.mo (fun g i k q => q.1))
    have h0 : (ae_wI τ 1 0 1 0).1 1 0 1 = 0 := ma_rI
    generalize ae_wI τ 1 0 1 0 = υ at S1 f2 h0 ⊢
    refine ma_be (kc_name S1) ?_
    cases hn : kt_nm T 0 with
    | false =>
      rw [if_neg (c := false = true) (by decide)]
      exact ma_T rfl (ma_ret ⟨rfl, post υ f2 h0⟩)
    | true =>
      rw [if_pos (c := true = true) rfl]
      have hn2 := of_decide_eq_true hn
      have hv : kt_cvl T 0 = kt_wv T 0 := by unfold kt_cvl; rw [hn2.1, if_neg (by decide), if_pos rfl, if_pos hn2.2.1]
      refine ma_F (by decide) (ma_be (kc_value S1) (ma_bd (kc_adv S1) (fun _ ψ r => ?_)))
      have f3 : ma_fr (fun g j k => ¬ (g = 1 ∧ j = 0 ∧ k = 1) ∧ ¬ (g = 12 ∧ (k = 5 ∨ k = 6)) ∧ g ≠ 13 ∧ g ≠ 14) σ ψ := f2.tr (r.2.mo (fun g i k q => by omega))
      have h03 : ψ.1 1 0 1 = 0 := by rw [r.2.i (by omega)]; exact h0
      refine ma_be (kc_end r.1) ?_
      by_cases q : kt_ty T 1 = 0
      · rw [if_pos (c := kt_ty T 1 = 0) q, decide_eq_true q]
        obtain ⟨p, Hp⟩ := (post ψ f3 h03).1.2.1
        refine ma_F (by decide) (ma_be (kv_numOf _ Hp hl) (ma_ret ⟨?_, post ψ f3 h03⟩))
        rw [hv]
      · rw [if_neg (c := kt_ty T 1 = 0) q, decide_eq_false q]
        exact ma_T rfl (ma_ret ⟨rfl, post ψ f3 h03⟩)
  · obtain ⟨h1, h2, h3, h4, h5, h6⟩ := id H
    have htp : km_tp T σ := by rw [hTe]; exact kt_ofM hW H
    have post : ∀ (τ : ae_S), ma_fr (fun g _ k => ¬ (g = 30 ∧ 23 ≤ k ∧ k ≤ 31)) σ τ → mi_M (a.1, a.2.1, (0, (mi_t a).2), a.2.2.2) (ae_wI τ 30 0 20 0) ∧ ma_fr (fun g _ _ => g < 30) σ (ae_wI τ 30 0 20 0) := fun τ f0 => by
      have f : ma_fr (fun g _ k => ¬ (g = 30 ∧ (k = 20 ∨ 23 ≤ k ∧ k ≤ 31))) σ (ae_wI τ 30 0 20 0) := (f0.mo (fun g i k q => by omega)).tr (ma_fwI (by omega))
      exact ⟨⟨h1.fr f (by omega) (by omega) (fun _ _ => by omega) (fun _ _ => by omega) (fun _ _ => by omega), h2.fr f (by omega) (fun _ _ _ _ => by omega), ⟨ma_rI, fun k hk => by have hk : k < 0 := hk; omega⟩, h4.fr f (by omega) (fun _ => by omega), h5.fr f (by omega) (fun _ => by omega), h6.fr f (by omega) (by omega)⟩, f.mo (fun g i k q => by omega)⟩
    unfold F_X12_named F_X12_named_28 F_X12_named_45 F_X12_named_60
    refine ma_bd (km_start hT htp) (fun _ τ s => ma_be (km_nm hT s.1) ?_)
    have fin : ∀ z : Int32, ma_wp (ae_bd (F_X12_next τ) (fun (r5 : Unit) s6 => if (s6.1 30 0 25) = 0 then (ae_lt (ae_wI s6 30 0 20 (0 : Int32)) (fun s1 => if (1 : Int32) = 0 then (some ((-1 : Int32), s1)) else (some (z, s1)))) else (ae_lt (ae_wI s6 30 0 20 (0 : Int32)) (fun s1 => if (0 : Int32) = 0 then (some ((-1 : Int32), s1)) else (some (z, s1)))))) (fun x τ => x = (if kt_ty T 1 = 0 then z else -1) ∧ mi_M (a.1, a.2.1, (0, (mi_t a).2), a.2.2.2) τ ∧ ma_fr (fun g _ _ => g < 30) σ τ) := fun z => by
      refine ma_bd (km_adv hT s.1) (fun _ υ r => ?_)
      have hB := kt_tyB (T := T) (j := 1)
      have f : ma_fr (fun g _ k => ¬ (g = 30 ∧ 23 ≤ k ∧ k ≤ 31)) σ υ := s.2.2.2.tr (r.2.mo (fun g i k q => by unfold km_F; omega))
      refine ma_en (kt_ty T 1) 0 r.1.2.1 rfl (by omega) (by decide) (fun q => ma_lt (ma_F ma_01 (ma_ret ⟨?_, post υ f⟩))) (fun q => ma_lt (ma_T rfl (ma_ret ⟨?_, post υ f⟩)))
      · rw [if_pos q]
      · rw [if_neg q]
    cases hn : kt_nm T 0 with
    | false =>
      rw [if_neg (c := false = true) (by decide)]
      refine ma_T rfl (ma_mono (fin (-1)) (fun x τ q => ⟨?_, q.2⟩))
      rw [q.1, ite_self]
    | true =>
      rw [if_pos (c := true = true) rfl]
      have hn2 := of_decide_eq_true hn
      have hv : τ.2.1 30 0 28 = kt_wv T 0 := (s.1.2.2.2.2.1 hn2.1).1 hn2.2.1
      have hm : mv_M (mi_v a) τ := h2.fr s.2.2.2 (by omega) (fun _ _ _ _ => by omega)
      rw [hv, hm.1]
      exact ma_F (by decide) (ma_be (kv_place (f0 := 0) (vs := mi_v a) _ (by omega) hl (fun v w e => by rw [Nat.zero_add]; exact (hm.2 v w e).1)) (fin _)))
/-- faults, or what is read -/
abbrev kv_O (α : Type) : Type := (Int32 × Nat) ⊕ α
def kv_po {α : Type} (o : kv_O α) (A : Int32 → Nat → Prop) (B : α → Prop) : Prop := match o with
  | .inl e => A e.1 e.2
  | .inr x => B x
theorem kv_pol {α : Type} {A : Int32 → Nat → Prop} {B : α → Prop} {f : Int32} {p : Nat} (h : A f p) : kv_po (α := α) (.inl (f, p)) A B := h
theorem kv_por {α : Type} {A : Int32 → Nat → Prop} {B : α → Prop} {x : α} (h : B x) : kv_po (α := α) (.inr x) A B := h
def kv_bn {α β : Type} (o : kv_O α) (f : α → kv_O β) : kv_O β := match o with
  | .inl e => .inl e
  | .inr x => f x
def kv_row (T : kt_T) (sz k st j : Nat) : kv_O (Nat × Nat × Nat) :=
  if kt_wd T j 2 = true then
    if kt_nu T 3 (j + 1) = true then
      if 1 ≤ kt_nv T (j + 1) ∧ kt_nv T (j + 1) ≤ 64 then
        if kt_wd T (j + 2) 3 = true then
          if kt_nu T 3 (j + 3) = true then
            if 1 ≤ kt_nv T (j + 3) ∧ kt_nv T (j + 3) ≤ 64 then
              if st + (kt_nv T (j + 1) - 1) * kt_nv T (j + 3) + mv_by k ≤ sz then .inr (kt_nv T (j + 1), kt_nv T (j + 3), j + 4) else .inl (3, kt_s T (j + 3))
            else .inl (3, kt_s T (j + 3))
          else .inl (1, kt_s T (j + 3))
        else if st + (kt_nv T (j + 1) - 1) * mv_by k + mv_by k ≤ sz then .inr (kt_nv T (j + 1), mv_by k, j + 2) else .inl (3, kt_s T (j + 1))
      else .inl (3, kt_s T (j + 1))
    else .inl (1, kt_s T (j + 1))
  else .inr (1, mv_by k, j)
def kv_fix (fs : List mv_F) (x : Int64) : Int32 := my_fd (fun k => decide (fs[k]?.map (fun q => q.1) = some x)) fs.length 0
def kv_fld (T : kt_T) (k : Nat) (fs : List mv_F) (j : Nat) : kv_O (mv_F × Nat) :=
  if kt_nm T j = true then
    if kv_fix fs (kt_wv T j) = -1 then
      if fs.length = 8 then .inl (4, kt_s T j) else
      if kt_sg T (j + 1) 58 = true then
        if kt_nu T 3 (j + 2) = true then
          if kt_nv T (j + 2) < 8 * mv_by k then
            if kt_sg T (j + 3) 45 = true then
              if kt_nu T 3 (j + 4) = true then
                if kt_nv T (j + 4) < 8 * mv_by k ∧ kt_nv T (j + 2) ≤ kt_nv T (j + 4) ∧ kt_nv T (j + 4) - kt_nv T (j + 2) < 63 then .inr ((kt_wv T j, kt_nv T (j + 2), kt_nv T (j + 4)), j + 5) else .inl (3, kt_s T (j + 4))
              else .inl (1, kt_s T (j + 4))
            else .inl (1, kt_s T (j + 3))
          else .inl (3, kt_s T (j + 2))
        else .inl (1, kt_s T (j + 2))
      else .inl (1, kt_s T (j + 1))
    else .inl (2, kt_s T j)
  else .inl (1, kt_s T j)
def kv_flds (T : kt_T) (k : Nat) : Nat → List mv_F → Nat → kv_O (List mv_F × Nat)
  | 0, _, _ => .inl (0, 0)
  | n + 1, fs, j => kv_bn (kv_fld T k fs j) (fun x => if kt_sg T x.2 44 = true then kv_flds T k n (fs ++ [x.1]) (x.2 + 1) else if kt_sg T x.2 125 = true then .inr (fs ++ [x.1], x.2 + 1) else .inl (1, kt_s T x.2))
def kv_v4 (T : kt_T) (w : mv_V) (j : Nat) : kv_O (mv_V × Nat) := if kt_sg T j 59 = true then .inr (w, j + 1) else .inl (1, kt_s T j)
def kv_v3 (T : kt_T) (nm : Int64) (k : Nat) (bg : Bool) (st ct sd ac j : Nat) : kv_O (mv_V × Nat) :=
  if kt_sg T j 123 = true then
    if 7 ≤ k then .inl (4, kt_s T j) else kv_bn (kv_flds T k 9 [] (j + 1)) (fun x => kv_v4 T (nm, k, bg, st, ct, sd, ac, x.1) x.2)
  else kv_v4 T (nm, k, bg, st, ct, sd, ac, []) j
def kv_v2 (T : kt_T) (sz : Nat) (nm : Int64) (k : Nat) (bg : Bool) (j : Nat) : kv_O (mv_V × Nat) :=
  if kt_wd T j 1 = true then
    if kt_nu T 3 (j + 1) = true then
      if kt_nv T (j + 1) + mv_by k ≤ sz then kv_bn (kv_row T sz k (kt_nv T (j + 1)) (j + 2)) (fun x => kv_v3 T nm k bg (kt_nv T (j + 1)) x.1 x.2.1 (kt_ac T x.2.2) (if kt_ac T x.2.2 = 0 then x.2.2 else x.2.2 + 1))
      else .inl (3, kt_s T (j + 1))
    else .inl (1, kt_s T (j + 1))
  else .inl (1, kt_s T j)
def kv_view (T : kt_T) (sz : Nat) (vs : List mv_V) (j : Nat) : kv_O (mv_V × Nat) :=
  if kt_nm T j = true then
    if kv_ix vs (kt_wv T j) = -1 then
      if vs.length = 16 then .inl (4, kt_s T j) else
      if kt_kd T (j + 1) = 9 then .inl (1, kt_s T (j + 1)) else kv_v2 T sz (kt_wv T j) (kt_kd T (j + 1)) (kt_wd T (j + 2) 0) (if kt_wd T (j + 2) 0 = true then j + 3 else j + 2)
    else .inl (2, kt_s T j)
  else .inl (1, kt_s T j)
def kv_all (T : kt_T) (sz : Nat) : Nat → List mv_V → Nat → kv_O (List mv_V)
  | 0, _, _ => .inl (0, 0)
  | n + 1, vs, j => if kt_ty T j = 0 then .inr vs else kv_bn (kv_view T sz vs j) (fun x => kv_all T sz n (vs ++ [x.1]) x.2)
