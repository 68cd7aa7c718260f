/-! a node stands for steps -/
section KN
variable {T : kt_T} {σ τ : ae_S} {j u o X : Nat} {vs : List mv_V}
def kn_G (u : Nat) (g : Nat) (_ : Fin 32) (k : Nat) : Prop := ¬ (g = 30 ∧ (23 ≤ k ∧ k ≤ 31 ∨ k = 38 ∨ k = 39)) ∧ ¬ (47 ≤ g ∧ g ≤ 52 ∧ u ≤ k)
/-- a field of a view, or none -/
def kn_fv (vs : List mv_V) (v : Nat) (f : Int32) : Prop := f = -1 ∨ ∃ (k : Nat) (w : mv_V), f = nI k ∧ vs[v]? = some w ∧ k < (mv_fs w).length
def kn_sc (p : Int32) : Int32 := if p = 7 then 60 else if p = 8 then 62 else if p = 9 then 126 else if p = 10 then 43 else if p = 11 then 45 else if p = 12 then 42 else if p = 13 then 47 else 37
/-- node u stands for the steps c of an expression -/
def kn_E (vs : List mv_V) : Nat → Nat → ks_E → ae_S → Prop
  | 0, _, _, _ => False
  | n + 1, u, c, σ =>
    (σ.1 47 0 u = 0 ∧ c = [(1, σ.2.1 51 0 u, 0)]) ∨
    (σ.1 47 0 u = 1 ∧ c = [(2, ae_db (σ.2.2.1 52 0 u), 0)]) ∨
    (σ.1 47 0 u = 2 ∧ ∃ (v : Nat) (f : Int32), (v < vs.length ∧ kn_fv vs v f) ∧ σ.1 48 0 u = nI v ∧ σ.2.1 51 0 u = f.toInt64 ∧ ((σ.1 49 0 u = -1 ∧ c = [(1, 0, 0)] ++ [(4, (nI v).toInt64, f)]) ∨ ∃ (q : Nat) (e : ks_E), q < u ∧ σ.1 49 0 u = nI q ∧ kn_E vs n q e σ ∧ c = (e ++ [(3, (nI v).toInt64, 0)]) ++ [(4, (nI v).toInt64, f)])) ∨
    (σ.1 47 0 u = 3 ∧ ∃ (q : Nat) (e : ks_E), q < u ∧ σ.1 48 0 u = nI q ∧ kn_E vs n q e σ ∧ c = e ++ [(6, 0, 0)]) ∨
    (∃ e : ks_E, kn_E vs n u e σ ∧ c = e ++ [(6, 0, 0)] ++ [(6, 0, 0)]) ∨
    (∃ (p : Int32) (q r : Nat) (e f : ks_E), 1 ≤ ks_rk p ∧ ks_rk p ≤ 3 ∧ σ.1 47 0 u = kn_sc p ∧ q < u ∧ r < u ∧ σ.1 48 0 u = nI q ∧ σ.1 49 0 u = nI r ∧ kn_E vs n q e σ ∧ kn_E vs n r f σ ∧ c = e ++ f ++ [(p, 0, 0)])
theorem kn_E.fr : ∀ (n u u0 : Nat) (c : ks_E) (σ τ : ae_S), u < u0 → ma_fr (kn_G u0) σ τ → kn_E vs n u c σ → kn_E vs n u c τ := by
  intro n
  induction n with
  | zero => intro u u0 c σ τ _ _ h; exact h
  | succ n ih =>
    intro u u0 c σ τ hu f h
    have e47 : τ.1 47 0 u = σ.1 47 0 u := f.i (by unfold kn_G; omega)
    have e48 : τ.1 48 0 u = σ.1 48 0 u := f.i (by unfold kn_G; omega)
    have e49 : τ.1 49 0 u = σ.1 49 0 u := f.i (by unfold kn_G; omega)
    have e51 : τ.2.1 51 0 u = σ.2.1 51 0 u := f.l (by unfold kn_G; omega)
    have e52 : τ.2.2.1 52 0 u = σ.2.2.1 52 0 u := f.d (by unfold kn_G; omega)
    unfold kn_E at h ⊢
    rw [e47, e48, e49, e51, e52]
    rcases h with h | h | ⟨h0, v, x, h1, h2, h3, h4⟩ | ⟨h0, q, e, h1, h2, h3, h4⟩ | ⟨e, h1, h2⟩ | ⟨p, q, r, e, x, h1, h2, h3, h4, h5, h6, h7, h8, h9, h10⟩
    · exact .inl h
    · exact .inr (.inl h)
    · refine .inr (.inr (.inl ⟨h0, v, x, h1, h2, h3, ?_⟩))
      rcases h4 with h4 | ⟨q, e, k1, k2, k3, k4⟩
      · exact .inl h4
      · exact .inr ⟨q, e, k1, k2, ih q u0 e σ τ (by omega) f k3, k4⟩
    · exact .inr (.inr (.inr (.inl ⟨h0, q, e, h1, h2, ih q u0 e σ τ (by omega) f h3, h4⟩)))
    · exact .inr (.inr (.inr (.inr (.inl ⟨e, ih u u0 e σ τ hu f h1, h2⟩))))
    · exact .inr (.inr (.inr (.inr (.inr ⟨p, q, r, e, x, h1, h2, h3, h4, h5, h6, h7, ih q u0 e σ τ (by omega) f h8, ih r u0 x σ τ (by omega) f h9, h10⟩))))
theorem kn_E.mo : ∀ (n m u : Nat) (c : ks_E) (σ : ae_S), n ≤ m → kn_E vs n u c σ → kn_E vs m u c σ := by
  intro n
  induction n with
  | zero => intro m u c σ _ h; exact h.elim
  | succ n ih =>
    intro m u c σ hm h
    obtain ⟨m, rfl⟩ : ∃ k, m = k + 1 := ⟨m - 1, by omega⟩
    unfold kn_E at h ⊢
    rcases h with h | h | ⟨h0, v, x, h1, h2, h3, h4⟩ | ⟨h0, q, e, h1, h2, h3, h4⟩ | ⟨e, h1, h2⟩ | ⟨p, q, r, e, x, h1, h2, h3, h4, h5, h6, h7, h8, h9, h10⟩
    · exact .inl h
    · exact .inr (.inl h)
    · refine .inr (.inr (.inl ⟨h0, v, x, h1, h2, h3, ?_⟩))
      rcases h4 with h4 | ⟨q, e, k1, k2, k3, k4⟩
      · exact .inl h4
      · exact .inr ⟨q, e, k1, k2, ih m q e σ (by omega) k3, k4⟩
    · exact .inr (.inr (.inr (.inl ⟨h0, q, e, h1, h2, ih m q e σ (by omega) h3, h4⟩)))
    · exact .inr (.inr (.inr (.inr (.inl ⟨e, ih m u e σ (by omega) h1, h2⟩))))
    · exact .inr (.inr (.inr (.inr (.inr ⟨p, q, r, e, x, h1, h2, h3, h4, h5, h6, h7, ih m q e σ (by omega) h8, ih m r x σ (by omega) h9, h10⟩))))
end KN
