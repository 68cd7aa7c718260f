/-! the reference looks a field up -/
section KN
variable {T : kt_T} {σ τ : ae_S} {j u v : Nat} {fs : List mv_F}
theorem my_fdA {p : Nat → Bool} : ∀ r i, i + r < 100 → my_fd p (r + 1) i = if my_fd p r i = -1 then (if p (i + r) = true then nI (i + r) else -1) else my_fd p r i := by
  have hne : ∀ i, i < 100 → nI i ≠ -1 := by decide
  intro r
  induction r with
  | zero => intro i hi; rfl
  | succ r ih =>
    intro i hi
    rw [my_fd]
    have e : my_fd p (r + 1) i = if p i = true then nI i else my_fd p r (i + 1) := rfl
    cases hp : p i with
    | true =>
      rw [e, hp, if_pos (c := true = true) rfl, if_pos (c := true = true) rfl, if_neg (hne i (by omega))]
    | false =>
      rw [e, hp, if_neg (c := false = true) (by decide), if_neg (c := false = true) (by decide), ih (i + 1) (by omega), show i + 1 + r = i + (r + 1) by omega]
theorem my_fdT {p : Nat → Bool} : ∀ r i, my_fd p r i = -1 ∨ ∃ k, i ≤ k ∧ k < i + r ∧ p k = true := by
  intro r
  induction r with
  | zero => intro i; exact .inl rfl
  | succ r ih =>
    intro i
    rw [my_fd]
    cases hp : p i with
    | true => exact .inr ⟨i, by omega, by omega, hp⟩
    | false =>
      rcases ih (i + 1) with h | ⟨k, h1, h2, h3⟩
      · exact .inl h
      · exact .inr ⟨k, by omega, by omega, h3⟩
theorem kn_fs {x : Int64} (g : GT_A) (hv : v < 16) (hu : u < 600) (h8 : fs.length ≤ 8) (hd : ∀ (i j : Nat) (p q : mv_F), fs[i]? = some p → fs[j]? = some q → p.1 = q.1 → i = j) {Q : Int32 → ae_S → Prop} : ∀ (m n i : Nat) (σ : ae_S), i + m = fs.length → m < n → kL v fs σ → σ.2.1 30 0 28 = x → σ.2.1 51 0 u = (my_fd (fun k => decide (fs[k]?.map (fun q => q.1) = some x)) i 0).toInt64 → (∀ φ, ma_fr (fun g _ k => ¬ (g = 51 ∧ k = u)) σ φ → φ.2.1 51 0 u = (kv_fix fs x).toInt64 → ma_wp (if (lg_cmp (φ.2.1 51 0 u) (-1 : Int64)) = 0 then (ae_bd (F_X12_fails (2 : Int32) (φ.1 30 0 26) φ) (fun (r15 : Int32) s16 => some ((-1 : Int32), s16))) else (ae_bd (F_X12_next φ) (fun (r11 : Unit) s12 => some (nI u, s12)))) Q) → ma_wp (F_X12_readPlace_130 g n (nI v) (nI u) (nI i) σ) Q := by
  have hib : ae_ib (nI v) 32 = true := ma_ib v rfl (by omega) (by decide)
  have hcl : (nI v).toNatClampNeg = v := nI_clamp (by omega)
  have hiu : ae_ib (nI u) 600 = true := ma_ib u rfl hu (by decide)
  have hcu : (nI u).toNatClampNeg = u := nI_clamp (by omega)
  intro m
  induction m with
  | zero =>
    intro n i σ hi hn c hx h51 hk
    obtain ⟨n, rfl⟩ : ∃ n2, n = n2 + 1 := ⟨n - 1, by omega⟩
    rw [F_X12_readPlace_130, hcl, hcu, c.1]
    refine ma_gd hib (ma_T (nI_le (by omega) (by omega)) (ma_gd hiu (hk σ ma_fr.rf ?_)))
    rw [h51, show i = fs.length by omega]
    rfl
  | succ m ih =>
    intro n i σ hi hn c hx h51 hk
    obtain ⟨n, rfl⟩ : ∃ n2, n = n2 + 1 := ⟨n - 1, by omega⟩
    have hif : i < fs.length := by omega
    have e : fs[i]? = some fs[i] := List.getElem?_eq_getElem hif
    have hp2 : decide (fs[i]?.map (fun q => q.1) = some x) = decide (fs[i].1 = x) := by
      rw [e]
      exact decide_eq_decide.mpr ⟨fun g => Option.some.inj g, fun g => congrArg some g⟩
    have hA := my_fdA (p := fun k => decide (fs[k]?.map (fun q => q.1) = some x)) i 0 (by omega)
    rw [Nat.zero_add] at hA
    rw [F_X12_readPlace_130, hcl, hcu, c.1, show (8 : Int32) = nI 8 from rfl, pk_mul, nI_add, nI_clamp (n := 8 * v + i) (by omega), (c.2 i fs[i] e).1, hx]
    refine ma_gd hib (ma_F (nI_ge (by omega) (by omega)) (ma_gd (ma_ib _ rfl (by omega) (by decide)) ?_))
    unfold F_X12_readPlace_170
    refine ma_if (fun q => ?_) (fun q => ma_lt ?_)
    · have hq := (lg_cmp_eq _ _).mp q
      have hno : my_fd (fun k => decide (fs[k]?.map (fun q => q.1) = some x)) i 0 = -1 := by
        rcases my_fdT (p := fun k => decide (fs[k]?.map (fun q => q.1) = some x)) i 0 with h | ⟨k, h1, h2, h3⟩
        · exact h
        · have hkf : k < fs.length := by omega
          have ek : fs[k]? = some fs[k] := List.getElem?_eq_getElem hkf
          have h4 := of_decide_eq_true h3
          rw [ek] at h4
          have h5 : fs[k].1 = x := Option.some.inj h4
          have := hd k i fs[k] fs[i] ek e (h5.trans hq.symm)
          omega
      rw [hno, if_pos rfl, hp2, decide_eq_true hq, if_pos rfl] at hA
      refine ma_gd hiu (ma_lt (ma_lt ?_))
      rw [nI_1]
      have f1 : ma_fr (fun g _ k => ¬ (g = 51 ∧ k = u)) σ (ae_wL σ 51 0 u (nI i).toInt64) := ma_fwL (by simp)
      exact ih n (i + 1) _ (by omega) (by omega) (c.fr f1 (by omega) (fun _ _ _ _ _ => by omega)) ((f1.l (by omega)).trans hx) (by rw [ma_rL, hA]) (fun φ f hφ => hk φ (f1.tr f) hφ)
    · rw [nI_1]
      have hq : ¬ fs[i].1 = x := fun w => q ((lg_cmp_eq _ _).mpr w)
      rw [hp2, decide_eq_false hq, if_neg (c := false = true) (by decide)] at hA
      refine ih n (i + 1) σ (by omega) (by omega) c hx ?_ hk
      rw [h51, hA]
      split
      · rename_i h; rw [h]
      · rfl
end KN
