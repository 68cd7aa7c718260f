/-! here, over, seen, look -/
theorem mv_or0 (x : Int32) : x ||| 0 = x := b_ext (fun i _ => by rw [b_or, b_0, Bool.or_false])
theorem mv_sh0 : ∀ n, n < 16 → (0 : Int32) <<< (nI n &&& 31) = 0 := by decide +kernel
theorem mv_sh1 : ∀ n, n < 16 → ¬ (1 : Int32) <<< (nI n &&& 31) = 0 := by decide +kernel
theorem mv_orz {x y : Int32} (h : x ||| y = 0) : x = 0 ∧ y = 0 := by
  have k : ∀ i, bt x i = false ∧ bt y i = false := fun i => by
    have := congrArg (fun z => bt z i) h
    simp only [b_or, b_0, Bool.or_eq_false_iff] at this
    exact this
  exact ⟨b_ext (fun i _ => by rw [(k i).1, b_0]), b_ext (fun i _ => by rw [(k i).2, b_0])⟩
def mv_hr (vs : List mv_V) (k : Nat) : Nat → Int32
  | 0 => 0
  | n + 1 => match vs[n]? with
    | some w => mv_hr vs k n ||| (mv_bI (mv_cv w k) <<< (nI n &&& 31))
    | none => mv_hr vs k n
theorem mv_hrS {vs : List mv_V} {k n : Nat} {w : mv_V} (e : vs[n]? = some w) : mv_hr vs k (n + 1) = mv_hr vs k n ||| (mv_bI (mv_cv w k) <<< (nI n &&& 31)) := by
  rw [mv_hr, e]
theorem mv_hrF {vs : List mv_V} {k n : Nat} {w : mv_V} (hn : n < 16) (e : vs[n]? = some w) (c : mv_cv w k = false) : mv_hr vs k (n + 1) = mv_hr vs k n := by
  rw [mv_hrS e, c, show mv_bI false = 0 from rfl, mv_sh0 n hn, mv_or0]
theorem mv_hr0 {vs : List mv_V} {k : Nat} : ∀ n, n ≤ vs.length → vs.length ≤ 16 → (mv_hr vs k n = 0 ↔ ∀ v w, v < n → vs[v]? = some w → mv_cv w k = false)
  | 0, _, _ => ⟨fun _ v w h => by omega, fun _ => rfl⟩
  | n + 1, h, hl => by
    have e : vs[n]? = some vs[n] := List.getElem?_eq_getElem (by omega)
    have ih := mv_hr0 (k := k) n (by omega) hl
    constructor
    · intro h0 v w hv ev
      rw [mv_hrS e] at h0
      have h1 := mv_orz h0
      by_cases q : v = n
      · subst q
        rw [e] at ev
        cases ev
        cases hc : mv_cv vs[v] k with
        | false => rfl
        | true =>
          rw [hc] at h1
          exact absurd h1.2 (mv_sh1 v (by omega))
      · exact ih.mp h1.1 v w (by omega) ev
    · intro ha
      rw [mv_hrF (by omega) e (ha n _ (by omega) e)]
      exact ih.mpr (fun v w hv ev => ha v w (by omega) ev)
theorem mv_covering {p sz k : Nat} {vs : List mv_V} {σ : ae_S} (hs : sz ≤ 256) (hk : k < 256) (hW : mv_W sz vs) (H : mv_Cp p vs σ) : F_X6_covering (nI k) σ = some (mv_hr vs k vs.length, σ) := by
  have hl := hW.1
  obtain ⟨h1, h2, h3, h4, h5⟩ := id H
  have loop : ∀ n v : Nat, vs.length < v + n → v ≤ vs.length → ma_wp (F_X6_covering_4 n (nI k) (mv_hr vs k v) (nI v) σ) (fun r τ => r = mv_hr vs k vs.length ∧ τ = σ) := by
    intro n
    induction n with
    | zero => intro v a b; omega
    | succ n ih =>
      intro v a b
      unfold F_X6_covering_4 F_X6_covering_43 F_X6_covering_37
      refine ma_le _ v h4 rfl (by omega) (by omega) (fun q => ma_ret ⟨by rw [show v = vs.length by omega], rfl⟩) (fun q => ?_)
      have e : vs[v]? = some vs[v] := List.getElem?_eq_getElem q
      have hc := mv_covers (v := v) hs hk (hW.at e) (h5 v _ e)
      refine ma_F (nI_ge (b := 16) (by omega) (by decide)) (ma_mo h2 (ma_gd (ma_ib v rfl (by omega) (by decide)) (ma_gd ?_ ?_)))
      · have : p = 0 ∨ p = 1 := by omega
        rcases this with rfl | rfl <;> decide
      · rw [nI_clamp (by omega), mv_val (by omega)]
        refine ma_be hc ?_
        have i1 := ih (v + 1) (by omega) (by omega)
        cases hb : mv_cv vs[v] k with
        | false =>
          refine ma_T rfl (ma_lt ?_)
          rw [nI_1]
          rw [mv_hrF (by omega) e hb] at i1
          exact i1
        | true =>
          refine ma_F ma_01 (ma_lt (ma_lt ?_))
          rw [nI_1]
          rw [mv_hrS e, hb] at i1
          exact i1
  exact ma_eq (loop ae_fu 0 (by rw [ae_fu]; omega) (by omega))
theorem mz_one {b : Bool} {σ : ae_S} : F_X12_one (mv_bI b) σ = some (mv_bI b, σ) := by
  cases b <;> rfl
theorem mz_here : zp_here mi_I := fun v1 => mi_zp (fun a hW => by
  have hs : (mi_m a).1 ≤ 256 := hW.1.2.1
  have hl := hW.2.1.1
  by_cases q : 0 ≤ v1.toInt ∧ v1.toInt < (mi_m a).1
  · obtain ⟨k, hk, rfl⟩ := nI_of (x := v1) (by rw [fa_lt]; show ¬ v1.toInt < 0; omega)
    rw [nI_toInt hk] at q
    refine ⟨mv_hr (mi_v a) k (mi_v a).length, a, hW, mi_c1 (fun σ H => ?_), mi_d1 (fun σ H => ?_)⟩
    · obtain ⟨p, Hp⟩ := H.2.1
      unfold F_X11_here F_X11_here_23
      refine ma_be (mb_has (by omega) H.1.1) ?_
      rw [nI_toInt hk, if_pos q]
      exact ma_F ma_01 (ma_be (mv_covering hs (by omega) hW.2.1 Hp) (ma_ret ⟨rfl, rfl⟩))
    · unfold F_X12_here
      refine ma_be (ma_isInN (mi_m a).1 H.1.1 (by omega) σ) ?_
      rw [nI_toInt hk, if_pos q]
      refine ma_F ma_01 ?_
      have loop : ∀ n v : Nat, (mi_v a).length < v + n → v ≤ (mi_v a).length → ma_wp (F_X12_here_22 n (nI k) (mv_hr (mi_v a) k v) (nI v) σ) (fun r τ => r = mv_hr (mi_v a) k (mi_v a).length ∧ τ = σ) := by
        intro n
        induction n with
        | zero => intro v a b; omega
        | succ n ih =>
          intro v b c
          unfold F_X12_here_22
          refine ma_le _ v H.2.1.1 rfl (by omega) (by omega) (fun q => ma_ret ⟨by rw [show v = (mi_v a).length by omega], rfl⟩) (fun q2 => ?_)
          have e : (mi_v a)[v]? = some (mi_v a)[v] := List.getElem?_eq_getElem q2
          refine ma_be (mv_isUnder hs (by omega) (by omega) (hW.2.1.at e) (H.2.1.2 v _ e)) (ma_be mz_one (ma_lt (ma_lt ?_)))
          rw [nI_1, ← mv_hrS e]
          exact ih (v + 1) (by omega) (by omega)
      exact loop ae_fu 0 (by rw [ae_fu]; omega) (by omega)
  · refine ⟨-1, a, hW, mi_c1 (fun σ H => ?_), mi_d1 (fun σ H => ?_)⟩
    · unfold F_X11_here F_X11_here_23
      refine ma_be (mb_has (by omega) H.1.1) ?_
      rw [if_neg q]
      exact ma_T rfl (ma_ret ⟨rfl, rfl⟩)
    · unfold F_X12_here
      refine ma_be (ma_isInN (mi_m a).1 H.1.1 (by omega) σ) ?_
      rw [if_neg q]
      exact ma_T rfl (ma_ret ⟨rfl, rfl⟩))
theorem mz_ctS {p : Nat → Bool} {n : Nat} : nI (fb_ct p (n + 1)) = nI (fb_ct p n) + mv_bI (p n) := by
  rw [fb_ct_succ]
  cases h : p n with
  | true => rw [if_pos rfl, show mv_bI true = nI 1 from rfl, nI_add]
  | false => rw [if_neg (by decide), show mv_bI false = nI 0 from rfl, nI_add]
theorem mz_over : zp_over mi_I := fun v1 v2 => mi_zp (fun a hW => by
  have hs : (mi_m a).1 ≤ 256 := hW.1.2.1
  have hl := hW.2.1.1
  rcases mv_ix (mi_v a) v1 hl with hx | ⟨v, w, rfl, hv, e⟩
  · refine ⟨-1, a, hW, mi_c1 (fun σ H => ?_), mi_d1 (fun σ H => ?_)⟩
    · obtain ⟨p, Hp⟩ := H.2.1
      unfold F_X11_over F_X11_over_28
      refine ma_be (mv_getN Hp hl hx) ?_
      rcases mv_ix (mi_v a) v2 hl with hy | ⟨u, x, rfl, hu, f⟩
      · exact ma_be (mv_getN Hp hl hy) (ma_mn (ma_ret ⟨rfl, rfl⟩))
      · exact ma_be (mv_getS Hp hl hu) (ma_mn (ma_ret ⟨rfl, rfl⟩))
    · unfold F_X12_over F_X12_over_16
      exact ma_be (mv_isViewN H.2.1 hl hx) (ma_T rfl (ma_ret ⟨rfl, rfl⟩))
  · rcases mv_ix (mi_v a) v2 hl with hy | ⟨u, x, rfl, hu, f⟩
    · refine ⟨-1, a, hW, mi_c1 (fun σ H => ?_), mi_d1 (fun σ H => ?_)⟩
      · obtain ⟨p, Hp⟩ := H.2.1
        unfold F_X11_over F_X11_over_28
        exact ma_be (mv_getS Hp hl hv) (ma_be (mv_getN Hp hl hy) (ma_ms (ma_mn (ma_ret ⟨rfl, rfl⟩))))
      · unfold F_X12_over F_X12_over_16
        exact ma_be (mv_isViewS H.2.1 hl hv) (ma_F ma_01 (ma_be (mv_isViewN H.2.1 hl hy) (ma_T rfl (ma_ret ⟨rfl, rfl⟩))))
    · refine ⟨nI (fb_ct (fun k => mv_cv w k && mv_cv x k) (mi_m a).1), a, hW, mi_c1 (fun σ H => ?_), mi_d1 (fun σ H => ?_)⟩
      · obtain ⟨p, Hp⟩ := H.2.1
        unfold F_X11_over
        refine ma_be (mv_getS Hp hl hv) (ma_be (mv_getS Hp hl hu) (ma_ms (ma_ms ?_)))
        have loop : ∀ n k : Nat, (mi_m a).1 < k + n → k ≤ (mi_m a).1 → ma_wp (F_X11_over_36 n (mv_at p v) (mv_at p u) (nI (fb_ct (fun k => mv_cv w k && mv_cv x k) k)) (nI k) σ) (fun r τ => r = nI (fb_ct (fun k => mv_cv w k && mv_cv x k) (mi_m a).1) ∧ τ = σ) := by
          intro n
          induction n with
          | zero => intro v a b; omega
          | succ n ih =>
            intro k b c
            unfold F_X11_over_36 F_X11_over_70 F_X0_size
            refine ma_be rfl (ma_le _ k H.1.1 rfl (by omega) (by omega) (fun q => ma_ret ⟨by rw [show k = (mi_m a).1 by omega], rfl⟩) (fun q => ?_))
            refine ma_be (mv_covers (v := v) hs (by omega) (hW.2.1.at e) (Hp.2.2.2.2 v _ e)) ?_
            have i1 := ih (k + 1) (by omega) (by omega)
            rw [mz_ctS] at i1
            cases hb : mv_cv w k with
            | false =>
              refine ma_T rfl (ma_lt ?_)
              rw [hb, Bool.false_and, show mv_bI false = nI 0 from rfl, nI_add, Nat.add_zero] at i1
              rw [nI_1]; exact i1
            | true =>
              refine ma_F ma_01 (ma_be (mv_covers (v := u) hs (by omega) (hW.2.1.at f) (Hp.2.2.2.2 u _ f)) ?_)
              cases hc : mv_cv x k with
              | false =>
                refine ma_T rfl (ma_lt ?_)
                rw [hb, hc, Bool.and_false, show mv_bI false = nI 0 from rfl, nI_add, Nat.add_zero] at i1
                rw [nI_1]; exact i1
              | true =>
                refine ma_F ma_01 (ma_lt (ma_lt ?_))
                rw [hb, hc] at i1
                rw [nI_1 k]; exact i1
        exact loop ae_fu 0 (by rw [ae_fu]; omega) (by omega)
      · unfold F_X12_over
        refine ma_be (mv_isViewS H.2.1 hl hv) (ma_F ma_01 (ma_be (mv_isViewS H.2.1 hl hu) (ma_F ma_01 ?_)))
        have loop : ∀ n k : Nat, (mi_m a).1 < k + n → k ≤ (mi_m a).1 → ma_wp (F_X12_over_23 n (nI v) (nI u) (nI (fb_ct (fun k => mv_cv w k && mv_cv x k) k)) (nI k) σ) (fun r τ => r = nI (fb_ct (fun k => mv_cv w k && mv_cv x k) (mi_m a).1) ∧ τ = σ) := by
          intro n
          induction n with
          | zero => intro v a b; omega
          | succ n ih =>
            intro k b c
            unfold F_X12_over_23 F_X12_over_57 F_X12_over_58
            refine ma_le _ k H.1.1 rfl (by omega) (by omega) (fun q => ma_ret ⟨by rw [show k = (mi_m a).1 by omega], rfl⟩) (fun q => ?_)
            refine ma_be (mv_isUnder hs (by omega) (by omega) (hW.2.1.at e) (H.2.1.2 v _ e)) ?_
            have i1 := ih (k + 1) (by omega) (by omega)
            rw [mz_ctS] at i1
            cases hb : mv_cv w k with
            | false =>
              refine ma_T rfl (ma_be (mz_one (b := false)) (ma_lt (ma_lt ?_)))
              rw [hb] at i1
              rw [nI_1]; exact i1
            | true =>
              refine ma_F ma_01 (ma_be (mv_isUnder hs (by omega) (by omega) (hW.2.1.at f) (H.2.1.2 u _ f)) ?_)
              cases hc : mv_cv x k with
              | false =>
                refine ma_T rfl (ma_be (mz_one (b := false)) (ma_lt (ma_lt ?_)))
                rw [hb, hc] at i1
                rw [nI_1]; exact i1
              | true =>
                refine ma_F ma_01 (ma_be (mz_one (b := true)) (ma_lt (ma_lt ?_)))
                rw [hb, hc] at i1
                rw [nI_1]; exact i1
        exact loop ae_fu 0 (by rw [ae_fu]; omega) (by omega))
