/-! seen, look -/
def mv_sn (now ahead : Nat → Int32) (w : mv_V) (i : Nat) : Bool := (List.range (mv_by (mv_kd w))).any fun k => decide (¬ now (mv_of w i + k) = ahead (mv_of w i + k))
theorem mv_snT {now ahead : Nat → Int32} {w : mv_V} {i : Nat} : mv_sn now ahead w i = true ↔ ∃ k, k < mv_by (mv_kd w) ∧ ¬ now (mv_of w i + k) = ahead (mv_of w i + k) := by
  unfold mv_sn
  rw [List.any_eq_true]
  exact ⟨fun ⟨i, h1, h2⟩ => ⟨i, List.mem_range.mp h1, of_decide_eq_true h2⟩, fun ⟨i, h1, h2⟩ => ⟨i, List.mem_range.mpr h1, decide_eq_true h2⟩⟩
theorem mv_snF {now ahead : Nat → Int32} {w : mv_V} {i : Nat} (h : ∀ k, k < mv_by (mv_kd w) → now (mv_of w i + k) = ahead (mv_of w i + k)) : mv_sn now ahead w i = false := by
  cases hc : mv_sn now ahead w i with
  | false => rfl
  | true =>
    obtain ⟨k, h1, h2⟩ := mv_snT.mp hc
    exact absurd (h k h1) h2
theorem mv_off {j : Fin 32} {w : mv_V} {σ : ae_S} (c : mv_C1 j w σ) (i : Nat) : σ.1 8 j 6 + nI i * σ.1 8 j 8 = nI (mv_of w i) := by
  rw [c.2.2.2.1, c.2.2.2.2.2.1, pk_mul, nI_add]; rfl
theorem mv_differsAt {sz i : Nat} {now ahead : Nat → Int32} {h : List (Nat → Int32)} {w : mv_V} {j : Fin 32} {σ : ae_S} (hs : sz ≤ 256) (hw : mv_W1 sz w) (hi : i < mv_ct w) (c : mv_C1 j w σ) (H : mb_C sz now ahead h σ) : F_X9_differsAt j (nI i) σ = some (mv_bI (mv_sn now ahead w i), σ) := by
  have b := mv_byle _ hw.1
  have ho := mv_ofle hw hi
  have loop : ∀ n k : Nat, mv_by (mv_kd w) < k + n → k ≤ mv_by (mv_kd w) → (∀ m, m < k → now (mv_of w i + m) = ahead (mv_of w i + m)) → ma_wp (F_X9_differsAt_2 n j (nI i) (nI k) σ) (fun r τ => r = mv_bI (mv_sn now ahead w i) ∧ τ = σ) := by
    intro n
    induction n with
    | zero => intro k a b; omega
    | succ n ih =>
      intro k hk1 hk2 hf
      unfold F_X9_differsAt_2
      refine mv_kk c.2.1 hw.1 (ma_le _ k (mv_kB _ hw.1) rfl (by omega) (by omega) (fun q => ma_ret ⟨?_, rfl⟩) (fun q => ?_))
      · rw [mv_snF (fun m hm => hf m (by omega))]; rfl
      · rw [mv_off c, nI_add]
        refine ma_be (mb_differs (by omega)) ?_
        rw [H.2.1 _ (by omega), H.2.2.1 _ (by omega)]
        by_cases e : now (mv_of w i + k) = ahead (mv_of w i + k)
        · rw [if_pos e]
          refine ma_T rfl (ma_lt ?_)
          rw [nI_1]
          refine ih (k + 1) (by omega) (by omega) (fun m hm => ?_)
          by_cases e2 : m = k
          · rw [e2]; exact e
          · exact hf m (by omega)
        · rw [if_neg e]
          refine ma_F ma_01 (ma_ret ⟨?_, rfl⟩)
          rw [mv_snT.mpr ⟨k, q, e⟩]; rfl
  exact ma_eq (loop ae_fu 0 (by rw [ae_fu]; omega) (by omega) (fun m hm => by omega))
theorem mv_isSeen {sz v i : Nat} {now ahead : Nat → Int32} {h : List (Nat → Int32)} {w : mv_V} {σ : ae_S} (hs : sz ≤ 256) (hv : v < 16) (hw : mv_W1 sz w) (hi : i < mv_ct w) (c : mv_M1 v w σ) (H : mb_M sz now ahead h σ) : F_X12_isSeen (nI v) (nI i) σ = some (mv_bI (mv_sn now ahead w i), σ) := by
  have b := mv_byle _ hw.1
  have ho := mv_ofle hw hi
  have loop : ∀ n k : Nat, sz < k + n → k ≤ sz → (∀ m, m < k → mv_on w i m = true → now m = ahead m) → ma_wp (F_X12_isSeen_2 n (nI v) (nI i) (nI k) σ) (fun r τ => r = mv_bI (mv_sn now ahead w i) ∧ τ = σ) := by
    intro n
    induction n with
    | zero => intro k a b; omega
    | succ n ih =>
      intro k hk1 hk2 hf
      unfold F_X12_isSeen_2 F_X12_isSeen_31
      refine ma_le _ k H.1 rfl (by omega) (by omega) (fun q => ma_ret ⟨?_, rfl⟩) (fun q => ma_gd (ma_ib k rfl (by omega) (by decide)) ?_)
      · rw [mv_snF (fun m hm => hf _ (by omega) (mv_onT.mpr (by omega)))]; rfl
      · rw [nI_clamp (by omega), H.2.2.1 k q]
        have nx : (mv_on w i k = true → now k = ahead k) → ma_wp (F_X12_isSeen_2 n (nI v) (nI i) (nI k + 1) σ) (fun r τ => r = mv_bI (mv_sn now ahead w i) ∧ τ = σ) := fun hh => by
          rw [nI_1]
          refine ih (k + 1) (by omega) (by omega) (fun m hm ho => ?_)
          by_cases e2 : m = k
          · rw [e2] at ho ⊢; exact hh ho
          · exact hf m (by omega) ho
        by_cases e : now k = ahead k
        · rw [if_pos e]
          exact ma_T rfl (ma_lt (nx (fun _ => e)))
        · rw [if_neg e]
          refine ma_F ma_01 (ma_be (mv_isOn hs hv (by omega) hw hi c) ?_)
          cases hb : mv_on w i k with
          | false => exact ma_T rfl (ma_lt (nx (fun q => by rw [hb] at q; cases q)))
          | true =>
            have h2 := mv_onT.mp hb
            refine ma_F ma_01 (ma_ret ⟨?_, rfl⟩)
            rw [mv_snT.mpr ⟨k - mv_of w i, by omega, by rw [show mv_of w i + (k - mv_of w i) = k by omega]; exact e⟩]; rfl
  exact ma_eq (loop ae_fu 0 (by rw [ae_fu]; omega) (by omega) (fun m hm => by omega))
theorem mz_seen : zp_seen mi_I := fun v1 v2 => mi_zp (fun a hW => by
  have hs : (mi_m a).1 ≤ 256 := hW.1.2.1
  have hl := hW.2.1.1
  rcases mv_ix (mi_v a) v1 hl with hx | ⟨v, w, rfl, hv, e⟩
  · refine ⟨-1, a, hW, mi_c1 (fun σ H => ?_), mi_d1 (fun σ H => ?_)⟩
    · obtain ⟨p, Hp⟩ := H.2.1
      unfold F_X11_seen
      exact ma_be (mv_getN Hp hl hx) (ma_mn (ma_ret ⟨rfl, rfl⟩))
    · unfold F_X12_seen
      exact ma_be (mv_isViewN H.2.1 hl hx) (ma_T rfl (ma_ret ⟨rfl, rfl⟩))
  · have hw := hW.2.1.at e
    have hc2 := hw.2.2.1
    refine ⟨mz_nth (mv_sn (mi_m a).2.1 (mi_m a).2.2.1 w) v2 (mv_ct w) 0 0, a, hW, mi_c1 (fun σ H => ?_), mi_d1 (fun σ H => ?_)⟩
    · obtain ⟨p, Hp⟩ := H.2.1
      have c := Hp.2.2.2.2 v w e
      unfold F_X11_seen
      refine ma_be (mv_getS Hp hl hv) (ma_ms ?_)
      have loop : ∀ n k m : Nat, m < n → mv_ct w = k + m → ∀ c : Int32, ma_wp (F_X11_seen_21 n v2 (mv_at p v) c (nI k) σ) (fun x τ => x = mz_nth (mv_sn (mi_m a).2.1 (mi_m a).2.2.1 w) v2 m k c ∧ τ = σ) := by
        intro n
        induction n with
        | zero => intro k m h; omega
        | succ n ih =>
          intro k m hm hk x
          unfold F_X11_seen_21 F_X11_seen_72 F_X11_seen_55
          refine ma_le _ k c.2.2.2.2.1 rfl (by omega) (by omega) (fun q => ?_) (fun q => ?_)
          · obtain rfl : m = 0 := by omega
            rw [mz_nth]
            refine ma_if (fun e => ?_) (fun e => ?_)
            · rw [if_pos e]; exact ma_ret ⟨rfl, rfl⟩
            · rw [if_neg e]; exact ma_ret ⟨rfl, rfl⟩
          · obtain ⟨m, rfl⟩ : ∃ m', m = m' + 1 := ⟨m - 1, by omega⟩
            refine ma_be (mv_differsAt hs hw q c H.1) ?_
            cases hb : mv_sn (mi_m a).2.1 (mi_m a).2.2.1 w k with
            | false =>
              rw [mz_nthF hb]
              refine ma_T rfl (ma_lt ?_)
              rw [nI_1]
              exact ih (k + 1) m (by omega) (by omega) x
            | true =>
              rw [mz_nthT hb]
              refine ma_F ma_01 (ma_if (fun e2 => ?_) (fun e2 => ma_lt (ma_lt ?_)))
              · rw [if_pos e2]; exact ma_ret ⟨rfl, rfl⟩
              · rw [if_neg e2, nI_1]
                exact ih (k + 1) m (by omega) (by omega) (x + 1)
      exact loop ae_fu 0 (mv_ct w) (by rw [ae_fu]; omega) (by omega) 0
    · have c := H.2.1.2 v w e
      unfold F_X12_seen
      refine ma_be (mv_isViewS H.2.1 hl hv) (ma_F ma_01 ?_)
      have loop : ∀ n k m : Nat, m < n → mv_ct w = k + m → ∀ c : Int32, ma_wp (F_X12_seen_15 n (nI v) v2 c (nI k) σ) (fun x τ => x = mz_nth (mv_sn (mi_m a).2.1 (mi_m a).2.2.1 w) v2 m k c ∧ τ = σ) := by
        intro n
        induction n with
        | zero => intro k m h; omega
        | succ n ih =>
          intro k m hm hk x
          unfold F_X12_seen_15 F_X12_seen_66 F_X12_seen_50
          rw [nI_clamp (show v < 2 ^ 31 by omega)]
          refine ma_gd (ma_ib v rfl (by omega) (by decide)) (ma_le _ k c.2.2.2.2.1 rfl (by omega) (by omega) (fun q => ?_) (fun q => ?_))
          · obtain rfl : m = 0 := by omega
            rw [mz_nth]
            refine ma_if (fun e => ?_) (fun e => ?_)
            · rw [if_pos e]; exact ma_ret ⟨rfl, rfl⟩
            · rw [if_neg e]; exact ma_ret ⟨rfl, rfl⟩
          · obtain ⟨m, rfl⟩ : ∃ m', m = m' + 1 := ⟨m - 1, by omega⟩
            refine ma_be (mv_isSeen hs (by omega) hw q c H.1) ?_
            cases hb : mv_sn (mi_m a).2.1 (mi_m a).2.2.1 w k with
            | false =>
              rw [mz_nthF hb]
              refine ma_T rfl (ma_lt ?_)
              rw [nI_1]
              exact ih (k + 1) m (by omega) (by omega) x
            | true =>
              rw [mz_nthT hb]
              refine ma_F ma_01 (ma_if (fun e2 => ?_) (fun e2 => ma_lt (ma_lt ?_)))
              · rw [if_pos e2]; exact ma_ret ⟨rfl, rfl⟩
              · rw [if_neg e2, nI_1]
                exact ih (k + 1) m (by omega) (by omega) (x + 1)
      exact loop ae_fu 0 (mv_ct w) (by rw [ae_fu]; omega) (by omega) 0)
def mv_no (vs : List mv_V) (k : Nat) : Bool := vs.all fun w => !mv_cv w k
theorem mv_noT {vs : List mv_V} {k : Nat} : mv_no vs k = true ↔ ∀ v w, v < vs.length → vs[v]? = some w → mv_cv w k = false := by
  unfold mv_no
  rw [List.all_eq_true]
  constructor
  · intro h v w _ e
    have := h w (List.mem_of_getElem? e)
    simpa using this
  · intro h w hw
    obtain ⟨v, hv, e⟩ := List.getElem_of_mem hw
    have := h v w hv (by rw [List.getElem?_eq_getElem hv, e])
    rw [this]; rfl
def mz_lk (a : mi_A) (x : Int32) : Int32 := if x = 0 then nI (mi_m a).1 else if x = 1 then nI (mi_v a).length else if x = 2 then nI (fb_ct (fun k => decide (¬ (mi_m a).2.1 k = 0)) (mi_m a).1) else if x = 3 then nI (mi_m a).2.2.2.length else if x = 4 then nI (mi_t a).1 else if x = 5 then nI (fb_ct (mv_no (mi_v a)) (mi_m a).1) else if x = 6 then mb_sum (mi_m a).2.1 (mi_m a).1 else -1
theorem mz_look : zp_look mi_I := fun v1 => mi_zp (fun a hW => by
  have hs : (mi_m a).1 ≤ 256 := hW.1.2.1
  have hl := hW.2.1.1
  refine ⟨mz_lk a v1, a, hW, mi_c1 (fun σ H => ?_), mi_d1 (fun σ H => ?_)⟩
  · obtain ⟨p, Hp⟩ := H.2.1
    obtain ⟨h1, h2, h3, o, ho, h4, h5, h6⟩ := H.1
    have un : F_X11_uncovered σ = some (nI (fb_ct (mv_no (mi_v a)) (mi_m a).1), σ) := by
      have loop : ∀ n k : Nat, (mi_m a).1 < k + n → k ≤ (mi_m a).1 → ma_wp (F_X11_uncovered_4 n (nI (fb_ct (mv_no (mi_v a)) k)) (nI k) σ) (fun r τ => r = nI (fb_ct (mv_no (mi_v a)) (mi_m a).1) ∧ τ = σ) := by
        intro n
        induction n with
        | zero => intro v a b; omega
        | succ n ih =>
          intro k b c
          unfold F_X11_uncovered_4 F_X11_uncovered_29 F_X0_size
          refine ma_be rfl (ma_le _ k h1 rfl (by omega) (by omega) (fun q => ma_ret ⟨by rw [show k = (mi_m a).1 by omega], rfl⟩) (fun q => ?_))
          refine ma_be (mv_covering hs (by omega) hW.2.1 Hp) ?_
          have i1 := ih (k + 1) (by omega) (by omega)
          have z := mv_hr0 (vs := mi_v a) (k := k) (mi_v a).length (Nat.le_refl _) hl
          refine ma_if (fun q2 => ma_lt (ma_lt ?_)) (fun q2 => ma_lt ?_)
          · rw [mz_ctS, mv_noT.mpr (z.mp q2)] at i1
            rw [nI_1 k]; exact i1
          · rw [mz_ctS, show mv_no (mi_v a) k = false by
              cases hc : mv_no (mi_v a) k with
              | false => rfl
              | true => exact absurd (z.mpr (mv_noT.mp hc)) q2, show mv_bI false = nI 0 from rfl, nI_add, Nat.add_zero] at i1
            rw [nI_1]; exact i1
      exact ma_eq (loop ae_fu 0 (by rw [ae_fu]; omega) (by omega))
    unfold F_X11_look mz_lk F_X0_size F_X6_count F_X0_historyCount F_X7_length
    refine ma_if (fun h => ?_) (fun h => ?_)
    · rw [if_pos h]; exact ma_be rfl (ma_ret ⟨h1, rfl⟩)
    rw [if_neg h]
    refine ma_if (fun h => ?_) (fun h => ?_)
    · rw [if_pos h]; exact ma_be rfl (ma_ret ⟨Hp.2.2.2.1, rfl⟩)
    rw [if_neg h]
    refine ma_if (fun h => ?_) (fun h => ?_)
    · rw [if_pos h]
      refine ma_be (mb_countSet hs h1) (ma_ret ⟨?_, rfl⟩)
      rw [fb_ct_cong (q := fun k => decide (¬ (mi_m a).2.1 k = 0)) (fun k hk => by rw [h2 k (by omega)])]
    rw [if_neg h]
    refine ma_if (fun h => ?_) (fun h => ?_)
    · rw [if_pos h]; exact ma_be rfl (ma_ret ⟨h5, rfl⟩)
    rw [if_neg h]
    refine ma_if (fun h => ?_) (fun h => ?_)
    · rw [if_pos h]; exact ma_bd (ma_gd (by decide) (ma_ret (Q := fun x τ => x = nI (mi_t a).1 ∧ τ = σ) ⟨H.2.2.1.1, rfl⟩)) (fun r τ q => ma_ret q)
    rw [if_neg h]
    refine ma_if (fun h => ?_) (fun h => ?_)
    · rw [if_pos h]; exact ma_be un (ma_ret ⟨rfl, rfl⟩)
    rw [if_neg h]
    refine ma_if (fun h => ?_) (fun h => ?_)
    · rw [if_pos h]
      refine ma_be (mb_total hs h1) (ma_ret ⟨mb_sum_cong (fun k hk => h2 k (by omega)), rfl⟩)
    rw [if_neg h]
    exact ma_ret ⟨rfl, rfl⟩
  · obtain ⟨h1, h2, h3, h4, h5⟩ := H.1
    have loop : ∀ n k : Nat, (mi_m a).1 < k + n → k ≤ (mi_m a).1 → ma_wp (F_X12_look_10 n v1 (nI (fb_ct (fun k => decide (¬ (mi_m a).2.1 k = 0)) k)) (nI (fb_ct (mv_no (mi_v a)) k)) (mb_sum (mi_m a).2.1 k) (nI k) σ) (fun r τ => r = mz_lk a v1 ∧ τ = σ) := by
      intro n
      induction n with
      | zero => intro v a b; omega
      | succ n ih =>
        intro k b c
        unfold F_X12_look_10 F_X12_look_35
        refine ma_le _ k h1 rfl (by omega) (by omega) (fun q => ?_) (fun q => ?_)
        · obtain rfl : k = (mi_m a).1 := by omega
          unfold mz_lk
          refine ma_if (fun h => ?_) (fun h => ?_)
          · rw [if_pos h]; exact ma_ret ⟨h1, rfl⟩
          rw [if_neg h]
          refine ma_if (fun h => ?_) (fun h => ?_)
          · rw [if_pos h]; exact ma_ret ⟨H.2.1.1, rfl⟩
          rw [if_neg h]
          refine ma_if (fun h => ?_) (fun h => ?_)
          · rw [if_pos h]; exact ma_ret ⟨rfl, rfl⟩
          rw [if_neg h]
          refine ma_if (fun h => ?_) (fun h => ?_)
          · rw [if_pos h]; exact ma_ret ⟨h4, rfl⟩
          rw [if_neg h]
          refine ma_if (fun h => ?_) (fun h => ?_)
          · rw [if_pos h]; exact ma_ret ⟨H.2.2.1.1, rfl⟩
          rw [if_neg h]
          refine ma_if (fun h => ?_) (fun h => ?_)
          · rw [if_pos h]; exact ma_ret ⟨rfl, rfl⟩
          rw [if_neg h]
          refine ma_if (fun h => ?_) (fun h => ?_)
          · rw [if_pos h]; exact ma_ret ⟨rfl, rfl⟩
          rw [if_neg h]
          exact ma_ret ⟨rfl, rfl⟩
        · rw [nI_clamp (by omega), h2 k (by omega)]
          have i1 := ih (k + 1) (by omega) (by omega)
          rw [mz_ctS, mz_ctS, mb_sum] at i1
          have inner : ∀ m v : Nat, (mi_v a).length < v + m → v ≤ (mi_v a).length → ∀ is : Bool, (is = false → ∀ u w, u < v → (mi_v a)[u]? = some w → mv_cv w k = false) → (is = true → ∃ u w, u < (mi_v a).length ∧ (mi_v a)[u]? = some w ∧ mv_cv w k = true) → ma_wp (F_X12_look_58 (F_X12_look_10 n) m v1 (nI (fb_ct (fun k => decide (¬ (mi_m a).2.1 k = 0)) k) + mv_bI (decide (¬ (mi_m a).2.1 k = 0))) (nI (fb_ct (mv_no (mi_v a)) k)) (mb_sum (mi_m a).2.1 k + (mi_m a).2.1 k) (nI k) (mv_bI is) (nI v) σ) (fun r τ => r = mz_lk a v1 ∧ τ = σ) := by
            intro m
            induction m with
            | zero => intro v a b; omega
            | succ m ih2 =>
              intro v hv1 hv2 is hf ht
              unfold F_X12_look_58
              have out : (is = false → v = (mi_v a).length) → ma_wp (F_X12_look_88 (F_X12_look_10 n) v1 (nI (fb_ct (fun k => decide (¬ (mi_m a).2.1 k = 0)) k) + mv_bI (decide (¬ (mi_m a).2.1 k = 0))) (nI (fb_ct (mv_no (mi_v a)) k)) (mb_sum (mi_m a).2.1 k + (mi_m a).2.1 k) (nI k) (mv_bI is) σ) (fun r τ => r = mz_lk a v1 ∧ τ = σ) := by
                intro hv3
                unfold F_X12_look_88 F_X12_look_99
                cases is with
                | false =>
                  refine ma_T rfl (ma_be (mz_one (b := true)) (ma_lt (ma_lt ?_)))
                  rw [mv_noT.mpr (fun u w hu eu => hf rfl u w (by rw [hv3 rfl]; exact hu) eu)] at i1
                  rw [nI_1]; exact i1
                | true =>
                  refine ma_F ma_01 (ma_be (mz_one (b := false)) (ma_lt (ma_lt ?_)))
                  rw [show mv_no (mi_v a) k = false by
                    cases hc : mv_no (mi_v a) k with
                    | false => rfl
                    | true =>
                      obtain ⟨u, w, hu, eu, cu⟩ := ht rfl
                      rw [mv_noT.mp hc u w hu eu] at cu
                      cases cu] at i1
                  rw [nI_1]; exact i1
              refine ma_le _ v H.2.1.1 rfl (by omega) (by omega) (fun q2 => out (fun _ => by omega)) (fun q2 => ?_)
              cases is with
              | true => exact ma_F ma_01 (out (fun q => by cases q))
              | false =>
                have e : (mi_v a)[v]? = some (mi_v a)[v] := List.getElem?_eq_getElem q2
                refine ma_T rfl (ma_be (mv_isUnder hs (by omega) (by omega) (hW.2.1.at e) (H.2.1.2 v _ e)) (ma_lt ?_))
                rw [nI_1]
                refine ih2 (v + 1) (by omega) (by omega) _ (fun hh u w hu eu => ?_) (fun hh => ⟨v, _, q2, e, hh⟩)
                by_cases e2 : u = v
                · subst e2
                  rw [e] at eu
                  cases eu
                  exact hh
                · exact hf rfl u w (by omega) eu
          have fin := inner ae_fu 0 (by rw [ae_fu]; omega) (by omega) false (fun _ u w hu => by omega) (fun q => by cases q)
          refine ma_gd (ma_ib k rfl (by omega) (by decide)) (ma_if (fun q2 => ?_) (fun q2 => ?_))
          · refine ma_be (mz_one (b := false)) (ma_lt (ma_gd (ma_ib k rfl (by omega) (by decide)) (ma_lt ?_)))
            rw [h2 k (by omega)]
            rw [decide_eq_false (fun q => q q2)] at fin
            exact fin
          · refine ma_be (mz_one (b := true)) (ma_lt (ma_gd (ma_ib k rfl (by omega) (by decide)) (ma_lt ?_)))
            rw [h2 k (by omega)]
            rw [decide_eq_true q2] at fin
            exact fin
    exact loop ae_fu 0 (by rw [ae_fu]; omega) (by omega))
