/-! sort -/
theorem my_rowsA {m : Nat → Int32} {w : mv_V} {f g : Nat → Int64} : ∀ k, (∀ i, i < k → mg_ag (mv_kd w) (f i) (g i)) → ml_rows m w f k = ml_rows m w g k
  | 0, _ => rfl
  | k + 1, h => by rw [ml_rows, ml_rows, my_rowsA k (fun i hi => h i (by omega)), mg_lay (h k (by omega))]
theorem my_sortC {α : Type} {gt : α → α → Bool} {key : α → Int64} {f : Nat → α} {bts : α → Int64} {sz : Nat} {w : mv_V} {j0 : Fin 32} {m : Nat → Int32} (hw : mv_W1 sz w) (hcmp : ∀ a b, lg_cmp (key a) (key b) ≤ 0 ↔ gt a b = false)
    (hval : ∀ τ i, i < mv_ct w → mv_C1 j0 w τ → ∃ y, F_X9_valueOf j0 (ml_bits m w i) τ = some (y, τ) ∧ F_X9_orderOf j0 y τ = some (key (f i), τ))
    (hfin : ∀ τ a, mv_C1 j0 w τ → ∃ y z, F_X9_orderOf j0 (key a) τ = some (y, τ) ∧ F_X9_bitsOfValue j0 y (mv_bI (decide (7 ≤ mv_kd w))) τ = some (z, τ) ∧ mg_ag (mv_kd w) z (bts a))
    {σ : ae_S} (c : mv_C1 j0 w σ) (hr : ∀ j, j < mv_ct w → σ.2.1 27 0 j = ml_bits m w j) : ma_wp (F_X9_orderRow j0 σ) (fun _ υ => (∀ j, j < mv_ct w → mg_ag (mv_kd w) (υ.2.1 27 0 j) (bts (my_srt gt f (mv_ct w) j))) ∧ ma_fr (fun g _ _ => g ≠ 27) σ υ) := by
  have h2 := hw.2.2.1
  have cf : ∀ τ, ma_fr (fun g _ _ => g ≠ 27) σ τ → mv_C1 j0 w τ := fun τ h => c.fr h (fun _ => by decide) (fun _ => by decide) (fun _ => by decide) (fun _ => by decide)
  have last : ∀ n k : Nat, mv_ct w < k + n → k ≤ mv_ct w → ∀ τ : ae_S, ma_fr (fun g _ _ => g ≠ 27) σ τ → (∀ j, j < k → mg_ag (mv_kd w) (τ.2.1 27 0 j) (bts (my_srt gt f (mv_ct w) j))) → (∀ j, k ≤ j → j < mv_ct w → τ.2.1 27 0 j = key (my_srt gt f (mv_ct w) j)) → ma_wp (F_X9_orderRow_83 n j0 (nI k) τ) (fun _ υ => (∀ j, j < mv_ct w → mg_ag (mv_kd w) (υ.2.1 27 0 j) (bts (my_srt gt f (mv_ct w) j))) ∧ ma_fr (fun g _ _ => g ≠ 27) σ υ) := by
    intro n
    induction n with
    | zero => intro k a b; omega
    | succ n ih =>
      intro k hk1 hk2 τ hf ha hb
      have ct := cf τ hf
      unfold F_X9_orderRow_83 F_X9_orderRow_124
      refine ma_le _ k ct.2.2.2.2.1 rfl (by omega) (by omega) (fun q => ma_ret ⟨fun j hj => ha j (by omega), hf⟩) (fun q => ?_)
      obtain ⟨y, z, e1, e2, e3⟩ := hfin τ (my_srt gt f (mv_ct w) k) ct
      refine ma_F (nI_ge (b := 64) (by omega) (by decide)) (ma_gd (ma_ib k rfl (by omega) (by decide)) ?_)
      rw [nI_clamp (by omega), hb k (by omega) q]
      refine ma_be e1 (mv_kk ct.2.1 hw.1 ?_)
      rw [mv_kF _ hw.1]
      refine ma_be e2 (ma_gd (ma_ib k rfl (by omega) (by decide)) (ma_lt (ma_lt ?_)))
      rw [nI_1]
      refine ih (k + 1) (by omega) (by omega) _ (hf.tr (ma_fwL (fun q => q rfl))) (fun j hj => ?_) (fun j hj hj2 => ?_)
      · by_cases g : j = k
        · rw [g, ma_rL]; exact e3
        · rw [ma_rLn (fun q => g q.2.2)]; exact ha j (by omega)
      · rw [ma_rLn (fun q => by have := q.2.2; omega)]; exact hb j (by omega) hj2
  have main : ∀ n k : Nat, mv_ct w < k + n → k ≤ mv_ct w → ∀ τ : ae_S, ma_fr (fun g _ _ => g ≠ 27) σ τ → (∀ j, j < k → τ.2.1 27 0 j = key (my_srt gt f k j)) → (∀ j, k ≤ j → j < mv_ct w → τ.2.1 27 0 j = ml_bits m w j) → ma_wp (F_X9_orderRow_2 n j0 (nI k) τ) (fun _ υ => (∀ j, j < mv_ct w → mg_ag (mv_kd w) (υ.2.1 27 0 j) (bts (my_srt gt f (mv_ct w) j))) ∧ ma_fr (fun g _ _ => g ≠ 27) σ υ) := by
    intro n
    induction n with
    | zero => intro k a b; omega
    | succ n ih =>
      intro k hk1 hk2 τ hf ha hb
      have ct := cf τ hf
      unfold F_X9_orderRow_2 F_X9_orderRow_81
      refine ma_le _ k ct.2.2.2.2.1 rfl (by omega) (by omega) (fun q => ?_) (fun q => ?_)
      · rw [show k = mv_ct w by omega] at ha
        exact last ae_fu 0 (by rw [ae_fu]; omega) (by omega) τ hf (fun j hj => by omega) (fun j _ hj => ha j hj)
      · obtain ⟨y, e1, e2⟩ := hval τ k q ct
        refine ma_F (nI_ge (b := 64) (by omega) (by decide)) (ma_gd (ma_ib k rfl (by omega) (by decide)) ?_)
        rw [nI_clamp (by omega), hb k (by omega) q]
        refine ma_be e1 (ma_be e2 (ma_lt ?_))
        rw [show nI k - (1 : Int32) = iN ((k : Int) - 1) by rw [iN_nI, show (1 : Int32) = iN 1 from rfl, iN_sub]]
        refine my_insC hcmp (by omega) ae_fu k τ (my_srt gt f k) (by rw [ae_fu]; omega) (by omega) (fun j hj hne => ha j (by omega)) (fun υ h1 h3 h4 => ?_)
        exact ih (k + 1) (by omega) (by omega) υ (hf.tr h4) (fun j hj => h1 j (by omega)) (fun j hj hj2 => by rw [h3 j (by omega)]; exact hb j (by omega) hj2)
  unfold F_X9_orderRow
  exact main ae_fu 0 (by rw [ae_fu]; omega) (by omega) σ ma_fr.rf (fun j hj => by omega) (fun j _ hj => hr j hj)
theorem my_gtL (a b : Int64) : lg_cmp a b ≤ 0 ↔ decide (b.toInt < a.toInt) = false := by
  rw [lg_cmp_le, fa_le64, decide_eq_false_iff_not]; omega
/-- the model's end of a sort -/
theorem my_sortE {a : mi_A} {σ : ae_S} {v : Nat} {w : mv_V} {g : Nat → Int64} (hW : mi_W a) (H : mi_M a σ) (hv : v < 16) (e : (mi_v a)[v]? = some w) (hw : mv_W1 (mi_m a).1 w) (ac : mv_ac w = 0) {τ : ae_S} (h : mb_N (mi_m a).1 (mi_m a).2.1 (mi_m a).2.1 (mi_m a).2.2.2 τ) (hf : ma_fr (fun g _ _ => g ≠ 32 ∧ g ≠ 55 ∧ g ≠ 56) σ τ)
    (hb : ∀ j, j < mv_ct w → ∀ υ, mv_M1 v w υ → F_X12_bitsBy (nI v) (mv_bI (decide (7 ≤ mv_kd w))) (τ.2.1 55 0 j) (τ.2.2.1 56 0 j) υ = some (g j, υ)) : ma_wp (F_X12_sort_184 ae_fu (nI v) 0 τ) (fun x τ => x = 1 ∧ mi_M (mz_comV a (ml_rows (mi_m a).2.1 w g (mv_ct w)) (mi_v a)) τ ∧ ma_fr (fun g _ _ => g < 30) σ τ) := by
  have hs : (mi_m a).1 ≤ 256 := hW.1.2.1
  have h2 := hw.2.2.1
  have vt : mv_M (mi_v a) τ := H.2.1.fr hf (by decide) (fun _ _ _ _ => by omega)
  have ib : ae_ib (nI v) 32 = true := ma_ib v rfl (by omega) (by decide)
  have loop : ∀ n k : Nat, mv_ct w < k + n → k ≤ mv_ct w → ∀ ω : ae_S, ma_fr (fun g _ _ => g ≠ 31) τ ω → (∀ i, i < 256 → ω.1 31 0 i = ml_rows (mi_m a).2.1 w g k i) → ma_wp (F_X12_sort_184 n (nI v) (nI k) ω) (fun x τ => x = 1 ∧ mi_M (mz_comV a (ml_rows (mi_m a).2.1 w g (mv_ct w)) (mi_v a)) τ ∧ ma_fr (fun g _ _ => g < 30) σ τ) := by
    intro n
    induction n with
    | zero => intro k x y; omega
    | succ n ih =>
      intro k hk1 hk2 ω hfo hm
      have vo : mv_M (mi_v a) ω := vt.fr hfo (by decide) (fun _ _ _ _ => by omega)
      have co := vo.2 v w e
      unfold F_X12_sort_184
      rw [nI_clamp (show v < 2 ^ 31 by omega), nI_clamp (show k < 2 ^ 31 by omega)]
      refine ma_gd ib (ma_le _ k co.2.2.2.2.1 rfl (by omega) (by omega) (fun q => ?_) (fun q => ?_))
      · refine ma_bd (mz_endsV (vs := mi_v a) hW H ((hf.mo (fun g i k q => by omega)).tr (hfo.mo (fun g i k q => by omega))) (h.now hfo (fun i hi => ?_)) vo) (fun _ ψ c => ma_ret ⟨rfl, c⟩)
        have h := hm i hi
        rw [show k = mv_ct w by omega] at h
        exact h
      · refine ma_be (mg_isFl hv hw co) (ma_gd (ma_ib k rfl (by omega) (by decide)) (ma_gd (ma_ib k rfl (by omega) (by decide)) ?_))
        rw [hfo.l (by simp), hfo.d (by simp)]
        refine ma_be (hb k q ω co) (ma_bd (ml_writesM hs hv hw q co hm) (fun _ ψ r => ma_lt ?_))
        rw [nI_1]
        refine ih (k + 1) (by omega) (by omega) ψ (hfo.tr r.2) (fun i hi => ?_)
        rw [r.1 i hi, ml_rows]
        unfold ml_put
        rw [if_neg (by omega)]
  exact loop ae_fu 0 (by rw [ae_fu]; omega) (by omega) τ ma_fr.rf h.2.1
theorem mz_sort : zp_sort mi_I := fun v1 => mi_zp (fun a hW => by
  have hs : (mi_m a).1 ≤ 256 := hW.1.2.1
  have hl := hW.2.1.1
  refine mz_v (x := v1) (r0 := 0) hW (fun hx => ⟨fun p σ Hp => ?_, fun σ H => ?_⟩) (fun v w hx hv e hw => ?_)
  · unfold F_X11_sort F_X11_sort_34
    exact ma_be (mv_getN Hp hl hx) (ma_mn (ma_ret ⟨rfl, rfl⟩))
  · unfold F_X12_sort F_X12_sort_35
    exact ma_be (mv_isViewN H hl hx) (ma_T rfl (ma_ret ⟨rfl, rfl⟩))
  · subst hx
    have h2 := hw.2.2.1
    have h4 := hw.2.2.2.2.1
    have ha : mv_ac w < 4 := hw.2.2.2.2.2.2.1
    have hb8 := mv_byle _ hw.1
    have ib : ae_ib (nI v) 32 = true := ma_ib v rfl (by omega) (by decide)
    by_cases ok : mv_ac w = 0 ∧ mv_by (mv_kd w) ≤ mv_sd w
    · obtain ⟨ac, sd⟩ := ok
      obtain ⟨bts, hbts⟩ : ∃ bts : Nat → Int64, bts = (if 7 ≤ mv_kd w then (fun j => mg_bf (mv_kd w) (my_srt my_gtD (fun i => mg_fl (mv_kd w) (ml_bits (mi_m a).2.1 w i)) (mv_ct w) j)) else (fun j => mg_bw (mv_kd w) (my_srt (fun a b => decide (b.toInt < a.toInt)) (fun i => mg_wh (mv_kd w) (ml_bits (mi_m a).2.1 w i)) (mv_ct w) j))) := ⟨_, rfl⟩
      refine ⟨1, mz_comV a (ml_rows (mi_m a).2.1 w bts (mv_ct w)) (mi_v a), mz_comVW hW (fun k => ml_rows_by hW.1.2.2.2.1 _ k) (fun k hk => ml_rows_z hw hW.1.2.2.2.2.1 _ (Nat.le_refl _) k hk) hW.2.1, fun σ H => ?_, fun σ H => ?_⟩
      · obtain ⟨p, Hp⟩ := H.2.1
        have c := Hp.2.2.2.2 v w e
        unfold F_X11_sort
        refine ma_be (mv_getS Hp hl hv) (ma_ms (ma_T (by rw [c.2.2.2.2.2.2.1, ac]; rfl) (mv_kk c.2.1 hw.1 ?_)))
        rw [mv_kB _ hw.1, c.2.2.2.2.2.1]
        refine ma_T (nI_le sd (by omega)) (ma_bd (mb_begin H.1) (fun _ τ b => ?_))
        have ct : mv_C1 (mv_at p v) w τ := c.fr b.2 (fun _ => by decide) (fun _ => by decide) (fun _ => by decide) (fun _ => by decide)
        refine ma_bd (ml_bitsInto hs hw ct b.1.2.1) (fun _ υ q => ?_)
        have cu : mv_C1 (mv_at p v) w υ := ct.fr q.2 (fun _ => by decide) (fun _ => by decide) (fun _ => by decide) (fun _ => by decide)
        have key : ma_wp (F_X9_orderRow (mv_at p v) υ) (fun _ ψ => (∀ j, j < mv_ct w → mg_ag (mv_kd w) (ψ.2.1 27 0 j) (bts j)) ∧ ma_fr (fun g _ _ => g ≠ 27) υ ψ) := by
          by_cases h : 7 ≤ mv_kd w
          · rw [if_pos h] at hbts
            rw [hbts]
            refine my_sortC (α := UInt64) (gt := my_gtD) (key := fun d => my_od (ae_db d)) (f := fun i => mg_fl (mv_kd w) (ml_bits (mi_m a).2.1 w i)) (bts := mg_bf (mv_kd w)) (m := (mi_m a).2.1) hw (fun x y => ?_) (fun ψ i hi cc => ?_) (fun ψ d cc => ?_) cu q.1
            · unfold my_gtD
              exact my_gtL _ _
            · refine ⟨ae_db (mg_fl (mv_kd w) (ml_bits (mi_m a).2.1 w i)), ?_, ma_eq ?_⟩
              · rw [mg_valC hw cc (mg_bx hW hw i)]
                unfold mg_vl
                rw [if_pos h]
              · unfold F_X9_orderOf F_X9_orderOf_18
                refine mv_kk cc.2.1 hw.1 ?_
                rw [mv_kF _ hw.1, decide_eq_true h]
                exact ma_F (by decide) (ma_be (my_odF _ ψ) (ma_ret ⟨rfl, rfl⟩))
            · obtain ⟨z, hz, ag⟩ := mg_bfC (mg_Rdb d) hw cc
              refine ⟨ae_db d, z, ma_eq ?_, ma_eq ?_, ag⟩
              · unfold F_X9_orderOf F_X9_orderOf_18
                refine mv_kk cc.2.1 hw.1 ?_
                rw [mv_kF _ hw.1, decide_eq_true h]
                refine ma_F (by decide) (ma_be (my_odF _ ψ) (ma_ret ⟨?_, rfl⟩))
                exact my_odd _
              · unfold F_X9_bitsOfValue F_X9_bitsOfValue_17
                rw [decide_eq_true h]
                exact ma_F (by decide) (ma_be hz (ma_ret ⟨rfl, rfl⟩))
          · rw [if_neg h] at hbts
            rw [hbts]
            refine my_sortC (α := Int64) (gt := fun a b => decide (b.toInt < a.toInt)) (key := fun d => d) (f := fun i => mg_wh (mv_kd w) (ml_bits (mi_m a).2.1 w i)) (bts := mg_bw (mv_kd w)) (m := (mi_m a).2.1) hw (fun x y => my_gtL x y) (fun ψ i hi cc => ?_) (fun ψ d cc => ?_) cu q.1
            · refine ⟨mg_wh (mv_kd w) (ml_bits (mi_m a).2.1 w i), ?_, ma_eq ?_⟩
              · rw [mg_valC hw cc (mg_bx hW hw i)]
                unfold mg_vl
                rw [if_neg h]
              · unfold F_X9_orderOf F_X9_orderOf_18
                refine mv_kk cc.2.1 hw.1 ?_
                rw [mv_kF _ hw.1, decide_eq_false h]
                exact ma_T rfl (ma_ret ⟨rfl, rfl⟩)
            · obtain ⟨z, hz, ag⟩ := mg_bwC d hw cc
              refine ⟨d, z, ma_eq ?_, ma_eq ?_, ag⟩
              · unfold F_X9_orderOf F_X9_orderOf_18
                refine mv_kk cc.2.1 hw.1 ?_
                rw [mv_kF _ hw.1, decide_eq_false h]
                exact ma_T rfl (ma_ret ⟨rfl, rfl⟩)
              · unfold F_X9_bitsOfValue F_X9_bitsOfValue_17
                rw [decide_eq_false h]
                exact ma_T rfl (ma_be hz (ma_ret ⟨rfl, rfl⟩))
        refine ma_bd key (fun _ ψ s => ?_)
        have cp : mv_C1 (mv_at p v) w ψ := cu.fr s.2 (fun _ => by decide) (fun _ => by decide) (fun _ => by decide) (fun _ => by decide)
        have fu : ma_fr (fun g _ _ => g ≠ 27) τ ψ := q.2.tr s.2
        have hu : mb_C (mi_m a).1 (mi_m a).2.1 (mi_m a).2.1 (mi_m a).2.2.2 ψ := b.1.fr fu (fun _ _ => by decide) (fun _ _ => by decide)
        refine ma_bd (ml_layRow (n0 := 0) hs (by omega) hw cp hu.2.1) (fun _ ω r => ?_)
        refine ma_bd (mz_keepV (vs := mi_v a) (now' := ml_rows (mi_m a).2.1 w bts (mv_ct w)) hW H ((b.2.mo (fun g i k q => by omega)).tr ((fu.mo (fun g i k q => by omega)).tr (r.2.mo (fun g i k q => by omega)))) (hu.now r.2 (fun k hk => ?_)) (((H.2.1.fr b.2 (fun _ _ _ _ _ => by omega)).fr fu (fun _ _ _ _ _ => by omega)).fr r.2 (fun _ _ _ _ _ q => by omega))) (fun _ χ c => ma_ret ⟨rfl, c⟩)
        rw [r.1 k hk, my_rowsA _ (fun i hi => ?_)]
        rw [Nat.add_zero, Nat.mod_eq_of_lt hi]
        exact s.1 i hi
      · have c := H.2.1.2 v w e
        unfold F_X12_sort
        refine ma_be (mv_isViewS H.2.1 hl hv) (ma_F ma_01 (ma_gd ib ?_))
        rw [nI_clamp (show v < 2 ^ 31 by omega), c.2.2.2.2.2.2.1, c.2.1, c.2.2.2.2.2.1, ac]
        refine ma_T rfl (ma_gd ib (ma_gd ib (ma_be (mv_bytesOf hw.1 σ) (ma_T (nI_le sd (by omega)) (ma_bd (mb_begins hs H.1) (fun _ τ b => ?_))))))
        by_cases h : 7 ≤ mv_kd w
        · rw [if_pos h] at hbts
          have main : ∀ n k : Nat, mv_ct w < k + n → k ≤ mv_ct w → ∀ υ : ae_S, ma_fr (fun g _ _ => g ≠ 56) τ υ → (∀ j, j < k → υ.2.2.1 56 0 j = my_srt my_gtD (fun i => mg_fl (mv_kd w) (ml_bits (mi_m a).2.1 w i)) k j) → ma_wp (F_X12_sort_43 n (nI v) (nI k) υ) (fun x τ => x = 1 ∧ mi_M (mz_comV a (ml_rows (mi_m a).2.1 w bts (mv_ct w)) (mi_v a)) τ ∧ ma_fr (fun g _ _ => g < 30) σ τ) := by
            intro n
            induction n with
            | zero => intro k x y; omega
            | succ n ih =>
              intro k hk1 hk2 υ hf hr
              have hN : mb_N (mi_m a).1 (mi_m a).2.1 (mi_m a).2.1 (mi_m a).2.2.2 υ := b.1.fr hf (by decide) (by decide) (fun _ _ => by decide) (fun _ _ => by decide) (fun _ _ => by decide)
              have fu : ma_fr (fun g _ _ => g ≠ 32 ∧ g ≠ 55 ∧ g ≠ 56) σ υ := (b.2.mo (fun g i k q => q.1)).tr (hf.mo (fun g i k q => q.2.2))
              have cu : mv_M1 v w υ := c.fr fu (fun _ _ _ _ => by omega)
              unfold F_X12_sort_43
              rw [nI_clamp (show v < 2 ^ 31 by omega)]
              refine ma_gd ib (ma_le _ k cu.2.2.2.2.1 rfl (by omega) (by omega) (fun q => ?_) (fun q => ?_))
              · rw [show k = mv_ct w by omega] at hr
                refine my_sortE hW H (by omega) e hw ac hN fu (fun j hj ψ cc => ?_)
                rw [decide_eq_true h, hr j hj, hbts]
                exact mg_bfM _ _ (by omega) hw cc
              · refine ma_be (mg_isFl (by omega) hw cu) ?_
                rw [decide_eq_true h]
                refine ma_F (by decide) (ma_be (mg_flM hs (by omega) hw q cu hN.2.1) ?_)
                refine my_insD my_cmpD (by omega) ae_fu k υ (my_srt my_gtD (fun i => mg_fl (mv_kd w) (ml_bits (mi_m a).2.1 w i)) k) (by rw [ae_fu]; omega) (by omega) (fun j hj hne => hr j (by omega)) (fun ψ h1 h4 => ?_)
                exact ih (k + 1) (by omega) (by omega) ψ (hf.tr h4) (fun j hj => h1 j (by omega))
          exact main ae_fu 0 (by rw [ae_fu]; omega) (by omega) τ ma_fr.rf (fun j hj => by omega)
        · rw [if_neg h] at hbts
          have main : ∀ n k : Nat, mv_ct w < k + n → k ≤ mv_ct w → ∀ υ : ae_S, ma_fr (fun g _ _ => g ≠ 55) τ υ → (∀ j, j < k → υ.2.1 55 0 j = my_srt (fun a b => decide (b.toInt < a.toInt)) (fun i => mg_wh (mv_kd w) (ml_bits (mi_m a).2.1 w i)) k j) → ma_wp (F_X12_sort_43 n (nI v) (nI k) υ) (fun x τ => x = 1 ∧ mi_M (mz_comV a (ml_rows (mi_m a).2.1 w bts (mv_ct w)) (mi_v a)) τ ∧ ma_fr (fun g _ _ => g < 30) σ τ) := by
            intro n
            induction n with
            | zero => intro k x y; omega
            | succ n ih =>
              intro k hk1 hk2 υ hf hr
              have hN : mb_N (mi_m a).1 (mi_m a).2.1 (mi_m a).2.1 (mi_m a).2.2.2 υ := b.1.fr hf (by decide) (by decide) (fun _ _ => by decide) (fun _ _ => by decide) (fun _ _ => by decide)
              have fu : ma_fr (fun g _ _ => g ≠ 32 ∧ g ≠ 55 ∧ g ≠ 56) σ υ := (b.2.mo (fun g i k q => q.1)).tr (hf.mo (fun g i k q => q.2.1))
              have cu : mv_M1 v w υ := c.fr fu (fun _ _ _ _ => by omega)
              unfold F_X12_sort_43
              rw [nI_clamp (show v < 2 ^ 31 by omega)]
              refine ma_gd ib (ma_le _ k cu.2.2.2.2.1 rfl (by omega) (by omega) (fun q => ?_) (fun q => ?_))
              · rw [show k = mv_ct w by omega] at hr
                refine my_sortE hW H (by omega) e hw ac hN fu (fun j hj ψ cc => ?_)
                rw [decide_eq_false h, hr j hj, hbts]
                exact mg_bwM _ _ (by omega) hw cc
              · refine ma_be (mg_isFl (by omega) hw cu) ?_
                rw [decide_eq_false h]
                refine ma_T rfl (ma_be (mg_whM hs (by omega) hw q cu hN.2.1) ?_)
                refine my_insM (gt := fun a b => decide (b.toInt < a.toInt)) my_gtL (by omega) ae_fu k υ (my_srt (fun a b => decide (b.toInt < a.toInt)) (fun i => mg_wh (mv_kd w) (ml_bits (mi_m a).2.1 w i)) k) (by rw [ae_fu]; omega) (by omega) (fun j hj hne => hr j (by omega)) (fun ψ h1 h4 => ?_)
                exact ih (k + 1) (by omega) (by omega) ψ (hf.tr h4) (fun j hj => h1 j (by omega))
          exact main ae_fu 0 (by rw [ae_fu]; omega) (by omega) τ ma_fr.rf (fun j hj => by omega)
    · refine ⟨0, a, hW, mi_c1 (fun σ H => ?_), mi_d1 (fun σ H => ?_)⟩
      · obtain ⟨p, Hp⟩ := H.2.1
        have c := Hp.2.2.2.2 v w e
        unfold F_X11_sort F_X11_sort_34
        refine ma_be (mv_getS Hp hl hv) (ma_ms (ma_en (mv_ac w) 0 c.2.2.2.2.2.2.1 rfl (by omega) (by decide) (fun q1 => mv_kk c.2.1 hw.1 ?_) (fun _ => ma_ret ⟨rfl, rfl⟩)))
        rw [mv_kB _ hw.1]
        exact ma_le _ _ rfl c.2.2.2.2.2.1 (by omega) (by omega) (fun q2 => absurd ⟨q1, q2⟩ ok) (fun _ => ma_ret ⟨rfl, rfl⟩)
      · have c := H.2.1.2 v w e
        unfold F_X12_sort F_X12_sort_35
        refine ma_be (mv_isViewS H.2.1 hl hv) (ma_F ma_01 (ma_gd ib ?_))
        rw [nI_clamp (show v < 2 ^ 31 by omega)]
        refine ma_en (mv_ac w) 0 c.2.2.2.2.2.2.1 rfl (by omega) (by decide) (fun q1 => ma_gd ib (ma_gd ib ?_)) (fun _ => ma_ret ⟨rfl, rfl⟩)
        rw [c.2.1]
        exact ma_be (mv_bytesOf hw.1 σ) (ma_le _ _ rfl c.2.2.2.2.2.1 (by omega) (by omega) (fun q2 => absurd ⟨q1, q2⟩ ok) (fun _ => ma_ret ⟨rfl, rfl⟩)))
