/-! fill, copy, find, sum -/
def my_it (g : (Nat → Int32) → Nat → (Nat → Int32)) (m : Nat → Int32) : Nat → (Nat → Int32)
  | 0 => m
  | k + 1 => g (my_it g m k) k
theorem my_itP {g : (Nat → Int32) → Nat → (Nat → Int32)} {m : Nat → Int32} {P : (Nat → Int32) → Prop} {N : Nat} (h0 : P m) (hg : ∀ m k, k < N → P m → P (g m k)) : ∀ k, k ≤ N → P (my_it g m k)
  | 0, _ => h0
  | k + 1, hk => hg _ k hk (my_itP h0 hg k (by omega))
/-- views by number, or a call that is refused -/
theorem mz_v {α : Type} {F G : ae_S → Option (α × ae_S)} {a : mi_A} {x : Int32} {r0 : α} (hW : mi_W a)
    (n1 : ¬ (0 ≤ x.toInt ∧ x.toInt < (mi_v a).length) → (∀ p σ, mv_Cp p (mi_v a) σ → ma_wp (F σ) (fun z τ => z = r0 ∧ τ = σ)) ∧ (∀ σ, mv_M (mi_v a) σ → ma_wp (G σ) (fun z τ => z = r0 ∧ τ = σ)))
    (k : ∀ v w, x = nI v → v < (mi_v a).length → (mi_v a)[v]? = some w → mv_W1 (mi_m a).1 w → ∃ r b, mi_W b ∧ mi_c F a r b ∧ mi_d G a r b) : ∃ r b, mi_W b ∧ mi_c F a r b ∧ mi_d G a r b := by
  rcases mv_ix (mi_v a) x hW.2.1.1 with hx | ⟨v, w, hx, hv, e⟩
  · exact ⟨r0, a, hW, mi_c1 (fun σ H => by obtain ⟨p, Hp⟩ := H.2.1; exact (n1 hx).1 p σ Hp), mi_d1 (fun σ H => (n1 hx).2 σ H.2.1)⟩
  · exact k v w hx hv e (hW.2.1.at e)
theorem mz_fill : zp_fill mi_I := fun v1 v2 => mi_zp (fun a hW => by
  have hs : (mi_m a).1 ≤ 256 := hW.1.2.1
  have hl := hW.2.1.1
  refine mz_v (x := v1) (r0 := -1) hW (fun hx => ⟨fun p σ Hp => ?_, fun σ H => ?_⟩) (fun v w hx hv e hw => ?_)
  · unfold F_X11_fill F_X11_fill_23
    exact ma_be (mv_getN Hp hl hx) (ma_mn (ma_ret ⟨rfl, rfl⟩))
  · unfold F_X12_fill
    exact ma_be (ml_canLayN H hl hx) (ma_T rfl (ma_ret ⟨rfl, rfl⟩))
  · subst hx
    have h2 := hw.2.2.1
    by_cases ro : mv_ac w = 1
    · refine ⟨-1, a, hW, mi_c1 (fun σ H => ?_), mi_d1 (fun σ H => ?_)⟩
      · obtain ⟨p, Hp⟩ := H.2.1
        unfold F_X11_fill F_X11_fill_23
        refine ma_be (mv_getS Hp hl hv) (ma_ms (ma_be (ml_isRO hw (Hp.2.2.2.2 v w e)) ?_))
        rw [if_pos ro]
        exact ma_F ma_01 (ma_ret ⟨rfl, rfl⟩)
      · unfold F_X12_fill
        refine ma_be (ml_canLay H.2.1 hl hv e hw) ?_
        rw [if_pos ro]
        exact ma_T rfl (ma_ret ⟨rfl, rfl⟩)
    · refine ⟨nI (mv_ct w), mz_com a (my_it (fun m k => ml_put m w k (mg_bw (mv_kd w) v2)) (mi_m a).2.1 (mv_ct w)), mz_comW hW (my_itP (P := fun m => ∀ j, mb_by (m j)) hW.1.2.2.2.1 (fun m k _ h => ml_put_by h) _ (Nat.le_refl _)) (my_itP (P := fun m => ∀ j, (mi_m a).1 ≤ j → m j = 0) hW.1.2.2.2.2.1 (fun m k hk h => ml_put_z hw hk h) _ (Nat.le_refl _)), fun σ H => ?_, fun σ H => ?_⟩
      · obtain ⟨p, Hp⟩ := H.2.1
        have c := Hp.2.2.2.2 v w e
        unfold F_X11_fill
        refine ma_be (mv_getS Hp hl hv) (ma_ms (ma_be (ml_isRO hw c) ?_))
        rw [if_neg ro]
        refine ma_T rfl (ma_bd (my_begC H) (fun _ τ0 b0 => ?_))
        have loop : ∀ n k : Nat, mv_ct w < k + n → k ≤ mv_ct w → ∀ τ : ae_S, my_C a σ (my_it (fun m k => ml_put m w k (mg_bw (mv_kd w) v2)) (mi_m a).2.1 k) τ → ma_wp (F_X11_fill_35 n v2 (mv_at p v) (nI k) τ) (fun x τ => x = nI (mv_ct w) ∧ mi_C (mz_com a (my_it (fun m k => ml_put m w k (mg_bw (mv_kd w) v2)) (mi_m a).2.1 (mv_ct w))) τ ∧ ma_fr (fun g _ _ => 30 ≤ g) σ τ) := by
          intro n
          induction n with
          | zero => intro k x y; omega
          | succ n ih =>
            intro k hk1 hk2 τ b
            have ct := my_C1 c b
            unfold F_X11_fill_35
            refine ma_le _ k ct.2.2.2.2.1 rfl (by omega) (by omega) (fun q => ?_) (fun q => ?_)
            · rw [show k = mv_ct w by omega] at b
              refine ma_bd (mb_keepC hs hW.1.2.2.1 b.1) (fun _ υ d => ma_ret ⟨?_, ?_⟩)
              · exact (d.2.i (by decide)).trans ct.2.2.2.2.1
              · exact ⟨mi_Cset H (b.2.tr d.2) d.1, (b.2.tr d.2).mo (fun g i k q => by omega)⟩
            · obtain ⟨y, hy, ag⟩ := mg_bwC v2 hw ct
              refine ma_be hy (ma_bd (my_putC hs hw q c b) (fun _ υ d => ma_lt ?_))
              rw [mg_put ag] at d
              rw [nI_1]
              exact ih (k + 1) (by omega) (by omega) υ d
        exact loop ae_fu 0 (by rw [ae_fu]; omega) (by omega) τ0 b0
      · have c := H.2.1.2 v w e
        unfold F_X12_fill
        refine ma_be (ml_canLay H.2.1 hl hv e hw) ?_
        rw [if_neg ro]
        refine ma_F ma_01 (ma_bd (my_begM hs H) (fun _ τ0 b0 => ?_))
        have ib : ae_ib (nI v) 32 = true := ma_ib v rfl (by omega) (by decide)
        have loop : ∀ n k : Nat, mv_ct w < k + n → k ≤ mv_ct w → ∀ τ : ae_S, my_M a σ (my_it (fun m k => ml_put m w k (mg_bw (mv_kd w) v2)) (mi_m a).2.1 k) τ → ma_wp (F_X12_fill_17 n (nI v) v2 (nI k) τ) (fun x τ => x = nI (mv_ct w) ∧ mi_M (mz_com a (my_it (fun m k => ml_put m w k (mg_bw (mv_kd w) v2)) (mi_m a).2.1 (mv_ct w))) τ ∧ ma_fr (fun g _ _ => g < 30) σ τ) := by
          intro n
          induction n with
          | zero => intro k x y; omega
          | succ n ih =>
            intro k hk1 hk2 τ b
            have ct := my_M1 c b
            unfold F_X12_fill_17
            rw [nI_clamp (show v < 2 ^ 31 by omega)]
            refine ma_gd ib (ma_le _ k ct.2.2.2.2.1 rfl (by omega) (by omega) (fun q => ?_) (fun q => ?_))
            · rw [show k = mv_ct w by omega] at b
              refine ma_bd (my_ends hW H b) (fun _ υ d => ma_gd ib (ma_ret ⟨?_, d⟩))
              exact (d.1.2.1.2 v w e).2.2.2.2.1
            · refine ma_be (mg_bwM v2 _ (by omega) hw ct) (ma_bd (my_wrM hs (by omega) hw q c b) (fun _ υ d => ma_lt ?_))
              rw [nI_1]
              exact ih (k + 1) (by omega) (by omega) υ d
        exact loop ae_fu 0 (by rw [ae_fu]; omega) (by omega) τ0 b0)
/-- what a value of one view becomes in another -/
def mg_cv (ks kt : Nat) (x : Int64) : Int64 := if 7 ≤ ks then mg_bf kt (mg_fl ks x) else mg_bw kt (mg_wh ks x)
theorem mg_cvC {sz : Nat} {ws wt : mv_V} {js jt : Fin 32} {σ : ae_S} {x : Int64} (hws : mv_W1 sz ws) (hwt : mv_W1 sz wt) (cs : mv_C1 js ws σ) (ct : mv_C1 jt wt σ) (hx : ∃ n, n < 2 ^ (8 * mv_by (mv_kd ws)) ∧ x = lN n) : ∃ y, F_X9_bitsOfValue jt (mg_vl (mv_kd ws) x) (mv_bI (decide (7 ≤ mv_kd ws))) σ = some (y, σ) ∧ mg_ag (mv_kd wt) y (mg_cv (mv_kd ws) (mv_kd wt) x) := by
  unfold mg_cv mg_vl
  by_cases h : 7 ≤ mv_kd ws
  · rw [decide_eq_true h, if_pos h, if_pos h]
    obtain ⟨y, hy, ag⟩ := mg_bfC (mg_Rdb (mg_fl (mv_kd ws) x)) hwt ct
    refine ⟨y, ma_eq ?_, ag⟩
    unfold F_X9_bitsOfValue F_X9_bitsOfValue_17
    exact ma_F (by decide) (ma_be hy (ma_ret ⟨rfl, rfl⟩))
  · rw [decide_eq_false h, if_neg h, if_neg h]
    obtain ⟨y, hy, ag⟩ := mg_bwC (mg_wh (mv_kd ws) x) hwt ct
    refine ⟨y, ma_eq ?_, ag⟩
    unfold F_X9_bitsOfValue F_X9_bitsOfValue_17
    exact ma_T rfl (ma_be hy (ma_ret ⟨rfl, rfl⟩))
theorem my_minI {x y : Nat} (hx : x < 2 ^ 31) (hy : y < 2 ^ 31) : (if nI y < nI x then nI y else nI x) = nI (min x y) := by
  by_cases h : y < x
  · rw [if_pos ((nI_ltI hy hx).mpr h), Nat.min_eq_right (by omega)]
  · rw [if_neg (fun q => h ((nI_ltI hy hx).mp q)), Nat.min_eq_left (by omega)]
theorem mz_copy : zp_copy mi_I := fun v1 v2 => mi_zp (fun a hW => by
  have hs : (mi_m a).1 ≤ 256 := hW.1.2.1
  have hl := hW.2.1.1
  refine mz_v (x := v1) (r0 := -1) hW (fun hx => ⟨fun p σ Hp => ?_, fun σ H => ?_⟩) (fun v w hx hv e hw => mz_v (x := v2) (r0 := -1) hW (fun hx2 => ⟨fun p σ Hp => ?_, fun σ H => ?_⟩) (fun u z hx2 hu e2 hz => ?_))
  · unfold F_X11_copy F_X11_copy_36
    refine ma_be (mv_getN Hp hl hx) ?_
    rcases mv_ix (mi_v a) v2 hl with hy | ⟨u, z, hy, hu, e2⟩
    · exact ma_be (mv_getN Hp hl hy) (ma_mn (ma_ret ⟨rfl, rfl⟩))
    · rw [hy]; exact ma_be (mv_getS Hp hl hu) (ma_mn (ma_ret ⟨rfl, rfl⟩))
  · unfold F_X12_copy F_X12_copy_26
    exact ma_be (mv_isViewN H hl hx) (ma_T rfl (ma_ret ⟨rfl, rfl⟩))
  · subst hx
    unfold F_X11_copy F_X11_copy_36
    exact ma_be (mv_getS Hp hl hv) (ma_be (mv_getN Hp hl hx2) (ma_ms (ma_mn (ma_ret ⟨rfl, rfl⟩))))
  · subst hx
    unfold F_X12_copy F_X12_copy_26
    exact ma_be (mv_isViewS H hl hv) (ma_F ma_01 (ma_be (mv_isViewN H hl hx2) (ma_T rfl (ma_ret ⟨rfl, rfl⟩))))
  · subst hx hx2
    have h2 := hw.2.2.1
    have h3 := hz.2.2.1
    have ha : mv_ac z < 4 := hz.2.2.2.2.2.2.1
    by_cases ro : mv_ac z = 1
    · refine ⟨-1, a, hW, mi_c1 (fun σ H => ?_), mi_d1 (fun σ H => ?_)⟩
      · obtain ⟨p, Hp⟩ := H.2.1
        unfold F_X11_copy F_X11_copy_36
        refine ma_be (mv_getS Hp hl hv) (ma_be (mv_getS Hp hl hu) (ma_ms (ma_ms (ma_be (ml_isRO hz (Hp.2.2.2.2 u z e2)) ?_))))
        rw [if_pos ro]
        exact ma_F ma_01 (ma_ret ⟨rfl, rfl⟩)
      · unfold F_X12_copy F_X12_copy_26
        refine ma_be (mv_isViewS H.2.1 hl hv) (ma_F ma_01 (ma_be (mv_isViewS H.2.1 hl hu) (ma_F ma_01 (ma_gd (ma_ib u rfl (by omega) (by decide)) ?_))))
        rw [nI_clamp (show u < 2 ^ 31 by omega)]
        exact ma_T (by rw [(H.2.1.2 u z e2).2.2.2.2.2.2.1, ro]; rfl) (ma_ret ⟨rfl, rfl⟩)
    · refine ⟨nI (min (mv_ct w) (mv_ct z)), mz_com a (my_it (fun m k => ml_put m z k (mg_cv (mv_kd w) (mv_kd z) (ml_bits m w k))) (mi_m a).2.1 (min (mv_ct w) (mv_ct z))), mz_comW hW (my_itP (N := mv_ct z) (P := fun m => ∀ j, mb_by (m j)) hW.1.2.2.2.1 (fun m k _ h => ml_put_by h) _ (Nat.min_le_right _ _)) (my_itP (N := mv_ct z) (P := fun m => ∀ j, (mi_m a).1 ≤ j → m j = 0) hW.1.2.2.2.2.1 (fun m k hk h => ml_put_z hz hk h) _ (Nat.min_le_right _ _)), fun σ H => ?_, fun σ H => ?_⟩
      · obtain ⟨p, Hp⟩ := H.2.1
        have c := Hp.2.2.2.2 v w e
        have d := Hp.2.2.2.2 u z e2
        unfold F_X11_copy
        refine ma_be (mv_getS Hp hl hv) (ma_be (mv_getS Hp hl hu) (ma_ms (ma_ms (ma_be (ml_isRO hz d) ?_))))
        rw [if_neg ro]
        refine ma_T rfl (ma_lt (ma_bd (my_begC H) (fun _ τ0 b0 => ?_)))
        rw [d.2.2.2.2.1, c.2.2.2.2.1, my_minI (by omega) (by omega)]
        have loop : ∀ n k : Nat, min (mv_ct w) (mv_ct z) < k + n → k ≤ min (mv_ct w) (mv_ct z) → ∀ τ : ae_S, my_C a σ (my_it (fun m k => ml_put m z k (mg_cv (mv_kd w) (mv_kd z) (ml_bits m w k))) (mi_m a).2.1 k) τ → ma_wp (F_X11_copy_62 n (mv_at p v) (mv_at p u) (nI (min (mv_ct w) (mv_ct z))) (nI k) τ) (fun x τ => x = nI (min (mv_ct w) (mv_ct z)) ∧ mi_C (mz_com a (my_it (fun m k => ml_put m z k (mg_cv (mv_kd w) (mv_kd z) (ml_bits m w k))) (mi_m a).2.1 (min (mv_ct w) (mv_ct z)))) τ ∧ ma_fr (fun g _ _ => 30 ≤ g) σ τ) := by
          intro n
          induction n with
          | zero => intro k x y; omega
          | succ n ih =>
            intro k hk1 hk2 τ b
            have cw := my_C1 c b
            have cz := my_C1 d b
            unfold F_X11_copy_62
            refine ma_le _ k rfl rfl (by omega) (by omega) (fun q => ?_) (fun q => ?_)
            · rw [show k = min (mv_ct w) (mv_ct z) by omega] at b
              exact ma_bd (my_keep hW H b) (fun _ υ r => ma_ret ⟨rfl, r⟩)
            · have hb : ∀ j, mb_by ((my_it (fun m k => ml_put m z k (mg_cv (mv_kd w) (mv_kd z) (ml_bits m w k))) (mi_m a).2.1 k) j) := my_itP (N := mv_ct z) (P := fun m => ∀ j, mb_by (m j)) hW.1.2.2.2.1 (fun m k _ h => ml_put_by h) _ (by omega)
              have hx := mg_bits hb w k (mv_byle _ hw.1).2
              refine ma_be (ml_bitsAt hs hw (by omega) cw b.1.2.1) (ma_be (mg_valC hw cw hx) (mv_kk cw.2.1 hw.1 ?_))
              rw [mv_kF _ hw.1]
              obtain ⟨y, hy, ag⟩ := mg_cvC hw hz cw cz hx
              refine ma_be hy (ma_bd (my_putC hs hz (by omega) d b) (fun _ υ r => ma_lt ?_))
              rw [mg_put ag] at r
              rw [nI_1]
              exact ih (k + 1) (by omega) (by omega) υ r
        exact loop ae_fu 0 (by rw [ae_fu]; omega) (by omega) τ0 b0
      · have c := H.2.1.2 v w e
        have d := H.2.1.2 u z e2
        have iv : ae_ib (nI v) 32 = true := ma_ib v rfl (by omega) (by decide)
        have iu : ae_ib (nI u) 32 = true := ma_ib u rfl (by omega) (by decide)
        unfold F_X12_copy
        refine ma_be (mv_isViewS H.2.1 hl hv) (ma_F ma_01 (ma_be (mv_isViewS H.2.1 hl hu) (ma_F ma_01 (ma_gd iu ?_))))
        rw [nI_clamp (show u < 2 ^ 31 by omega), nI_clamp (show v < 2 ^ 31 by omega)]
        refine ma_en (mv_ac z) 1 d.2.2.2.2.2.2.1 rfl (by omega) (by decide) (fun q => absurd q ro) (fun _ => ma_bd (my_begM hs H) (fun _ τ0 b0 => ma_gd iv (ma_gd iu (ma_lt ?_))))
        rw [(my_M1 d b0).2.2.2.2.1, (my_M1 c b0).2.2.2.2.1, my_minI (by omega) (by omega)]
        have loop : ∀ n k : Nat, min (mv_ct w) (mv_ct z) < k + n → k ≤ min (mv_ct w) (mv_ct z) → ∀ τ : ae_S, my_M a σ (my_it (fun m k => ml_put m z k (mg_cv (mv_kd w) (mv_kd z) (ml_bits m w k))) (mi_m a).2.1 k) τ → ma_wp (F_X12_copy_51 n (nI v) (nI u) (nI (min (mv_ct w) (mv_ct z))) (nI k) τ) (fun x τ => x = nI (min (mv_ct w) (mv_ct z)) ∧ mi_M (mz_com a (my_it (fun m k => ml_put m z k (mg_cv (mv_kd w) (mv_kd z) (ml_bits m w k))) (mi_m a).2.1 (min (mv_ct w) (mv_ct z)))) τ ∧ ma_fr (fun g _ _ => g < 30) σ τ) := by
          intro n
          induction n with
          | zero => intro k x y; omega
          | succ n ih =>
            intro k hk1 hk2 τ b
            have cw := my_M1 c b
            have cz := my_M1 d b
            unfold F_X12_copy_51 F_X12_copy_88 F_X12_copy_104
            refine ma_le _ k rfl rfl (by omega) (by omega) (fun q => ?_) (fun q => ?_)
            · rw [show k = min (mv_ct w) (mv_ct z) by omega] at b
              exact ma_bd (my_ends hW H b) (fun _ υ r => ma_ret ⟨rfl, r⟩)
            · refine ma_be (mg_isFl (by omega) hw cw) ?_
              have ih2 := ih (k + 1) (by omega) (by omega)
              rw [my_it] at ih2
              by_cases h : 7 ≤ mv_kd w
              · rw [decide_eq_true h]
                refine ma_F (by decide) (ma_F (by decide) (ma_be (mg_flM hs (by omega) hw (by omega) cw b.1.2.1) (ma_be (mg_bfM _ _ (by omega) hz cz) (ma_bd (my_wrM hs (by omega) hz (by omega) d b) (fun _ υ r => ma_lt ?_)))))
                rw [nI_1]
                refine ih2 υ ?_
                rw [show mg_cv (mv_kd w) (mv_kd z) (ml_bits (my_it (fun m k => ml_put m z k (mg_cv (mv_kd w) (mv_kd z) (ml_bits m w k))) (mi_m a).2.1 k) w k) = _ from if_pos h]
                exact r
              · rw [decide_eq_false h]
                refine ma_T rfl (ma_be (mg_whM hs (by omega) hw (by omega) cw b.1.2.1) (ma_T rfl (ma_be (mg_bwM _ _ (by omega) hz cz) (ma_bd (my_wrM hs (by omega) hz (by omega) d b) (fun _ υ r => ma_lt ?_)))))
                rw [nI_1]
                refine ih2 υ ?_
                rw [show mg_cv (mv_kd w) (mv_kd z) (ml_bits (my_it (fun m k => ml_put m z k (mg_cv (mv_kd w) (mv_kd z) (ml_bits m w k))) (mi_m a).2.1 k) w k) = _ from if_neg h]
                exact r
        exact loop ae_fu 0 (by rw [ae_fu]; omega) (by omega) τ0 b0)
def my_al (k : Nat) (x y : Int64) : Bool := if 7 ≤ k then decide (FP.dcmp (mg_fl k x) (FP.l2d y) = some .eq) else decide (mg_wh k x = y)
def my_fd (p : Nat → Bool) : Nat → Nat → Int32
  | 0, _ => -1
  | n + 1, k => if p k = true then nI k else my_fd p n (k + 1)
theorem my_cl0 (o : Option Ordering) : Op.cmpValue o CmpOp.l = 0 ↔ o = some .eq := by
  cases o with
  | none => decide
  | some x => cases x <;> decide
theorem my_alC {sz : Nat} {w : mv_V} {j : Fin 32} {σ : ae_S} {x : Int64} (y : Int64) (hw : mv_W1 sz w) (c : mv_C1 j w σ) (hx : ∃ n, n < 2 ^ (8 * mv_by (mv_kd w)) ∧ x = lN n) : F_X9_isAlike j x y σ = some (mv_bI (my_al (mv_kd w) x y), σ) := by
  refine ma_eq ?_
  unfold F_X9_isAlike F_X9_isAlike_41 my_al
  refine ma_be (mg_valC hw c hx) (mv_kk c.2.1 hw.1 ?_)
  rw [mv_kF _ hw.1]
  unfold mg_vl
  by_cases h : 7 ≤ mv_kd w
  · rw [decide_eq_true h, if_pos (c := 7 ≤ mv_kd w) h, if_pos (c := 7 ≤ mv_kd w) h]
    refine ma_F (by decide) (ma_be (mg_ofWhole y σ) (ma_be (mg_alike _ _ σ) ?_))
    by_cases q : FP.dcmp (mg_fl (mv_kd w) x) (FP.l2d y) = some .eq
    · rw [if_pos q, decide_eq_true q]; exact ma_gd ma_z1 (ma_ret ⟨rfl, rfl⟩)
    · rw [if_neg q, decide_eq_false q]; exact ma_gd ma_z0 (ma_ret ⟨rfl, rfl⟩)
  · rw [decide_eq_false h, if_neg (c := 7 ≤ mv_kd w) h, if_neg (c := 7 ≤ mv_kd w) h]
    refine ma_T rfl (ma_if (fun g => ?_) (fun g => ?_))
    · rw [decide_eq_true ((lg_cmp_eq _ _).mp g)]; exact ma_gd ma_z1 (ma_ret ⟨rfl, rfl⟩)
    · rw [decide_eq_false (fun q => g ((lg_cmp_eq _ _).mpr q))]; exact ma_gd ma_z0 (ma_ret ⟨rfl, rfl⟩)
theorem mz_find : zp_find mi_I := fun v1 v2 v3 => mi_zp (fun a hW => by
  have hs : (mi_m a).1 ≤ 256 := hW.1.2.1
  have hl := hW.2.1.1
  refine mz_v (x := v1) (r0 := -1) hW (fun hx => ⟨fun p σ Hp => ?_, fun σ H => ?_⟩) (fun v w hx hv e hw => ?_)
  · unfold F_X11_find F_X11_find_28
    exact ma_be (mv_getN Hp hl hx) (ma_mn (ma_ret ⟨rfl, rfl⟩))
  · unfold F_X12_find F_X12_find_24
    exact ma_be (mv_isViewN H hl hx) (ma_T rfl (ma_ret ⟨rfl, rfl⟩))
  · subst hx
    have h2 := hw.2.2.1
    by_cases q : 0 ≤ v2.toInt ∧ v2.toInt ≤ mv_ct w
    · obtain ⟨i, hi, rfl⟩ := nI_of (x := v2) (by rw [fa_lt]; show ¬ v2.toInt < 0; omega)
      rw [nI_toInt hi] at q
      refine ⟨my_fd (fun k => my_al (mv_kd w) (ml_bits (mi_m a).2.1 w k) v3) (mv_ct w - i) i, a, hW, mi_c1 (fun σ H => ?_), mi_d1 (fun σ H => ?_)⟩
      · obtain ⟨p, Hp⟩ := H.2.1
        have c := Hp.2.2.2.2 v w e
        have loop : ∀ n k r : Nat, r < n → mv_ct w = k + r → ma_wp (F_X11_find_33 n v3 (mv_at p v) (nI k) σ) (fun x τ => x = my_fd (fun k => my_al (mv_kd w) (ml_bits (mi_m a).2.1 w k) v3) r k ∧ τ = σ) := by
          intro n
          induction n with
          | zero => intro k r h; omega
          | succ n ih =>
            intro k r hr hk
            unfold F_X11_find_33
            refine ma_le _ k c.2.2.2.2.1 rfl (by omega) (by omega) (fun q => ?_) (fun q => ?_)
            · rw [show r = 0 by omega]; exact ma_ret ⟨rfl, rfl⟩
            · obtain ⟨r, rfl⟩ : ∃ r', r = r' + 1 := ⟨r - 1, by omega⟩
              refine ma_be (ml_bitsAt hs hw q c H.1.2.1) (ma_be (my_alC v3 hw c (mg_bx hW hw k)) ?_)
              rw [my_fd]
              cases my_al (mv_kd w) (ml_bits (mi_m a).2.1 w k) v3 with
              | true =>
                rw [if_pos (c := true = true) rfl]
                exact ma_F (by decide) (ma_ret ⟨rfl, rfl⟩)
              | false =>
                rw [if_neg (c := false = true) (by decide)]
                refine ma_T rfl (ma_lt ?_)
                rw [nI_1]
                exact ih (k + 1) r (by omega) (by omega)
        unfold F_X11_find
        exact ma_be (mv_getS Hp hl hv) (ma_ms (ma_F (nI_pos hi) (ma_T (by rw [c.2.2.2.2.1]; exact nI_le (by omega) (by omega)) (loop ae_fu i (mv_ct w - i) (by rw [ae_fu]; omega) (by omega)))))
      · have c := H.2.1.2 v w e
        have ib : ae_ib (nI v) 32 = true := ma_ib v rfl (by omega) (by decide)
        have loop : ∀ n k r : Nat, r < n → mv_ct w = k + r → ma_wp (F_X12_find_29 n (nI v) v3 (nI k) σ) (fun x τ => x = my_fd (fun k => my_al (mv_kd w) (ml_bits (mi_m a).2.1 w k) v3) r k ∧ τ = σ) := by
          intro n
          induction n with
          | zero => intro k r h; omega
          | succ n ih =>
            intro k r hr hk
            unfold F_X12_find_29 F_X12_find_76 F_X12_find_79
            rw [nI_clamp (show v < 2 ^ 31 by omega)]
            refine ma_gd ib (ma_le _ k c.2.2.2.2.1 rfl (by omega) (by omega) (fun q => ?_) (fun q => ?_))
            · rw [show r = 0 by omega]; exact ma_ret ⟨rfl, rfl⟩
            · obtain ⟨r, rfl⟩ : ∃ r', r = r' + 1 := ⟨r - 1, by omega⟩
              have ih2 := ih (k + 1) r (by omega) (by omega)
              refine ma_be (mg_isFl (by omega) hw c) ?_
              by_cases h : 7 ≤ mv_kd w
              · rw [decide_eq_true h]
                refine ma_F (by decide) (ma_be (mg_flM hs (by omega) hw q c H.1.2.1) (ma_if (fun g => ?_) (fun g => ma_lt ?_)))
                · rw [my_fd, if_pos (c := my_al (mv_kd w) (ml_bits (mi_m a).2.1 w k) v3 = true) (by unfold my_al; rw [if_pos h]; exact decide_eq_true ((my_cl0 _).mp g))]
                  exact ma_ret ⟨rfl, rfl⟩
                · rw [my_fd, if_neg (c := my_al (mv_kd w) (ml_bits (mi_m a).2.1 w k) v3 = true) (by unfold my_al; rw [if_pos h, decide_eq_true_eq]; exact fun q => g ((my_cl0 _).mpr q)), nI_1]
                  exact ih2
              · rw [decide_eq_false h]
                refine ma_T rfl (ma_be (mg_whM hs (by omega) hw q c H.1.2.1) (ma_if (fun g => ?_) (fun g => ma_lt ?_)))
                · rw [my_fd, if_pos (c := my_al (mv_kd w) (ml_bits (mi_m a).2.1 w k) v3 = true) (by unfold my_al; rw [if_neg h]; exact decide_eq_true ((lg_cmp_eq _ _).mp g))]
                  exact ma_ret ⟨rfl, rfl⟩
                · rw [my_fd, if_neg (c := my_al (mv_kd w) (ml_bits (mi_m a).2.1 w k) v3 = true) (by unfold my_al; rw [if_neg h, decide_eq_true_eq]; exact fun q => g ((lg_cmp_eq _ _).mpr q)), nI_1]
                  exact ih2
        unfold F_X12_find
        refine ma_be (mv_isViewS H.2.1 hl hv) (ma_F ma_01 (ma_gd ib ?_))
        rw [nI_clamp (show v < 2 ^ 31 by omega)]
        refine ma_be (ma_isInL (mv_ct w) c.2.2.2.2.1 (by omega) σ) ?_
        rw [nI_toInt hi, if_pos q]
        exact ma_F ma_01 (loop ae_fu i (mv_ct w - i) (by rw [ae_fu]; omega) (by omega))
    · refine ⟨-1, a, hW, mi_c1 (fun σ H => ?_), mi_d1 (fun σ H => ?_)⟩
      · obtain ⟨p, Hp⟩ := H.2.1
        have c := Hp.2.2.2.2 v w e
        unfold F_X11_find F_X11_find_28
        refine ma_be (mv_getS Hp hl hv) (ma_ms (ma_if (fun _ => ma_ret ⟨rfl, rfl⟩) (fun q1 => ma_F (fun q2 => q ?_) (ma_ret ⟨rfl, rfl⟩))))
        rw [c.2.2.2.2.1, (mz_lit v2 (mv_ct w) (by omega)).2.1] at q2
        rw [fa_lt] at q1
        have q1 : ¬ v2.toInt < 0 := q1
        omega
      · have c := H.2.1.2 v w e
        unfold F_X12_find F_X12_find_24
        refine ma_be (mv_isViewS H.2.1 hl hv) (ma_F ma_01 (ma_gd (ma_ib v rfl (by omega) (by decide)) ?_))
        rw [nI_clamp (show v < 2 ^ 31 by omega)]
        refine ma_be (ma_isInL (mv_ct w) c.2.2.2.2.1 (by omega) σ) ?_
        rw [if_neg q]
        exact ma_T rfl (ma_ret ⟨rfl, rfl⟩))
def my_sw (f : Nat → Int64) : Nat → Int64
  | 0 => 0
  | k + 1 => my_sw f k + f k
def my_sd (f : Nat → UInt64) : Nat → UInt64
  | 0 => FP.dconst0
  | k + 1 => FP.dadd (my_sd f k) (f k)
theorem mz_sum : zp_sum mi_I := fun v1 => mi_zp (fun a hW => by
  have hs : (mi_m a).1 ≤ 256 := hW.1.2.1
  have hl := hW.2.1.1
  refine mz_v (x := v1) (r0 := -1) hW (fun hx => ⟨fun p σ Hp => ?_, fun σ H => ?_⟩) (fun v w hx hv e hw => ?_)
  · unfold F_X11_sum
    exact ma_be (mv_getN Hp hl hx) (ma_mn (ma_ret ⟨rfl, rfl⟩))
  · unfold F_X12_sum
    exact ma_be (mv_isViewN H hl hx) (ma_T rfl (ma_ret ⟨rfl, rfl⟩))
  · subst hx
    have h2 := hw.2.2.1
    refine ⟨if 7 ≤ mv_kd w then ae_db (my_sd (fun k => mg_fl (mv_kd w) (ml_bits (mi_m a).2.1 w k)) (mv_ct w)) else my_sw (fun k => mg_wh (mv_kd w) (ml_bits (mi_m a).2.1 w k)) (mv_ct w), a, hW, mi_c1 (fun σ H => ?_), mi_d1 (fun σ H => ?_)⟩
    · obtain ⟨p, Hp⟩ := H.2.1
      have c := Hp.2.2.2.2 v w e
      have loop : ∀ n k : Nat, mv_ct w < k + n → k ≤ mv_ct w → ma_wp (F_X11_sum_22 n (mv_at p v) (if 7 ≤ mv_kd w then ae_db (my_sd (fun k => mg_fl (mv_kd w) (ml_bits (mi_m a).2.1 w k)) k) else my_sw (fun k => mg_wh (mv_kd w) (ml_bits (mi_m a).2.1 w k)) k) (nI k) σ) (fun x τ => x = (if 7 ≤ mv_kd w then ae_db (my_sd (fun k => mg_fl (mv_kd w) (ml_bits (mi_m a).2.1 w k)) (mv_ct w)) else my_sw (fun k => mg_wh (mv_kd w) (ml_bits (mi_m a).2.1 w k)) (mv_ct w)) ∧ τ = σ) := by
        intro n
        induction n with
        | zero => intro k h; omega
        | succ n ih =>
          intro k hk1 hk2
          have ih2 := ih (k + 1) (by omega)
          unfold F_X11_sum_22 F_X11_sum_70
          refine ma_le _ k c.2.2.2.2.1 rfl (by omega) (by omega) (fun q => ?_) (fun q => ?_)
          · rw [show k = mv_ct w by omega]; exact ma_ret ⟨rfl, rfl⟩
          · refine ma_be (ml_bitsAt hs hw q c H.1.2.1) (ma_be (mg_valC hw c (mg_bx hW hw k)) (mv_kk c.2.1 hw.1 ?_))
            rw [mv_kF _ hw.1]
            unfold mg_vl
            by_cases h : 7 ≤ mv_kd w
            · rw [decide_eq_true h, if_pos (c := 7 ≤ mv_kd w) h, if_pos (c := 7 ≤ mv_kd w) h, if_pos (c := 7 ≤ mv_kd w) h]
              rw [if_pos (c := 7 ≤ mv_kd w) h, if_pos (c := 7 ≤ mv_kd w) h] at ih2
              refine ma_F (by decide) (ma_be (mg_add _ _ σ) (ma_lt ?_))
              rw [nI_1]
              exact ih2 (by omega)
            · rw [decide_eq_false h, if_neg (c := 7 ≤ mv_kd w) h, if_neg (c := 7 ≤ mv_kd w) h, if_neg (c := 7 ≤ mv_kd w) h]
              rw [if_neg (c := 7 ≤ mv_kd w) h, if_neg (c := 7 ≤ mv_kd w) h] at ih2
              refine ma_T rfl (ma_lt ?_)
              rw [nI_1]
              exact ih2 (by omega)
      unfold F_X11_sum
      have l0 := loop ae_fu 0 (by rw [ae_fu]; omega) (by omega)
      rw [show (if 7 ≤ mv_kd w then ae_db (my_sd (fun k => mg_fl (mv_kd w) (ml_bits (mi_m a).2.1 w k)) 0) else my_sw (fun k => mg_wh (mv_kd w) (ml_bits (mi_m a).2.1 w k)) 0) = 0 by
        by_cases h : 7 ≤ mv_kd w
        · rw [if_pos h]
          show ae_db FP.dconst0 = 0
          decide
        · rw [if_neg h]; rfl] at l0
      exact ma_be (mv_getS Hp hl hv) (ma_ms l0)
    · have c := H.2.1.2 v w e
      have ib : ae_ib (nI v) 32 = true := ma_ib v rfl (by omega) (by decide)
      have loop : ∀ n k : Nat, mv_ct w < k + n → k ≤ mv_ct w → ∀ (x : Int64) (d : UInt64), (7 ≤ mv_kd w → d = my_sd (fun k => mg_fl (mv_kd w) (ml_bits (mi_m a).2.1 w k)) k) → (¬ 7 ≤ mv_kd w → x = my_sw (fun k => mg_wh (mv_kd w) (ml_bits (mi_m a).2.1 w k)) k) → ma_wp (F_X12_sum_20 n (nI v) x d (nI k) σ) (fun x τ => x = (if 7 ≤ mv_kd w then ae_db (my_sd (fun k => mg_fl (mv_kd w) (ml_bits (mi_m a).2.1 w k)) (mv_ct w)) else my_sw (fun k => mg_wh (mv_kd w) (ml_bits (mi_m a).2.1 w k)) (mv_ct w)) ∧ τ = σ) := by
        intro n
        induction n with
        | zero => intro k h; omega
        | succ n ih =>
          intro k hk1 hk2 x d hd hx
          unfold F_X12_sum_20 F_X12_sum_64 F_X12_sum_87
          rw [nI_clamp (show v < 2 ^ 31 by omega)]
          refine ma_gd ib (ma_le _ k c.2.2.2.2.1 rfl (by omega) (by omega) (fun q => ?_) (fun q => ?_))
          · refine ma_be (mg_isFl (by omega) hw c) ?_
            obtain rfl : k = mv_ct w := by omega
            by_cases h : 7 ≤ mv_kd w
            · rw [decide_eq_true h, if_pos (c := 7 ≤ mv_kd w) h, hd h]
              exact ma_F (by decide) (ma_ret ⟨rfl, rfl⟩)
            · rw [decide_eq_false h, if_neg (c := 7 ≤ mv_kd w) h, hx h]
              exact ma_T rfl (ma_ret ⟨rfl, rfl⟩)
          · refine ma_be (mg_isFl (by omega) hw c) ?_
            by_cases h : 7 ≤ mv_kd w
            · rw [decide_eq_true h]
              refine ma_F (by decide) (ma_be (mg_flM hs (by omega) hw q c H.1.2.1) (ma_lt (ma_lt ?_)))
              rw [nI_1]
              exact ih (k + 1) (by omega) (by omega) _ _ (fun _ => by rw [hd h]; rfl) (fun g => absurd h g)
            · rw [decide_eq_false h]
              refine ma_T rfl (ma_be (mg_whM hs (by omega) hw q c H.1.2.1) (ma_lt (ma_lt ?_)))
              rw [nI_1]
              exact ih (k + 1) (by omega) (by omega) _ _ (fun g => absurd g h) (fun _ => by rw [hx h]; rfl)
      unfold F_X12_sum
      exact ma_be (mv_isViewS H.2.1 hl hv) (ma_F ma_01 (loop ae_fu 0 (by rw [ae_fu]; omega) (by omega) _ _ (fun _ => rfl) (fun _ => rfl))))
