/-! elements and fields that there are; rows of bits; calls that lay whole rows -/
theorem ml_hasEl {sz : Nat} {w : mv_V} {j : Fin 32} {σ : ae_S} (x : Int64) (hw : mv_W1 sz w) (c : mv_C1 j w σ) : F_X9_hasElement j x σ = some (if 0 ≤ x.toInt ∧ x.toInt < mv_ct w then 1 else 0, σ) := by
  have h2 := hw.2.2.1
  refine ma_eq ?_
  unfold F_X9_hasElement F_X9_hasElement_20 F_X9_hasElement_21
  rw [c.2.2.2.2.1, nI_l (show mv_ct w < 2 ^ 31 by omega)]
  have l1 : lg_cmp x 0 < 0 ↔ x.toInt < 0 := by rw [lg_cmp_lt, fa_lt64]; exact Iff.rfl
  have l2 : 0 ≤ lg_cmp x (lN (mv_ct w)) ↔ (mv_ct w : Int) ≤ x.toInt := by rw [lg_cmp_ge, fa_le64, lN_toInt (show mv_ct w < 2 ^ 31 by omega)]
  by_cases q : 0 ≤ x.toInt ∧ x.toInt < mv_ct w
  · rw [if_pos q]
    exact ma_F (by rw [l1]; omega) (ma_F (by rw [l2]; omega) (ma_gd ma_z1 (ma_ret ⟨rfl, rfl⟩)))
  · rw [if_neg q]
    refine ma_if (fun _ => ma_gd ma_z0 (ma_ret ⟨rfl, rfl⟩)) (fun q1 => ma_T ?_ (ma_gd ma_z0 (ma_ret ⟨rfl, rfl⟩)))
    rw [l1] at q1
    rw [l2]
    omega
theorem ml_isElN {vs : List mv_V} {σ : ae_S} {x : Int32} {y : Int64} (H : mv_M vs σ) (hl : vs.length ≤ 16) (hx : ¬ (0 ≤ x.toInt ∧ x.toInt < vs.length)) : F_X12_isElement x y σ = some (0, σ) := by
  refine ma_eq ?_
  unfold F_X12_isElement F_X12_isElement_29 F_X12_isElement_30
  exact ma_be (mv_isViewN H hl hx) (ma_T rfl (ma_gd ma_z0 (ma_ret ⟨rfl, rfl⟩)))
theorem ml_isEl {sz v : Nat} {vs : List mv_V} {w : mv_V} {σ : ae_S} (y : Int64) (H : mv_M vs σ) (hl : vs.length ≤ 16) (hv : v < vs.length) (e : vs[v]? = some w) (hw : mv_W1 sz w) : F_X12_isElement (nI v) y σ = some (if 0 ≤ y.toInt ∧ y.toInt < mv_ct w then 1 else 0, σ) := by
  have h1 := hw.2.1
  have h2 := hw.2.2.1
  refine ma_eq ?_
  unfold F_X12_isElement F_X12_isElement_29 F_X12_isElement_30
  refine ma_be (mv_isViewS H hl hv) (ma_F ma_01 (ma_gd (ma_ib v rfl (by omega) (by decide)) ?_))
  rw [nI_clamp (by omega), (H.2 v w e).2.2.2.2.1, nI_l (show mv_ct w < 2 ^ 31 by omega), show (1 : Int64) = lN 1 from rfl, lN_sub h1, ma_isIn]
  refine ma_be rfl ?_
  by_cases q : 0 ≤ y.toInt ∧ y.toInt < mv_ct w
  · rw [if_pos q, if_pos (c := (0 : Int64) ≤ y ∧ y ≤ lN (mv_ct w - 1)) (by rw [fa_le64, fa_le64, lN_toInt (by omega)]; show (0 : Int) ≤ _ ∧ _; omega)]
    exact ma_F ma_01 (ma_gd ma_z1 (ma_ret ⟨rfl, rfl⟩))
  · rw [if_neg q, if_neg (c := (0 : Int64) ≤ y ∧ y ≤ lN (mv_ct w - 1)) (fun q2 => q (by rw [fa_le64, fa_le64, lN_toInt (by omega)] at q2; have q3 : (0 : Int) ≤ y.toInt := q2.1; omega))]
    exact ma_T rfl (ma_gd ma_z0 (ma_ret ⟨rfl, rfl⟩))
theorem ml_isRO {sz : Nat} {w : mv_V} {j : Fin 32} {σ : ae_S} (hw : mv_W1 sz w) (c : mv_C1 j w σ) : F_X9_isReadOnly j σ = some (if mv_ac w = 1 then 1 else 0, σ) := by
  have ha : mv_ac w < 4 := hw.2.2.2.2.2.2.1
  refine ma_eq ?_
  unfold F_X9_isReadOnly F_X9_isReadOnly_13
  refine ma_en (mv_ac w) 1 c.2.2.2.2.2.2.1 rfl (by omega) (by decide) (fun e => ?_) (fun e => ?_)
  · rw [if_pos e]; exact ma_gd ma_z1 (ma_ret ⟨rfl, rfl⟩)
  · rw [if_neg e]; exact ma_gd ma_z0 (ma_ret ⟨rfl, rfl⟩)
theorem ml_canLayN {vs : List mv_V} {σ : ae_S} {x : Int32} (H : mv_M vs σ) (hl : vs.length ≤ 16) (hx : ¬ (0 ≤ x.toInt ∧ x.toInt < vs.length)) : F_X12_canLay x σ = some (0, σ) := by
  refine ma_eq ?_
  unfold F_X12_canLay F_X12_canLay_22 F_X12_canLay_23
  exact ma_be (mv_isViewN H hl hx) (ma_T rfl (ma_gd ma_z0 (ma_ret ⟨rfl, rfl⟩)))
theorem ml_canLay {sz v : Nat} {vs : List mv_V} {w : mv_V} {σ : ae_S} (H : mv_M vs σ) (hl : vs.length ≤ 16) (hv : v < vs.length) (e : vs[v]? = some w) (hw : mv_W1 sz w) : F_X12_canLay (nI v) σ = some (if mv_ac w = 1 then 0 else 1, σ) := by
  have ha : mv_ac w < 4 := hw.2.2.2.2.2.2.1
  refine ma_eq ?_
  unfold F_X12_canLay F_X12_canLay_22 F_X12_canLay_23
  refine ma_be (mv_isViewS H hl hv) (ma_F ma_01 (ma_gd (ma_ib v rfl (by omega) (by decide)) ?_))
  rw [nI_clamp (by omega)]
  refine ma_en (mv_ac w) 1 (H.2 v w e).2.2.2.2.2.2.1 rfl (by omega) (by decide) (fun e => ?_) (fun e => ?_)
  · rw [if_pos e]; exact ma_gd ma_z0 (ma_ret ⟨rfl, rfl⟩)
  · rw [if_neg e]; exact ma_gd ma_z1 (ma_ret ⟨rfl, rfl⟩)
/-- rows of bits -/
theorem ml_bitsInto {sz : Nat} {m : Nat → Int32} {w : mv_V} {j : Fin 32} {σ : ae_S} (hs : sz ≤ 256) (hw : mv_W1 sz w) (c : mv_C1 j w σ) (H : ∀ k, k < 256 → σ.1 4 0 k = m k) : ma_wp (F_X9_bitsInto j σ) (fun _ τ => (∀ i, i < mv_ct w → τ.2.1 27 0 i = ml_bits m w i) ∧ ma_fr (fun g _ _ => g ≠ 27) σ τ) := by
  have h2 := hw.2.2.1
  have loop : ∀ n k : Nat, mv_ct w < k + n → k ≤ mv_ct w → ∀ τ : ae_S, ma_fr (fun g _ _ => g ≠ 27) σ τ → (∀ i, i < k → τ.2.1 27 0 i = ml_bits m w i) → ma_wp (F_X9_bitsInto_2 n j (nI k) τ) (fun _ τ => (∀ i, i < mv_ct w → τ.2.1 27 0 i = ml_bits m w i) ∧ ma_fr (fun g _ _ => g ≠ 27) σ τ) := by
    intro n
    induction n with
    | zero => intro k a b; omega
    | succ n ih =>
      intro k hk1 hk2 τ hf hm
      have ct : mv_C1 j w τ := c.fr hf (fun _ => by decide) (fun _ => by decide) (fun _ => by decide) (fun _ => by decide)
      unfold F_X9_bitsInto_2 F_X9_bitsInto_31
      refine ma_le _ k ct.2.2.2.2.1 rfl (by omega) (by omega) (fun q => ma_ret ⟨fun i hi => hm i (by omega), hf⟩) (fun q => ?_)
      refine ma_F (nI_ge (b := 64) (by omega) (by decide)) (ma_be (ml_bitsAt hs hw q ct (fun k hk => (hf.i (by simp)).trans (H k hk))) (ma_gd (ma_ib k rfl (by omega) (by decide)) (ma_lt (ma_lt ?_))))
      rw [nI_clamp (by omega), nI_1]
      refine ih (k + 1) (by omega) (by omega) _ (hf.tr (ma_fwL (fun q => q rfl))) (fun i hi => ?_)
      by_cases e : i = k
      · rw [e, ma_rL]
      · rw [ma_rLn (fun q => e q.2.2)]; exact hm i (by omega)
  exact loop ae_fu 0 (by rw [ae_fu]; omega) (by omega) σ ma_fr.rf (fun i hi => by omega)
theorem ml_takesAll {sz v : Nat} {m : Nat → Int32} {w : mv_V} {σ : ae_S} (hs : sz ≤ 256) (hv : v < 16) (hw : mv_W1 sz w) (c : mv_M1 v w σ) (H : ∀ k, k < 256 → σ.1 31 0 k = m k) : ma_wp (F_X12_takesAll (nI v) σ) (fun _ τ => (∀ i, i < mv_ct w → τ.2.1 55 0 i = ml_bits m w i) ∧ ma_fr (fun g _ _ => g ≠ 55) σ τ) := by
  have h2 := hw.2.2.1
  have loop : ∀ n k : Nat, mv_ct w < k + n → k ≤ mv_ct w → ∀ τ : ae_S, ma_fr (fun g _ _ => g ≠ 55) σ τ → (∀ i, i < k → τ.2.1 55 0 i = ml_bits m w i) → ma_wp (F_X12_takesAll_2 n (nI v) (nI k) τ) (fun _ τ => (∀ i, i < mv_ct w → τ.2.1 55 0 i = ml_bits m w i) ∧ ma_fr (fun g _ _ => g ≠ 55) σ τ) := by
    intro n
    induction n with
    | zero => intro k a b; omega
    | succ n ih =>
      intro k hk1 hk2 τ hf hm
      have ct : mv_M1 v w τ := c.fr hf (fun _ _ _ _ => by omega)
      unfold F_X12_takesAll_2
      rw [nI_clamp (show v < 2 ^ 31 by omega)]
      refine ma_gd (ma_ib v rfl (by omega) (by decide)) (ma_le _ k ct.2.2.2.2.1 rfl (by omega) (by omega) (fun q => ma_ret ⟨fun i hi => hm i (by omega), hf⟩) (fun q => ?_))
      refine ma_be (ml_bitsOf hs hv hw q ct (fun k hk => (hf.i (by simp)).trans (H k hk))) (ma_gd (ma_ib k rfl (by omega) (by decide)) (ma_lt (ma_lt ?_)))
      rw [nI_clamp (by omega), nI_1]
      refine ih (k + 1) (by omega) (by omega) _ (hf.tr (ma_fwL (fun q => q rfl))) (fun i hi => ?_)
      by_cases e : i = k
      · rw [e, ma_rL]
      · rw [ma_rLn (fun q => e q.2.2)]; exact hm i (by omega)
  exact loop ae_fu 0 (by rw [ae_fu]; omega) (by omega) σ ma_fr.rf (fun i hi => by omega)
def ml_rows (m : Nat → Int32) (w : mv_V) (f : Nat → Int64) : Nat → Nat → Int32
  | 0 => m
  | k + 1 => ml_lay (ml_rows m w f k) w k (f k)
theorem ml_rows_cong {m : Nat → Int32} {w : mv_V} {f g : Nat → Int64} : ∀ k, (∀ i, i < k → f i = g i) → ml_rows m w f k = ml_rows m w g k
  | 0, _ => rfl
  | k + 1, h => by rw [ml_rows, ml_rows, ml_rows_cong k (fun i hi => h i (by omega)), h k (by omega)]
theorem ml_rows_by {m : Nat → Int32} {w : mv_V} {f : Nat → Int64} (h : ∀ j, mb_by (m j)) : ∀ k j, mb_by (ml_rows m w f k j)
  | 0, j => h j
  | k + 1, j => ml_lay_by (ml_rows_by h k) j
theorem ml_rows_z {sz : Nat} {m : Nat → Int32} {w : mv_V} {f : Nat → Int64} (hw : mv_W1 sz w) (h : ∀ j, sz ≤ j → m j = 0) : ∀ k, k ≤ mv_ct w → ∀ j, sz ≤ j → ml_rows m w f k j = 0
  | 0, _, j, hj => h j hj
  | k + 1, hk, j, hj => ml_lay_z hw (by omega) (ml_rows_z hw h k (by omega)) j hj
theorem ml_layRow {sz n0 : Nat} {m : Nat → Int32} {w : mv_V} {j : Fin 32} {σ : ae_S} (hs : sz ≤ 256) (hn : n0 ≤ 64) (hw : mv_W1 sz w) (c : mv_C1 j w σ) (H : ∀ k, k < 256 → σ.1 4 0 k = m k) : ma_wp (F_X9_layRow j (nI n0) σ) (fun _ τ => (∀ k, k < 256 → τ.1 4 0 k = ml_rows m w (fun i => σ.2.1 27 0 ((i + n0) % mv_ct w)) (mv_ct w) k) ∧ ma_fr (fun g i _ => ¬ (g = 4 ∧ i = 0)) σ τ) := by
  have h1 := hw.2.1
  have h2 := hw.2.2.1
  have loop : ∀ n k : Nat, mv_ct w < k + n → k ≤ mv_ct w → ∀ τ : ae_S, ma_fr (fun g i _ => ¬ (g = 4 ∧ i = 0)) σ τ → (∀ q, q < 256 → τ.1 4 0 q = ml_rows m w (fun i => σ.2.1 27 0 ((i + n0) % mv_ct w)) k q) → ma_wp (F_X9_layRow_3 n j (nI n0) (nI k) τ) (fun _ τ => (∀ k, k < 256 → τ.1 4 0 k = ml_rows m w (fun i => σ.2.1 27 0 ((i + n0) % mv_ct w)) (mv_ct w) k) ∧ ma_fr (fun g i _ => ¬ (g = 4 ∧ i = 0)) σ τ) := by
    intro n
    induction n with
    | zero => intro k a b; omega
    | succ n ih =>
      intro k hk1 hk2 τ hf hm
      have ct : mv_C1 j w τ := c.fr hf (fun _ q => by omega) (fun _ q => by omega) (fun _ q => by omega) (fun _ q => by omega)
      have hmod : (k + n0) % mv_ct w < mv_ct w := Nat.mod_lt _ h1
      unfold F_X9_layRow_3 F_X9_layRow_70
      rw [ct.2.2.2.2.1]
      refine ma_le _ k rfl rfl (by omega) (by omega) (fun q => ma_ret ⟨fun i hi => by have h := hm i hi; rw [show k = mv_ct w by omega] at h; exact h, hf⟩) (fun q => ?_)
      refine ma_F (nI_ge (b := 64) (by omega) (by decide)) (ma_F (nI_nle h1 (by omega)) (ma_gd (by rw [decide_eq_false (nI_ne0 h1 (by omega))]; rfl) ?_))
      unfold F_X9_layRow_39 F_X9_layRow_64
      rw [nI_add, pk_rem (by omega) h1 (by omega)]
      refine ma_F (nI_pos (by omega)) (ma_F (nI_ge (b := 64) (by omega) (by decide)) (ma_gd (ma_ib _ rfl (by omega) (by decide)) ?_))
      rw [nI_clamp (by omega)]
      refine ma_bd (ml_layC hs hw q ct hm) (fun _ υ r => ma_lt ?_)
      rw [nI_1]
      refine ih (k + 1) (by omega) (by omega) υ (hf.tr r.2) (fun i hi => ?_)
      rw [r.1 i hi, ml_rows, hf.l (by simp)]
  exact loop ae_fu 0 (by rw [ae_fu]; omega) (by omega) σ ma_fr.rf H
/-- memory and views change -/
theorem mi_Cmv {a : mi_A} {m : mi_B} {vs : List mv_V} {σ τ : ae_S} (H : mi_C a σ) (f : ma_fr (fun g _ _ => ¬ (3 ≤ g ∧ g ≤ 11) ∧ g ≠ 27) σ τ) (h : mi_Cm m τ) (hv : mv_C vs τ) : mi_C (m, vs, a.2.2) τ := by
  obtain ⟨h1, h2, h3, h4, h5, h6⟩ := H
  exact ⟨h, hv, h3.fr f (by decide) (fun _ => by decide), h4.fr f (by decide) (fun _ => by decide), h5.fr f (by decide) (fun _ => by decide), h6.fr f (by decide) (by decide)⟩
theorem mi_Mmv {a : mi_A} {m : mi_B} {vs : List mv_V} {σ τ : ae_S} (H : mi_M a σ) (f : ma_fr (fun g _ k => ¬ (31 ≤ g ∧ g ≤ 45) ∧ ¬ (54 ≤ g ∧ g ≤ 56) ∧ ¬ (g = 30 ∧ k = 5)) σ τ) (h : mi_Mm m τ) (hv : mv_M vs τ) : mi_M (m, vs, a.2.2) τ := by
  obtain ⟨h1, h2, h3, h4, h5, h6⟩ := H
  exact ⟨h, hv, h3.fr f (by decide) (fun _ => by omega), h4.fr f (by decide) (fun _ => by omega), h5.fr f (by decide) (fun _ => by omega), h6.fr f (by decide) (by decide)⟩
noncomputable def mz_comV (a : mi_A) (now' : Nat → Int32) (vs : List mv_V) : mi_A := (((mi_m a).1, now', (mi_m a).2.1, mb_kp (mi_m a).1 now' (mi_m a).2.1 (mi_m a).2.2.2), vs, a.2.2)
theorem mz_comVW {a : mi_A} {now' : Nat → Int32} {vs : List mv_V} (hW : mi_W a) (hb : ∀ k, mb_by (now' k)) (hz : ∀ k, (mi_m a).1 ≤ k → now' k = 0) (hv : mv_W (mi_m a).1 vs) : mi_W (mz_comV a now' vs) := ⟨hW.1.com hb hz, hv, hW.2.2⟩
theorem mz_keepV {a : mi_A} {now' : Nat → Int32} {vs : List mv_V} {σ τ : ae_S} (hW : mi_W a) (H : mi_C a σ) (f : ma_fr (fun g _ _ => ¬ (3 ≤ g ∧ g ≤ 11) ∧ g ≠ 27) σ τ) (h : mb_C (mi_m a).1 now' (mi_m a).2.1 (mi_m a).2.2.2 τ) (hv : mv_C vs τ) : ma_wp (F_X0_keep τ) (fun _ υ => mi_C (mz_comV a now' vs) υ ∧ ma_fr (fun g _ _ => 30 ≤ g) σ υ) :=
  ma_mono (mb_keepC hW.1.2.1 hW.1.2.2.1 h) (fun _ υ q => ⟨mi_Cmv H (f.tr (q.2.mo (fun g i k q => by omega))) q.1 (hv.fr q.2 (fun _ _ _ _ _ => by omega)), (f.mo (fun g i k q => by omega)).tr (q.2.mo (fun g i k q => by omega))⟩)
theorem mz_endsV {a : mi_A} {now' : Nat → Int32} {vs : List mv_V} {σ τ : ae_S} (hW : mi_W a) (H : mi_M a σ) (f : ma_fr (fun g _ k => ¬ (31 ≤ g ∧ g ≤ 45) ∧ ¬ (54 ≤ g ∧ g ≤ 56) ∧ ¬ (g = 30 ∧ k = 5)) σ τ) (h : mb_N (mi_m a).1 now' (mi_m a).2.1 (mi_m a).2.2.2 τ) (hv : mv_M vs τ) : ma_wp (F_X12_ends 1 τ) (fun _ υ => mi_M (mz_comV a now' vs) υ ∧ ma_fr (fun g _ _ => g < 30) σ υ) :=
  ma_mono (mb_ends (kp := 1) hW.1.2.1 hW.1.2.2.1 h) (fun _ υ q => ⟨mi_Mmv H (f.tr (q.2.mo (fun g i k q => by omega))) q.1 (hv.fr q.2 (by decide) (fun _ _ _ _ => by omega)), (f.mo (fun g i k q => by omega)).tr (q.2.mo (fun g i k q => by omega))⟩)
