/-! an element's bits: told (ml_bits), laid (ml_lay), written (ml_put), by the class and by the model -/
def ml_bt (m : Nat → Int32) (w : mv_V) (i : Nat) : Nat → Int64
  | 0 => 0
  | k + 1 => (ml_bt m w i k <<< ((8 : Int32).toInt64 &&& 63)) ||| (m (mv_of w i + (if mv_bg w = true then k else mv_by (mv_kd w) - 1 - k))).toInt64
def ml_bits (m : Nat → Int32) (w : mv_V) (i : Nat) : Int64 := ml_bt m w i (mv_by (mv_kd w))
def ml_lyb (x : Int64) (k : Nat) : Int32 := nI (x.toBitVec.toNat / 2 ^ (8 * k) % 256)
def ml_ly (m : Nat → Int32) (w : mv_V) (i : Nat) (x : Int64) : Nat → Nat → Int32
  | 0 => m
  | k + 1 => fun j => if j = mv_of w i + (if mv_bg w = true then mv_by (mv_kd w) - 1 - k else k) then ml_lyb x k else ml_ly m w i x k j
def ml_lay (m : Nat → Int32) (w : mv_V) (i : Nat) (x : Int64) : Nat → Int32 := ml_ly m w i x (mv_by (mv_kd w))
def ml_put (m : Nat → Int32) (w : mv_V) (i : Nat) (x : Int64) : Nat → Int32 := ml_lay m w i (if mv_ac w = 2 then ml_bits m w i &&& (x ^^^ (-1)) else x)
theorem ml_and2 (y : Int32) : (y &&& 255) &&& 255 = y &&& 255 := b_ext (fun i _ => by rw [b_and, b_and, Bool.and_assoc, Bool.and_self])
theorem ml_byC (x : Int64) {k : Nat} (hk : k < 8) : (((x.toUInt64 >>> (((8 : Int32) * nI k).toInt64.toUInt64 &&& Int64.toUInt64 63)).toInt64.toInt32) &&& 255) &&& 255 = ml_lyb x k := by
  obtain ⟨n, hn, rfl⟩ := wb_of x
  rw [show (8 : Int32) * nI k = nI (8 * k) by rw [show (8 : Int32) = nI 8 from rfl, pk_mul], wb_shr hn (by omega), lN_i, ml_and2, pk_and _ 8 (by decide), ml_lyb, wb_tn hn]
  show nI (n / 2 ^ (8 * k) % 2 ^ 32 % 2 ^ 8) = nI (n / 2 ^ (8 * k) % 256)
  rw [show n / 2 ^ (8 * k) % 2 ^ 32 % 2 ^ 8 = n / 2 ^ (8 * k) % 256 by omega]
theorem ml_byM (x : Int64) {k : Nat} (hk : k < 8) : ((x >>> (((8 : Int32) * nI k).toInt64 &&& 63)) &&& (255 : Int64)).toInt32 = ml_lyb x k := by
  obtain ⟨n, hn, rfl⟩ := wb_of x
  have hs : ∀ s, s < 64 → ((lN s).toBitVec.smod 64).toNat = s := by decide +kernel
  have h255 : ∀ i, i < 64 → (255 : Int64).toBitVec.getLsbD i = decide (i < 8) := by decide +kernel
  have e : (lN n >>> (((8 : Int32) * nI k).toInt64 &&& 63)) &&& (255 : Int64) = lN (n / 2 ^ (8 * k) % 256) := by
    rw [show (8 : Int32) * nI k = nI (8 * k) by rw [show (8 : Int32) = nI 8 from rfl, pk_mul], wb_c _ (by omega)]
    apply wb_inj
    rw [Int64.toBitVec_and, Int64.toBitVec_shiftRight]
    apply BitVec.eq_of_getLsbD_eq
    intro i hi
    rw [BitVec.getLsbD_and, h255 i hi]
    show (((lN n).toBitVec.sshiftRight ((lN (8 * k)).toBitVec.smod 64).toNat).getLsbD i && decide (i < 8)) = (BitVec.ofNat 64 (n / 2 ^ (8 * k) % 2 ^ 8)).getLsbD i
    rw [hs _ (by omega), BitVec.getLsbD_sshiftRight, BitVec.getLsbD_ofNat, Nat.testBit_mod_two_pow, Nat.testBit_div_two_pow]
    by_cases h8 : i < 8
    · rw [if_pos (by omega)]
      simp [h8, hi, Nat.not_le.mpr hi, wb_tb, BitVec.getLsbD_ofNat, show 8 * k + i < 64 by omega, Nat.add_comm]
      intro _
      omega
    · simp [h8]
  rw [e, lN_i, ml_lyb, wb_tn hn]
theorem ml_lyb_by (x : Int64) (k : Nat) : mb_by (ml_lyb x k) := ⟨_, Nat.mod_lt _ (by decide), rfl⟩
theorem ml_ly_by {m : Nat → Int32} {w : mv_V} {i : Nat} {x : Int64} (h : ∀ j, mb_by (m j)) : ∀ k j, mb_by (ml_ly m w i x k j)
  | 0, j => h j
  | k + 1, j => by
    show mb_by (if _ then _ else _)
    by_cases e : j = mv_of w i + (if mv_bg w = true then mv_by (mv_kd w) - 1 - k else k)
    · rw [if_pos e]; exact ml_lyb_by x k
    · rw [if_neg e]; exact ml_ly_by h k j
theorem ml_ly_out {m : Nat → Int32} {w : mv_V} {i : Nat} {x : Int64} {j : Nat} : ∀ k, k ≤ mv_by (mv_kd w) → ¬ (mv_of w i ≤ j ∧ j < mv_of w i + mv_by (mv_kd w)) → ml_ly m w i x k j = m j
  | 0, _, _ => rfl
  | k + 1, hk, h => by
    show (if j = _ then _ else _) = _
    rw [if_neg (fun e => h ?_), ml_ly_out k (by omega) h]
    by_cases q : mv_bg w = true
    · rw [if_pos q] at e; omega
    · rw [if_neg q] at e; omega
theorem ml_lay_by {m : Nat → Int32} {w : mv_V} {i : Nat} {x : Int64} (h : ∀ j, mb_by (m j)) : ∀ j, mb_by (ml_lay m w i x j) := ml_ly_by h _
theorem ml_lay_z {sz : Nat} {m : Nat → Int32} {w : mv_V} {i : Nat} {x : Int64} (hw : mv_W1 sz w) (hi : i < mv_ct w) (h : ∀ j, sz ≤ j → m j = 0) : ∀ j, sz ≤ j → ml_lay m w i x j = 0 := fun j hj => by
  have := mv_ofle hw hi
  rw [ml_lay, ml_ly_out _ (Nat.le_refl _) (by omega), h j hj]
theorem ml_bitsAt {sz i : Nat} {m : Nat → Int32} {w : mv_V} {j : Fin 32} {σ : ae_S} (hs : sz ≤ 256) (hw : mv_W1 sz w) (hi : i < mv_ct w) (c : mv_C1 j w σ) (H : ∀ k, k < 256 → σ.1 4 0 k = m k) : F_X9_bitsAt j (nI i) σ = some (ml_bits m w i, σ) := by
  have b := mv_byle _ hw.1
  have ho := mv_ofle hw hi
  have loop : ∀ n k : Nat, mv_by (mv_kd w) < k + n → k ≤ mv_by (mv_kd w) → ma_wp (F_X9_bitsAt_18 n j (nI (mv_of w i)) (ml_bt m w i k) (nI k) σ) (fun r τ => r = ml_bits m w i ∧ τ = σ) := by
    intro n
    induction n with
    | zero => intro k a b; omega
    | succ n ih =>
      intro k hk1 hk2
      unfold F_X9_bitsAt_18
      have i1 := ih (k + 1) (by omega)
      refine mv_kk c.2.1 hw.1 (ma_le _ k (mv_kB _ hw.1) rfl (by omega) (by omega) (fun q => ma_ret ⟨by rw [show k = mv_by (mv_kd w) by omega]; rfl, rfl⟩) (fun q => ?_))
      rw [c.2.2.1]
      cases hb : mv_bg w with
      | true =>
        refine ma_F ma_01 ?_
        unfold F_X9_bitsAt_61
        rw [nI_add]
        refine ma_be (mb_get (by omega)) (ma_lt (ma_lt ?_))
        rw [H _ (by omega), nI_1]
        rw [ml_bt, if_pos hb] at i1
        exact i1 (by omega)
      | false =>
        refine ma_T rfl (mv_kk c.2.1 hw.1 ?_)
        unfold F_X9_bitsAt_61
        rw [mv_kB _ hw.1, show nI (mv_by (mv_kd w)) - (1 : Int32) = nI (mv_by (mv_kd w) - 1) from pk_sub (b := 1) (by omega), pk_sub (show k ≤ mv_by (mv_kd w) - 1 by omega), nI_add]
        refine ma_be (mb_get (by omega)) (ma_lt (ma_lt ?_))
        rw [H _ (by omega), nI_1]
        rw [ml_bt, if_neg (by rw [hb]; decide)] at i1
        exact i1 (by omega)
  refine ma_eq ?_
  unfold F_X9_bitsAt
  rw [mv_off c]
  exact ma_lt (loop ae_fu 0 (by rw [ae_fu]; omega) (by omega))
theorem mv_offM {v : Nat} {w : mv_V} {σ : ae_S} (c : mv_M1 v w σ) (i : Nat) : σ.1 38 0 v + σ.1 40 0 v * nI i = nI (mv_of w i) := by
  rw [c.2.2.2.1, c.2.2.2.2.2.1, pk_mul, nI_add, Nat.mul_comm]; rfl
theorem ml_bitsOf {sz v i : Nat} {m : Nat → Int32} {w : mv_V} {σ : ae_S} (hs : sz ≤ 256) (hv : v < 16) (hw : mv_W1 sz w) (hi : i < mv_ct w) (c : mv_M1 v w σ) (H : ∀ k, k < 256 → σ.1 31 0 k = m k) : F_X12_bitsOf (nI v) (nI i) σ = some (ml_bits m w i, σ) := by
  have b := mv_byle _ hw.1
  have ho := mv_ofle hw hi
  have ib : ae_ib (nI v) 32 = true := ma_ib v rfl (by omega) (by decide)
  have loop : ∀ n k : Nat, mv_by (mv_kd w) < k + n → k ≤ mv_by (mv_kd w) → ma_wp (F_X12_bitsOf_16 n (nI v) (nI i) (nI (mv_by (mv_kd w))) (ml_bt m w i k) (nI k) σ) (fun r τ => r = ml_bits m w i ∧ τ = σ) := by
    intro n
    induction n with
    | zero => intro k a b; omega
    | succ n ih =>
      intro k hk1 hk2
      unfold F_X12_bitsOf_16
      have i1 := ih (k + 1) (by omega)
      rw [nI_clamp (show v < 2 ^ 31 by omega), mv_offM c, c.2.2.1]
      refine ma_le _ k rfl rfl (by omega) (by omega) (fun q => ma_ret ⟨by rw [show k = mv_by (mv_kd w) by omega]; rfl, rfl⟩) (fun q => ma_gd ib (ma_gd ib (ma_gd ib ?_)))
      cases hb : mv_bg w with
      | true =>
        refine ma_T rfl ?_
        unfold F_X12_bitsOf_67
        rw [nI_add]
        refine ma_gd (ma_ib _ rfl (by omega) (by decide)) (ma_lt (ma_lt ?_))
        rw [nI_clamp (by omega), H _ (by omega), nI_1]
        rw [ml_bt, if_pos hb] at i1
        exact i1 (by omega)
      | false =>
        refine ma_F (by decide) ?_
        unfold F_X12_bitsOf_67
        rw [show nI (mv_by (mv_kd w)) - (1 : Int32) = nI (mv_by (mv_kd w) - 1) from pk_sub (b := 1) (by omega), pk_sub (show k ≤ mv_by (mv_kd w) - 1 by omega), nI_add]
        refine ma_gd (ma_ib _ rfl (by omega) (by decide)) (ma_lt (ma_lt ?_))
        rw [nI_clamp (by omega), H _ (by omega), nI_1]
        rw [ml_bt, if_neg (by rw [hb]; decide)] at i1
        exact i1 (by omega)
  refine ma_eq ?_
  unfold F_X12_bitsOf
  rw [nI_clamp (show v < 2 ^ 31 by omega), c.2.1]
  exact ma_gd ib (ma_be (mv_bytesOf hw.1 σ) (loop ae_fu 0 (by rw [ae_fu]; omega) (by omega)))
theorem ml_layC {sz i : Nat} {m : Nat → Int32} {w : mv_V} {j : Fin 32} {σ : ae_S} {x : Int64} (hs : sz ≤ 256) (hw : mv_W1 sz w) (hi : i < mv_ct w) (c : mv_C1 j w σ) (H : ∀ k, k < 256 → σ.1 4 0 k = m k) : ma_wp (F_X9_lay j (nI i) x σ) (fun _ τ => (∀ k, k < 256 → τ.1 4 0 k = ml_lay m w i x k) ∧ ma_fr (fun g i _ => ¬ (g = 4 ∧ i = 0)) σ τ) := by
  have b := mv_byle _ hw.1
  have ho := mv_ofle hw hi
  have loop : ∀ n k : Nat, mv_by (mv_kd w) < k + n → k ≤ mv_by (mv_kd w) → ∀ τ : ae_S, ma_fr (fun g i _ => ¬ (g = 4 ∧ i = 0)) σ τ → (∀ q, q < 256 → τ.1 4 0 q = ml_ly m w i x k q) → ma_wp (F_X9_lay_16 n j x (nI (mv_of w i)) (nI k) τ) (fun _ τ => (∀ k, k < 256 → τ.1 4 0 k = ml_lay m w i x k) ∧ ma_fr (fun g i _ => ¬ (g = 4 ∧ i = 0)) σ τ) := by
    intro n
    induction n with
    | zero => intro k a b; omega
    | succ n ih =>
      intro k hk1 hk2 τ hf hm
      have ct : mv_C1 j w τ := c.fr hf (fun _ q => by omega) (fun _ q => by omega) (fun _ q => by omega) (fun _ q => by omega)
      unfold F_X9_lay_16
      refine mv_kk ct.2.1 hw.1 (ma_le _ k (mv_kB _ hw.1) rfl (by omega) (by omega) (fun q => ma_ret ⟨by rw [show k = mv_by (mv_kd w) by omega] at hm; exact hm, hf⟩) (fun q => ?_))
      have fin : ∀ q2 : Nat, q2 = (if mv_bg w = true then mv_by (mv_kd w) - 1 - k else k) → ma_wp (F_X9_lay_55 (F_X9_lay_16 n) j x (nI (mv_of w i)) (nI k) (nI q2) (nI (mv_of w i)) τ) (fun _ τ => (∀ k, k < 256 → τ.1 4 0 k = ml_lay m w i x k) ∧ ma_fr (fun g i _ => ¬ (g = 4 ∧ i = 0)) σ τ) := by
        intro q2 hq2
        have hlt : q2 < mv_by (mv_kd w) := by
          rw [hq2]
          by_cases hb : mv_bg w = true
          · rw [if_pos hb]; omega
          · rw [if_neg hb]; omega
        unfold F_X9_lay_55
        rw [nI_add]
        refine ma_be (mb_set (by omega)) (ma_lt ?_)
        rw [ml_byC x (by omega), nI_1]
        refine ih (k + 1) (by omega) (by omega) _ (hf.tr (ma_fwI (fun q => q ⟨rfl, rfl⟩))) (fun q3 hq3 => ?_)
        show _ = if q3 = mv_of w i + (if mv_bg w = true then mv_by (mv_kd w) - 1 - k else k) then ml_lyb x k else ml_ly m w i x k q3
        rw [← hq2]
        by_cases e : q3 = mv_of w i + q2
        · rw [if_pos e, e, ma_rI]
        · rw [if_neg e, ma_rIn (fun q => e q.2.2)]; exact hm q3 hq3
      rw [ct.2.2.1]
      cases hb : mv_bg w with
      | true =>
        refine ma_F ma_01 (mv_kk ct.2.1 hw.1 ?_)
        rw [mv_kB _ hw.1, show nI (mv_by (mv_kd w)) - (1 : Int32) = nI (mv_by (mv_kd w) - 1) from pk_sub (b := 1) (by omega), pk_sub (show k ≤ mv_by (mv_kd w) - 1 by omega)]
        exact fin _ (by rw [if_pos hb])
      | false =>
        exact ma_T rfl (fin _ (by rw [if_neg (by rw [hb]; decide)]))
  unfold F_X9_lay
  rw [mv_off c]
  exact ma_lt (loop ae_fu 0 (by rw [ae_fu]; omega) (by omega) σ ma_fr.rf H)
theorem ml_laysM {sz v i : Nat} {m : Nat → Int32} {w : mv_V} {σ : ae_S} {x : Int64} (hs : sz ≤ 256) (hv : v < 16) (hw : mv_W1 sz w) (hi : i < mv_ct w) (c : mv_M1 v w σ) (H : ∀ k, k < 256 → σ.1 31 0 k = m k) : ma_wp (F_X12_lays (nI v) (nI i) x σ) (fun _ τ => (∀ k, k < 256 → τ.1 31 0 k = ml_lay m w i x k) ∧ ma_fr (fun g _ _ => g ≠ 31) σ τ) := by
  have b := mv_byle _ hw.1
  have ho := mv_ofle hw hi
  have ib : ae_ib (nI v) 32 = true := ma_ib v rfl (by omega) (by decide)
  have loop : ∀ n k : Nat, mv_by (mv_kd w) < k + n → k ≤ mv_by (mv_kd w) → ∀ τ : ae_S, ma_fr (fun g _ _ => g ≠ 31) σ τ → (∀ q, q < 256 → τ.1 31 0 q = ml_ly m w i x k q) → ma_wp (F_X12_lays_14 n (nI v) (nI i) x (nI (mv_by (mv_kd w))) (nI k) τ) (fun _ τ => (∀ k, k < 256 → τ.1 31 0 k = ml_lay m w i x k) ∧ ma_fr (fun g _ _ => g ≠ 31) σ τ) := by
    intro n
    induction n with
    | zero => intro k a b; omega
    | succ n ih =>
      intro k hk1 hk2 τ hf hm
      have ct : mv_M1 v w τ := c.fr hf (fun _ _ _ _ => by omega)
      unfold F_X12_lays_14
      rw [nI_clamp (show v < 2 ^ 31 by omega), mv_offM ct, ct.2.2.1]
      refine ma_le _ k rfl rfl (by omega) (by omega) (fun q => ma_ret ⟨by rw [show k = mv_by (mv_kd w) by omega] at hm; exact hm, hf⟩) (fun q => ma_gd ib (ma_gd ib (ma_gd ib ?_)))
      have fin : ∀ q2 : Nat, q2 = (if mv_bg w = true then mv_by (mv_kd w) - 1 - k else k) → ma_wp (F_X12_lays_62 (F_X12_lays_14 n) (nI v) (nI i) x (nI (mv_by (mv_kd w))) (nI k) (nI q2) (nI (mv_of w i)) τ) (fun _ τ => (∀ k, k < 256 → τ.1 31 0 k = ml_lay m w i x k) ∧ ma_fr (fun g _ _ => g ≠ 31) σ τ) := by
        intro q2 hq2
        have hlt : q2 < mv_by (mv_kd w) := by
          rw [hq2]
          by_cases hb : mv_bg w = true
          · rw [if_pos hb]; omega
          · rw [if_neg hb]; omega
        unfold F_X12_lays_62
        rw [nI_add]
        refine ma_gd (ma_ib _ rfl (by omega) (by decide)) (ma_lt (ma_lt ?_))
        rw [nI_clamp (by omega), ml_byM x (by omega), nI_1]
        refine ih (k + 1) (by omega) (by omega) _ (hf.tr (ma_fwI (fun q => q rfl))) (fun q3 hq3 => ?_)
        show _ = if q3 = mv_of w i + (if mv_bg w = true then mv_by (mv_kd w) - 1 - k else k) then ml_lyb x k else ml_ly m w i x k q3
        rw [← hq2]
        by_cases e : q3 = mv_of w i + q2
        · rw [if_pos e, e, ma_rI]
        · rw [if_neg e, ma_rIn (fun q => e q.2.2)]; exact hm q3 hq3
      cases hb : mv_bg w with
      | true =>
        refine ma_T rfl ?_
        rw [show nI (mv_by (mv_kd w)) - (1 : Int32) = nI (mv_by (mv_kd w) - 1) from pk_sub (b := 1) (by omega), pk_sub (show k ≤ mv_by (mv_kd w) - 1 by omega)]
        exact fin _ (by rw [if_pos hb])
      | false =>
        exact ma_F (by decide) (fin _ (by rw [if_neg (by rw [hb]; decide)]))
  unfold F_X12_lays
  rw [nI_clamp (show v < 2 ^ 31 by omega), c.2.1]
  exact ma_gd ib (ma_be (mv_bytesOf hw.1 σ) (loop ae_fu 0 (by rw [ae_fu]; omega) (by omega) σ ma_fr.rf H))
theorem ml_putC {sz i : Nat} {m : Nat → Int32} {w : mv_V} {j : Fin 32} {σ : ae_S} {x : Int64} (hs : sz ≤ 256) (hw : mv_W1 sz w) (hi : i < mv_ct w) (c : mv_C1 j w σ) (H : ∀ k, k < 256 → σ.1 4 0 k = m k) : ma_wp (F_X9_put j (nI i) x σ) (fun _ τ => (∀ k, k < 256 → τ.1 4 0 k = ml_put m w i x k) ∧ ma_fr (fun g i _ => ¬ (g = 4 ∧ i = 0)) σ τ) := by
  unfold F_X9_put F_X9_put_27 ml_put
  have ha : mv_ac w < 4 := hw.2.2.2.2.2.2.1
  refine ma_en (mv_ac w) 2 c.2.2.2.2.2.2.1 rfl (by omega) (by decide) (fun e => ?_) (fun e => ?_)
  · rw [if_pos e]
    exact ma_be (ml_bitsAt hs hw hi c H) (ma_bd (ml_layC hs hw hi c H) (fun _ τ q => ma_ret q))
  · rw [if_neg e]
    exact ma_bd (ml_layC hs hw hi c H) (fun _ τ q => ma_ret q)
theorem ml_writesM {sz v i : Nat} {m : Nat → Int32} {w : mv_V} {σ : ae_S} {x : Int64} (hs : sz ≤ 256) (hv : v < 16) (hw : mv_W1 sz w) (hi : i < mv_ct w) (c : mv_M1 v w σ) (H : ∀ k, k < 256 → σ.1 31 0 k = m k) : ma_wp (F_X12_writes (nI v) (nI i) x σ) (fun _ τ => (∀ k, k < 256 → τ.1 31 0 k = ml_put m w i x k) ∧ ma_fr (fun g _ _ => g ≠ 31) σ τ) := by
  unfold F_X12_writes F_X12_writes_29 ml_put
  have ha : mv_ac w < 4 := hw.2.2.2.2.2.2.1
  rw [nI_clamp (show v < 2 ^ 31 by omega)]
  refine ma_gd (ma_ib v rfl (by omega) (by decide)) (ma_en (mv_ac w) 2 c.2.2.2.2.2.2.1 rfl (by omega) (by decide) (fun e => ?_) (fun e => ?_))
  · rw [if_pos e]
    exact ma_be (ml_bitsOf hs hv hw hi c H) (ma_bd (ml_laysM hs hv hw hi c H) (fun _ τ q => ma_ret q))
  · rw [if_neg e]
    exact ma_bd (ml_laysM hs hv hw hi c H) (fun _ τ q => ma_ret q)
theorem ml_put_by {m : Nat → Int32} {w : mv_V} {i : Nat} {x : Int64} (h : ∀ j, mb_by (m j)) : ∀ j, mb_by (ml_put m w i x j) := ml_lay_by h
theorem ml_put_z {sz : Nat} {m : Nat → Int32} {w : mv_V} {i : Nat} {x : Int64} (hw : mv_W1 sz w) (hi : i < mv_ct w) (h : ∀ j, sz ≤ j → m j = 0) : ∀ j, sz ≤ j → ml_put m w i x j = 0 := ml_lay_z hw hi h
