/-! fields; field -/
theorem ml_ssh {n L b : Nat} (hn : n < 2 ^ 64) (hb : L + b ≤ 64) (hb1 : b < 64) (hL : L < 64) : (lN n >>> ((nI L).toInt64 &&& 63)) &&& lN (2 ^ b - 1) = lN (n / 2 ^ L % 2 ^ b) := by
  have hs : ∀ s, s < 64 → ((lN s).toBitVec.smod 64).toNat = s := by decide +kernel
  rw [wb_c _ hL]
  apply wb_inj
  rw [Int64.toBitVec_and, Int64.toBitVec_shiftRight]
  apply BitVec.eq_of_getLsbD_eq
  intro i hi
  rw [BitVec.getLsbD_and]
  show (((lN n).toBitVec.sshiftRight ((lN L).toBitVec.smod 64).toNat).getLsbD i && (BitVec.ofNat 64 (2 ^ b - 1)).getLsbD i) = (BitVec.ofNat 64 (n / 2 ^ L % 2 ^ b)).getLsbD i
  rw [hs _ hL, BitVec.getLsbD_sshiftRight, BitVec.getLsbD_ofNat, BitVec.getLsbD_ofNat, Nat.testBit_mod_two_pow, Nat.testBit_div_two_pow, Nat.testBit_two_pow_sub_one]
  by_cases h8 : i < b
  · rw [if_pos (by omega)]
    simp [h8, hi, Nat.not_le.mpr hi, wb_tb, BitVec.getLsbD_ofNat, Nat.add_comm]
    intro _
    omega
  · simp [h8]
def ml_fl (x : Int64) (q : mv_F) : Int64 := lN (x.toBitVec.toNat / 2 ^ q.2.1 % 2 ^ (q.2.2 - q.2.1 + 1))
theorem ml_mask {a b : Nat} (h : a ≤ b) (h2 : b - a < 63) (hb : b < 64) : ((1 : Int64) <<< (((nI b - nI a) + (1 : Int32)).toInt64 &&& 63)) - (1 : Int64) = lN (2 ^ (b - a + 1) - 1) := by
  rw [pk_sub h, nI_1, show (1 : Int64) = lN 1 from rfl, wb_shl 1 (by omega), Nat.one_mul, lN_sub Nat.one_le_two_pow]
theorem mv_fB {sz f : Nat} {w : mv_V} {q : mv_F} (hw : mv_W1 sz w) (h : (mv_fs w)[f]? = some q) : q.2.1 ≤ q.2.2 ∧ q.2.2 - q.2.1 < 63 ∧ q.2.2 < 64 ∧ f < 8 ∧ f < (mv_fs w).length := by
  have b := mv_byle _ hw.1
  have h1 := hw.2.2.2.2.2.2.2.2.2.1 q (List.mem_of_getElem? h)
  have h2 : f < (mv_fs w).length := (List.getElem?_eq_some_iff.mp h).1
  have h3 := hw.2.2.2.2.2.2.2.1
  exact ⟨h1.1, h1.2.2.1, by omega, by omega, h2⟩
theorem ml_fieldC {sz f : Nat} {w : mv_V} {q : mv_F} {j : Fin 32} {σ : ae_S} (x : Int64) (hw : mv_W1 sz w) (h : (mv_fs w)[f]? = some q) (c : mv_C1 j w σ) : F_X9_fieldOf j (nI f) x σ = some (ml_fl x q, σ) := by
  obtain ⟨b1, b2, b3, b4, b5⟩ := mv_fB hw h
  have h3 := hw.2.2.2.2.2.2.2.1
  obtain ⟨f1, f2, f3⟩ := c.2.2.2.2.2.2.2.2 f q h
  have ib : ae_ib (nI f) 8 = true := ma_ib f rfl b4 (by decide)
  refine ma_eq ?_
  unfold F_X9_fieldOf F_X9_fieldOf_26
  refine ma_be (r := 1) (s := σ) (ma_eq ?_) (ma_F ma_01 (ma_gd ib (ma_be (r := lN (2 ^ (q.2.2 - q.2.1 + 1) - 1)) (s := σ) (ma_eq ?_) (ma_ret ⟨?_, rfl⟩))))
  · unfold F_X9_hasField F_X9_hasField_23
    exact ma_F (nI_pos (by omega)) (ma_F (by rw [c.2.2.2.2.2.2.2.1]; exact nI_ge b5 (by omega)) (ma_F (nI_ge (b := 8) b4 (by decide)) (ma_gd ma_z1 (ma_ret ⟨rfl, rfl⟩))))
  · unfold F_X9_maskOf
    refine ma_gd ib (ma_gd ib (ma_ret ⟨?_, rfl⟩))
    rw [nI_clamp (by omega), f2, f3]
    exact ml_mask b1 b2 b3
  · obtain ⟨n, hn, rfl⟩ := wb_of x
    rw [nI_clamp (by omega), f2, wb_shr hn (by omega), wb_mask (Nat.lt_of_le_of_lt (Nat.div_le_self _ _) hn) (by omega), ml_fl, wb_tn hn]
theorem ml_fieldM {sz v i f : Nat} {m : Nat → Int32} {w : mv_V} {q : mv_F} {σ : ae_S} (hs : sz ≤ 256) (hv : v < 16) (hw : mv_W1 sz w) (hi : i < mv_ct w) (h : (mv_fs w)[f]? = some q) (c : mv_M1 v w σ) (H : ∀ k, k < 256 → σ.1 31 0 k = m k) : F_X12_fieldOf (nI v) (nI i) (nI f) σ = some (ml_fl (ml_bits m w i) q, σ) := by
  obtain ⟨b1, b2, b3, b4, b5⟩ := mv_fB hw h
  obtain ⟨f1, f2, f3⟩ := c.2.2.2.2.2.2.2.2 f q h
  refine ma_eq ?_
  unfold F_X12_fieldOf
  rw [show (8 : Int32) * nI v + nI f = nI (8 * v + f) by rw [show (8 : Int32) = nI 8 from rfl, pk_mul, nI_add]]
  have ib : ae_ib (nI (8 * v + f)) 256 = true := ma_ib _ rfl (by omega) (by decide)
  refine ma_lt (ma_be (ml_bitsOf hs hv hw hi c H) (ma_gd ib (ma_gd ib (ma_gd ib ?_))))
  rw [nI_clamp (by omega), f2, f3]
  refine ma_be (r := lN (2 ^ (q.2.2 - q.2.1 + 1) - 1)) (s := σ) ?_ (ma_ret ⟨?_, rfl⟩)
  · unfold F_X12_mask
    rw [ml_mask b1 b2 b3]
  · obtain ⟨n, hn, e⟩ := wb_of (ml_bits m w i)
    rw [e, ml_ssh hn (by omega) (by omega) (by omega), ml_fl, wb_tn hn]
/-- a view and an element of it, or a call that is refused -/
theorem mz_ve {α : Type} {F G : ae_S → Option (α × ae_S)} {a : mi_A} {x y : Int32} {r0 : α} (hW : mi_W a)
    (n1 : ¬ (0 ≤ x.toInt ∧ x.toInt < (mi_v a).length) → (∀ p σ, mv_Cp p (mi_v a) σ → ma_wp (F σ) (fun z τ => z = r0 ∧ τ = σ)) ∧ (∀ σ, mv_M (mi_v a) σ → ma_wp (G σ) (fun z τ => z = r0 ∧ τ = σ)))
    (n2 : ∀ v w, x = nI v → v < (mi_v a).length → (mi_v a)[v]? = some w → mv_W1 (mi_m a).1 w → ¬ (0 ≤ y.toInt ∧ y.toInt < mv_ct w) → (∀ p σ, mv_Cp p (mi_v a) σ → ma_wp (F σ) (fun z τ => z = r0 ∧ τ = σ)) ∧ (∀ σ, mv_M (mi_v a) σ → ma_wp (G σ) (fun z τ => z = r0 ∧ τ = σ)))
    (k : ∀ v w i, x = nI v → v < (mi_v a).length → (mi_v a)[v]? = some w → mv_W1 (mi_m a).1 w → y = nI i → i < mv_ct w → ∃ r b, mi_W b ∧ mi_c F a r b ∧ mi_d G a r b) : ∃ r b, mi_W b ∧ mi_c F a r b ∧ mi_d G a r b := by
  rcases mv_ix (mi_v a) x hW.2.1.1 with hx | ⟨v, w, hx, hv, e⟩
  · exact ⟨r0, a, hW, mi_c1 (fun σ H => by obtain ⟨p, Hp⟩ := H.2.1; exact (n1 hx).1 p σ Hp), mi_d1 (fun σ H => (n1 hx).2 σ H.2.1)⟩
  · have hw := hW.2.1.at e
    have h2 := hw.2.2.1
    by_cases q : 0 ≤ y.toInt ∧ y.toInt < mv_ct w
    · obtain ⟨i, hi, rfl⟩ := nI_of (x := y) (by rw [fa_lt]; show ¬ y.toInt < 0; omega)
      rw [nI_toInt hi] at q
      exact k v w i hx hv e hw rfl (by omega)
    · exact ⟨r0, a, hW, mi_c1 (fun σ H => by obtain ⟨p, Hp⟩ := H.2.1; exact (n2 v w hx hv e hw q).1 p σ Hp), mi_d1 (fun σ H => (n2 v w hx hv e hw q).2 σ H.2.1)⟩
theorem mz_field : zp_field mi_I := fun v1 v2 v3 => mi_zp (fun a hW => by
  have hs : (mi_m a).1 ≤ 256 := hW.1.2.1
  have hl := hW.2.1.1
  refine mz_ve (x := v1) (y := v2) (r0 := -1) hW (fun hx => ⟨fun p σ Hp => ?_, fun σ H => ?_⟩) (fun v w hx hv e hw hq => ⟨fun p σ Hp => ?_, fun σ H => ?_⟩) (fun v w i hx hv e hw hy hi => ?_)
  · unfold F_X11_field F_X11_field_34
    exact ma_be (mv_getN Hp hl hx) (ma_mn (ma_ret ⟨rfl, rfl⟩))
  · unfold F_X12_field F_X12_field_38 F_X12_field_41
    exact ma_be (ml_isElN H hl hx) (ma_T rfl (ma_ret ⟨rfl, rfl⟩))
  · subst hx
    unfold F_X11_field F_X11_field_34
    refine ma_be (mv_getS Hp hl hv) (ma_ms (ma_be (ml_hasEl _ hw (Hp.2.2.2.2 v w e)) ?_))
    rw [Int32.toInt_toInt64, if_neg hq]
    exact ma_T rfl (ma_ret ⟨rfl, rfl⟩)
  · subst hx
    unfold F_X12_field F_X12_field_38 F_X12_field_41
    refine ma_be (ml_isEl _ H hl hv e hw) ?_
    rw [Int32.toInt_toInt64, if_neg hq]
    exact ma_T rfl (ma_ret ⟨rfl, rfl⟩)
  · subst hx hy
    have h2 := hw.2.2.1
    have h8 := hw.2.2.2.2.2.2.2.1
    have he : (0 : Int) ≤ (nI i).toInt64.toInt ∧ (nI i).toInt64.toInt < mv_ct w := by rw [Int32.toInt_toInt64, nI_toInt (by omega)]; omega
    by_cases q : 0 ≤ v3.toInt ∧ v3.toInt < (mv_fs w).length
    · obtain ⟨f, hf, rfl⟩ := nI_of (x := v3) (by rw [fa_lt]; show ¬ v3.toInt < 0; omega)
      rw [nI_toInt hf] at q
      have hf2 : f < (mv_fs w).length := by omega
      have ef : (mv_fs w)[f]? = some (mv_fs w)[f] := List.getElem?_eq_getElem hf2
      refine ⟨ml_fl (ml_bits (mi_m a).2.1 w i) (mv_fs w)[f], a, hW, mi_c1 (fun σ H => ?_), mi_d1 (fun σ H => ?_)⟩
      · obtain ⟨p, Hp⟩ := H.2.1
        have c := Hp.2.2.2.2 v w e
        unfold F_X11_field
        refine ma_be (mv_getS Hp hl hv) (ma_ms (ma_be (ml_hasEl _ hw c) ?_))
        rw [if_pos he]
        refine ma_F ma_01 (ma_be (r := 1) (s := σ) (ma_eq ?_) (ma_F ma_01 (ma_be (ml_bitsAt hs hw hi c H.1.2.1) (ma_be (ml_fieldC _ hw ef c) (ma_ret ⟨rfl, rfl⟩)))))
        unfold F_X9_hasField F_X9_hasField_23
        exact ma_F (nI_pos (by omega)) (ma_F (by rw [c.2.2.2.2.2.2.2.1]; exact nI_ge hf2 (by omega)) (ma_F (nI_ge (b := 8) (by omega) (by decide)) (ma_gd ma_z1 (ma_ret ⟨rfl, rfl⟩))))
      · have c := H.2.1.2 v w e
        unfold F_X12_field F_X12_field_41
        refine ma_be (ml_isEl _ H.2.1 hl hv e hw) ?_
        rw [if_pos he]
        refine ma_F ma_01 (ma_gd (ma_ib v rfl (by omega) (by decide)) ?_)
        rw [nI_clamp (show v < 2 ^ 31 by omega)]
        refine ma_be (ma_isInN (mv_fs w).length c.2.2.2.2.2.2.2.1 (by omega) σ) ?_
        rw [nI_toInt hf, if_pos q]
        exact ma_F ma_01 (ma_be (ml_fieldM hs (by omega) hw hi ef c H.1.2.1) (ma_ret ⟨rfl, rfl⟩))
    · refine ⟨-1, a, hW, mi_c1 (fun σ H => ?_), mi_d1 (fun σ H => ?_)⟩
      · obtain ⟨p, Hp⟩ := H.2.1
        have c := Hp.2.2.2.2 v w e
        unfold F_X11_field F_X11_field_34
        refine ma_be (mv_getS Hp hl hv) (ma_ms (ma_be (ml_hasEl _ hw c) ?_))
        rw [if_pos he]
        refine ma_F ma_01 (ma_be (r := 0) (s := σ) (ma_eq ?_) (ma_T rfl (ma_ret ⟨rfl, rfl⟩)))
        unfold F_X9_hasField F_X9_hasField_22 F_X9_hasField_23
        rcases ma_ix v3 (n := (mv_fs w).length) (by omega) with ⟨q1, q2⟩ | ⟨q1, q2, q3⟩ | ⟨j, q1, q2, q3⟩
        · exact ma_T q1 (ma_gd ma_z0 (ma_ret ⟨rfl, rfl⟩))
        · exact ma_F q1 (ma_T (by rw [c.2.2.2.2.2.2.2.1]; exact q2) (ma_gd ma_z0 (ma_ret ⟨rfl, rfl⟩)))
        · exact absurd ⟨by omega, by omega⟩ q
      · have c := H.2.1.2 v w e
        unfold F_X12_field F_X12_field_38 F_X12_field_41
        refine ma_be (ml_isEl _ H.2.1 hl hv e hw) ?_
        rw [if_pos he]
        refine ma_F ma_01 (ma_gd (ma_ib v rfl (by omega) (by decide)) ?_)
        rw [nI_clamp (show v < 2 ^ 31 by omega)]
        refine ma_be (ma_isInN (mv_fs w).length c.2.2.2.2.2.2.2.1 (by omega) σ) ?_
        rw [if_neg q]
        exact ma_T rfl (ma_ret ⟨rfl, rfl⟩))
