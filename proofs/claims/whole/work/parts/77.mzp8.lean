/-! peek, read, write, writeFloat, rest -/
/-- in the midst of a call that changes memory: memory is m, of the class, of the model -/
def my_C (a : mi_A) (σ : ae_S) (m : Nat → Int32) (τ : ae_S) : Prop := mb_C (mi_m a).1 m (mi_m a).2.1 (mi_m a).2.2.2 τ ∧ ma_fr (fun g _ _ => g ≠ 3 ∧ g ≠ 4) σ τ
def my_M (a : mi_A) (σ : ae_S) (m : Nat → Int32) (τ : ae_S) : Prop := mb_N (mi_m a).1 m (mi_m a).2.1 (mi_m a).2.2.2 τ ∧ ma_fr (fun g _ _ => g ≠ 31 ∧ g ≠ 32) σ τ
section MY
variable {a : mi_A} {σ τ : ae_S} {m : Nat → Int32} {w : mv_V} {j : Fin 32} {v i : Nat}
theorem my_begC (H : mi_C a σ) : ma_wp (F_X0_begin σ) (fun _ τ => my_C a σ (mi_m a).2.1 τ) := ma_mono (mb_begin H.1) (fun _ τ b => ⟨b.1, b.2.mo (fun g i k q => q.2)⟩)
theorem my_keep (hW : mi_W a) (H : mi_C a σ) (h : my_C a σ m τ) : ma_wp (F_X0_keep τ) (fun _ υ => mi_C (mz_com a m) υ ∧ ma_fr (fun g _ _ => 30 ≤ g) σ υ) := mz_keep hW H h.2 h.1
theorem my_C1 (c : mv_C1 j w σ) (h : my_C a σ m τ) : mv_C1 j w τ := c.fr h.2 (fun _ => by decide) (fun _ => by decide) (fun _ => by decide) (fun _ => by decide)
theorem my_putC {x : Int64} (hs : (mi_m a).1 ≤ 256) (hw : mv_W1 (mi_m a).1 w) (hi : i < mv_ct w) (c : mv_C1 j w σ) (h : my_C a σ m τ) : ma_wp (F_X9_put j (nI i) x τ) (fun _ υ => my_C a σ (ml_put m w i x) υ) :=
  ma_mono (ml_putC hs hw hi (my_C1 c h) h.1.2.1) (fun _ υ q => ⟨h.1.now q.2 q.1, h.2.tr (q.2.mo (fun g i k q => by omega))⟩)
theorem my_layC {x : Int64} (hs : (mi_m a).1 ≤ 256) (hw : mv_W1 (mi_m a).1 w) (hi : i < mv_ct w) (c : mv_C1 j w σ) (h : my_C a σ m τ) : ma_wp (F_X9_lay j (nI i) x τ) (fun _ υ => my_C a σ (ml_lay m w i x) υ) :=
  ma_mono (ml_layC hs hw hi (my_C1 c h) h.1.2.1) (fun _ υ q => ⟨h.1.now q.2 q.1, h.2.tr (q.2.mo (fun g i k q => by omega))⟩)
theorem my_begM (hs : (mi_m a).1 ≤ 256) (H : mi_M a σ) : ma_wp (F_X12_begins σ) (fun _ τ => my_M a σ (mi_m a).2.1 τ) := ma_mono (mb_begins hs H.1) (fun _ τ b => ⟨b.1, b.2.mo (fun g i k q => q.2)⟩)
theorem my_ends (hW : mi_W a) (H : mi_M a σ) (h : my_M a σ m τ) : ma_wp (F_X12_ends 1 τ) (fun _ υ => mi_M (mz_com a m) υ ∧ ma_fr (fun g _ _ => g < 30) σ υ) := mz_ends hW H h.2 h.1
theorem my_M1 (c : mv_M1 v w σ) (h : my_M a σ m τ) : mv_M1 v w τ := c.fr h.2 (fun _ _ _ _ => by omega)
theorem my_wrM {x : Int64} (hs : (mi_m a).1 ≤ 256) (hv : v < 16) (hw : mv_W1 (mi_m a).1 w) (hi : i < mv_ct w) (c : mv_M1 v w σ) (h : my_M a σ m τ) : ma_wp (F_X12_writes (nI v) (nI i) x τ) (fun _ υ => my_M a σ (ml_put m w i x) υ) :=
  ma_mono (ml_writesM hs hv hw hi (my_M1 c h) h.1.2.1) (fun _ υ q => ⟨h.1.now q.2 q.1, h.2.tr (q.2.mo (fun g i k q => q.1))⟩)
theorem my_lyM {x : Int64} (hs : (mi_m a).1 ≤ 256) (hv : v < 16) (hw : mv_W1 (mi_m a).1 w) (hi : i < mv_ct w) (c : mv_M1 v w σ) (h : my_M a σ m τ) : ma_wp (F_X12_lays (nI v) (nI i) x τ) (fun _ υ => my_M a σ (ml_lay m w i x) υ) :=
  ma_mono (ml_laysM hs hv hw hi (my_M1 c h) h.1.2.1) (fun _ υ q => ⟨h.1.now q.2 q.1, h.2.tr (q.2.mo (fun g i k q => q.1))⟩)
end MY
theorem mg_bx {a : mi_A} (hW : mi_W a) {w : mv_V} (hw : mv_W1 (mi_m a).1 w) (i : Nat) : ∃ n, n < 2 ^ (8 * mv_by (mv_kd w)) ∧ ml_bits (mi_m a).2.1 w i = lN n := mg_bits hW.1.2.2.2.1 w i (mv_byle _ hw.1).2
theorem mz_peek : zp_peek mi_I := fun v1 v2 => mi_zp (fun a hW => by
  have hs : (mi_m a).1 ≤ 256 := hW.1.2.1
  have hl := hW.2.1.1
  refine mz_ve (x := v1) (y := v2) (r0 := -9223372036854775801) hW (fun hx => ⟨fun p σ Hp => ?_, fun σ H => ?_⟩) (fun v w hx hv e hw hq => ⟨fun p σ Hp => ?_, fun σ H => ?_⟩) (fun v w i hx hv e hw hy hi => ?_)
  · unfold F_X11_peek F_X11_peek_22
    exact ma_be (mv_getN Hp hl hx) (ma_mn (ma_ret ⟨rfl, rfl⟩))
  · unfold F_X12_peek F_X12_peek_22
    exact ma_be (ml_isElN H hl hx) (ma_T rfl (ma_ret ⟨rfl, rfl⟩))
  · subst hx
    unfold F_X11_peek F_X11_peek_22
    refine ma_be (mv_getS Hp hl hv) (ma_ms (ma_be (ml_hasEl _ hw (Hp.2.2.2.2 v w e)) ?_))
    rw [Int32.toInt_toInt64, if_neg hq]
    exact ma_T rfl (ma_ret ⟨rfl, rfl⟩)
  · subst hx
    unfold F_X12_peek F_X12_peek_22
    refine ma_be (ml_isEl _ H hl hv e hw) ?_
    rw [Int32.toInt_toInt64, if_neg hq]
    exact ma_T rfl (ma_ret ⟨rfl, rfl⟩)
  · subst hx hy
    have h2 := hw.2.2.1
    have he : (0 : Int) ≤ (nI i).toInt64.toInt ∧ (nI i).toInt64.toInt < mv_ct w := by rw [Int32.toInt_toInt64, nI_toInt (by omega)]; omega
    refine ⟨mg_told (mv_kd w) (ml_bits (mi_m a).2.1 w i), a, hW, mi_c1 (fun σ H => ?_), mi_d1 (fun σ H => ?_)⟩
    · obtain ⟨p, Hp⟩ := H.2.1
      have c := Hp.2.2.2.2 v w e
      unfold F_X11_peek
      refine ma_be (mv_getS Hp hl hv) (ma_ms (ma_be (ml_hasEl _ hw c) ?_))
      rw [if_pos he]
      exact ma_F ma_01 (ma_be (ml_bitsAt hs hw hi c H.1.2.1) (ma_be (mg_ansC hw c (mg_bx hW hw i)) (ma_ret ⟨rfl, rfl⟩)))
    · have c := H.2.1.2 v w e
      unfold F_X12_peek F_X12_peek_22
      refine ma_be (ml_isEl _ H.2.1 hl hv e hw) ?_
      rw [if_pos he]
      exact ma_F ma_01 (ma_be (mg_tlM hs (by omega) hw hi c H.1.2.1) (ma_ret ⟨rfl, rfl⟩)))
theorem mz_read : zp_read mi_I := fun v1 v2 => mi_zp (fun a hW => by
  have hs : (mi_m a).1 ≤ 256 := hW.1.2.1
  have hl := hW.2.1.1
  refine mz_ve (x := v1) (y := v2) (r0 := -9223372036854775801) hW (fun hx => ⟨fun p σ Hp => ?_, fun σ H => ?_⟩) (fun v w hx hv e hw hq => ⟨fun p σ Hp => ?_, fun σ H => ?_⟩) (fun v w i hx hv e hw hy hi => ?_)
  · unfold F_X11_read F_X11_read_22
    exact ma_be (mv_getN Hp hl hx) (ma_mn (ma_ret ⟨rfl, rfl⟩))
  · unfold F_X12_read
    exact ma_be (ml_isElN H hl hx) (ma_T rfl (ma_ret ⟨rfl, rfl⟩))
  · subst hx
    unfold F_X11_read F_X11_read_22
    refine ma_be (mv_getS Hp hl hv) (ma_ms (ma_be (ml_hasEl _ hw (Hp.2.2.2.2 v w e)) ?_))
    rw [Int32.toInt_toInt64, if_neg hq]
    exact ma_T rfl (ma_ret ⟨rfl, rfl⟩)
  · subst hx
    unfold F_X12_read
    refine ma_be (ml_isEl _ H hl hv e hw) ?_
    rw [Int32.toInt_toInt64, if_neg hq]
    exact ma_T rfl (ma_ret ⟨rfl, rfl⟩)
  · subst hx hy
    have h2 := hw.2.2.1
    have ha : mv_ac w < 4 := hw.2.2.2.2.2.2.1
    have he : (0 : Int) ≤ (nI i).toInt64.toInt ∧ (nI i).toInt64.toInt < mv_ct w := by rw [Int32.toInt_toInt64, nI_toInt (by omega)]; omega
    by_cases q3 : mv_ac w = 3
    · refine ⟨mg_told (mv_kd w) (ml_bits (mi_m a).2.1 w i), mz_com a (ml_lay (mi_m a).2.1 w i 0), mz_comW hW (ml_lay_by hW.1.2.2.2.1) (ml_lay_z hw hi hW.1.2.2.2.2.1), fun σ H => ?_, fun σ H => ?_⟩
      · obtain ⟨p, Hp⟩ := H.2.1
        have c := Hp.2.2.2.2 v w e
        unfold F_X11_read
        refine ma_be (mv_getS Hp hl hv) (ma_ms (ma_be (ml_hasEl _ hw c) ?_))
        rw [if_pos he]
        refine ma_F ma_01 (ma_bd (my_begC H) (fun _ τ b => ?_))
        have ct := my_C1 c b
        refine ma_be (ml_bitsAt hs hw hi ct b.1.2.1) (ma_be (mg_ansC hw ct (mg_bx hW hw i)) (ma_bd (P := fun _ υ => my_C a σ (ml_lay (mi_m a).2.1 w i 0) υ) ?_ (fun _ υ d => ma_bd (my_keep hW H d) (fun _ ω k => ma_ret ⟨rfl, k⟩))))
        unfold F_X9_clearIfRead F_X9_clearIfRead_15
        exact ma_T (by rw [ct.2.2.2.2.2.2.1, q3]; rfl) (ma_bd (my_layC hs hw hi c b) (fun _ υ d => ma_ret d))
      · have c := H.2.1.2 v w e
        unfold F_X12_read F_X12_read_42
        refine ma_be (ml_isEl _ H.2.1 hl hv e hw) ?_
        rw [if_pos he]
        refine ma_F ma_01 (ma_bd (my_begM hs H) (fun _ τ b => ?_))
        have ct := my_M1 c b
        refine ma_be (mg_tlM hs (by omega) hw hi ct b.1.2.1) (ma_gd (ma_ib v rfl (by omega) (by decide)) ?_)
        rw [nI_clamp (show v < 2 ^ 31 by omega)]
        exact ma_T (by rw [ct.2.2.2.2.2.2.1, q3]; rfl) (ma_bd (my_lyM hs (by omega) hw hi c b) (fun _ υ d => ma_bd (my_ends hW H d) (fun _ ω k => ma_ret ⟨rfl, k⟩)))
    · refine ⟨mg_told (mv_kd w) (ml_bits (mi_m a).2.1 w i), mz_com a (mi_m a).2.1, mz_comW hW hW.1.2.2.2.1 hW.1.2.2.2.2.1, fun σ H => ?_, fun σ H => ?_⟩
      · obtain ⟨p, Hp⟩ := H.2.1
        have c := Hp.2.2.2.2 v w e
        unfold F_X11_read
        refine ma_be (mv_getS Hp hl hv) (ma_ms (ma_be (ml_hasEl _ hw c) ?_))
        rw [if_pos he]
        refine ma_F ma_01 (ma_bd (my_begC H) (fun _ τ b => ?_))
        have ct := my_C1 c b
        refine ma_be (ml_bitsAt hs hw hi ct b.1.2.1) (ma_be (mg_ansC hw ct (mg_bx hW hw i)) (ma_bd (P := fun _ υ => my_C a σ (mi_m a).2.1 υ) ?_ (fun _ υ d => ma_bd (my_keep hW H d) (fun _ ω k => ma_ret ⟨rfl, k⟩))))
        unfold F_X9_clearIfRead F_X9_clearIfRead_15
        exact ma_en (mv_ac w) 3 ct.2.2.2.2.2.2.1 rfl (by omega) (by decide) (fun q => absurd q q3) (fun _ => ma_ret b)
      · have c := H.2.1.2 v w e
        unfold F_X12_read F_X12_read_42
        refine ma_be (ml_isEl _ H.2.1 hl hv e hw) ?_
        rw [if_pos he]
        refine ma_F ma_01 (ma_bd (my_begM hs H) (fun _ τ b => ?_))
        have ct := my_M1 c b
        refine ma_be (mg_tlM hs (by omega) hw hi ct b.1.2.1) (ma_gd (ma_ib v rfl (by omega) (by decide)) ?_)
        rw [nI_clamp (show v < 2 ^ 31 by omega)]
        exact ma_en (mv_ac w) 3 ct.2.2.2.2.2.2.1 rfl (by omega) (by decide) (fun q => absurd q q3) (fun _ => ma_bd (my_ends hW H b) (fun _ ω k => ma_ret ⟨rfl, k⟩)))
theorem mz_write : zp_write mi_I := fun v1 v2 v3 => mi_zp (fun a hW => by
  have hs : (mi_m a).1 ≤ 256 := hW.1.2.1
  have hl := hW.2.1.1
  refine mz_ve (x := v1) (y := v2) (r0 := 0) hW (fun hx => ⟨fun p σ Hp => ?_, fun σ H => ?_⟩) (fun v w hx hv e hw hq => ⟨fun p σ Hp => ?_, fun σ H => ?_⟩) (fun v w i hx hv e hw hy hi => ?_)
  · unfold F_X11_write F_X11_write_33
    exact ma_be (mv_getN Hp hl hx) (ma_mn (ma_ret ⟨rfl, rfl⟩))
  · unfold F_X12_write F_X12_write_20
    exact ma_be (ml_isElN H hl hx) (ma_T rfl (ma_ret ⟨rfl, rfl⟩))
  · subst hx
    unfold F_X11_write F_X11_write_33
    refine ma_be (mv_getS Hp hl hv) (ma_ms (ma_be (ml_hasEl _ hw (Hp.2.2.2.2 v w e)) ?_))
    rw [Int32.toInt_toInt64, if_neg hq]
    exact ma_T rfl (ma_ret ⟨rfl, rfl⟩)
  · subst hx
    unfold F_X12_write F_X12_write_20
    refine ma_be (ml_isEl _ H hl hv e hw) ?_
    rw [Int32.toInt_toInt64, if_neg hq]
    exact ma_T rfl (ma_ret ⟨rfl, rfl⟩)
  · subst hx hy
    have h2 := hw.2.2.1
    have ha : mv_ac w < 4 := hw.2.2.2.2.2.2.1
    have he : (0 : Int) ≤ (nI i).toInt64.toInt ∧ (nI i).toInt64.toInt < mv_ct w := by rw [Int32.toInt_toInt64, nI_toInt (by omega)]; omega
    by_cases ro : mv_ac w = 1
    · refine ⟨0, a, hW, mi_c1 (fun σ H => ?_), mi_d1 (fun σ H => ?_)⟩
      · obtain ⟨p, Hp⟩ := H.2.1
        have c := Hp.2.2.2.2 v w e
        unfold F_X11_write F_X11_write_33
        refine ma_be (mv_getS Hp hl hv) (ma_ms (ma_be (ml_hasEl _ hw c) ?_))
        rw [if_pos he]
        refine ma_F ma_01 (ma_be (ml_isRO hw c) ?_)
        rw [if_pos ro]
        exact ma_F ma_01 (ma_ret ⟨rfl, rfl⟩)
      · have c := H.2.1.2 v w e
        unfold F_X12_write F_X12_write_20
        refine ma_be (ml_isEl _ H.2.1 hl hv e hw) ?_
        rw [if_pos he]
        refine ma_F ma_01 (ma_gd (ma_ib v rfl (by omega) (by decide)) ?_)
        rw [nI_clamp (show v < 2 ^ 31 by omega)]
        exact ma_T (by rw [c.2.2.2.2.2.2.1, ro]; rfl) (ma_ret ⟨rfl, rfl⟩)
    · refine ⟨1, mz_com a (ml_put (mi_m a).2.1 w i (mg_bw (mv_kd w) v3)), mz_comW hW (ml_put_by hW.1.2.2.2.1) (ml_put_z hw hi hW.1.2.2.2.2.1), fun σ H => ?_, fun σ H => ?_⟩
      · obtain ⟨p, Hp⟩ := H.2.1
        have c := Hp.2.2.2.2 v w e
        unfold F_X11_write
        refine ma_be (mv_getS Hp hl hv) (ma_ms (ma_be (ml_hasEl _ hw c) ?_))
        rw [if_pos he]
        refine ma_F ma_01 (ma_be (ml_isRO hw c) ?_)
        rw [if_neg ro]
        refine ma_T rfl (ma_bd (my_begC H) (fun _ τ b => ?_))
        obtain ⟨y, hy, ag⟩ := mg_bwC v3 hw (my_C1 c b)
        refine ma_be hy (ma_bd (my_putC hs hw hi c b) (fun _ υ d => ?_))
        rw [mg_put ag] at d
        exact ma_bd (my_keep hW H d) (fun _ ω k => ma_ret ⟨rfl, k⟩)
      · have c := H.2.1.2 v w e
        unfold F_X12_write
        refine ma_be (ml_isEl _ H.2.1 hl hv e hw) ?_
        rw [if_pos he]
        refine ma_F ma_01 (ma_gd (ma_ib v rfl (by omega) (by decide)) ?_)
        rw [nI_clamp (show v < 2 ^ 31 by omega)]
        refine ma_en (mv_ac w) 1 c.2.2.2.2.2.2.1 rfl (by omega) (by decide) (fun q => absurd q ro) (fun _ => ma_bd (my_begM hs H) (fun _ τ b => ?_))
        exact ma_be (mg_bwM v3 _ (by omega) hw (my_M1 c b)) (ma_bd (my_wrM hs (by omega) hw hi c b) (fun _ υ d => ma_bd (my_ends hW H d) (fun _ ω k => ma_ret ⟨rfl, k⟩))))
theorem mz_writeFloat : zp_writeFloat mi_I := fun v1 v2 v3 => mi_zp (fun a hW => by
  have hs : (mi_m a).1 ≤ 256 := hW.1.2.1
  have hl := hW.2.1.1
  refine mz_ve (x := v1) (y := v2) (r0 := 0) hW (fun hx => ⟨fun p σ Hp => ?_, fun σ H => ?_⟩) (fun v w hx hv e hw hq => ⟨fun p σ Hp => ?_, fun σ H => ?_⟩) (fun v w i hx hv e hw hy hi => ?_)
  · unfold F_X11_writeFloat F_X11_writeFloat_33
    exact ma_be (mv_getN Hp hl hx) (ma_mn (ma_ret ⟨rfl, rfl⟩))
  · unfold F_X12_writeFloat F_X12_writeFloat_20
    exact ma_be (ml_isElN H hl hx) (ma_T rfl (ma_ret ⟨rfl, rfl⟩))
  · subst hx
    unfold F_X11_writeFloat F_X11_writeFloat_33
    refine ma_be (mv_getS Hp hl hv) (ma_ms (ma_be (ml_hasEl _ hw (Hp.2.2.2.2 v w e)) ?_))
    rw [Int32.toInt_toInt64, if_neg hq]
    exact ma_T rfl (ma_ret ⟨rfl, rfl⟩)
  · subst hx
    unfold F_X12_writeFloat F_X12_writeFloat_20
    refine ma_be (ml_isEl _ H hl hv e hw) ?_
    rw [Int32.toInt_toInt64, if_neg hq]
    exact ma_T rfl (ma_ret ⟨rfl, rfl⟩)
  · subst hx hy
    have h2 := hw.2.2.1
    have ha : mv_ac w < 4 := hw.2.2.2.2.2.2.1
    have he : (0 : Int) ≤ (nI i).toInt64.toInt ∧ (nI i).toInt64.toInt < mv_ct w := by rw [Int32.toInt_toInt64, nI_toInt (by omega)]; omega
    by_cases ro : mv_ac w = 1
    · refine ⟨0, a, hW, mi_c1 (fun σ H => ?_), mi_d1 (fun σ H => ?_)⟩
      · obtain ⟨p, Hp⟩ := H.2.1
        have c := Hp.2.2.2.2 v w e
        unfold F_X11_writeFloat F_X11_writeFloat_33
        refine ma_be (mv_getS Hp hl hv) (ma_ms (ma_be (ml_hasEl _ hw c) ?_))
        rw [if_pos he]
        refine ma_F ma_01 (ma_be (ml_isRO hw c) ?_)
        rw [if_pos ro]
        exact ma_F ma_01 (ma_ret ⟨rfl, rfl⟩)
      · have c := H.2.1.2 v w e
        unfold F_X12_writeFloat F_X12_writeFloat_20
        refine ma_be (ml_isEl _ H.2.1 hl hv e hw) ?_
        rw [if_pos he]
        refine ma_F ma_01 (ma_gd (ma_ib v rfl (by omega) (by decide)) ?_)
        rw [nI_clamp (show v < 2 ^ 31 by omega)]
        exact ma_T (by rw [c.2.2.2.2.2.2.1, ro]; rfl) (ma_ret ⟨rfl, rfl⟩)
    · refine ⟨1, mz_com a (ml_put (mi_m a).2.1 w i (mg_bf (mv_kd w) v3.toUInt64)), mz_comW hW (ml_put_by hW.1.2.2.2.1) (ml_put_z hw hi hW.1.2.2.2.2.1), fun σ H => ?_, fun σ H => ?_⟩
      · obtain ⟨p, Hp⟩ := H.2.1
        have c := Hp.2.2.2.2 v w e
        unfold F_X11_writeFloat
        refine ma_be (mv_getS Hp hl hv) (ma_ms (ma_be (ml_hasEl _ hw c) ?_))
        rw [if_pos he]
        refine ma_F ma_01 (ma_be (ml_isRO hw c) ?_)
        rw [if_neg ro]
        refine ma_T rfl (ma_bd (my_begC H) (fun _ τ b => ?_))
        obtain ⟨y, hy, ag⟩ := mg_bfC (mg_Rraw v3) hw (my_C1 c b)
        refine ma_be hy (ma_bd (my_putC hs hw hi c b) (fun _ υ d => ?_))
        rw [mg_put ag] at d
        exact ma_bd (my_keep hW H d) (fun _ ω k => ma_ret ⟨rfl, k⟩)
      · have c := H.2.1.2 v w e
        unfold F_X12_writeFloat
        refine ma_be (ml_isEl _ H.2.1 hl hv e hw) ?_
        rw [if_pos he]
        refine ma_F ma_01 (ma_gd (ma_ib v rfl (by omega) (by decide)) ?_)
        rw [nI_clamp (show v < 2 ^ 31 by omega)]
        refine ma_en (mv_ac w) 1 c.2.2.2.2.2.2.1 rfl (by omega) (by decide) (fun q => absurd q ro) (fun _ => ma_bd (my_begM hs H) (fun _ τ b => ?_))
        exact ma_be (mg_bfM _ v3.toUInt64 (by omega) hw (my_M1 c b)) (ma_bd (my_wrM hs (by omega) hw hi c b) (fun _ υ d => ma_bd (my_ends hW H d) (fun _ ω k => ma_ret ⟨rfl, k⟩))))
theorem mz_rest : zp_rest mi_I := fun v1 v2 v3 => mi_zp (fun a hW => by
  have hs : (mi_m a).1 ≤ 256 := hW.1.2.1
  have hl := hW.2.1.1
  refine mz_ve (x := v1) (y := v2) (r0 := -1) hW (fun hx => ⟨fun p σ Hp => ?_, fun σ H => ?_⟩) (fun v w hx hv e hw hq => ⟨fun p σ Hp => ?_, fun σ H => ?_⟩) (fun v w i hx hv e hw hy hi => ?_)
  · unfold F_X11_rest F_X11_rest_36
    exact ma_be (mv_getN Hp hl hx) (ma_mn (ma_ret ⟨rfl, rfl⟩))
  · unfold F_X12_rest F_X12_rest_18
    exact ma_be (ml_isElN H hl hx) (ma_T rfl (ma_ret ⟨rfl, rfl⟩))
  · subst hx
    have c := Hp.2.2.2.2 v w e
    unfold F_X11_rest F_X11_rest_36
    refine ma_be (mv_getS Hp hl hv) (ma_ms (mv_kk c.2.1 hw.1 (ma_if (fun _ => ma_ret ⟨rfl, rfl⟩) (fun _ => ma_be (ml_hasEl _ hw c) ?_))))
    rw [Int32.toInt_toInt64, if_neg hq]
    exact ma_T rfl (ma_ret ⟨rfl, rfl⟩)
  · subst hx
    unfold F_X12_rest F_X12_rest_18
    refine ma_be (ml_isEl _ H hl hv e hw) ?_
    rw [Int32.toInt_toInt64, if_neg hq]
    exact ma_T rfl (ma_ret ⟨rfl, rfl⟩)
  · subst hx hy
    have h2 := hw.2.2.1
    have he : (0 : Int) ≤ (nI i).toInt64.toInt ∧ (nI i).toInt64.toInt < mv_ct w := by rw [Int32.toInt_toInt64, nI_toInt (by omega)]; omega
    refine ⟨if 7 ≤ mv_kd w then ae_db (FP.drem (mg_fl (mv_kd w) (ml_bits (mi_m a).2.1 w i)) (FP.l2d v3)) else -1, a, hW, mi_c1 (fun σ H => ?_), mi_d1 (fun σ H => ?_)⟩
    · obtain ⟨p, Hp⟩ := H.2.1
      have c := Hp.2.2.2.2 v w e
      unfold F_X11_rest F_X11_rest_36
      refine ma_be (mv_getS Hp hl hv) (ma_ms (mv_kk c.2.1 hw.1 ?_))
      rw [mv_kF _ hw.1]
      by_cases h : 7 ≤ mv_kd w
      · rw [decide_eq_true h, if_pos (c := 7 ≤ mv_kd w) h]
        refine ma_F (by decide) (ma_be (ml_hasEl _ hw c) ?_)
        rw [if_pos he]
        refine ma_F ma_01 (ma_be (ml_bitsAt hs hw hi c H.1.2.1) (ma_be (mg_valC hw c (mg_bx hW hw i)) (ma_be (mg_ofWhole v3 σ) ?_)))
        unfold mg_vl
        rw [if_pos h]
        exact ma_be (mg_rem _ _ σ) (ma_ret ⟨rfl, rfl⟩)
      · rw [decide_eq_false h, if_neg (c := 7 ≤ mv_kd w) h]
        exact ma_T rfl (ma_ret ⟨rfl, rfl⟩)
    · have c := H.2.1.2 v w e
      unfold F_X12_rest F_X12_rest_18
      refine ma_be (ml_isEl _ H.2.1 hl hv e hw) ?_
      rw [if_pos he]
      refine ma_F ma_01 (ma_be (mg_isFl (by omega) hw c) ?_)
      by_cases h : 7 ≤ mv_kd w
      · rw [decide_eq_true h, if_pos (c := 7 ≤ mv_kd w) h]
        exact ma_F (by decide) (ma_be (mg_flM hs (by omega) hw hi c H.1.2.1) (ma_ret ⟨rfl, rfl⟩))
      · rw [decide_eq_false h, if_neg (c := 7 ≤ mv_kd w) h]
        exact ma_T rfl (ma_ret ⟨rfl, rfl⟩))
