/-! the class reads a view, all views -/
def kG (j0 : Fin 32) (g : Nat) (i : Fin 32) (k : Nat) : Prop := kF j0 g i k ∧ ¬ (g = 6 ∧ k = 3)
section KX
variable {T : kt_T} {σ τ : ae_S} {k st ct sd ac sz : Nat} {j0 : Fin 32} {nm : Int64} {bg : Bool}
theorem kv_fldsC (hT : kt_W T) (hk : k < 9) : ∀ (m n : Nat) (fs : List mv_F) (j : Nat) (σ : ae_S), fs.length + m = 9 → fs.length ≤ 8 → m ≤ n → kt_St T 3 j σ → mv_C1 j0 (nm, k, bg, st, ct, sd, ac, fs) σ → ma_wp (F_X10_takeFields_42 n j0 (nI fs.length) σ) (fun r τ => kv_po (kv_flds T k m fs j) (fun f p => r = 0 ∧ kc_bad f p τ ∧ ma_fr (kW j0) σ τ) (fun x => r = 1 ∧ ma_fr (kF j0) σ τ ∧ kt_St T 3 x.2 τ ∧ mv_C1 j0 (nm, k, bg, st, ct, sd, ac, x.1) τ)) := by
  intro m
  induction m with
  | zero => intro n fs j σ h1 h2; omega
  | succ m ih =>
    intro n fs j σ h1 h2 h3 H c
    obtain ⟨n, rfl⟩ : ∃ n', n = n' + 1 := ⟨n - 1, by omega⟩
    unfold F_X10_takeFields_42 kv_flds
    refine ma_F (nI_nlt (b := 8) (a := 8) (by omega) (by decide) |> fun _ => ?_) (ma_bd (kv_fldC hT hk h2 H c) (fun r1 τ1 q1 => ?_))
    · rw [show (8 : Int32) = nI 8 from rfl, nI_ltI (by decide) (by omega)]; omega
    generalize kv_fld T k fs j = o at q1 ⊢
    rcases o with e | x
    · obtain ⟨rfl, q1, f1⟩ := q1
      exact ma_T rfl (ma_ret ⟨rfl, q1, f1⟩)
    · obtain ⟨rfl, f1, hlt, H1, c1⟩ := q1
      refine ma_F ma_01 ?_
      show ma_wp _ (fun r τ => kv_po (if kt_sg T x.2 44 = true then kv_flds T k m (fs ++ [x.1]) (x.2 + 1) else if kt_sg T x.2 125 = true then .inr (fs ++ [x.1], x.2 + 1) else .inl (1, kt_s T x.2)) (fun f p => r = 0 ∧ kc_bad f p τ ∧ ma_fr (kW j0) σ τ) (fun x => r = 1 ∧ ma_fr (kF j0) σ τ ∧ kt_St T 3 x.2 τ ∧ mv_C1 j0 (nm, k, bg, st, ct, sd, ac, x.1) τ))
      refine ma_be (kc_sign H1 hT (c := 44) (by decide)) ?_
      cases h44 : kt_sg T x.2 44 with
      | true =>
        rw [if_pos (c := true = true) rfl]
        refine ma_F (by decide) (ma_bd (kc_adv H1) (fun _ τ2 q2 => ma_lt ?_))
        have hl1 : (fs ++ [x.1]).length = fs.length + 1 := by rw [List.length_append]; rfl
        rw [nI_1, ← hl1]
        refine ma_mono (ih n (fs ++ [x.1]) (x.2 + 1) τ2 (by omega) (by omega) (by omega) q2.1 (kc_C1a c1 q2.2)) (fun r τ q => ?_)
        generalize kv_flds T k m (fs ++ [x.1]) (x.2 + 1) = o at q ⊢
        rcases o with e | y
        · exact ⟨q.1, q.2.1, (kWF (f1.tr (kF_adv q2.2))).tr q.2.2⟩
        · exact ⟨q.1, f1.tr ((kF_adv q2.2).tr q.2.1), q.2.2⟩
      | false =>
        rw [if_neg (c := false = true) (by decide)]
        refine ma_T rfl (ma_bd (kc_take H1 hT (c := 125) (by decide)) (fun r2 τ2 q2 => ?_))
        rcases q2 with ⟨hs2, rfl, H2, f2⟩ | ⟨hs2, rfl, b1, b2, f2⟩
        · rw [if_pos (c := kt_sg T x.2 125 = true) hs2]
          exact ma_gd ma_z1 (ma_ret ⟨rfl, f1.tr (kF_adv f2), H2, kc_C1a c1 f2⟩)
        · rw [if_neg (c := kt_sg T x.2 125 = true) (by rw [hs2]; decide)]
          exact ma_gd ma_z0 (ma_ret ⟨rfl, ⟨b1, b2⟩, (kWF f1).tr (kW_ref f2)⟩)
theorem kv_endC (hT : kt_W T) (hk : k < 9) {j : Nat} (H : kt_St T 3 j σ) (c : mv_C1 j0 (nm, k, bg, st, ct, sd, 0, []) σ) : ma_wp (F_X10_takeView_115 j0 1 σ) (fun r τ => kv_po (kv_v3 T nm k bg st ct sd (kt_ac T j) (if kt_ac T j = 0 then j else j + 1)) (fun f p => r = 0 ∧ kc_bad f p τ ∧ ma_fr (kW j0) σ τ) (fun x => r = 1 ∧ ma_fr (kG j0) σ τ ∧ kt_St T 3 x.2 τ ∧ mv_C1 j0 x.1 τ ∧ τ.1 6 0 3 = σ.1 6 0 3 + 1)) := by
  have fG : ∀ {υ : ae_S}, ma_fr (kF j0) σ υ → ma_fr (kG j0) σ υ := fun f => f.mo (fun g i k q => q.1)
  unfold F_X10_takeView_115 F_X10_takeView_147
  refine ma_F ma_01 (ma_bd (kv_accC H c) (fun _ τ1 q1 => ?_))
  obtain ⟨f1, H1, c1⟩ := q1
  generalize (if kt_ac T j = 0 then j else j + 1) = j1 at H1 ⊢
  generalize kt_ac T j = ac at c1 ⊢
  have last : ∀ (w : mv_V) (j2 : Nat) (υ : ae_S), kt_St T 3 j2 υ → mv_C1 j0 w υ → ma_fr (kF j0) σ υ → ma_wp (ae_bd (F_X8_takeSign (59 : Int32) υ) (fun (r13 : Int32) s14 => if r13 = 0 then (some ((0 : Int32), s14)) else (ae_bd (F_X6_keepComing s14) (fun (r19 : Unit) s20 => some ((1 : Int32), s20))))) (fun r τ => kv_po (kv_v4 T w j2) (fun f p => r = 0 ∧ kc_bad f p τ ∧ ma_fr (kW j0) σ τ) (fun x => r = 1 ∧ ma_fr (kG j0) σ τ ∧ kt_St T 3 x.2 τ ∧ mv_C1 j0 x.1 τ ∧ τ.1 6 0 3 = σ.1 6 0 3 + 1)) := by
    intro w j2 υ Hu cu fu
    unfold kv_v4 F_X6_keepComing
    refine ma_bd (kc_take Hu hT (c := 59) (by decide)) (fun r3 τ3 q3 => ?_)
    rcases q3 with ⟨hs3, rfl, H3, f3⟩ | ⟨hs3, rfl, b1, b2, f3⟩
    · rw [if_pos (c := kt_sg T j2 59 = true) hs3]
      have fw : ∀ x : Int32, ma_fr (fun g _ k => ¬ (g = 6 ∧ k = 3)) τ3 (ae_wI τ3 6 0 3 x) := fun x => ma_fwI (by simp)
      refine ma_F ma_01 (ma_be rfl (ma_ret ⟨rfl, ?_, ?_, ?_, ?_⟩))
      · exact (fG (fu.tr (kF_adv f3))).tr ((fw _).mo (fun g i k q => q.2))
      · exact H3.fr (fw _) (by simp) (by simp) (fun _ _ => by simp) (fun _ => by simp)
      · exact (kc_C1a cu f3).fr (fw _) (fun _ => by simp) (fun _ => by simp) (fun _ => by simp) (fun _ => by simp)
      · rw [ma_rI, (fu.tr (kF_adv (j0 := j0) f3)).i (by unfold kF; simp)]
    · rw [if_neg (c := kt_sg T j2 59 = true) (by rw [hs3]; decide)]
      exact ma_T rfl (ma_ret ⟨rfl, ⟨b1, b2⟩, (kWF fu).tr (kW_ref f3)⟩)
  unfold kv_v3 F_X10_takeFields
  have hbd : ∀ {β : Type} (x : Option (Int32 × ae_S)) (f : Int32 → ae_S → Option (Int32 × ae_S)) (g : Int32 → ae_S → Option (Int32 × ae_S)), ae_bd (ae_bd x f) g = ae_bd x (fun a s => ae_bd (f a s) g) := fun x f g => by cases x <;> rfl
  rw [hbd (β := Unit)]
  refine ma_be (kc_sign H1 hT (c := 123) (by decide)) ?_
  cases h123 : kt_sg T j1 123 with
  | false =>
    rw [if_neg (c := false = true) (by decide)]
    have e : (if mv_bI false = 0 then (some ((1 : Int32), τ1)) else (ae_mo (ae_gk (τ1.2.2.2 8 j0 4) 60) none (fun j33 => ae_gd (decide ((j33 : Fin 32).val < 9)) (if (ae_kFlo j33) = 0 then (ae_bd (F_X8_advance τ1) (fun (r39 : Unit) s40 => F_X10_takeFields_42 ae_fu j0 (0 : Int32) s40)) else (ae_bd (F_X8_refuse (4 : Int32) τ1) (fun (r43 : Int32) s44 => ae_gd (ae_zz r43) (some (r43, s44)))))))) = some ((1 : Int32), τ1) := if_pos rfl
    refine ma_be e (ma_F ma_01 (last _ j1 τ1 H1 c1 f1))
  | true =>
    rw [if_pos (c := true = true) rfl]
    by_cases h7 : 7 ≤ k
    · rw [if_pos (c := 7 ≤ k) h7]
      refine ma_bd (P := fun r τ => r = 0 ∧ kc_bad 4 (kt_s T j1) τ ∧ ma_fr (kW j0) σ τ) (ma_F (by decide) (mv_kk c1.2.1 hk ?_)) (fun r τ q => ?_)
      · rw [mv_kF k hk, decide_eq_true h7]
        refine ma_F (by decide) (ma_bd (kc_ref H1 4) (fun r τ q => ?_))
        obtain ⟨rfl, q⟩ := q
        exact ma_gd ma_z0 (ma_ret ⟨rfl, ⟨q.1, q.2.1⟩, (kWF f1).tr (kW_ref q.2.2)⟩)
      · obtain ⟨rfl, q, qf⟩ := q
        exact ma_T rfl (ma_ret ⟨rfl, q, qf⟩)
    · rw [if_neg (c := 7 ≤ k) h7]
      refine ma_bd (P := fun r τ => kv_po (kv_flds T k 9 [] (j1 + 1)) (fun f p => r = 0 ∧ kc_bad f p τ ∧ ma_fr (kW j0) σ τ) (fun x => r = 1 ∧ ma_fr (kF j0) σ τ ∧ kt_St T 3 x.2 τ ∧ mv_C1 j0 (nm, k, bg, st, ct, sd, ac, x.1) τ)) (ma_F (by decide) (mv_kk c1.2.1 hk ?_)) (fun r τ q => ?_)
      · rw [mv_kF k hk, decide_eq_false h7]
        refine ma_T rfl (ma_bd (kc_adv H1) (fun _ τ2 q2 => ?_))
        refine ma_mono (kv_fldsC hT hk 9 ae_fu [] (j1 + 1) τ2 (by decide) (by decide) (by decide) q2.1 (kc_C1a c1 q2.2)) (fun r τ q => ?_)
        generalize kv_flds T k 9 [] (j1 + 1) = o at q ⊢
        rcases o with e | x
        · exact ⟨q.1, q.2.1, (kWF (f1.tr (kF_adv q2.2))).tr q.2.2⟩
        · exact ⟨q.1, f1.tr ((kF_adv q2.2).tr q.2.1), q.2.2⟩
      · generalize kv_flds T k 9 [] (j1 + 1) = o at q ⊢
        rcases o with e | x
        · obtain ⟨rfl, q, qf⟩ := q
          exact ma_T rfl (ma_ret ⟨rfl, q, qf⟩)
        · obtain ⟨rfl, qf, H3, c3⟩ := q
          exact ma_F ma_01 (last _ x.2 τ H3 c3 qf)
/-- the class, in the midst of telling views -/
def kP_C (T : kt_T) (p : Nat) (vs : List mv_V) (j : Nat) (σ : ae_S) : Prop := kt_St T 3 j σ ∧ p < 2 ∧ σ.2.2.2 6 0 1 = some (7, Fin.ofNat 32 (1 - p)) ∧ σ.1 6 0 3 = nI vs.length ∧ ∀ v w, vs[v]? = some w → mv_C1 (mv_at (1 - p) v) w σ
def kH (p : Nat) (g : Nat) (i : Fin 32) (k : Nat) : Prop := ¬ (g = 12 ∧ k = 6) ∧ ¬ (8 ≤ g ∧ g ≤ 11 ∧ i.val / 16 = 1 - p) ∧ ¬ (g = 6 ∧ k = 3)
def kHW (p : Nat) (g : Nat) (i : Fin 32) (k : Nat) : Prop := ¬ (g = 12 ∧ (k = 6 ∨ k = 7 ∨ k = 8)) ∧ ¬ (8 ≤ g ∧ g ≤ 11 ∧ i.val / 16 = 1 - p) ∧ ¬ (g = 6 ∧ k = 3)
theorem kv_atV {p v : Nat} (hp : p < 2) (hv : v < 16) : (mv_at p v).val = 16 * p + v := mv_val (by omega)
theorem kv_viewC (hT : kt_W T) (hs : sz ≤ 256) {p j : Nat} {vs : List mv_V} (hl : vs.length ≤ 16) (H : kP_C T p vs j σ) : ma_wp (F_X10_takeView (nI sz) σ) (fun r τ => kv_po (kv_view T sz vs j) (fun f q => r = 0 ∧ kc_bad f q τ ∧ ma_fr (kHW p) σ τ) (fun x => r = 1 ∧ ma_fr (kH p) σ τ ∧ vs.length < 16 ∧ kP_C T p (vs ++ [x.1]) x.2 τ)) := by
  obtain ⟨HS, hp, h1, h3, hv⟩ := H
  have fH : ∀ {υ : ae_S}, ma_fr (fun g _ k => ¬ (g = 12 ∧ (k = 7 ∨ k = 8))) σ υ → ma_fr (kHW p) σ υ := fun f => f.mo (fun g i k q => by unfold kHW at q; omega)
  unfold F_X10_takeView F_X10_takeView_114 kv_view
  refine ma_be (kc_name HS) ?_
  cases hn : kt_nm T j with
  | false =>
    rw [if_neg (c := false = true) (by decide)]
    refine ma_T rfl (ma_bd (kc_ref HS 1) (fun r τ q => ?_))
    obtain ⟨rfl, q⟩ := q
    exact ma_gd ma_z0 (ma_ret (kv_pol ⟨rfl, ⟨q.1, q.2.1⟩, fH q.2.2⟩))
  | true =>
    rw [if_pos (c := true = true) rfl]
    refine ma_F (by decide) (ma_be (kc_value HS) ?_)
    rw [kt_nmV hn]
    have hco : F_X6_hasComing (kt_wv T j) σ = some (if kv_ix vs (kt_wv T j) = -1 then 0 else 1, σ) := by
      refine ma_eq ?_
      unfold F_X6_hasComing F_X6_hasComing_21
      refine ma_mo h1 ?_
      rw [h3]
      refine ma_be (kv_among _ (by omega) hl (fun v w e => (hv v w e).1)) (ma_if (fun g => ?_) (fun g => ?_))
      · rw [if_pos g]; exact ma_gd ma_z0 (ma_ret ⟨rfl, rfl⟩)
      · rw [if_neg g]; exact ma_gd ma_z1 (ma_ret ⟨rfl, rfl⟩)
    refine ma_be hco ?_
    by_cases g1 : kv_ix vs (kt_wv T j) = -1
    · rw [if_pos (c := kv_ix vs (kt_wv T j) = -1) g1, if_pos (c := kv_ix vs (kt_wv T j) = -1) g1]
      refine ma_T rfl ?_
      by_cases g2 : vs.length = 16
      · rw [if_pos (c := vs.length = 16) g2]
        have hnc : F_X6_nextComing σ = some (none, σ) := by
          refine ma_eq ?_
          unfold F_X6_nextComing F_X6_nextComing_28 F_X6_nextComing_29
          rw [h3, g2]
          exact ma_F (by decide) (ma_T (by decide) (ma_ret ⟨rfl, rfl⟩))
        refine ma_be hnc (ma_mn (ma_bd (kc_ref HS 4) (fun r τ q => ?_)))
        obtain ⟨rfl, q⟩ := q
        exact ma_gd ma_z0 (ma_ret (kv_pol ⟨rfl, ⟨q.1, q.2.1⟩, fH q.2.2⟩))
      · rw [if_neg (c := vs.length = 16) g2]
        have hnc : F_X6_nextComing σ = some (some (mv_at (1 - p) vs.length), σ) := by
          refine ma_eq ?_
          unfold F_X6_nextComing F_X6_nextComing_29
          rw [h3]
          refine ma_F (nI_pos (by omega)) (ma_F (nI_ge (b := 16) (by omega) (by decide)) (ma_mo h1 (ma_gd (ma_ib _ rfl (by omega) (by decide)) (ma_gd ?_ (ma_ret ⟨?_, rfl⟩)))))
          · have : p = 0 ∨ p = 1 := by omega
            rcases this with rfl | rfl <;> decide
          · rw [nI_clamp (by omega), mv_val (by omega)]; rfl
        refine ma_be hnc (ma_ms (ma_be (kc_value HS) ?_))
        rw [kt_nmV hn]
        have hj0 : (mv_at (1 - p) vs.length).val = 16 * (1 - p) + vs.length := kv_atV (by omega) (by omega)
        have hne : ∀ v, v < vs.length → mv_at (1 - p) v ≠ mv_at (1 - p) vs.length := fun v h e => by
          have e2 := congrArg Fin.val e
          rw [hj0, kv_atV (by omega) (by omega)] at e2
          omega
        generalize mv_at (1 - p) vs.length = j0 at hj0 hne ⊢
        have kFH : ∀ {υ ψ : ae_S}, ma_fr (kF j0) υ ψ → ma_fr (kH p) υ ψ := fun f => f.mo (fun g i k q => by
          unfold kH at q
          unfold kF
          refine ⟨q.1, fun h => q.2.1 ⟨h.1, h.2.1, ?_⟩⟩
          rw [h.2.2, hj0]; omega)
        have kGH : ∀ {υ ψ : ae_S}, ma_fr (kG j0) υ ψ → ma_fr (kH p) υ ψ := fun f => f.mo (fun g i k q => by
          have q2 := q
          unfold kH at q2
          unfold kG kF
          refine ⟨⟨q2.1, fun h => q2.2.1 ⟨h.1, h.2.1, ?_⟩⟩, q2.2.2⟩
          rw [h.2.2, hj0]; omega)
        have kWH : ∀ {υ ψ : ae_S}, ma_fr (kW j0) υ ψ → ma_fr (kHW p) υ ψ := fun f => f.mo (fun g i k q => by
          unfold kHW at q
          unfold kW
          refine ⟨q.1, fun h => q.2.1 ⟨h.1, h.2.1, ?_⟩⟩
          rw [h.2.2, hj0]; omega)
        refine ma_bd (P := fun _ τ => mv_C1 j0 (kt_wv T j, 0, false, 0, 1, 1, 0, []) τ ∧ ma_fr (fun g i _ => ¬ (g = 8 ∧ i = j0)) σ τ) ?_ (fun _ τ1 q1 => ?_)
        · unfold F_X9_restart
          refine ma_lt (ma_lt (ma_lt (ma_lt (ma_lt (ma_lt (ma_lt (ma_lt (ma_ret ⟨⟨?_, ?_, ?_, ?_, ?_, ?_, ?_, ma_rI, fun f q e => by have e : ([] : List mv_F)[f]? = some q := e; simp at e⟩, ?_⟩))))))))
          · exact ma_rL
          · exact ma_rR
          · rw [ma_rIn (by simp), ma_rIn (by simp), ma_rIn (by simp), ma_rIn (by simp), ma_rIn (by simp), ma_rI]; rfl
          · rw [ma_rIn (by simp), ma_rIn (by simp), ma_rIn (by simp), ma_rIn (by simp), ma_rI]; rfl
          · rw [ma_rIn (by simp), ma_rIn (by simp), ma_rIn (by simp), ma_rI]; rfl
          · rw [ma_rIn (by simp), ma_rIn (by simp), ma_rI]; rfl
          · rw [ma_rIn (by simp), ma_rI]; rfl
          · exact (ma_fwL (by simp)).tr ((ma_fwR (by simp)).tr ((ma_fwI (by simp)).tr ((ma_fwI (by simp)).tr ((ma_fwI (by simp)).tr ((ma_fwI (by simp)).tr ((ma_fwI (by simp)).tr (ma_fwI (by simp))))))))
        obtain ⟨c1, f1⟩ := q1
        have H1 : kt_St T 3 j τ1 := HS.fr f1 (by simp) (by simp) (fun _ _ => by simp) (fun _ => by simp)
        refine ma_bd (kc_adv H1) (fun _ τ2 q2 => ?_)
        have c2 := kc_C1a c1 q2.2
        have f2 : ma_fr (kF j0) σ τ2 := (f1.mo (fun g i k q => by unfold kF at q; intro h; exact q.2 ⟨by omega, by omega, h.2⟩)).tr (kF_adv q2.2)
        unfold F_X10_takeKind F_X10_takeKind_65
        have hbd : ∀ {α β : Type} (x : Option (α × ae_S)) (f : α → ae_S → Option (Int32 × ae_S)) (g : Int32 → ae_S → Option (Int32 × ae_S)), ae_bd (ae_bd x f) g = ae_bd x (fun a s => ae_bd (f a s) g) := fun x f g => by cases x <;> rfl
        have hfail : ∀ (υ : ae_S), ma_fr (kW j0) σ υ → ∀ f q, kc_bad f q υ → ∀ o : kv_O (mv_V × Nat), o = .inl (f, q) → ma_wp (F_X10_takeView_115 j0 (0 : Int32) υ) (fun r τ => kv_po o (fun f q => r = 0 ∧ kc_bad f q τ ∧ ma_fr (kHW p) σ τ) (fun x => r = 1 ∧ ma_fr (kH p) σ τ ∧ vs.length < 16 ∧ kP_C T p (vs ++ [x.1]) x.2 τ)) := fun υ fu f q hb o ho => by
          unfold F_X10_takeView_115
          rw [ho]
          exact ma_T rfl (ma_ret ⟨rfl, hb, kWH fu⟩)
        by_cases hkd : kt_kd T (j + 1) = 9
        · rw [if_pos (c := kt_kd T (j + 1) = 9) hkd]
          refine ma_bd (P := fun r τ => r = 0 ∧ kc_bad 1 (kt_s T (j + 1)) τ ∧ ma_fr (kW j0) σ τ) (ma_be (kc_kind q2.1) ?_) (fun r τ q => ?_)
          · rw [if_pos hkd]
            refine ma_mn (ma_bd (kc_ref q2.1 1) (fun r τ q => ?_))
            obtain ⟨rfl, q⟩ := q
            exact ma_gd ma_z0 (ma_ret ⟨rfl, ⟨q.1, q.2.1⟩, (kWF f2).tr (kW_ref q.2.2)⟩)
          · obtain ⟨rfl, q, qf⟩ := q
            exact ma_T rfl (hfail τ qf _ _ q _ rfl)
        · rw [if_neg (c := kt_kd T (j + 1) = 9) hkd]
          have hkB := kt_kdB (T := T) (j := j + 1)
          have hk : kt_kd T (j + 1) < 9 := by omega
          have hb8 := mv_byle _ hk
          refine ma_bd (P := fun r τ => r = 1 ∧ kt_St T 3 (if kt_wd T (j + 2) 0 = true then j + 3 else j + 2) τ ∧ mv_C1 j0 (kt_wv T j, kt_kd T (j + 1), kt_wd T (j + 2) 0, 0, 1, mv_by (kt_kd T (j + 1)), 0, []) τ ∧ ma_fr (kF j0) σ τ) (ma_be (kc_kind q2.1) ?_) (fun r τ3 q3 => ?_)
          · rw [if_neg hkd]
            refine ma_ms (ma_lt (ma_gd (mv_k9 _ hk) (ma_lt ?_)))
            rw [mv_kB _ hk]
            have H3 : kt_St T 3 (j + 1) (ae_wI (ae_wR τ2 8 j0 4 (some (60, Fin.ofNat 32 (kt_kd T (j + 1))))) 8 j0 8 (nI (mv_by (kt_kd T (j + 1))))) := kS_w (kS_wR q2.1)
            have c3 := kC_8 (mv_by (kt_kd T (j + 1))) (kC_4 (kt_kd T (j + 1)) c2)
            have f3 : ma_fr (kF j0) σ (ae_wI (ae_wR τ2 8 j0 4 (some (60, Fin.ofNat 32 (kt_kd T (j + 1))))) 8 j0 8 (nI (mv_by (kt_kd T (j + 1))))) := f2.tr ((ma_fwR (by unfold kF; simp)).tr kF_wI)
            generalize ae_wI (ae_wR τ2 8 j0 4 (some (60, Fin.ofNat 32 (kt_kd T (j + 1))))) 8 j0 8 (nI (mv_by (kt_kd T (j + 1)))) = υ at H3 c3 f3 ⊢
            refine ma_bd (kc_adv H3) (fun _ τ4 q4 => ma_be (kc_word q4.1 (by decide)) ?_)
            have c4 := kc_C1a c3 q4.2
            have f4 : ma_fr (kF j0) σ τ4 := f3.tr (kF_adv q4.2)
            have e2 : j + 1 + 1 = j + 2 := by omega
            rw [e2] at q4 ⊢
            cases hw : kt_wd T (j + 2) 0 with
            | false =>
              rw [if_neg (c := false = true) (by decide)]
              exact ma_T rfl (ma_ret ⟨rfl, q4.1, c4, f4⟩)
            | true =>
              rw [if_pos (c := true = true) rfl]
              refine ma_F (by decide) (ma_lt (ma_bd (kc_adv (kS_w (j0 := j0) (k2 := 5) (x := 1) q4.1)) (fun _ τ5 q5 => ma_ret ⟨rfl, q5.1, kc_C1a (kC_5 true c4) q5.2, f4.tr (kF_wI.tr (kF_adv q5.2))⟩)))
          · obtain ⟨rfl, H3, c3, f3⟩ := q3
            refine ma_F ma_01 ?_
            generalize (if kt_wd T (j + 2) 0 = true then j + 3 else j + 2) = j3 at H3 ⊢
            generalize kt_wd T (j + 2) 0 = bg at c3 ⊢
            generalize kt_kd T (j + 1) = k at hk hb8 c3 ⊢
            unfold kv_v2
            refine ma_bd (P := fun r τ => ma_fr (kW j0) σ τ ∧ ((kt_wd T j3 1 = true ∧ kt_nu T 3 (j3 + 1) = true ∧ kt_nv T (j3 + 1) + mv_by k ≤ sz ∧ r = 1 ∧ ma_fr (kF j0) σ τ ∧ kt_St T 3 (j3 + 2) τ ∧ mv_C1 j0 (kt_wv T j, k, bg, kt_nv T (j3 + 1), 1, mv_by k, 0, []) τ) ∨ (kt_wd T j3 1 = true ∧ kt_nu T 3 (j3 + 1) = true ∧ ¬ kt_nv T (j3 + 1) + mv_by k ≤ sz ∧ r = 0 ∧ kc_bad 3 (kt_s T (j3 + 1)) τ) ∨ (kt_wd T j3 1 = true ∧ kt_nu T 3 (j3 + 1) = false ∧ r = 0 ∧ kc_bad 1 (kt_s T (j3 + 1)) τ) ∨ (kt_wd T j3 1 = false ∧ r = 0 ∧ kc_bad 1 (kt_s T j3) τ))) ?_ (fun r τ4 q4 => ?_)
            · unfold F_X10_takeStart
              refine ma_be (kc_word H3 (by decide)) ?_
              cases hw : kt_wd T j3 1 with
              | false =>
                refine ma_T rfl (ma_bd (kc_ref H3 1) (fun r τ q => ?_))
                obtain ⟨rfl, q⟩ := q
                exact ma_gd ma_z0 (ma_ret ⟨(kWF f3).tr (kW_ref q.2.2), .inr (.inr (.inr ⟨rfl, rfl, q.1, q.2.1⟩))⟩)
              | true =>
                refine ma_F (by decide) (ma_bd (kc_adv H3) (fun _ τ5 q5 => ma_be (kc_num q5.1) ?_))
                have c5 := kc_C1a c3 q5.2
                have f5 : ma_fr (kF j0) σ τ5 := f3.tr (kF_adv q5.2)
                cases hn5 : kt_nu T 3 (j3 + 1) with
                | false =>
                  refine ma_T rfl (ma_bd (kc_ref q5.1 1) (fun r τ q => ?_))
                  obtain ⟨rfl, q⟩ := q
                  exact ma_gd ma_z0 (ma_ret ⟨(kWF f5).tr (kW_ref q.2.2), .inr (.inr (.inl ⟨rfl, rfl, rfl, q.1, q.2.1⟩))⟩)
                | true =>
                  have hB5 := kt_nvB hn5
                  refine ma_F (by decide) (ma_be (kc_value q5.1) (ma_lt ?_))
                  rw [kt_nuV hn5, lN_i]
                  have H6 : kt_St T 3 (j3 + 1) (ae_wI τ5 8 j0 6 (nI (kt_nv T (j3 + 1)))) := kS_w q5.1
                  have c6 := kC_6 (kt_nv T (j3 + 1)) c5
                  have f6 : ma_fr (kF j0) σ (ae_wI τ5 8 j0 6 (nI (kt_nv T (j3 + 1)))) := f5.tr kF_wI
                  generalize ae_wI τ5 8 j0 6 (nI (kt_nv T (j3 + 1))) = υ at H6 c6 f6 ⊢
                  refine ma_be (kv_eor hk (by decide) c6) ?_
                  rw [show kt_nv T (j3 + 1) + (1 - 1) * mv_by k + mv_by k = kt_nv T (j3 + 1) + mv_by k by rw [show 1 - 1 = 0 from rfl, Nat.zero_mul, Nat.add_zero]]
                  refine ma_le _ sz rfl rfl (by omega) (by omega) (fun g => ?_) (fun g => ?_)
                  · exact ma_bd (kc_adv H6) (fun _ τ7 q7 => ma_ret ⟨kWF (f6.tr (kF_adv q7.2)), .inl ⟨rfl, rfl, g, rfl, f6.tr (kF_adv q7.2), q7.1, kc_C1a c6 q7.2⟩⟩)
                  · refine ma_bd (kc_ref H6 3) (fun r τ q => ?_)
                    obtain ⟨rfl, q⟩ := q
                    exact ma_gd ma_z0 (ma_ret ⟨(kWF f6).tr (kW_ref q.2.2), .inr (.inl ⟨rfl, rfl, by omega, rfl, q.1, q.2.1⟩)⟩)
            · obtain ⟨f4, q4⟩ := q4
              rcases q4 with ⟨a1, a2, a3, rfl, f4s, H4, c4⟩ | ⟨a1, a2, a3, rfl, hb⟩ | ⟨a1, a2, rfl, hb⟩ | ⟨a1, rfl, hb⟩
              · rw [if_pos (c := kt_wd T j3 1 = true) a1, if_pos (c := kt_nu T 3 (j3 + 1) = true) a2, if_pos (c := kt_nv T (j3 + 1) + mv_by k ≤ sz) a3]
                refine ma_F ma_01 (ma_bd (kv_rowC hs hk (by omega) H4 c4) (fun r τ5 q5 => ?_))
                generalize kv_row T sz k (kt_nv T (j3 + 1)) (j3 + 2) = o at q5 ⊢
                rcases o with e | x
                · obtain ⟨rfl, q5, f5⟩ := q5
                  exact ma_T rfl (hfail τ5 (f4.tr f5) _ _ q5 _ rfl)
                · obtain ⟨rfl, f5, H5, c5⟩ := q5
                  refine ma_F ma_01 ?_
                  have f6 : ma_fr (kF j0) σ τ5 := f4s.tr f5
                  show ma_wp _ (fun r τ => kv_po (kv_v3 T (kt_wv T j) k bg (kt_nv T (j3 + 1)) x.1 x.2.1 (kt_ac T x.2.2) (if kt_ac T x.2.2 = 0 then x.2.2 else x.2.2 + 1)) (fun f q => r = 0 ∧ kc_bad f q τ ∧ ma_fr (kHW p) σ τ) (fun x => r = 1 ∧ ma_fr (kH p) σ τ ∧ vs.length < 16 ∧ kP_C T p (vs ++ [x.1]) x.2 τ))
                  refine ma_mono (kv_endC hT hk H5 c5) (fun r τ q => ?_)
                  generalize kv_v3 T (kt_wv T j) k bg (kt_nv T (j3 + 1)) x.1 x.2.1 (kt_ac T x.2.2) (if kt_ac T x.2.2 = 0 then x.2.2 else x.2.2 + 1) = o at q ⊢
                  rcases o with e | y
                  · exact ⟨q.1, q.2.1, kWH ((kWF f6).tr q.2.2)⟩
                  · obtain ⟨rfl, qf, H7, c7, h7⟩ := q
                    refine ⟨rfl, (kFH f6).tr (kGH qf), by omega, H7, hp, ?_, ?_, fun v w e => ?_⟩
                    · rw [qf.r (by unfold kG kF; simp), f6.r (by unfold kF; simp)]; exact h1
                    · rw [h7, f6.i (by unfold kF; simp), h3, nI_1, List.length_append]; rfl
                    · by_cases hv2 : v < vs.length
                      · rw [List.getElem?_append_left hv2] at e
                        have hc := hv v w e
                        have hnv := hne v hv2
                        exact ((hc.fr f6 (fun _ => by unfold kF; omega) (fun _ => by unfold kF; omega) (fun _ => by unfold kF; omega) (fun _ => by unfold kF; omega))).fr qf (fun _ => by unfold kG kF; omega) (fun _ => by unfold kG kF; omega) (fun _ => by unfold kG kF; omega) (fun _ => by unfold kG kF; omega)
                      · rw [List.getElem?_append_right (by omega)] at e
                        have hv3 : v = vs.length := by
                          rcases Nat.lt_or_ge (v - vs.length) 1 with q | q
                          · omega
                          · rw [List.getElem?_eq_none (by simpa using q)] at e; cases e
                        subst hv3
                        have e2 : y.1 = w := by simpa using e
                        subst e2
                        have hj : mv_at (1 - p) vs.length = j0 := Fin.ext (by rw [kv_atV (by omega) (by omega), hj0])
                        rw [hj]; exact c7
              · rw [if_pos (c := kt_wd T j3 1 = true) a1, if_pos (c := kt_nu T 3 (j3 + 1) = true) a2, if_neg (c := kt_nv T (j3 + 1) + mv_by k ≤ sz) a3]
                exact ma_T rfl (hfail τ4 f4 _ _ hb _ rfl)
              · rw [if_pos (c := kt_wd T j3 1 = true) a1, if_neg (c := kt_nu T 3 (j3 + 1) = true) (by rw [a2]; decide)]
                exact ma_T rfl (hfail τ4 f4 _ _ hb _ rfl)
              · rw [if_neg (c := kt_wd T j3 1 = true) (by rw [a1]; decide)]
                exact ma_T rfl (hfail τ4 f4 _ _ hb _ rfl)
    · rw [if_neg (c := kv_ix vs (kt_wv T j) = -1) g1, if_neg (c := kv_ix vs (kt_wv T j) = -1) g1]
      refine ma_F ma_01 (ma_bd (kc_ref HS 2) (fun r τ q => ?_))
      obtain ⟨rfl, q⟩ := q
      exact ma_gd ma_z0 (ma_ret (kv_pol ⟨rfl, ⟨q.1, q.2.1⟩, fH q.2.2⟩))
end KX
