/-! the class reads operands -/
section KZ
variable {T : kt_T} {σ0 σ τ : ae_S} {p r o md j : Nat} {vs : List mv_V} {C : ks_E} {W R : kz_W} {m : Int32 × Int32 × Int32}
/-- behind a whole expression, by what waits for it -/
def kz_sw (r15 r19 : Int32) (s20 : ae_S) : Option (Int32 × ae_S) := if r19 = (103 : Int32) then (ae_bd (F_X5_drop s20) (fun (r25 : Unit) s26 => ae_bd (F_X1_add (15 : Int32) (0 : Int64) (0 : Int32) s26) (fun (r29 : Int32) s30 => ae_bd (F_X5_await (102 : Int32) r29 (0 : Int32) s30) (fun (r33 : Unit) s34 => ae_lt (ae_wI s34 19 0 8 (0 : Int32)) (fun s37 => some ((1 : Int32), s37)))))) else (if r19 = (104 : Int32) then (ae_bd (F_X5_drop s20) (fun (r42 : Unit) s43 => ae_bd (F_X1_add (3 : Int32) r15.toInt64 (0 : Int32) s43) (fun (r46 : Int32) s47 => ae_bd (F_X8_takeSign (93 : Int32) s47) (fun (r50 : Int32) s51 => if r50 = 0 then (F_X5_takeBehind_170 s51) else (ae_bd (F_X5_takeEquals r15 s51) (fun (r56 : Int32) s57 => if r56 = 0 then (F_X5_takeBehind_170 s57) else (F_X5_takeBehind_171 (1 : Int32) s57))))))) else (if r19 = (105 : Int32) then (ae_bd (F_X5_awaitedSecond s20) (fun (r65 : Int32) s66 => ae_bd (F_X1_add (5 : Int32) r15.toInt64 r65 s66) (fun (r69 : Int32) s70 => ae_bd (F_X5_drop s70) (fun (r73 : Unit) s74 => ae_bd (F_X5_endStatement s74) (fun (r77 : Unit) s78 => ae_bd (F_X8_takeSign (59 : Int32) s78) (fun (r81 : Int32) s82 => ae_gd (ae_zz r81) (some (r81, s82)))))))) else (if r19 = (106 : Int32) then (ae_bd (F_X5_drop s20) (fun (r90 : Unit) s91 => ae_lt (ae_wI s91 19 0 7 ((s91.1 19 0 7) - (1 : Int32))) (fun s94 => ae_bd (F_X8_takeSign (41 : Int32) s94) (fun (r96 : Int32) s97 => ae_gd (ae_zz r96) (some (r96, s97)))))) else (if r19 = (107 : Int32) then (ae_bd (F_X5_drop s20) (fun (r105 : Unit) s106 => ae_bd (F_X1_add (3 : Int32) r15.toInt64 (0 : Int32) s106) (fun (r109 : Int32) s110 => ae_bd (F_X8_takeSign (93 : Int32) s110) (fun (r113 : Int32) s114 => if r113 = 0 then (F_X5_takeBehind_128 s114) else (ae_bd (F_X5_takeLoad r15 s114) (fun (r119 : Int32) s120 => if r119 = 0 then (F_X5_takeBehind_128 s120) else (F_X5_takeBehind_129 (1 : Int32) s120))))))) else (ae_bd (F_X8_refuse (1 : Int32) s20) (fun (r126 : Int32) s127 => ae_gd (ae_zz r126) (some (r126, s127))))))))
theorem ks_op0 (h : ks_rk (ks_op T j) = 0) : ks_op T j = -1 := by
  unfold ks_op at h ⊢
  repeat' split
  all_goals first | rfl | (simp_all; done) | skip
  all_goals (simp_all; exact absurd h (by decide))
theorem kz_behA (hT : kt_W T) (H : kz_St σ0 T vs p C ((W ++ [m]) ++ R.reverse) o md j σ) (hm : ks_rk m.1 = 0) (hop : ks_rk (ks_op T j) = 0) (hR : ∀ w ∈ R, 1 ≤ ks_rk w.1) (hW : W.length + 1 + R.length ≤ 501) (hC : C.length + R.length ≤ 1002) {Q : Int32 → ae_S → Prop} (h : ∀ φ, kz_St σ0 T vs p (C ++ kz_ops R) (W ++ [m]) o md j φ → ma_wp (kz_sw m.2.1 m.1 φ) Q) : ma_wp (F_X5_takeBehind σ) Q := by
  unfold F_X5_takeBehind
  have lW : (W ++ [m]).length = W.length + 1 := by rw [List.length_append, List.length_singleton]
  refine ma_be (kz_opH hT H.1) (ma_T (ks_op0 hop) (ma_bd (kz_settle (r := 1) (.inr ⟨W, m, rfl, by omega⟩) ⟨by decide, by decide⟩ (by rw [lW]; exact hW) hC H.2.2.1 H.2.1 hR) (fun _ φ q => ?_)))
  obtain ⟨w1, c1, f1⟩ := q
  have H3 : kz_St σ0 T vs p (C ++ kz_ops R) (W ++ [m]) o md j φ := H.mk (f1.mo (fun g i k q => by unfold kzF at q; unfold kzS; omega)) (H.1.fr f1 (by unfold kzS; decide) (by unfold kzS; decide) (fun _ _ => by unfold kzS; omega) (fun _ => by unfold kzS; omega)) c1 w1 ((f1.i (by unfold kzS; decide)).trans H.2.2.2.1) ((f1.i (by unfold kzS; decide)).trans H.2.2.2.2.1)
  have tp := kz_top w1 (by omega)
  exact ma_be tp.2.1 (ma_be tp.1 (h φ H3))
theorem kz_behB (hT : kt_W T) {R2 : kz_W} (H : kz_St σ0 T vs p C (W ++ (R2 ++ [m]).reverse) o md j σ) (hm : ks_rk m.1 = 1) (hop : ks_rk (ks_op T j) = 1) (hR : ∀ w ∈ R2, 2 ≤ ks_rk w.1) (hW : W.length + 1 + R2.length ≤ 501) (hC : C.length + R2.length ≤ 1002) : ma_wp (F_X5_takeBehind σ) (fun r τ => r = 0 ∧ kz_bad σ0 1 (kt_s T j) τ) := by
  unfold F_X5_takeBehind F_X5_takeOperation
  have e : W ++ (R2 ++ [m]).reverse = (W ++ [m]) ++ R2.reverse := by rw [List.reverse_append, ← List.append_assoc]; rfl
  rw [e] at H
  have lW : (W ++ [m]).length = W.length + 1 := by rw [List.length_append, List.length_singleton]
  refine ma_be (kz_opH hT H.1) (ma_F (ks_rkN (by omega)) ?_)
  refine ma_bd (P := fun r τ => r = 0 ∧ kz_bad σ0 1 (kt_s T j) τ) ?_ (fun r τ q => ?_)
  · refine ma_be (kz_rank _ _) ?_
    rw [hop]
    refine ma_T rfl (ma_bd (kz_settle (r := 2) (.inr ⟨W, m, rfl, by omega⟩) ⟨by decide, by decide⟩ (by rw [lW]; exact hW) hC H.2.2.1 H.2.1 hR) (fun _ φ q => ?_))
    obtain ⟨w1, c1, f1⟩ := q
    refine ma_be (kz_top w1 (by omega)).1 (ma_be (kz_rank _ _) ?_)
    rw [hm]
    have S1 : kt_St T 9 j φ := H.1.fr f1 (by unfold kzS; decide) (by unfold kzS; decide) (fun _ _ => by unfold kzS; omega) (fun _ => by unfold kzS; omega)
    refine ma_T rfl (ma_bd (kc_ref S1 1) (fun r τ q => ?_))
    obtain ⟨rfl, q1, q2, q3⟩ := q
    exact ma_gd ma_z0 (ma_ret ⟨rfl, ⟨q1, q2⟩, kzG_B (H.2.2.2.2.2.2.tr (f1.mo (fun g i k q => by unfold kzF at q; unfold kzS; omega))) q3⟩)
  · obtain ⟨rfl, q⟩ := q
    exact ma_gd ma_z0 (ma_ret ⟨rfl, q⟩)
theorem kz_St.bd (H : kz_St σ0 T vs p C W o md j σ) {f : Int32} {q : Nat} (h : kc_bad f q τ) (g : ma_fr (fun g _ k => ¬ (g = 12 ∧ (k = 6 ∨ k = 7 ∨ k = 8))) σ τ) : kz_bad σ0 f q τ := ⟨h, (kzG_F H.2.2.2.2.2.2).tr (g.mo (fun g i k q => by unfold kzG at q; omega))⟩
theorem kz_load (hT : kt_W T) (hl : vs.length ≤ 16) (hf : ∀ w ∈ vs, (mv_fs w).length ≤ 8) (H : kz_St σ0 T vs p C W o md j σ) {u : Nat} (hu : u < vs.length) (hC : C.length < 1002) : ma_wp (F_X5_takeLoad (nI u) σ) (fun r τ => kv_po (ks_fld T vs (nI u) j) (fun f q => r = 0 ∧ kz_bad σ0 f q τ) (fun y => r = 1 ∧ kz_St σ0 T vs p (C ++ [(4, (nI u).toInt64, y.1)]) W o 2 y.2 τ)) := by
  unfold F_X5_takeLoad
  refine ma_bd (kz_fld hT H.1 H.2.2.2.2.2.1 hl hf hu) (fun r φ q => ?_)
  cases ho : ks_fld T vs (nI u) j with
  | inl e =>
    rw [ho] at q
    obtain ⟨rfl, hb, f⟩ := q
    exact ma_T rfl (ma_ret ⟨rfl, H.bd hb f⟩)
  | inr y =>
    rw [ho] at q
    obtain ⟨rfl, hy, S, f⟩ := q
    have hne : y.1 ≠ -2 := by
      rcases hy with e | ⟨f, w, e, h2, h3⟩
      · rw [e]; decide
      · rw [h3]
        have h8 := hf w (List.mem_of_getElem? e)
        have : ∀ i, i < 8 → nI i ≠ -2 := by decide
        exact this f (by omega)
    have H1 := H.adv f S
    refine ma_F hne (ma_bd (kz_add H1.2.1 hC 4 ((nI u).toInt64) y.1) (fun _ ψ q2 => ma_lt (ma_ret ⟨rfl, ?_⟩)))
    exact (H1.add q2.2.1 q2.2.2).smd 2
theorem kz_sign (hT : kt_W T) (H : kz_St σ0 T vs p C W o md j σ) {c : Nat} (hc : c < 256) : ma_wp (F_X8_takeSign (nI c) σ) (fun r τ => (kt_sg T j c = true ∧ r = 1 ∧ kz_St σ0 T vs p C W o md (j + 1) τ) ∨ (kt_sg T j c = false ∧ r = 0 ∧ kz_bad σ0 1 (kt_s T j) τ)) := by
  refine ma_mono (kc_take H.1 hT hc) (fun r τ q => ?_)
  rcases q with ⟨h, hr, S, f⟩ | ⟨h, hr, b1, b2, f⟩
  · exact .inl ⟨h, hr, H.adv f S⟩
  · exact .inr ⟨h, hr, H.bd ⟨b1, b2⟩ (f.mo (fun g i k q => by omega))⟩
theorem ks_opS {c : Nat} (h : ks_rk (ks_op T j) = 1) (hc : c ≠ 60 ∧ c ≠ 62 ∧ c ≠ 126) : kt_sg T j c = false := by
  refine decide_eq_false (fun g => ?_)
  have hs : ∀ d, d ≠ c → kt_sg T j d = false := fun d hd => decide_eq_false (fun e => by omega)
  unfold ks_op at h
  rw [hs 60 (by omega), hs 62 (by omega), hs 126 (by omega)] at h
  revert h
  repeat' split
  all_goals (first | (intro h; exact absurd h (by decide)) | simp_all)
end KZ
