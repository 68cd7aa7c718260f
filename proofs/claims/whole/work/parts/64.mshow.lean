/-! show: a view as signs -/
def ms_ap (t : mt_T) (l : List Int32) : mt_T := l.foldl mt_app t
theorem ms_ap_app {t : mt_T} {l m : List Int32} : ms_ap t (l ++ m) = ms_ap (ms_ap t l) m := List.foldl_append
theorem ms_ap_len : ∀ (l : List Int32) (t : mt_T), (ms_ap t l).1 = t.1 + l.length
  | [], t => rfl
  | x :: l, t => by
    show (ms_ap (mt_app t x) l).1 = _
    rw [ms_ap_len l, List.length_cons]
    show t.1 + 1 + l.length = _
    omega
def ms_t0 : mt_T := (0, fun _ => 0)
/-- the signs L were shown so far, nothing else changed -/
def ms_C (σ0 : ae_S) (L : List Int32) (τ : ae_S) : Prop := mi_Cs (ms_ap ms_t0 L) τ ∧ ma_fr (fun g j _ => ¬ ((g = 1 ∨ g = 2) ∧ j = 1)) σ0 τ
def ms_M (σ0 : ae_S) (L : List Int32) (τ : ae_S) : Prop := mi_Ms (ms_ap ms_t0 L) τ ∧ ma_fr (fun g _ k => ¬ (g = 57 ∨ g = 30 ∧ k = 51)) σ0 τ
theorem ms_len (L : List Int32) : (ms_ap ms_t0 L).1 = L.length := by rw [ms_ap_len]; exact Nat.zero_add _
theorem ms_addC {σ0 τ : ae_S} {L : List Int32} (v x : Int32) (hx : v &&& 255 = x) (H : ms_C σ0 L τ) (hl : L.length < 256) : ma_wp (F_X7_add 1 v τ) (fun _ υ => ms_C σ0 (L ++ [x]) υ) := by
  refine ma_mono (mt_add (cap := 256) (.inr ⟨rfl, rfl⟩) H.1.1 H.1.2 (by rw [ms_len]; exact hl)) (fun _ υ q => ?_)
  rw [hx] at q
  refine ⟨?_, H.2.tr q.2.2⟩
  rw [ms_ap_app]
  exact ⟨q.1, q.2.1⟩
theorem ms_byteM {σ0 τ : ae_S} {L : List Int32} (v : Int32) (H : ms_M σ0 L τ) (hl : L.length < 600) : ma_wp (F_X12_saysByte v τ) (fun _ υ => ms_M σ0 (L ++ [v]) υ) := by
  have h1 : τ.1 30 0 51 = nI L.length := by rw [H.1.1, ms_len]
  unfold F_X12_saysByte
  refine ma_gd (ma_ib _ h1 hl (by decide)) (ma_lt (ma_lt (ma_ret ⟨?_, H.2.tr ((ma_fwI (fun q => q (.inl rfl))).tr (ma_fwI (fun q => q (.inr ⟨rfl, rfl⟩))))⟩)))
  rw [ms_ap_app]
  refine ⟨?_, H.1.2.app (fun k hk => ?_) ?_⟩
  · rw [ma_rI, ma_rIn (by simp), h1, nI_1]
    show _ = nI ((ms_ap ms_t0 L).1 + 1)
    rw [ms_len]
  · rw [ms_len] at hk
    rw [ma_rIn (by simp), ma_rIn (fun q => by rw [ma_cl _ h1 (by omega)] at q; omega)]
  · rw [ms_len, ma_rIn (by simp), ma_cl _ h1 (by omega), ma_rI]
def ms_wd (i : Fin 32) : List Int32 := ae_sx.getD i.val []
theorem ms_wd255 : ∀ i : Fin 32, i.val < 28 → ∀ x ∈ ms_wd i, x &&& 255 = x := by decide +kernel
theorem ms_wdlen : ∀ i : Fin 32, (ms_wd i).length ≤ 6 := by decide +kernel
theorem ms_take {l : List Int32} {k : Nat} (h : k < l.length) : l.take (k + 1) = l.take k ++ [l.getD k 0] := by
  rw [List.take_succ, List.getD_eq_getElem?_getD, List.getElem?_eq_getElem h]; rfl
theorem ms_wordC {σ0 τ : ae_S} {L : List Int32} (i : Fin 32) (hi : i.val < 28) (H : ms_C σ0 L τ) (hl : L.length + (ms_wd i).length ≤ 256) : ma_wp (F_X7_addWord 1 i τ) (fun _ υ => ms_C σ0 (L ++ ms_wd i) υ) := by
  have h6 := ms_wdlen i
  have loop : ∀ n k : Nat, (ms_wd i).length < k + n → k ≤ (ms_wd i).length → ∀ υ : ae_S, ms_C σ0 (L ++ (ms_wd i).take k) υ → ma_wp (F_X7_addWord_2 n 1 i (nI k) υ) (fun _ υ => ms_C σ0 (L ++ ms_wd i) υ) := by
    intro n
    induction n with
    | zero => intro k a b; omega
    | succ n ih =>
      intro k a b υ hu
      unfold F_X7_addWord_2
      refine ma_gd (decide_eq_true hi) (ma_le (ms_wd i).length k rfl rfl (by omega) (by omega) (fun q => ma_ret ?_) (fun q => ?_))
      · rw [List.take_of_length_le (by omega)] at hu; exact hu
      · refine ma_gd (ma_ib (N := (ms_wd i).length) k rfl q (by omega)) (ma_gd (by decide) ?_)
        rw [nI_clamp (by omega)]
        refine ma_bd (ms_addC _ ((ms_wd i).getD k 0) (ms_wd255 i hi _ ?_) hu ?_) (fun _ ψ r => ma_lt ?_)
        · show (ms_wd i).getD k 0 ∈ ms_wd i
          rw [List.getD_eq_getElem?_getD, List.getElem?_eq_getElem q]; exact List.getElem_mem q
        · rw [List.length_append, List.length_take]; omega
        · rw [nI_1]
          refine ih (k + 1) (by omega) (by omega) ψ ?_
          rw [ms_take q, ← List.append_assoc]; exact r
  exact loop ae_fu 0 (by rw [ae_fu]; omega) (by omega) τ (by rw [List.take_zero, List.append_nil]; exact H)
theorem ms_wordM {σ0 τ : ae_S} {L : List Int32} (i : Fin 32) (hi : i.val < 28) (H : ms_M σ0 L τ) (hl : L.length + (ms_wd i).length ≤ 600) : ma_wp (F_X12_says i τ) (fun _ υ => ms_M σ0 (L ++ ms_wd i) υ) := by
  have h6 := ms_wdlen i
  have loop : ∀ n k : Nat, (ms_wd i).length < k + n → k ≤ (ms_wd i).length → ∀ υ : ae_S, ms_M σ0 (L ++ (ms_wd i).take k) υ → ma_wp (F_X12_says_2 n i (nI k) υ) (fun _ υ => ms_M σ0 (L ++ ms_wd i) υ) := by
    intro n
    induction n with
    | zero => intro k a b; omega
    | succ n ih =>
      intro k a b υ hu
      unfold F_X12_says_2
      refine ma_gd (decide_eq_true hi) (ma_le (ms_wd i).length k rfl rfl (by omega) (by omega) (fun q => ma_ret ?_) (fun q => ?_))
      · rw [List.take_of_length_le (by omega)] at hu; exact hu
      · refine ma_gd (ma_ib (N := (ms_wd i).length) k rfl q (by omega)) ?_
        rw [nI_clamp (by omega)]
        refine ma_bd (ms_byteM ((ms_wd i).getD k 0) hu ?_) (fun _ ψ r => ma_lt ?_)
        · rw [List.length_append, List.length_take]; omega
        · rw [nI_1]
          refine ih (k + 1) (by omega) (by omega) ψ ?_
          rw [ms_take q, ← List.append_assoc]; exact r
  exact loop ae_fu 0 (by rw [ae_fu]; omega) (by omega) τ (by rw [List.take_zero, List.append_nil]; exact H)
/-- a number below 1000 -/
def ms_nb (v : Nat) : List Int32 := (if 100 ≤ v then [nI (48 + v / 100)] else []) ++ ((if 10 ≤ v then [nI (48 + v / 10 % 10)] else []) ++ [nI (48 + v % 10)])
theorem ms_nblen (v : Nat) : (ms_nb v).length ≤ 3 := by
  unfold ms_nb
  by_cases h1 : 100 ≤ v <;> by_cases h2 : 10 ≤ v <;> simp [h1, h2]
theorem ms_dig {d : Nat} (h : d < 10) : nI (48 + d) &&& 255 = nI (48 + d) := by
  rw [pk_andN (by omega) 8 (by decide), Nat.mod_eq_of_lt (by omega)]
theorem ms_d48 (d : Nat) : (48 : Int32) + nI d = nI (48 + d) := by rw [show (48 : Int32) = nI 48 from rfl, nI_add]
theorem ms_numC {σ0 τ : ae_S} {L : List Int32} {v : Nat} (hv : v < 1000) (H : ms_C σ0 L τ) (hl : L.length + 3 ≤ 256) : ma_wp (F_X7_addNumber 1 (nI v) τ) (fun _ υ => ms_C σ0 (L ++ ms_nb v) υ) := by
  have ok : ae_ok (1, 1) = true := by decide
  have d10 : nI v / (10 : Int32) = nI (v / 10) := pk_div (d := 10) (by omega) (by decide) (by decide)
  have d100 : nI v / (100 : Int32) = nI (v / 100) := pk_div (d := 100) (by omega) (by decide) (by decide)
  have r0 : nI v - nI v / (10 : Int32) * (10 : Int32) = nI (v % 10) := pk_rem (d := 10) (by omega) (by decide) (by decide)
  have r1 : nI (v / 10) - nI (v / 10) / (10 : Int32) * (10 : Int32) = nI (v / 10 % 10) := pk_rem (d := 10) (by omega) (by decide) (by decide)
  have r2 : nI (v / 100) - nI (v / 100) / (10 : Int32) * (10 : Int32) = nI (v / 100 % 10) := pk_rem (d := 10) (by omega) (by decide) (by decide)
  have c40 : ∀ (M : List Int32) (υ : ae_S), ms_C σ0 M υ → M.length < 256 → ma_wp (F_X7_addNumber_40 1 (nI v) υ) (fun _ υ => ms_C σ0 (M ++ [nI (48 + v % 10)]) υ) := by
    intro M υ hM hlM
    unfold F_X7_addNumber_40
    rw [r0, ms_d48]
    exact ma_gd ok (ma_bd (ms_addC _ _ (ms_dig (by omega)) hM hlM) (fun _ ψ r => ma_ret r))
  have c20 : ∀ (M : List Int32) (υ : ae_S), ms_C σ0 M υ → M.length + 1 < 256 → ma_wp (F_X7_addNumber_20 1 (nI v) υ) (fun _ υ => ms_C σ0 (M ++ ((if 10 ≤ v then [nI (48 + v / 10 % 10)] else []) ++ [nI (48 + v % 10)])) υ) := by
    intro M υ hM hlM
    unfold F_X7_addNumber_20
    refine ma_ls v 10 rfl rfl (by omega) (by decide) (fun q => ?_) (fun q => ?_)
    · rw [if_neg (by omega), List.nil_append]
      exact c40 M υ hM (by omega)
    · rw [if_pos q, ← List.append_assoc, d10, r1, ms_d48]
      exact ma_gd ok (ma_bd (ms_addC _ _ (ms_dig (by omega)) hM (by omega)) (fun _ ψ r => c40 _ ψ r (by rw [List.length_append]; show _ + 1 < 256; omega)))
  unfold F_X7_addNumber ms_nb
  refine ma_ls v 100 rfl rfl (by omega) (by decide) (fun q => ?_) (fun q => ?_)
  · rw [if_neg (by omega), List.nil_append]
    exact c20 L τ H (by omega)
  · rw [if_pos q, ← List.append_assoc, d100, r2, Nat.mod_eq_of_lt (show v / 100 < 10 by omega), ms_d48]
    exact ma_gd ok (ma_bd (ms_addC _ _ (ms_dig (by omega)) H (by omega)) (fun _ ψ r => c20 _ ψ r (by rw [List.length_append]; show _ + 1 + 1 < 256; omega)))
theorem ms_numM {σ0 τ : ae_S} {L : List Int32} {v : Nat} (hv : v < 1000) (H : ms_M σ0 L τ) (hl : L.length + 3 ≤ 600) : ma_wp (F_X12_saysNumber (nI v) τ) (fun _ υ => ms_M σ0 (L ++ ms_nb v) υ) := by
  have d10 : nI v / (10 : Int32) = nI (v / 10) := pk_div (d := 10) (by omega) (by decide) (by decide)
  have d100 : nI v / (100 : Int32) = nI (v / 100) := pk_div (d := 100) (by omega) (by decide) (by decide)
  have r0 : nI v - nI v / (10 : Int32) * (10 : Int32) = nI (v % 10) := pk_rem (d := 10) (by omega) (by decide) (by decide)
  have r1 : nI (v / 10) - nI (v / 10) / (10 : Int32) * (10 : Int32) = nI (v / 10 % 10) := pk_rem (d := 10) (by omega) (by decide) (by decide)
  have c40 : ∀ (M : List Int32) (υ : ae_S), ms_M σ0 M υ → M.length < 600 → ma_wp (F_X12_saysNumber_37 (nI v) υ) (fun _ υ => ms_M σ0 (M ++ [nI (48 + v % 10)]) υ) := by
    intro M υ hM hlM
    unfold F_X12_saysNumber_37
    rw [r0, ms_d48]
    exact ma_bd (ms_byteM _ hM hlM) (fun _ ψ r => ma_ret r)
  have c20 : ∀ (M : List Int32) (υ : ae_S), ms_M σ0 M υ → M.length + 1 < 600 → ma_wp (F_X12_saysNumber_17 (nI v) υ) (fun _ υ => ms_M σ0 (M ++ ((if 10 ≤ v then [nI (48 + v / 10 % 10)] else []) ++ [nI (48 + v % 10)])) υ) := by
    intro M υ hM hlM
    unfold F_X12_saysNumber_17
    refine ma_le v 9 rfl rfl (by omega) (by decide) (fun q => ?_) (fun q => ?_)
    · rw [if_neg (by omega), List.nil_append]
      exact c40 M υ hM (by omega)
    · rw [if_pos (show 10 ≤ v from q), ← List.append_assoc, d10, r1, ms_d48]
      exact ma_bd (ms_byteM _ hM (by omega)) (fun _ ψ r => c40 _ ψ r (by rw [List.length_append]; show _ + 1 < 600; omega))
  unfold F_X12_saysNumber ms_nb
  refine ma_le v 99 rfl rfl (by omega) (by decide) (fun q => ?_) (fun q => ?_)
  · rw [if_neg (by omega), List.nil_append]
    exact c20 L τ H (by omega)
  · rw [if_pos (show 100 ≤ v from q), ← List.append_assoc, d100, ms_d48]
    exact ma_bd (ms_byteM _ H (by omega)) (fun _ ψ r => c20 _ ψ r (by rw [List.length_append]; show _ + 1 + 1 < 600; omega))
/-- a name -/
def ms_by (x s : Nat) : List Int32 := if x / 2 ^ s % 256 = 0 then [] else [nI (x / 2 ^ s % 256)]
def ms_nm (x : Nat) : List Int32 := ms_by x 40 ++ (ms_by x 32 ++ (ms_by x 24 ++ (ms_by x 16 ++ (ms_by x 8 ++ ms_by x 0))))
theorem ms_bylen (x s : Nat) : (ms_by x s).length ≤ 1 := by
  unfold ms_by
  by_cases h : x / 2 ^ s % 256 = 0
  · rw [if_pos h]; exact Nat.zero_le _
  · rw [if_neg h]; exact Nat.le_refl _
theorem ms_nmlen (x : Nat) : (ms_nm x).length ≤ 6 := by
  unfold ms_nm
  have a := ms_bylen x 40
  have b := ms_bylen x 32
  have c := ms_bylen x 24
  have d := ms_bylen x 16
  have e := ms_bylen x 8
  have f := ms_bylen x 0
  simp only [List.length_append]
  omega
theorem ms_nmS {σ0 τ : ae_S} {L : List Int32} {x s n : Nat} {Q : Unit → ae_S → Prop} (hx : x < 2 ^ 64) (hs : s < 64) (H : ms_C σ0 L τ) (hl : L.length < 256) (k : ∀ υ, ms_C σ0 (L ++ ms_by x s) υ → ma_wp (F_X7_addPacked_3 n 1 (lN x) (nI s + (-8 : Int32)) υ) Q) : ma_wp (F_X7_addPacked_3 (n + 1) 1 (lN x) (nI s) τ) Q := by
  have e : (((lN x).toUInt64 >>> ((nI s).toInt64.toUInt64 &&& Int64.toUInt64 63)).toInt64.toInt32) &&& (255 : Int32) = nI (x / 2 ^ s % 256) := by
    rw [wb_shr hx hs, lN_i, pk_and _ 8 (by decide)]
    show nI (x / 2 ^ s % 2 ^ 32 % 2 ^ 8) = nI (x / 2 ^ s % 256)
    rw [show x / 2 ^ s % 2 ^ 32 % 2 ^ 8 = x / 2 ^ s % 256 by omega]
  unfold F_X7_addPacked_3 F_X7_addPacked_28
  rw [e]
  unfold ms_by at k
  refine ma_F (nI_pos (by omega)) (ma_lt (ma_en _ 0 rfl rfl (by omega) (by decide) (fun q => ma_lt ?_) (fun q => ma_gd (by decide) ?_)))
  · rw [if_pos q, List.append_nil] at k
    exact k τ H
  · rw [if_neg q] at k
    refine ma_bd (ms_addC _ (nI (x / 2 ^ s % 256)) ?_ H hl) (fun _ ψ r => ma_lt (k ψ r))
    rw [pk_andN (by omega) 8 (by decide), show (2 : Nat) ^ 8 = 256 from rfl, Nat.mod_mod]
theorem ms_nameC {σ0 τ : ae_S} {L : List Int32} {x : Nat} (hx : x < 2 ^ 48) (H : ms_C σ0 L τ) (hl : L.length + 6 ≤ 256) : ma_wp (F_X7_addPacked 1 (lN x) τ) (fun _ υ => ms_C σ0 (L ++ ms_nm x) υ) := by
  have a := ms_bylen x 40
  have b := ms_bylen x 32
  have c := ms_bylen x 24
  have d := ms_bylen x 16
  have e := ms_bylen x 8
  unfold F_X7_addPacked
  rw [show ae_fu = 4089 + 1 + 1 + 1 + 1 + 1 + 1 + 1 from rfl]
  refine ms_nmS (s := 40) (by omega) (by decide) H (by omega) (fun τ1 h1 => ?_)
  rw [show nI 40 + (-8 : Int32) = nI 32 by decide]
  refine ms_nmS (s := 32) (by omega) (by decide) h1 (by rw [List.length_append]; omega) (fun τ2 h2 => ?_)
  rw [show nI 32 + (-8 : Int32) = nI 24 by decide]
  refine ms_nmS (s := 24) (by omega) (by decide) h2 (by simp only [List.length_append]; omega) (fun τ3 h3 => ?_)
  rw [show nI 24 + (-8 : Int32) = nI 16 by decide]
  refine ms_nmS (s := 16) (by omega) (by decide) h3 (by simp only [List.length_append]; omega) (fun τ4 h4 => ?_)
  rw [show nI 16 + (-8 : Int32) = nI 8 by decide]
  refine ms_nmS (s := 8) (by omega) (by decide) h4 (by simp only [List.length_append]; omega) (fun τ5 h5 => ?_)
  rw [show nI 8 + (-8 : Int32) = nI 0 by decide]
  refine ms_nmS (s := 0) (by omega) (by decide) h5 (by simp only [List.length_append]; omega) (fun τ6 h6 => ?_)
  unfold F_X7_addPacked_3
  refine ma_T (by decide) (ma_ret ?_)
  unfold ms_nm
  simp only [List.append_assoc] at h6
  exact h6
theorem ms_nmSM {σ0 τ : ae_S} {L : List Int32} {x s n : Nat} {Q : Unit → ae_S → Prop} (hx : x < 2 ^ 64) (hs : s ≤ 56) (H : ms_M σ0 L τ) (hl : L.length < 600) (k : ∀ υ, ms_M σ0 (L ++ ms_by x s) υ → ma_wp (F_X12_saysName_3 n (lN x) (nI s + (-8 : Int32)) υ) Q) : ma_wp (F_X12_saysName_3 (n + 1) (lN x) (nI s) τ) Q := by
  have e : (lN x >>> ((nI s).toInt64 &&& 63)) &&& (255 : Int64) = lN (x / 2 ^ s % 256) := ml_ssh (b := 8) hx (by omega) (by decide) (by omega)
  unfold F_X12_saysName_3 F_X12_saysName_31
  rw [e]
  unfold ms_by at k
  refine ma_F (nI_pos (by omega)) (ma_if (fun q => ma_lt ?_) (fun q => ?_))
  · rw [lg_cmp_eq, show (0 : Int64) = lN 0 from rfl, lN_eq (by omega) (by decide)] at q
    rw [if_pos q, List.append_nil] at k
    exact k τ H
  · rw [lg_cmp_eq, show (0 : Int64) = lN 0 from rfl, lN_eq (by omega) (by decide)] at q
    rw [if_neg q] at k
    rw [lN_i]
    exact ma_bd (ms_byteM _ H hl) (fun _ ψ r => ma_lt (k ψ r))
theorem ms_nameM {σ0 τ : ae_S} {L : List Int32} {x : Nat} (hx : x < 2 ^ 48) (H : ms_M σ0 L τ) (hl : L.length + 6 ≤ 600) : ma_wp (F_X12_saysName (lN x) τ) (fun _ υ => ms_M σ0 (L ++ ms_nm x) υ) := by
  have a := ms_bylen x 40
  have b := ms_bylen x 32
  have c := ms_bylen x 24
  have d := ms_bylen x 16
  have e := ms_bylen x 8
  have z : ms_by x 48 = [] := by
    unfold ms_by
    rw [if_pos (by rw [Nat.div_eq_of_lt hx])]
  unfold F_X12_saysName
  rw [show ae_fu = 4088 + 1 + 1 + 1 + 1 + 1 + 1 + 1 + 1 from rfl]
  refine ms_nmSM (s := 48) (by omega) (by decide) H (by omega) (fun τ0 h0 => ?_)
  rw [z, List.append_nil] at h0
  rw [show nI 48 + (-8 : Int32) = nI 40 by decide]
  refine ms_nmSM (s := 40) (by omega) (by decide) h0 (by omega) (fun τ1 h1 => ?_)
  rw [show nI 40 + (-8 : Int32) = nI 32 by decide]
  refine ms_nmSM (s := 32) (by omega) (by decide) h1 (by rw [List.length_append]; omega) (fun τ2 h2 => ?_)
  rw [show nI 32 + (-8 : Int32) = nI 24 by decide]
  refine ms_nmSM (s := 24) (by omega) (by decide) h2 (by simp only [List.length_append]; omega) (fun τ3 h3 => ?_)
  rw [show nI 24 + (-8 : Int32) = nI 16 by decide]
  refine ms_nmSM (s := 16) (by omega) (by decide) h3 (by simp only [List.length_append]; omega) (fun τ4 h4 => ?_)
  rw [show nI 16 + (-8 : Int32) = nI 8 by decide]
  refine ms_nmSM (s := 8) (by omega) (by decide) h4 (by simp only [List.length_append]; omega) (fun τ5 h5 => ?_)
  rw [show nI 8 + (-8 : Int32) = nI 0 by decide]
  refine ms_nmSM (s := 0) (by omega) (by decide) h5 (by simp only [List.length_append]; omega) (fun τ6 h6 => ?_)
  unfold F_X12_saysName_3
  refine ma_T (by decide) (ma_ret ?_)
  unfold ms_nm
  simp only [List.append_assoc] at h6
  exact h6
