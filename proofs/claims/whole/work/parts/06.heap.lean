/-! fields, arrays, calls -/
theorem lw_ws0 : ∀ w ∈ u_ws RX0 TX0 6, w ∈ lw_g := by
  show ∀ w ∈ [u_lay RX0 TX0 0, u_lay RX0 TX0 1, u_lay RX0 TX0 2, u_lay RX0 TX0 3, u_lay RX0 TX0 4, u_lay RX0 TX0 5], w ∈ lw_g
  exact List.forall_mem_cons.mpr ⟨ww_61, List.forall_mem_cons.mpr ⟨ww_63, List.forall_mem_cons.mpr ⟨ww_65, List.forall_mem_cons.mpr ⟨ww_67, List.forall_mem_cons.mpr ⟨ww_69, List.forall_mem_cons.mpr ⟨ww_71, fun _ h => absurd h List.not_mem_nil⟩⟩⟩⟩⟩⟩
theorem lw_ws1 : ∀ w ∈ u_ws RX1 TX1 4, w ∈ lw_g := by
  show ∀ w ∈ [u_lay RX1 TX1 0, u_lay RX1 TX1 1, u_lay RX1 TX1 2, u_lay RX1 TX1 3], w ∈ lw_g
  exact List.forall_mem_cons.mpr ⟨ww_195, List.forall_mem_cons.mpr ⟨ww_197, List.forall_mem_cons.mpr ⟨ww_199, List.forall_mem_cons.mpr ⟨ww_201, fun _ h => absurd h List.not_mem_nil⟩⟩⟩⟩
theorem lw_ws4 : ∀ w ∈ u_ws RX4 TX4 14, w ∈ lw_g := by
  show ∀ w ∈ [u_lay RX4 TX4 0, u_lay RX4 TX4 1, u_lay RX4 TX4 2, u_lay RX4 TX4 3, u_lay RX4 TX4 4, u_lay RX4 TX4 5, u_lay RX4 TX4 6, u_lay RX4 TX4 7, u_lay RX4 TX4 8, u_lay RX4 TX4 9, u_lay RX4 TX4 10, u_lay RX4 TX4 11, u_lay RX4 TX4 12, u_lay RX4 TX4 13], w ∈ lw_g
  exact List.forall_mem_cons.mpr ⟨ww_272, List.forall_mem_cons.mpr ⟨ww_274, List.forall_mem_cons.mpr ⟨ww_276, List.forall_mem_cons.mpr ⟨ww_278, List.forall_mem_cons.mpr ⟨ww_280, List.forall_mem_cons.mpr ⟨ww_282, List.forall_mem_cons.mpr ⟨ww_284, List.forall_mem_cons.mpr ⟨ww_286, List.forall_mem_cons.mpr ⟨ww_288, List.forall_mem_cons.mpr ⟨ww_290, List.forall_mem_cons.mpr ⟨ww_292, List.forall_mem_cons.mpr ⟨ww_294, List.forall_mem_cons.mpr ⟨ww_296, List.forall_mem_cons.mpr ⟨ww_298, fun _ h => absurd h List.not_mem_nil⟩⟩⟩⟩⟩⟩⟩⟩⟩⟩⟩⟩⟩⟩
theorem lw_ws5 : ∀ w ∈ u_ws RX5 TX5 9, w ∈ lw_g := by
  show ∀ w ∈ [u_lay RX5 TX5 0, u_lay RX5 TX5 1, u_lay RX5 TX5 2, u_lay RX5 TX5 3, u_lay RX5 TX5 4, u_lay RX5 TX5 5, u_lay RX5 TX5 6, u_lay RX5 TX5 7, u_lay RX5 TX5 8], w ∈ lw_g
  exact List.forall_mem_cons.mpr ⟨ww_232, List.forall_mem_cons.mpr ⟨ww_234, List.forall_mem_cons.mpr ⟨ww_236, List.forall_mem_cons.mpr ⟨ww_238, List.forall_mem_cons.mpr ⟨ww_240, List.forall_mem_cons.mpr ⟨ww_242, List.forall_mem_cons.mpr ⟨ww_244, List.forall_mem_cons.mpr ⟨ww_246, List.forall_mem_cons.mpr ⟨ww_248, fun _ h => absurd h List.not_mem_nil⟩⟩⟩⟩⟩⟩⟩⟩⟩
theorem lw_ws6 : ∀ w ∈ u_ws RX6 TX6 4, w ∈ lw_g := by
  show ∀ w ∈ [u_lay RX6 TX6 0, u_lay RX6 TX6 1, u_lay RX6 TX6 2, u_lay RX6 TX6 3], w ∈ lw_g
  exact List.forall_mem_cons.mpr ⟨ww_142, List.forall_mem_cons.mpr ⟨ww_144, List.forall_mem_cons.mpr ⟨ww_146, List.forall_mem_cons.mpr ⟨ww_148, fun _ h => absurd h List.not_mem_nil⟩⟩⟩⟩
theorem lw_ws7 : ∀ w ∈ u_ws RX7 TX7 2, w ∈ lw_g := by
  show ∀ w ∈ [u_lay RX7 TX7 0, u_lay RX7 TX7 1], w ∈ lw_g
  exact List.forall_mem_cons.mpr ⟨ww_41, List.forall_mem_cons.mpr ⟨ww_43, fun _ h => absurd h List.not_mem_nil⟩⟩
theorem lw_ws8 : ∀ w ∈ u_ws RX8 TX8 9, w ∈ lw_g := by
  show ∀ w ∈ [u_lay RX8 TX8 0, u_lay RX8 TX8 1, u_lay RX8 TX8 2, u_lay RX8 TX8 3, u_lay RX8 TX8 4, u_lay RX8 TX8 5, u_lay RX8 TX8 6, u_lay RX8 TX8 7, u_lay RX8 TX8 8], w ∈ lw_g
  exact List.forall_mem_cons.mpr ⟨ww_166, List.forall_mem_cons.mpr ⟨ww_168, List.forall_mem_cons.mpr ⟨ww_170, List.forall_mem_cons.mpr ⟨ww_172, List.forall_mem_cons.mpr ⟨ww_174, List.forall_mem_cons.mpr ⟨ww_176, List.forall_mem_cons.mpr ⟨ww_178, List.forall_mem_cons.mpr ⟨ww_180, List.forall_mem_cons.mpr ⟨ww_182, fun _ h => absurd h List.not_mem_nil⟩⟩⟩⟩⟩⟩⟩⟩⟩
theorem lw_ws9 : ∀ w ∈ u_ws RX9 TX9 11, w ∈ lw_g := by
  show ∀ w ∈ [u_lay RX9 TX9 0, u_lay RX9 TX9 1, u_lay RX9 TX9 2, u_lay RX9 TX9 3, u_lay RX9 TX9 4, u_lay RX9 TX9 5, u_lay RX9 TX9 6, u_lay RX9 TX9 7, u_lay RX9 TX9 8, u_lay RX9 TX9 9, u_lay RX9 TX9 10], w ∈ lw_g
  exact List.forall_mem_cons.mpr ⟨ww_114, List.forall_mem_cons.mpr ⟨ww_116, List.forall_mem_cons.mpr ⟨ww_118, List.forall_mem_cons.mpr ⟨ww_120, List.forall_mem_cons.mpr ⟨ww_122, List.forall_mem_cons.mpr ⟨ww_124, List.forall_mem_cons.mpr ⟨ww_126, List.forall_mem_cons.mpr ⟨ww_128, List.forall_mem_cons.mpr ⟨ww_130, List.forall_mem_cons.mpr ⟨ww_132, List.forall_mem_cons.mpr ⟨ww_134, fun _ h => absurd h List.not_mem_nil⟩⟩⟩⟩⟩⟩⟩⟩⟩⟩⟩
theorem lw_ws10 : ∀ w ∈ u_ws RX10 TX10 2, w ∈ lw_g := by
  show ∀ w ∈ [u_lay RX10 TX10 0, u_lay RX10 TX10 1], w ∈ lw_g
  exact List.forall_mem_cons.mpr ⟨ww_212, List.forall_mem_cons.mpr ⟨ww_214, fun _ h => absurd h List.not_mem_nil⟩⟩
theorem lw_ws11 : ∀ w ∈ u_ws RX11 TX11 9, w ∈ lw_g := by
  show ∀ w ∈ [u_lay RX11 TX11 0, u_lay RX11 TX11 1, u_lay RX11 TX11 2, u_lay RX11 TX11 3, u_lay RX11 TX11 4, u_lay RX11 TX11 5, u_lay RX11 TX11 6, u_lay RX11 TX11 7, u_lay RX11 TX11 8], w ∈ lw_g
  exact List.forall_mem_cons.mpr ⟨ww_311, List.forall_mem_cons.mpr ⟨ww_313, List.forall_mem_cons.mpr ⟨ww_315, List.forall_mem_cons.mpr ⟨ww_317, List.forall_mem_cons.mpr ⟨ww_319, List.forall_mem_cons.mpr ⟨ww_321, List.forall_mem_cons.mpr ⟨ww_323, List.forall_mem_cons.mpr ⟨ww_325, List.forall_mem_cons.mpr ⟨ww_327, fun _ h => absurd h List.not_mem_nil⟩⟩⟩⟩⟩⟩⟩⟩⟩
theorem lw_ws12 : ∀ w ∈ u_ws RX12 TX12 52, w ∈ lw_g := by
  show ∀ w ∈ [u_lay RX12 TX12 0, u_lay RX12 TX12 1, u_lay RX12 TX12 2, u_lay RX12 TX12 3, u_lay RX12 TX12 4, u_lay RX12 TX12 5, u_lay RX12 TX12 6, u_lay RX12 TX12 7, u_lay RX12 TX12 8, u_lay RX12 TX12 9, u_lay RX12 TX12 10, u_lay RX12 TX12 11, u_lay RX12 TX12 12, u_lay RX12 TX12 13, u_lay RX12 TX12 14, u_lay RX12 TX12 15, u_lay RX12 TX12 16, u_lay RX12 TX12 17, u_lay RX12 TX12 18, u_lay RX12 TX12 19, u_lay RX12 TX12 20, u_lay RX12 TX12 21, u_lay RX12 TX12 22, u_lay RX12 TX12 23, u_lay RX12 TX12 24, u_lay RX12 TX12 25, u_lay RX12 TX12 26, u_lay RX12 TX12 27, u_lay RX12 TX12 28, u_lay RX12 TX12 29, u_lay RX12 TX12 30, u_lay RX12 TX12 31, u_lay RX12 TX12 32, u_lay RX12 TX12 33, u_lay RX12 TX12 34, u_lay RX12 TX12 35, u_lay RX12 TX12 36, u_lay RX12 TX12 37, u_lay RX12 TX12 38, u_lay RX12 TX12 39, u_lay RX12 TX12 40, u_lay RX12 TX12 41, u_lay RX12 TX12 42, u_lay RX12 TX12 43, u_lay RX12 TX12 44, u_lay RX12 TX12 45, u_lay RX12 TX12 46, u_lay RX12 TX12 47, u_lay RX12 TX12 48, u_lay RX12 TX12 49, u_lay RX12 TX12 50, u_lay RX12 TX12 51], w ∈ lw_g
  exact List.forall_mem_cons.mpr ⟨ww_1350, List.forall_mem_cons.mpr ⟨ww_1352, List.forall_mem_cons.mpr ⟨ww_1354, List.forall_mem_cons.mpr ⟨ww_1356, List.forall_mem_cons.mpr ⟨ww_1358, List.forall_mem_cons.mpr ⟨ww_1360, List.forall_mem_cons.mpr ⟨ww_1362, List.forall_mem_cons.mpr ⟨ww_1364, List.forall_mem_cons.mpr ⟨ww_1366, List.forall_mem_cons.mpr ⟨ww_1368, List.forall_mem_cons.mpr ⟨ww_1370, List.forall_mem_cons.mpr ⟨ww_1372, List.forall_mem_cons.mpr ⟨ww_1374, List.forall_mem_cons.mpr ⟨ww_1376, List.forall_mem_cons.mpr ⟨ww_1378, List.forall_mem_cons.mpr ⟨ww_1380, List.forall_mem_cons.mpr ⟨ww_1382, List.forall_mem_cons.mpr ⟨ww_1384, List.forall_mem_cons.mpr ⟨ww_1386, List.forall_mem_cons.mpr ⟨ww_1388, List.forall_mem_cons.mpr ⟨ww_1390, List.forall_mem_cons.mpr ⟨ww_1392, List.forall_mem_cons.mpr ⟨ww_1394, List.forall_mem_cons.mpr ⟨ww_1396, List.forall_mem_cons.mpr ⟨ww_1398, List.forall_mem_cons.mpr ⟨ww_1400, List.forall_mem_cons.mpr ⟨ww_1402, List.forall_mem_cons.mpr ⟨ww_1404, List.forall_mem_cons.mpr ⟨ww_1406, List.forall_mem_cons.mpr ⟨ww_1408, List.forall_mem_cons.mpr ⟨ww_1410, List.forall_mem_cons.mpr ⟨ww_1412, List.forall_mem_cons.mpr ⟨ww_1414, List.forall_mem_cons.mpr ⟨ww_1416, List.forall_mem_cons.mpr ⟨ww_1418, List.forall_mem_cons.mpr ⟨ww_1420, List.forall_mem_cons.mpr ⟨ww_1422, List.forall_mem_cons.mpr ⟨ww_1424, List.forall_mem_cons.mpr ⟨ww_1426, List.forall_mem_cons.mpr ⟨ww_1428, List.forall_mem_cons.mpr ⟨ww_1430, List.forall_mem_cons.mpr ⟨ww_1432, List.forall_mem_cons.mpr ⟨ww_1434, List.forall_mem_cons.mpr ⟨ww_1436, List.forall_mem_cons.mpr ⟨ww_1438, List.forall_mem_cons.mpr ⟨ww_1440, List.forall_mem_cons.mpr ⟨ww_1442, List.forall_mem_cons.mpr ⟨ww_1444, List.forall_mem_cons.mpr ⟨ww_1446, List.forall_mem_cons.mpr ⟨ww_1448, List.forall_mem_cons.mpr ⟨ww_1450, List.forall_mem_cons.mpr ⟨ww_1452, fun _ h => absurd h List.not_mem_nil⟩⟩⟩⟩⟩⟩⟩⟩⟩⟩⟩⟩⟩⟩⟩⟩⟩⟩⟩⟩⟩⟩⟩⟩⟩⟩⟩⟩⟩⟩⟩⟩⟩⟩⟩⟩⟩⟩⟩⟩⟩⟩⟩⟩⟩⟩⟩⟩⟩⟩⟩⟩
theorem ae_cw {ci : Nat} {C : String} {T : u_T} {N : Nat} (h : vwCl[ci]? = some (C, T, N)) : (∀ w ∈ u_ws C T N, w ∈ lw_g) ∧ (∀ k, k < N → parseFieldDescriptor (T k).2.2.1 = some (ae_ty ci k)) ∧ (∀ a, a < N → ∀ b, b < N → a ≠ b → (T a).2.1 ≠ (T b).2.1) :=
  match ci, h with
  | 0, h => by cases h; exact ⟨lw_ws0, tyX0_ok, nmX0⟩
  | 1, h => by cases h; exact ⟨lw_ws1, tyX1_ok, nmX1⟩
  | 2, h => by cases h; exact ⟨lw_ws4, tyX4_ok, nmX4⟩
  | 3, h => by cases h; exact ⟨lw_ws5, tyX5_ok, nmX5⟩
  | 4, h => by cases h; exact ⟨lw_ws6, tyX6_ok, nmX6⟩
  | 5, h => by cases h; exact ⟨lw_ws7, tyX7_ok, nmX7⟩
  | 6, h => by cases h; exact ⟨lw_ws8, tyX8_ok, nmX8⟩
  | 7, h => by cases h; exact ⟨lw_ws9, tyX9_ok, nmX9⟩
  | 8, h => by cases h; exact ⟨lw_ws10, tyX10_ok, nmX10⟩
  | 9, h => by cases h; exact ⟨lw_ws11, tyX11_ok, nmX11⟩
  | 10, h => by cases h; exact ⟨lw_ws12, tyX12_ok, nmX12⟩
  | k + 11, h => by simp [vwCl] at h
/-- own's pool entry idx is the field k of class ci, of type ty -/
def ae_FL (own : String) (idx ci k : Nat) (ty : FieldType) (fin : Bool) : Prop := ∃ (C : String) (T : u_T) (N : Nat), vwCl[ci]? = some (C, T, N) ∧ k < N ∧ Cond.fieldLink own idx C (T k).2.1 (T k).2.2.1 ∈ lw_g ∧ (T k).1 = C ∧ ae_ty ci k = ty ∧ (T k).2.2.2 = fin
def ae_wI (σ : ae_S) (g : Nat) (i : Fin 32) (k : Nat) (x : Int32) : ae_S := (fun a b c => if a = g ∧ b = i ∧ c = k then x else σ.1 a b c, σ.2)
def ae_wL (σ : ae_S) (g : Nat) (i : Fin 32) (k : Nat) (x : Int64) : ae_S := (σ.1, fun a b c => if a = g ∧ b = i ∧ c = k then x else σ.2.1 a b c, σ.2.2)
def ae_wD (σ : ae_S) (g : Nat) (i : Fin 32) (k : Nat) (x : UInt64) : ae_S := (σ.1, σ.2.1, fun a b c => if a = g ∧ b = i ∧ c = k then x else σ.2.2.1 a b c, σ.2.2.2)
def ae_wR (σ : ae_S) (g : Nat) (i : Fin 32) (k : Nat) (x : Option ae_R) : ae_S := (σ.1, σ.2.1, σ.2.2.1, fun a b c => if a = g ∧ b = i ∧ c = k then x else σ.2.2.2 a b c)
theorem ae_fs_get {G : ae_G} {σ : ae_S} {g : Nat} {i : Fin 32} {ci k : Nat} {C : String} {T : u_T} {N : Nat} (h : vwCl[ci]? = some (C, T, N)) (hk : k < N) : (ae_fs G σ g i ci)[k]? = some (ae_fv G σ g i k (ae_ty ci k)) := by
  have e : (vwCl.getD ci ("", TX0, 0)).2.2 = N := by rw [List.getD_eq_getElem?_getD, h]; rfl
  rw [ae_fs, List.getElem?_map, e, List.getElem?_range hk]
  rfl
theorem ae_fs_len {G : ae_G} {σ : ae_S} {g : Nat} {i : Fin 32} {ci : Nat} {C : String} {T : u_T} {N : Nat} (h : vwCl[ci]? = some (C, T, N)) : (ae_fs G σ g i ci).length = N := by
  have e : (vwCl.getD ci ("", TX0, 0)).2.2 = N := by rw [List.getD_eq_getElem?_getD, h]; rfl
  rw [ae_fs, List.length_map, List.length_range, e]
/-- a cell depends on what stands at its own place alone -/
theorem ae_ce_same {G : ae_G} {σ σ' : ae_S} {q : ae_R} (h1 : ∀ k, σ'.1 q.1 q.2 k = σ.1 q.1 q.2 k) (h2 : ∀ k, σ'.2.1 q.1 q.2 k = σ.2.1 q.1 q.2 k) (h3 : ∀ k, σ'.2.2.1 q.1 q.2 k = σ.2.2.1 q.1 q.2 k) (h4 : ∀ k, σ'.2.2.2 q.1 q.2 k = σ.2.2.2 q.1 q.2 k) : ae_ce G σ' q = ae_ce G σ q := by
  have e1 : σ'.1 q.1 q.2 = σ.1 q.1 q.2 := funext h1
  have e2 : σ'.2.1 q.1 q.2 = σ.2.1 q.1 q.2 := funext h2
  have e3 : σ'.2.2.1 q.1 q.2 = σ.2.2.1 q.1 q.2 := funext h3
  have e4 : ∀ k, ae_rv σ' q.1 q.2 k = ae_rv σ q.1 q.2 k := fun k => by rw [ae_rv, ae_rv, h4]
  have ef : ∀ k ty, ae_fv G σ' q.1 q.2 k ty = ae_fv G σ q.1 q.2 k ty := fun k ty => by
    cases ty <;> simp only [ae_fv, e1, e2, e3, e4]
  have ea : ∀ ty, ae_av G σ' q.1 q.2 ty = ae_av G σ q.1 q.2 ty := fun ty => by
    cases ty <;> simp only [ae_av, e1, e2, e3, e4]
  simp only [ae_ce, ae_fs, ef, ea]
theorem ae_one_I {G : ae_G} {σ : ae_S} {g : Nat} {i : Fin 32} {k : Nat} {x : Int32} (q : ae_R) (h : q ≠ (g, i)) : ae_ce G (ae_wI σ g i k x) q = ae_ce G σ q := by
  refine ae_ce_same (fun c => if_neg fun e => h (Prod.ext e.1 e.2.1)) (fun _ => rfl) (fun _ => rfl) (fun _ => rfl)
theorem ae_one_L {G : ae_G} {σ : ae_S} {g : Nat} {i : Fin 32} {k : Nat} {x : Int64} (q : ae_R) (h : q ≠ (g, i)) : ae_ce G (ae_wL σ g i k x) q = ae_ce G σ q := by
  refine ae_ce_same (fun _ => rfl) (fun c => if_neg fun e => h (Prod.ext e.1 e.2.1)) (fun _ => rfl) (fun _ => rfl)
theorem ae_one_D {G : ae_G} {σ : ae_S} {g : Nat} {i : Fin 32} {k : Nat} {x : UInt64} (q : ae_R) (h : q ≠ (g, i)) : ae_ce G (ae_wD σ g i k x) q = ae_ce G σ q := by
  refine ae_ce_same (fun _ => rfl) (fun _ => rfl) (fun c => if_neg fun e => h (Prod.ext e.1 e.2.1)) (fun _ => rfl)
theorem ae_one_R {G : ae_G} {σ : ae_S} {g : Nat} {i : Fin 32} {k : Nat} {x : Option ae_R} (q : ae_R) (h : q ≠ (g, i)) : ae_ce G (ae_wR σ g i k x) q = ae_ce G σ q := by
  refine ae_ce_same (fun _ => rfl) (fun _ => rfl) (fun _ => rfl) (fun c => if_neg fun e => h (Prod.ext e.1 e.2.1))
theorem ae_fs_set {G : ae_G} {σ σ' : ae_S} {g : Nat} {i : Fin 32} {ci k : Nat} {w : Value} {C : String} {T : u_T} {N : Nat} (h : vwCl[ci]? = some (C, T, N)) (hk : k < N) (h1 : ae_fv G σ' g i k (ae_ty ci k) = w) (h2 : ∀ j, j ≠ k → ae_fv G σ' g i j (ae_ty ci j) = ae_fv G σ g i j (ae_ty ci j)) : ae_fs G σ' g i ci = (ae_fs G σ g i ci).set k w := by
  apply List.ext_getElem?
  intro j
  rw [List.getElem?_set, ae_fs_len h]
  by_cases hj : j < N
  · rw [ae_fs_get h hj]
    by_cases e : k = j
    · subst e; rw [if_pos rfl, if_pos hk, h1]
    · rw [if_neg e, ae_fs_get h hj, h2 j (fun q => e q.symm)]
  · rw [List.getElem?_eq_none (by rw [ae_fs_len h]; omega)]
    by_cases e : k = j
    · omega
    · rw [if_neg e, List.getElem?_eq_none (by rw [ae_fs_len h]; omega)]
theorem ae_sS_refl (σ : ae_S) : ae_sS σ σ := ⟨rfl, rfl, fun g i k => by unfold alike64; simp, rfl⟩
section AEH
variable {l : Launch} {G : ae_G} {d : Nat} {M : ae_M} {Po : Option ae_V → ae_S → Prop} {pc : Nat} {lv : List (Nat × ae_V)} {st : List ae_V} {σ : ae_S}
theorem ae_get {idx ci k : Nat} {ty : FieldType} {fin : Bool} {q : ae_R} {v : ae_V} (hd : decode M.2.1 pc = .ok (.getfield idx, 3)) (hf : ae_FL M.1 idx ci k ty fin) (hq : ae_ok q = true) (hc : (ae_sh q.1).2 = .inl ci) (hv : ∀ σ0, ae_sS σ σ0 → ae_sv G v (ae_fv G σ0 q.1 q.2 k ty)) (kk : ae_T l G d M Po (pc + 3) lv (v :: st) σ) : ae_T l G d M Po pc lv (ae_r (some q) :: st) σ := by
  intro p e s m args below meth c H locs d0 ls st0 σ0 hX hl hs hσ hP hS hd0
  obtain ⟨r, rfl, hs1⟩ := ae_ss_r hs
  obtain ⟨C, T, N, hcl, hk, hw, hT, hty, -⟩ := hf
  obtain ⟨q0, hq0, -⟩ := ae_place (G := G) (σ := σ0) hq
  have he : (ae_wl G σ0)[q0]? = some (ae_ga G q.1 q.2, .inr (ci, ae_fs G σ0 q.1 q.2 ci)) := by rw [hq0]; simp only [ae_ce, hc]
  obtain ⟨hw1, -, -⟩ := ae_cw hcl
  subst hty
  exact va_get (Ts := lw_g) (own := M.1) (ref := C) (v := ae_fv G σ0 q.1 q.2 k (ae_ty ci k)) hX.1 hX.2.1 (dr_words hX.2.2.2.2.1 d0) hw1 hX.2.2.2.1 hX.2.2.2.2.2.2.2.1 hP q0 he hcl k hk (dr_words hX.2.2.2.2.1 d0 _ hw) (fun x hx => by rw [hT] at hx; exact hx) (ae_fs_get hcl hk) hd (kk p e s m args below meth c H locs d0 ls _ σ0 hX hl ⟨hv σ0 hσ, hs1⟩ hσ hP hS hd0)
theorem ae_put {idx ci k : Nat} {ty : FieldType} {q : ae_R} {v : ae_V} {σ' : ae_S} (hd : decode M.2.1 pc = .ok (.putfield idx, 3)) (hf : ae_FL M.1 idx ci k ty false) (hq : ae_ok q = true) (hc : (ae_sh q.1).2 = .inl ci) (hnar : ∀ w, ae_sv G v w → narrow ty w = w ∧ fits ty w = true)
    (hset : ∀ σ0 w, ae_sS σ σ0 → ae_sv G v w → ∃ σ1, ae_sS σ' σ1 ∧ ae_fv G σ1 q.1 q.2 k ty = w ∧ (∀ j, j ≠ k → ∀ ty, ae_fv G σ1 q.1 q.2 j ty = ae_fv G σ0 q.1 q.2 j ty) ∧ ∀ q' : ae_R, q' ≠ q → ae_ce G σ1 q' = ae_ce G σ0 q')
    (kk : ae_T l G d M Po (pc + 3) lv st σ') : ae_T l G d M Po pc lv (v :: ae_r (some q) :: st) σ := by
  intro p e s m args below meth c H locs d0 ls st0 σ0 hX hl hs hσ hP hS hd0
  obtain ⟨w, r, rfl, hw, hs1⟩ := ae_ss_c hs
  obtain ⟨r2, rfl, hs2⟩ := ae_ss_r hs1
  obtain ⟨C, T, N, hcl, hk, hwd, hT, hty, hfin⟩ := hf
  obtain ⟨q0, hq0, hq1⟩ := ae_place (G := G) (σ := σ0) hq
  have he : (ae_wl G σ0)[q0]? = some (ae_ga G q.1 q.2, .inr (ci, ae_fs G σ0 q.1 q.2 ci)) := by rw [hq0]; simp only [ae_ce, hc]
  obtain ⟨hw1, hw2, hw3⟩ := ae_cw hcl
  subst hty
  obtain ⟨σ1, g1, g2, g3, g4⟩ := hset σ0 w hσ hw
  have hD := hX.2.2.2.2.2.2.2.2.2.1 σ0
  have hce : ae_ce G σ1 q = .inr (ci, (ae_fs G σ0 q.1 q.2 ci).set k w) := by
    simp only [ae_ce, hc]
    rw [ae_fs_set hcl hk g2 (fun j hj => g3 j hj _)]
  have hset2 := ae_wset (G := G) (σ := σ0) (σ' := σ1) hq1 hD g4
  rw [hce] at hset2
  refine va_put (Ts := lw_g) (own := M.1) (ref := C) (ty := ae_ty ci k) hX.1 hX.2.1 (dr_words hX.2.2.2.2.1 d0) hw1 (ae_ty ci) hw2 hw3 hX.2.2.2.1 hX.2.2.2.2.2.2.2.1 hP hD hS q0 he hcl k hk (dr_words hX.2.2.2.2.1 d0 _ hwd) (fun x hx => by rw [hT] at hx; exact hx) hfin (hw2 k hk) (hnar w hw).1 (hnar w hw).2 (by rw [ae_fs_len hcl]; exact hk) hd (fun H1 locs1 hP1 _ hS1 => ?_)
  rw [hset2] at hP1
  exact kk p e s m args below meth c H1 locs1 d0 ls _ σ1 hX hl hs2 g1 hP1 hS1 hd0
theorem ae_getI {idx ci k : Nat} {fin : Bool} {q : ae_R} (hd : decode M.2.1 pc = .ok (.getfield idx, 3)) (hf : ae_FL M.1 idx ci k .int fin) (hq : ae_ok q = true) (hc : (ae_sh q.1).2 = .inl ci) (kk : ae_T l G d M Po (pc + 3) lv (ae_i (σ.1 q.1 q.2 k) :: st) σ) : ae_T l G d M Po pc lv (ae_r (some q) :: st) σ :=
  ae_get hd hf hq hc (fun σ0 h => by rw [← h.1]; rfl) kk
theorem ae_getZ {idx ci k : Nat} {fin : Bool} {q : ae_R} (hd : decode M.2.1 pc = .ok (.getfield idx, 3)) (hf : ae_FL M.1 idx ci k .boolean fin) (hq : ae_ok q = true) (hc : (ae_sh q.1).2 = .inl ci) (kk : ae_T l G d M Po (pc + 3) lv (ae_i (σ.1 q.1 q.2 k) :: st) σ) : ae_T l G d M Po pc lv (ae_r (some q) :: st) σ :=
  ae_get hd hf hq hc (fun σ0 h => by rw [← h.1]; rfl) kk
theorem ae_getL {idx ci k : Nat} {fin : Bool} {q : ae_R} (hd : decode M.2.1 pc = .ok (.getfield idx, 3)) (hf : ae_FL M.1 idx ci k .long fin) (hq : ae_ok q = true) (hc : (ae_sh q.1).2 = .inl ci) (kk : ae_T l G d M Po (pc + 3) lv (ae_l (σ.2.1 q.1 q.2 k) :: st) σ) : ae_T l G d M Po pc lv (ae_r (some q) :: st) σ :=
  ae_get hd hf hq hc (fun σ0 h => by rw [← h.2.1]; rfl) kk
theorem ae_getD {idx ci k : Nat} {fin : Bool} {q : ae_R} (hd : decode M.2.1 pc = .ok (.getfield idx, 3)) (hf : ae_FL M.1 idx ci k .double fin) (hq : ae_ok q = true) (hc : (ae_sh q.1).2 = .inl ci) (kk : ae_T l G d M Po (pc + 3) lv (ae_d (σ.2.2.1 q.1 q.2 k) :: st) σ) : ae_T l G d M Po pc lv (ae_r (some q) :: st) σ :=
  ae_get (v := ae_d (σ.2.2.1 q.1 q.2 k)) hd hf hq hc (fun σ0 h => ⟨_, rfl, h.2.2.1 _ _ _⟩) kk
theorem ae_rv_same {σ0 : ae_S} (h : ae_sS σ σ0) (g : Nat) (i : Fin 32) (k : Nat) : ae_rv σ0 g i k = ae_rv σ g i k := by rw [ae_rv, ae_rv, h.2.2.2]
theorem ae_getO {idx ci k : Nat} {fin : Bool} {q : ae_R} {n : String} (x : Option ae_R) (hd : decode M.2.1 pc = .ok (.getfield idx, 3)) (hf : ae_FL M.1 idx ci k (.object n) fin) (hq : ae_ok q = true) (hc : (ae_sh q.1).2 = .inl ci) (hx : ae_rv σ q.1 q.2 k = x) (kk : ae_T l G d M Po (pc + 3) lv (ae_r x :: st) σ) : ae_T l G d M Po pc lv (ae_r (some q) :: st) σ :=
  ae_get hd hf hq hc (fun σ0 h => by rw [← hx, ← ae_rv_same h]; rfl) kk
theorem ae_getA {idx ci k : Nat} {fin : Bool} {q : ae_R} {n : FieldType} (x : Option ae_R) (hd : decode M.2.1 pc = .ok (.getfield idx, 3)) (hf : ae_FL M.1 idx ci k (.array n) fin) (hq : ae_ok q = true) (hc : (ae_sh q.1).2 = .inl ci) (hx : ae_rv σ q.1 q.2 k = x) (kk : ae_T l G d M Po (pc + 3) lv (ae_r x :: st) σ) : ae_T l G d M Po pc lv (ae_r (some q) :: st) σ :=
  ae_get hd hf hq hc (fun σ0 h => by rw [← hx, ← ae_rv_same h]; rfl) kk
theorem ae_fvI {σ0 : ae_S} {g : Nat} {i : Fin 32} {k j : Nat} {x : Int32} (h : j ≠ k) (ty : FieldType) : ae_fv G (ae_wI σ0 g i k x) g i j ty = ae_fv G σ0 g i j ty := by
  have e : (ae_wI σ0 g i k x).1 g i j = σ0.1 g i j := if_neg fun q => h q.2.2
  cases ty <;> simp only [ae_fv, e] <;> rfl
theorem ae_fvL {σ0 : ae_S} {g : Nat} {i : Fin 32} {k j : Nat} {x : Int64} (h : j ≠ k) (ty : FieldType) : ae_fv G (ae_wL σ0 g i k x) g i j ty = ae_fv G σ0 g i j ty := by
  have e : (ae_wL σ0 g i k x).2.1 g i j = σ0.2.1 g i j := if_neg fun q => h q.2.2
  cases ty <;> simp only [ae_fv, e] <;> rfl
theorem ae_fvD {σ0 : ae_S} {g : Nat} {i : Fin 32} {k j : Nat} {x : UInt64} (h : j ≠ k) (ty : FieldType) : ae_fv G (ae_wD σ0 g i k x) g i j ty = ae_fv G σ0 g i j ty := by
  have e : (ae_wD σ0 g i k x).2.2.1 g i j = σ0.2.2.1 g i j := if_neg fun q => h q.2.2
  cases ty <;> simp only [ae_fv, e] <;> rfl
theorem ae_fvR {σ0 : ae_S} {g : Nat} {i : Fin 32} {k j : Nat} {x : Option ae_R} (h : j ≠ k) (ty : FieldType) : ae_fv G (ae_wR σ0 g i k x) g i j ty = ae_fv G σ0 g i j ty := by
  have e : ae_rv (ae_wR σ0 g i k x) g i j = ae_rv σ0 g i j := by
    have e0 : (ae_wR σ0 g i k x).2.2.2 g i j = σ0.2.2.2 g i j := if_neg fun q => h q.2.2
    rw [ae_rv, ae_rv, e0]
  cases ty <;> simp only [ae_fv, e] <;> rfl
theorem ae_putI {idx ci k : Nat} {q : ae_R} {x : Int32} (hd : decode M.2.1 pc = .ok (.putfield idx, 3)) (hf : ae_FL M.1 idx ci k .int false) (hq : ae_ok q = true) (hc : (ae_sh q.1).2 = .inl ci) (kk : ae_T l G d M Po (pc + 3) lv st (ae_wI σ q.1 q.2 k x)) : ae_T l G d M Po pc lv (ae_i x :: ae_r (some q) :: st) σ :=
  ae_put (σ' := ae_wI σ q.1 q.2 k x) (v := ae_i x) hd hf hq hc (fun w h => by rw [show w = .int x from h]; exact ⟨rfl, rfl⟩) (fun σ0 w hσ hw => ⟨ae_wI σ0 q.1 q.2 k x, ⟨by simp only [ae_wI, hσ.1], hσ.2.1, hσ.2.2.1, hσ.2.2.2⟩, by rw [show w = .int x from hw]; exact congrArg Value.int (if_pos ⟨rfl, rfl, rfl⟩), fun j hj ty => ae_fvI hj ty, fun q' h => ae_one_I q' h⟩) kk
theorem ae_putZ {idx ci k : Nat} {q : ae_R} {x : Int32} (hd : decode M.2.1 pc = .ok (.putfield idx, 3)) (hf : ae_FL M.1 idx ci k .boolean false) (hq : ae_ok q = true) (hc : (ae_sh q.1).2 = .inl ci) (hx : x = 0 ∨ x = 1) (kk : ae_T l G d M Po (pc + 3) lv st (ae_wI σ q.1 q.2 k x)) : ae_T l G d M Po pc lv (ae_i x :: ae_r (some q) :: st) σ :=
  ae_put (σ' := ae_wI σ q.1 q.2 k x) (v := ae_i x) hd hf hq hc (fun w h => by rw [show w = .int x from h]; rcases hx with rfl | rfl <;> exact ⟨by decide, by decide⟩) (fun σ0 w hσ hw => ⟨ae_wI σ0 q.1 q.2 k x, ⟨by simp only [ae_wI, hσ.1], hσ.2.1, hσ.2.2.1, hσ.2.2.2⟩, by rw [show w = .int x from hw]; exact congrArg Value.int (if_pos ⟨rfl, rfl, rfl⟩), fun j hj ty => ae_fvI hj ty, fun q' h => ae_one_I q' h⟩) kk
theorem ae_putL {idx ci k : Nat} {q : ae_R} {x : Int64} (hd : decode M.2.1 pc = .ok (.putfield idx, 3)) (hf : ae_FL M.1 idx ci k .long false) (hq : ae_ok q = true) (hc : (ae_sh q.1).2 = .inl ci) (kk : ae_T l G d M Po (pc + 3) lv st (ae_wL σ q.1 q.2 k x)) : ae_T l G d M Po pc lv (ae_l x :: ae_r (some q) :: st) σ :=
  ae_put (σ' := ae_wL σ q.1 q.2 k x) (v := ae_l x) hd hf hq hc (fun w h => by rw [show w = .long x from h]; exact ⟨rfl, rfl⟩) (fun σ0 w hσ hw => ⟨ae_wL σ0 q.1 q.2 k x, ⟨hσ.1, by simp only [ae_wL, hσ.2.1], hσ.2.2.1, hσ.2.2.2⟩, by rw [show w = .long x from hw]; exact congrArg Value.long (if_pos ⟨rfl, rfl, rfl⟩), fun j hj ty => ae_fvL hj ty, fun q' h => ae_one_L q' h⟩) kk
theorem ae_putD {idx ci k : Nat} {q : ae_R} {x : UInt64} (hd : decode M.2.1 pc = .ok (.putfield idx, 3)) (hf : ae_FL M.1 idx ci k .double false) (hq : ae_ok q = true) (hc : (ae_sh q.1).2 = .inl ci) (kk : ae_T l G d M Po (pc + 3) lv st (ae_wD σ q.1 q.2 k x)) : ae_T l G d M Po pc lv (ae_d x :: ae_r (some q) :: st) σ :=
  ae_put (σ' := ae_wD σ q.1 q.2 k x) (v := ae_d x) hd hf hq hc (fun w h => by obtain ⟨y, rfl, -⟩ := h; exact ⟨rfl, rfl⟩) (fun σ0 w hσ hw => by
    obtain ⟨y, rfl, hy⟩ := hw
    refine ⟨ae_wD σ0 q.1 q.2 k y, ⟨hσ.1, hσ.2.1, fun a b c => ?_, hσ.2.2.2⟩, congrArg Value.double (if_pos ⟨rfl, rfl, rfl⟩), fun j hj ty => ae_fvD hj ty, fun q' h => ae_one_D q' h⟩
    show alike64 (if a = q.1 ∧ b = q.2 ∧ c = k then y else σ0.2.2.1 a b c) (if a = q.1 ∧ b = q.2 ∧ c = k then x else σ.2.2.1 a b c) = true
    by_cases h : a = q.1 ∧ b = q.2 ∧ c = k
    · rw [if_pos h, if_pos h]; exact hy
    · rw [if_neg h, if_neg h]; exact hσ.2.2.1 a b c) kk
theorem ae_putO {idx ci k : Nat} {q : ae_R} {x : Option ae_R} {n : String} (hd : decode M.2.1 pc = .ok (.putfield idx, 3)) (hf : ae_FL M.1 idx ci k (.object n) false) (hq : ae_ok q = true) (hc : (ae_sh q.1).2 = .inl ci) (hmu : ae_mu q.1 k = true) (kk : ae_T l G d M Po (pc + 3) lv st (ae_wR σ q.1 q.2 k x)) : ae_T l G d M Po pc lv (ae_r x :: ae_r (some q) :: st) σ :=
  ae_put (σ' := ae_wR σ q.1 q.2 k x) (v := ae_r x) hd hf hq hc (fun w h => by rw [show w = va_rf (ae_ar G x) from h]; cases x <;> exact ⟨rfl, rfl⟩) (fun σ0 w hσ hw => ⟨ae_wR σ0 q.1 q.2 k x, ⟨hσ.1, hσ.2.1, hσ.2.2.1, by simp only [ae_wR, hσ.2.2.2]⟩, by rw [show w = va_rf (ae_ar G x) from hw]; show va_rf (ae_ar G (ae_rv _ _ _ _)) = _; rw [ae_rv, if_pos hmu]; exact congrArg (fun z => va_rf (ae_ar G z)) (if_pos ⟨rfl, rfl, rfl⟩), fun j hj ty => ae_fvR hj ty, fun q' h => ae_one_R q' h⟩) kk
theorem ae_putA {idx ci k : Nat} {q : ae_R} {x : Option ae_R} {n : FieldType} (hd : decode M.2.1 pc = .ok (.putfield idx, 3)) (hf : ae_FL M.1 idx ci k (.array n) false) (hq : ae_ok q = true) (hc : (ae_sh q.1).2 = .inl ci) (hmu : ae_mu q.1 k = true) (kk : ae_T l G d M Po (pc + 3) lv st (ae_wR σ q.1 q.2 k x)) : ae_T l G d M Po pc lv (ae_r x :: ae_r (some q) :: st) σ :=
  ae_put (σ' := ae_wR σ q.1 q.2 k x) (v := ae_r x) hd hf hq hc (fun w h => by rw [show w = va_rf (ae_ar G x) from h]; cases x <;> exact ⟨rfl, rfl⟩) (fun σ0 w hσ hw => ⟨ae_wR σ0 q.1 q.2 k x, ⟨hσ.1, hσ.2.1, hσ.2.2.1, by simp only [ae_wR, hσ.2.2.2]⟩, by rw [show w = va_rf (ae_ar G x) from hw]; show va_rf (ae_ar G (ae_rv _ _ _ _)) = _; rw [ae_rv, if_pos hmu]; exact congrArg (fun z => va_rf (ae_ar G z)) (if_pos ⟨rfl, rfl, rfl⟩), fun j hj ty => ae_fvR hj ty, fun q' h => ae_one_R q' h⟩) kk
end AEH
