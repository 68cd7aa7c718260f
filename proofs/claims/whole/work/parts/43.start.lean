/-! from the law's entry: the two constructors; the world; then the loop -/
theorem zs_call {p : Program} {l : Launch} {e : Env} {s : State} {m : MethodId} {b0 : Nat} {below : List Frame} {meth : Method} {c : Code} {H : Heap} {locs : List Loc} {ls : Array Slot} {cells slots : Nat} {Q : State → Prop} {D : va_G} {gc : FieldType → ClassId} {u8 : Nat} {idx n x d1 mc ms pc : Nat} {y : MethodName} {M' : ae_M} {As st : List Value} {ws : va_W} {Pw1 : va_W → Prop}
    (hX1 : p.tables.exec = Jvm.exec) (hb : c.code = cL_law) (hml : c.maxLocals = 4) (hown : s.vm.findClass RL = some m.cls) (hts : ∀ w ∈ lw_g, w.before #[.ref b0] s = true) (hK : uc_K D gc s.heap.size u8 s)
    (hd : decode cL_law pc = .ok (.invokespecial idx, 3)) (hlk : Cond.methodLink RL idx y ∈ lw_g) (hy : uc_IY y M' n) (hn : As.length = n) (hrm : (st.map fun v => v.category).sum ≤ 8) (hdd : d1 ≤ 2040) (hc : cells + mc ≤ 600000) (hsl : slots + ms ≤ 7302250)
    (hM : uc_M l D gc s.heap.size u8 y M' (.ref x :: As) ws Pw1 d1 mc ms) (hls : ls.size = 4) (hP : va_P D vwCl ws H) (hD : va_D (uc_A s.heap.size) ws) (hS : va_S (uc_A s.heap.size) s.heap H locs)
    (k : ∀ (w : va_W) (H1 : Heap) (locs1 : List Loc), Pw1 w → va_P D vwCl w H1 → va_D (uc_A s.heap.size) w → va_S (uc_A s.heap.size) s.heap H1 locs1 → W p l e room_1 s m #[.ref b0] below meth c H1 locs1 (cells + mc) (slots + ms) Q (F0 m (pc + 3) ls st)) :
    W p l e room_1 s m #[.ref b0] below meth c H locs cells slots Q (F0 m pc ls (As.reverse ++ (.ref x :: st))) := by
  obtain ⟨y1, y3, y4, y5, y6, y7, y8⟩ := hy
  have hM2 : Met l y (Cond.code y M'.2.1 M'.2.2.1 none :: lw_g) (uc_rm d1 mc ms) (va_Pc (.ref x :: As) (fun U => va_P D vwCl ws U.heap ∧ va_D (uc_A s.heap.size) ws ∧ uc_K D gc s.heap.size u8 U)) (uc_Q D s.heap.size Pw1) mc ms (uc_A s.heap.size) := by
    have h0 := hM
    unfold uc_M at h0
    rw [y5] at h0
    exact h0
  have hr := va_runI (R := room_1) (cells := cells) (slots := slots) (locs := locs) (below := below) (meth := meth) (e := e) (H := H) (g := F0 m pc ls (As.reverse ++ (.ref x :: st))) (As := As) (rest := st) (b := x) (Ts := lw_g) (own := RL) (index := idx) (nL := 4) ⟨hX1, hb, hml, hown, hts⟩ hM2 (cwI n hts (lw_gin (fun w hw => by
    rcases List.mem_cons.mp hw with rfl | h
    · exact y4
    · exact h)) rfl rfl rfl (hts _ y3) (hts _ hlk) (hts _ y1) y6 y7 ⟨show d1 + 1 ≤ 2048 by omega, by show 8 + (M'.2.2.1 + 11) + 40 * d1 ≤ 84000; omega⟩) ⟨uc_blind, fun U hU hW => ⟨rfl, by rw [hU]; exact hP, hD, uc_K.step hK hW.alike (by rw [hU]; exact hS.1) (fun a h1 h2 => by rw [hU]; exact hS.2.1 a h1 h2)⟩⟩ rfl hn hls rfl (lv_room hrm) hd ⟨hc, hsl⟩
  intro T hT X
  obtain ⟨v, st₀, t, T', L, h0, X', hL, e1, e2, ⟨hv, ⟨w, hw, hP1, hD1⟩, hz, hk⟩, stp⟩ := hr T hT X
  cases hv
  rw [h0] at hz hk
  obtain ⟨t2, a1, b1⟩ := k w T'.heap (locs ++ L) hw (by rw [e1]; exact hP1) hD1 ⟨Nat.le_trans hS.1 (by rw [e1]; exact hz), fun q h1 h2 => by rw [e1, hk q (Nat.lt_of_lt_of_le h1 hS.1) h2]; exact hS.2.1 q h1 h2, fun q hq => by
    rcases List.mem_append.mp hq with h | h
    · exact hS.2.2 q h
    · exact hL q h⟩ T' rfl X'
  exact ⟨t2, stp t2 a1, b1⟩
theorem zw_vat {D : va_G} {a : Nat} {x y : va_E} {H : Heap} (h : va_at D vwCl (a, x) H) (e : zw_eq x y) : va_at D vwCl (a, y) H := by
  rcases e with rfl | ⟨c, n, f, f', rfl, rfl, hf⟩
  · exact h
  · have h1 : H[a]? = some (vp_cell c (n, .inr (.inr (.inr (.inr f))))) := h
    show H[a]? = some (vp_cell c (n, .inr (.inr (.inr (.inr f')))))
    rw [h1, vp_cell_q, vp_cell_q]
    have e9 : (fun j : Fin n => va_rf (f j.val)) = fun j : Fin n => va_rf (f' j.val) := funext fun j => by rw [hf j.val j.isLt]
    unfold arrV
    rw [e9]
theorem zw_P {D : va_G} {gc : FieldType → ClassId} {A : Nat → Prop} {K : Nat → Fin 32 → Nat} {w : va_W} {H : Heap} (h : ∀ r ∈ ae_cs, zw_at D gc A K w r) (hP : va_P D vwCl w H) : va_P (ae_gD (zw_G D gc A K w)) vwCl (ae_wl (zw_G D gc A K w) zw_0) H := by
  intro k q hk
  rw [ae_wl, List.getElem?_map] at hk
  cases hr : ae_cs[k]? with
  | none => rw [hr] at hk; cases hk
  | some r =>
    rw [hr] at hk
    cases hk
    obtain ⟨x, h1, h2⟩ := h r (List.mem_of_getElem? hr)
    exact zw_vat (hP _ _ h1) h2
theorem zw_D {D : va_G} {gc : FieldType → ClassId} {A : Nat → Prop} {K : Nat → Fin 32 → Nat} {w : va_W} (h : ∀ r ∈ ae_cs, zw_at D gc A K w r) (hD : va_D A w) (σ : ae_S) : va_D (ae_gA (zw_G D gc A K w)) (ae_wl (zw_G D gc A K w) σ) := by
  have hx : ∀ (k : Nat) (q : Nat × va_E), (ae_wl (zw_G D gc A K w) σ)[k]? = some q → ∃ (r : ae_R) (x : va_E), ae_cs[k]? = some r ∧ w[zw_pos r.1 r.2]? = some (q.1, x) := by
    intro k q hk
    rw [ae_wl, List.getElem?_map] at hk
    cases hr : ae_cs[k]? with
    | none => rw [hr] at hk; cases hk
    | some r =>
      rw [hr] at hk
      cases hk
      obtain ⟨x, h1, -⟩ := h r (List.mem_of_getElem? hr)
      exact ⟨r, x, rfl, h1⟩
  refine ⟨fun i j p q hi hj e => ?_, fun k q hk => ?_⟩
  · obtain ⟨r, x, h1, h2⟩ := hx i p hi
    obtain ⟨r', x', h1', h2'⟩ := hx j q hj
    have e1 := hD.1 _ _ _ _ h2 h2' e
    have a1 : (ae_cs.map fun r => zw_pos r.1 r.2)[i]? = some (zw_pos r.1 r.2) := by rw [List.getElem?_map, h1]; rfl
    have a2 : (ae_cs.map fun r => zw_pos r.1 r.2)[j]? = some (zw_pos r.1 r.2) := by rw [List.getElem?_map, h1', e1]; rfl
    have hlt : i < (ae_cs.map fun r => zw_pos r.1 r.2).length := (List.getElem?_eq_some_iff.mp a1).1
    exact (List.getElem?_inj hlt zw_inj).mp (a1.trans a2.symm)
  · obtain ⟨r, x, h1, h2⟩ := hx k q hk
    exact hD.2 _ (q.1, x) h2
