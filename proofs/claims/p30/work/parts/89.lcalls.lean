/-! the law's loop -/
def LTw (D : va_G) (k : Nat → ClassId) (s : State) (cA nA tA cB nB tB : Nat → Nat) (X Y : XV) (H : Heap) : Prop := ∃ w u : va_W, Ob k cA nA tA X w ∧ Ob k cB nB tB Y u ∧ va_P D vwCl (w ++ u) H ∧ va_D (fun q : Nat => s.heap.size ≤ q) (w ++ u)
abbrev lv7 (b : Nat) (cA cB : Nat → Nat) (i : Nat) (x y : Int32) : List (Nat × Value) := [(0, .ref b), (1, .ref (cA 0)), (2, .ref (cB 0)), (3, .int 1), (4, .int (nI i)), (5, .int x), (6, .int y)]
section LL
variable {p : Program} {l : Launch} {e : Env} {s : State} {m : MethodId} {below : List Frame} {meth : Method} {c : Code} {H : Heap} {locs : List Loc} {cells slots : Nat} {Z : State → Prop} {b L : Nat} {xs : Nat → Int32} {D : va_G} {k : Nat → ClassId} {cA nA tA cB nB tB : Nat → Nat} {ls : Array Slot} {rest : List Value}
/-- on from a place, both trains being so -/
def KN (p : Program) (l : Launch) (e : Env) (s : State) (m : MethodId) (below : List Frame) (meth : Method) (c : Code) (b : Nat) (D : va_G) (k : Nat → ClassId) (cA nA tA cB nB tB : Nat → Nat) (Z : State → Prop) (X Y : XV) (cells slots pc : Nat) (lv : List (Nat × Value)) (st : List Value) : Prop :=
  ∀ (H : Heap) (locs : List Loc) (ls : Array Slot), LTw D k s cA nA tA cB nB tB X Y H → va_S (fun q : Nat => s.heap.size ≤ q) s.heap H locs → lv_has ls 7 lv → W p l e room_1 s m #[.ref b] below meth c H locs cells slots Z (F0 m pc ls st)

theorem lo_tells_p {X Y X' : XV} {pc : Nat} {v : Int32} {x : Int32} {y : Int32} (C0 : LC p s m meth c l b L xs D k) (hLS : LTw D k s cA nA tA cB nB tB X Y H) (hS : va_S (fun q : Nat => s.heap.size ≤ q) s.heap H locs) (hlz : ls.size = 7) (hW : (rest.map fun v => v.category).sum ≤ 8) (hdg : decode cL_law pc = .ok (.invokestatic 233, 3)) (hv : f_L_tells X x y = some (v, X')) (hcl : cells + 670 ≤ 656351) (hsl : slots + 4029 ≤ 7132416)
    (kk : ∀ (H : Heap) (locs : List Loc), LTw D k s cA nA tA cB nB tB X' Y H → va_S (fun q : Nat => s.heap.size ≤ q) s.heap H locs → W p l e room_1 s m #[.ref b] below meth c H locs (cells + 670) (slots + 4029) Z (F0 m (pc + 3) ls (.int v :: rest))) : W p l e room_1 s m #[.ref b] below meth c H locs cells slots Z (F0 m pc ls (.int y :: .int x :: .ref (cA 0) :: rest)) := by
  obtain ⟨⟨hx, hb, hr, hml, hown, hts, hX9, hbl, hlocks, hgv⟩, hst, hK, hG, hC, hL⟩ := id C0
  have htl : ∀ w ∈ wsL_law, w.before #[Value.ref b] s = true := fun w h => hts w (wsL_law_in w h)
  have hA : ∀ q : Nat, s.heap.size ≤ q → (fun q : Nat => s.heap.size ≤ q) q := fun _ h => h
  obtain ⟨w, u, hw, hu, hP, hD⟩ := hLS
  refine Lo_S (As := [.ref (cA 0), .int x, .int y]) (rest := rest) (wA := w) (wr := u) 670 4029 (cells + 670) (slots + 4029) 656351 7132416 (c_L_tells l hst D k cA nA tA X w hw x y (v, X') hv) ⟨hx, hb, hml, hown, htl⟩ (va_cwS 3 htl gL_law_L_tells rfl rfl rfl (by decide +kernel) ⟨Nat.le_of_ble_eq_true rfl, Nat.le_of_ble_eq_true rfl⟩) hK hG hC hP hD hS hA (List.Perm.refl _) rfl hlz rfl hW hdg ⟨rfl, rfl⟩ ⟨rfl, rfl⟩ ⟨by omega, hcl⟩ ⟨by omega, hsl⟩ (fun ov w1 H locs hQ hP hD hS => ?_)
  obtain ⟨rfl, hw1⟩ := hQ
  exact kk H locs ⟨w1, u, hw1, hu, hP, hD⟩ hS
theorem lo_act_p {X Y X' : XV} {pc : Nat} {v : Int64} {x : Int32} {y : Int32} (C0 : LC p s m meth c l b L xs D k) (hLS : LTw D k s cA nA tA cB nB tB X Y H) (hS : va_S (fun q : Nat => s.heap.size ≤ q) s.heap H locs) (hlz : ls.size = 7) (hW : (rest.map fun v => v.category).sum ≤ 8) (hdg : decode cL_law pc = .ok (.invokestatic 236, 3)) (hv : f_L_act X x y = some (v, X')) (hcl : cells + 14 ≤ 656351) (hsl : slots + 93 ≤ 7132416)
    (kk : ∀ (H : Heap) (locs : List Loc), LTw D k s cA nA tA cB nB tB X' Y H → va_S (fun q : Nat => s.heap.size ≤ q) s.heap H locs → W p l e room_1 s m #[.ref b] below meth c H locs (cells + 14) (slots + 93) Z (F0 m (pc + 3) ls (.long v :: rest))) : W p l e room_1 s m #[.ref b] below meth c H locs cells slots Z (F0 m pc ls (.int y :: .int x :: .ref (cA 0) :: rest)) := by
  obtain ⟨⟨hx, hb, hr, hml, hown, hts, hX9, hbl, hlocks, hgv⟩, hst, hK, hG, hC, hL⟩ := id C0
  have htl : ∀ w ∈ wsL_law, w.before #[Value.ref b] s = true := fun w h => hts w (wsL_law_in w h)
  have hA : ∀ q : Nat, s.heap.size ≤ q → (fun q : Nat => s.heap.size ≤ q) q := fun _ h => h
  obtain ⟨w, u, hw, hu, hP, hD⟩ := hLS
  refine Lo_S (As := [.ref (cA 0), .int x, .int y]) (rest := rest) (wA := w) (wr := u) 14 93 (cells + 14) (slots + 93) 656351 7132416 (c_L_act l hst D k cA nA tA X w hw x y (v, X') hv) ⟨hx, hb, hml, hown, htl⟩ (va_cwS 3 htl gL_law_L_act rfl rfl rfl (by decide +kernel) ⟨Nat.le_of_ble_eq_true rfl, Nat.le_of_ble_eq_true rfl⟩) hK hG hC hP hD hS hA (List.Perm.refl _) rfl hlz rfl hW hdg ⟨rfl, rfl⟩ ⟨rfl, rfl⟩ ⟨by omega, hcl⟩ ⟨by omega, hsl⟩ (fun ov w1 H locs hQ hP hD hS => ?_)
  obtain ⟨rfl, hw1⟩ := hQ
  exact kk H locs ⟨w1, u, hw1, hu, hP, hD⟩ hS
theorem lo_errors_p {X Y X' : XV} {pc : Nat} {v : Int32}  (C0 : LC p s m meth c l b L xs D k) (hLS : LTw D k s cA nA tA cB nB tB X Y H) (hS : va_S (fun q : Nat => s.heap.size ≤ q) s.heap H locs) (hlz : ls.size = 7) (hW : (rest.map fun v => v.category).sum ≤ 8) (hdg : decode cL_law pc = .ok (.invokestatic 226, 3)) (hv : f_L_errors X  = some (v, X')) (hcl : cells + 997 ≤ 656351) (hsl : slots + 6270 ≤ 7132416)
    (kk : ∀ (H : Heap) (locs : List Loc), LTw D k s cA nA tA cB nB tB X' Y H → va_S (fun q : Nat => s.heap.size ≤ q) s.heap H locs → W p l e room_1 s m #[.ref b] below meth c H locs (cells + 997) (slots + 6270) Z (F0 m (pc + 3) ls (.int v :: rest))) : W p l e room_1 s m #[.ref b] below meth c H locs cells slots Z (F0 m pc ls (.ref (cA 0) :: rest)) := by
  obtain ⟨⟨hx, hb, hr, hml, hown, hts, hX9, hbl, hlocks, hgv⟩, hst, hK, hG, hC, hL⟩ := id C0
  have htl : ∀ w ∈ wsL_law, w.before #[Value.ref b] s = true := fun w h => hts w (wsL_law_in w h)
  have hA : ∀ q : Nat, s.heap.size ≤ q → (fun q : Nat => s.heap.size ≤ q) q := fun _ h => h
  obtain ⟨w, u, hw, hu, hP, hD⟩ := hLS
  refine Lo_S (As := [.ref (cA 0)]) (rest := rest) (wA := w) (wr := u) 997 6270 (cells + 997) (slots + 6270) 656351 7132416 (c_L_errors l hst D k cA nA tA X w hw  (v, X') hv) ⟨hx, hb, hml, hown, htl⟩ (va_cwS 1 htl gL_law_L_errors rfl rfl rfl (by decide +kernel) ⟨Nat.le_of_ble_eq_true rfl, Nat.le_of_ble_eq_true rfl⟩) hK hG hC hP hD hS hA (List.Perm.refl _) rfl hlz rfl hW hdg ⟨rfl, rfl⟩ ⟨rfl, rfl⟩ ⟨by omega, hcl⟩ ⟨by omega, hsl⟩ (fun ov w1 H locs hQ hP hD hS => ?_)
  obtain ⟨rfl, hw1⟩ := hQ
  exact kk H locs ⟨w1, u, hw1, hu, hP, hD⟩ hS
theorem lo_built_p {X Y X' : XV} {pc : Nat} {v : Int32}  (C0 : LC p s m meth c l b L xs D k) (hLS : LTw D k s cA nA tA cB nB tB X Y H) (hS : va_S (fun q : Nat => s.heap.size ≤ q) s.heap H locs) (hlz : ls.size = 7) (hW : (rest.map fun v => v.category).sum ≤ 8) (hdg : decode cL_law pc = .ok (.invokestatic 230, 3)) (hv : f_L_built X  = some v) (hcl : cells + 228 ≤ 656351) (hsl : slots + 1368 ≤ 7132416)
    (kk : ∀ (H : Heap) (locs : List Loc), LTw D k s cA nA tA cB nB tB X Y H → va_S (fun q : Nat => s.heap.size ≤ q) s.heap H locs → W p l e room_1 s m #[.ref b] below meth c H locs (cells + 228) (slots + 1368) Z (F0 m (pc + 3) ls (.int v :: rest))) : W p l e room_1 s m #[.ref b] below meth c H locs cells slots Z (F0 m pc ls (.ref (cA 0) :: rest)) := by
  obtain ⟨⟨hx, hb, hr, hml, hown, hts, hX9, hbl, hlocks, hgv⟩, hst, hK, hG, hC, hL⟩ := id C0
  have htl : ∀ w ∈ wsL_law, w.before #[Value.ref b] s = true := fun w h => hts w (wsL_law_in w h)
  have hA : ∀ q : Nat, s.heap.size ≤ q → (fun q : Nat => s.heap.size ≤ q) q := fun _ h => h
  obtain ⟨w, u, hw, hu, hP, hD⟩ := hLS
  refine Lo_S (As := [.ref (cA 0)]) (rest := rest) (wA := w) (wr := u) 228 1368 (cells + 228) (slots + 1368) 656351 7132416 (c_L_built l hst D k cA nA tA X w hw  v hv) ⟨hx, hb, hml, hown, htl⟩ (va_cwS 1 htl gL_law_L_built rfl rfl rfl (by decide +kernel) ⟨Nat.le_of_ble_eq_true rfl, Nat.le_of_ble_eq_true rfl⟩) hK hG hC hP hD hS hA (List.Perm.refl _) rfl hlz rfl hW hdg ⟨rfl, rfl⟩ ⟨rfl, rfl⟩ ⟨by omega, hcl⟩ ⟨by omega, hsl⟩ (fun ov w1 H locs hQ hP hD hS => ?_)
  obtain ⟨rfl, hw1⟩ := hQ
  exact kk H locs ⟨w1, u, hw1, hu, hP, hD⟩ hS
theorem lo_tells_q {X Y X' : XV} {pc : Nat} {v : Int32} {x : Int32} {y : Int32} (C0 : LC p s m meth c l b L xs D k) (hLS : LTw D k s cA nA tA cB nB tB X Y H) (hS : va_S (fun q : Nat => s.heap.size ≤ q) s.heap H locs) (hlz : ls.size = 7) (hW : (rest.map fun v => v.category).sum ≤ 8) (hdg : decode cL_law pc = .ok (.invokestatic 233, 3)) (hv : f_L_tells Y x y = some (v, X')) (hcl : cells + 670 ≤ 656351) (hsl : slots + 4029 ≤ 7132416)
    (kk : ∀ (H : Heap) (locs : List Loc), LTw D k s cA nA tA cB nB tB X X' H → va_S (fun q : Nat => s.heap.size ≤ q) s.heap H locs → W p l e room_1 s m #[.ref b] below meth c H locs (cells + 670) (slots + 4029) Z (F0 m (pc + 3) ls (.int v :: rest))) : W p l e room_1 s m #[.ref b] below meth c H locs cells slots Z (F0 m pc ls (.int y :: .int x :: .ref (cB 0) :: rest)) := by
  obtain ⟨⟨hx, hb, hr, hml, hown, hts, hX9, hbl, hlocks, hgv⟩, hst, hK, hG, hC, hL⟩ := id C0
  have htl : ∀ w ∈ wsL_law, w.before #[Value.ref b] s = true := fun w h => hts w (wsL_law_in w h)
  have hA : ∀ q : Nat, s.heap.size ≤ q → (fun q : Nat => s.heap.size ≤ q) q := fun _ h => h
  obtain ⟨w, u, hw, hu, hP, hD⟩ := hLS
  refine Lo_S (As := [.ref (cB 0), .int x, .int y]) (rest := rest) (wA := u) (wr := w) 670 4029 (cells + 670) (slots + 4029) 656351 7132416 (c_L_tells l hst D k cB nB tB Y u hu x y (v, X') hv) ⟨hx, hb, hml, hown, htl⟩ (va_cwS 3 htl gL_law_L_tells rfl rfl rfl (by decide +kernel) ⟨Nat.le_of_ble_eq_true rfl, Nat.le_of_ble_eq_true rfl⟩) hK hG hC hP hD hS hA List.perm_append_comm rfl hlz rfl hW hdg ⟨rfl, rfl⟩ ⟨rfl, rfl⟩ ⟨by omega, hcl⟩ ⟨by omega, hsl⟩ (fun ov u1 H locs hQ hP hD hS => ?_)
  obtain ⟨rfl, hu1⟩ := hQ
  exact kk H locs ⟨w, u1, hw, hu1, P_perm List.perm_append_comm hP, D_perm List.perm_append_comm hD⟩ hS
theorem lo_act_q {X Y X' : XV} {pc : Nat} {v : Int64} {x : Int32} {y : Int32} (C0 : LC p s m meth c l b L xs D k) (hLS : LTw D k s cA nA tA cB nB tB X Y H) (hS : va_S (fun q : Nat => s.heap.size ≤ q) s.heap H locs) (hlz : ls.size = 7) (hW : (rest.map fun v => v.category).sum ≤ 8) (hdg : decode cL_law pc = .ok (.invokestatic 236, 3)) (hv : f_L_act Y x y = some (v, X')) (hcl : cells + 14 ≤ 656351) (hsl : slots + 93 ≤ 7132416)
    (kk : ∀ (H : Heap) (locs : List Loc), LTw D k s cA nA tA cB nB tB X X' H → va_S (fun q : Nat => s.heap.size ≤ q) s.heap H locs → W p l e room_1 s m #[.ref b] below meth c H locs (cells + 14) (slots + 93) Z (F0 m (pc + 3) ls (.long v :: rest))) : W p l e room_1 s m #[.ref b] below meth c H locs cells slots Z (F0 m pc ls (.int y :: .int x :: .ref (cB 0) :: rest)) := by
  obtain ⟨⟨hx, hb, hr, hml, hown, hts, hX9, hbl, hlocks, hgv⟩, hst, hK, hG, hC, hL⟩ := id C0
  have htl : ∀ w ∈ wsL_law, w.before #[Value.ref b] s = true := fun w h => hts w (wsL_law_in w h)
  have hA : ∀ q : Nat, s.heap.size ≤ q → (fun q : Nat => s.heap.size ≤ q) q := fun _ h => h
  obtain ⟨w, u, hw, hu, hP, hD⟩ := hLS
  refine Lo_S (As := [.ref (cB 0), .int x, .int y]) (rest := rest) (wA := u) (wr := w) 14 93 (cells + 14) (slots + 93) 656351 7132416 (c_L_act l hst D k cB nB tB Y u hu x y (v, X') hv) ⟨hx, hb, hml, hown, htl⟩ (va_cwS 3 htl gL_law_L_act rfl rfl rfl (by decide +kernel) ⟨Nat.le_of_ble_eq_true rfl, Nat.le_of_ble_eq_true rfl⟩) hK hG hC hP hD hS hA List.perm_append_comm rfl hlz rfl hW hdg ⟨rfl, rfl⟩ ⟨rfl, rfl⟩ ⟨by omega, hcl⟩ ⟨by omega, hsl⟩ (fun ov u1 H locs hQ hP hD hS => ?_)
  obtain ⟨rfl, hu1⟩ := hQ
  exact kk H locs ⟨w, u1, hw, hu1, P_perm List.perm_append_comm hP, D_perm List.perm_append_comm hD⟩ hS
theorem lo_errors_q {X Y X' : XV} {pc : Nat} {v : Int32}  (C0 : LC p s m meth c l b L xs D k) (hLS : LTw D k s cA nA tA cB nB tB X Y H) (hS : va_S (fun q : Nat => s.heap.size ≤ q) s.heap H locs) (hlz : ls.size = 7) (hW : (rest.map fun v => v.category).sum ≤ 8) (hdg : decode cL_law pc = .ok (.invokestatic 226, 3)) (hv : f_L_errors Y  = some (v, X')) (hcl : cells + 997 ≤ 656351) (hsl : slots + 6270 ≤ 7132416)
    (kk : ∀ (H : Heap) (locs : List Loc), LTw D k s cA nA tA cB nB tB X X' H → va_S (fun q : Nat => s.heap.size ≤ q) s.heap H locs → W p l e room_1 s m #[.ref b] below meth c H locs (cells + 997) (slots + 6270) Z (F0 m (pc + 3) ls (.int v :: rest))) : W p l e room_1 s m #[.ref b] below meth c H locs cells slots Z (F0 m pc ls (.ref (cB 0) :: rest)) := by
  obtain ⟨⟨hx, hb, hr, hml, hown, hts, hX9, hbl, hlocks, hgv⟩, hst, hK, hG, hC, hL⟩ := id C0
  have htl : ∀ w ∈ wsL_law, w.before #[Value.ref b] s = true := fun w h => hts w (wsL_law_in w h)
  have hA : ∀ q : Nat, s.heap.size ≤ q → (fun q : Nat => s.heap.size ≤ q) q := fun _ h => h
  obtain ⟨w, u, hw, hu, hP, hD⟩ := hLS
  refine Lo_S (As := [.ref (cB 0)]) (rest := rest) (wA := u) (wr := w) 997 6270 (cells + 997) (slots + 6270) 656351 7132416 (c_L_errors l hst D k cB nB tB Y u hu  (v, X') hv) ⟨hx, hb, hml, hown, htl⟩ (va_cwS 1 htl gL_law_L_errors rfl rfl rfl (by decide +kernel) ⟨Nat.le_of_ble_eq_true rfl, Nat.le_of_ble_eq_true rfl⟩) hK hG hC hP hD hS hA List.perm_append_comm rfl hlz rfl hW hdg ⟨rfl, rfl⟩ ⟨rfl, rfl⟩ ⟨by omega, hcl⟩ ⟨by omega, hsl⟩ (fun ov u1 H locs hQ hP hD hS => ?_)
  obtain ⟨rfl, hu1⟩ := hQ
  exact kk H locs ⟨w, u1, hw, hu1, P_perm List.perm_append_comm hP, D_perm List.perm_append_comm hD⟩ hS
theorem lo_built_q {X Y X' : XV} {pc : Nat} {v : Int32}  (C0 : LC p s m meth c l b L xs D k) (hLS : LTw D k s cA nA tA cB nB tB X Y H) (hS : va_S (fun q : Nat => s.heap.size ≤ q) s.heap H locs) (hlz : ls.size = 7) (hW : (rest.map fun v => v.category).sum ≤ 8) (hdg : decode cL_law pc = .ok (.invokestatic 230, 3)) (hv : f_L_built Y  = some v) (hcl : cells + 228 ≤ 656351) (hsl : slots + 1368 ≤ 7132416)
    (kk : ∀ (H : Heap) (locs : List Loc), LTw D k s cA nA tA cB nB tB X Y H → va_S (fun q : Nat => s.heap.size ≤ q) s.heap H locs → W p l e room_1 s m #[.ref b] below meth c H locs (cells + 228) (slots + 1368) Z (F0 m (pc + 3) ls (.int v :: rest))) : W p l e room_1 s m #[.ref b] below meth c H locs cells slots Z (F0 m pc ls (.ref (cB 0) :: rest)) := by
  obtain ⟨⟨hx, hb, hr, hml, hown, hts, hX9, hbl, hlocks, hgv⟩, hst, hK, hG, hC, hL⟩ := id C0
  have htl : ∀ w ∈ wsL_law, w.before #[Value.ref b] s = true := fun w h => hts w (wsL_law_in w h)
  have hA : ∀ q : Nat, s.heap.size ≤ q → (fun q : Nat => s.heap.size ≤ q) q := fun _ h => h
  obtain ⟨w, u, hw, hu, hP, hD⟩ := hLS
  refine Lo_S (As := [.ref (cB 0)]) (rest := rest) (wA := u) (wr := w) 228 1368 (cells + 228) (slots + 1368) 656351 7132416 (c_L_built l hst D k cB nB tB Y u hu  v hv) ⟨hx, hb, hml, hown, htl⟩ (va_cwS 1 htl gL_law_L_built rfl rfl rfl (by decide +kernel) ⟨Nat.le_of_ble_eq_true rfl, Nat.le_of_ble_eq_true rfl⟩) hK hG hC hP hD hS hA List.perm_append_comm rfl hlz rfl hW hdg ⟨rfl, rfl⟩ ⟨rfl, rfl⟩ ⟨by omega, hcl⟩ ⟨by omega, hsl⟩ (fun ov u1 H locs hQ hP hD hS => ?_)
  obtain ⟨rfl, hu1⟩ := hQ
  exact kk H locs ⟨w, u1, hw, hu1, P_perm List.perm_append_comm hP, D_perm List.perm_append_comm hD⟩ hS
theorem lo_follows_q {X Y X' : XV} {pc : Nat} {v : Int32} {x : Int32} (C0 : LC p s m meth c l b L xs D k) (hLS : LTw D k s cA nA tA cB nB tB X Y H) (hS : va_S (fun q : Nat => s.heap.size ≤ q) s.heap H locs) (hlz : ls.size = 7) (hW : (rest.map fun v => v.category).sum ≤ 8) (hdg : decode cL_law pc = .ok (.invokestatic 239, 3)) (hv : f_L_follows Y x = some (v, X')) (hcl : cells + 1554 ≤ 656351) (hsl : slots + 9530 ≤ 7132416)
    (kk : ∀ (H : Heap) (locs : List Loc), LTw D k s cA nA tA cB nB tB X X' H → va_S (fun q : Nat => s.heap.size ≤ q) s.heap H locs → W p l e room_1 s m #[.ref b] below meth c H locs (cells + 1554) (slots + 9530) Z (F0 m (pc + 3) ls (.int v :: rest))) : W p l e room_1 s m #[.ref b] below meth c H locs cells slots Z (F0 m pc ls (.int x :: .ref (cB 0) :: rest)) := by
  obtain ⟨⟨hx, hb, hr, hml, hown, hts, hX9, hbl, hlocks, hgv⟩, hst, hK, hG, hC, hL⟩ := id C0
  have htl : ∀ w ∈ wsL_law, w.before #[Value.ref b] s = true := fun w h => hts w (wsL_law_in w h)
  have hA : ∀ q : Nat, s.heap.size ≤ q → (fun q : Nat => s.heap.size ≤ q) q := fun _ h => h
  obtain ⟨w, u, hw, hu, hP, hD⟩ := hLS
  refine Lo_S (As := [.ref (cB 0), .int x]) (rest := rest) (wA := u) (wr := w) 1554 9530 (cells + 1554) (slots + 9530) 656351 7132416 (c_L_follows l hst D k cB nB tB Y u hu x (v, X') hv) ⟨hx, hb, hml, hown, htl⟩ (va_cwS 2 htl gL_law_L_follows rfl rfl rfl (by decide +kernel) ⟨Nat.le_of_ble_eq_true rfl, Nat.le_of_ble_eq_true rfl⟩) hK hG hC hP hD hS hA List.perm_append_comm rfl hlz rfl hW hdg ⟨rfl, rfl⟩ ⟨rfl, rfl⟩ ⟨by omega, hcl⟩ ⟨by omega, hsl⟩ (fun ov u1 H locs hQ hP hD hS => ?_)
  obtain ⟨rfl, hu1⟩ := hQ
  exact kk H locs ⟨w, u1, hw, hu1, P_perm List.perm_append_comm hP, D_perm List.perm_append_comm hD⟩ hS
theorem lo_save_p {X Y X' : XV} {pc : Nat} {v : Int64} {x : Int32} (C0 : LC p s m meth c l b L xs D k) (hLS : LTw D k s cA nA tA cB nB tB X Y H) (hS : va_S (fun q : Nat => s.heap.size ≤ q) s.heap H locs) (hlz : ls.size = 7) (hW : (rest.map fun v => v.category).sum ≤ 8) (hdg : decode cL_law pc = .ok (.invokestatic 182, 3)) (hv : o_save X x = some (v, X')) (hcl : cells + 12 ≤ 656351) (hsl : slots + 81 ≤ 7132416)
    (kk : ∀ (H : Heap) (locs : List Loc), LTw D k s cA nA tA cB nB tB X' Y H → va_S (fun q : Nat => s.heap.size ≤ q) s.heap H locs → W p l e room_1 s m #[.ref b] below meth c H locs (cells + 12) (slots + 81) Z (F0 m (pc + 3) ls (.long v :: rest))) : W p l e room_1 s m #[.ref b] below meth c H locs cells slots Z (F0 m pc ls (.int x :: .ref (cA 0) :: rest)) := by
  obtain ⟨⟨hx, hb, hr, hml, hown, hts, hX9, hbl, hlocks, hgv⟩, hst, hK, hG, hC, hL⟩ := id C0
  have htl : ∀ w ∈ wsL_law, w.before #[Value.ref b] s = true := fun w h => hts w (wsL_law_in w h)
  have hA : ∀ q : Nat, s.heap.size ≤ q → (fun q : Nat => s.heap.size ≤ q) q := fun _ h => h
  obtain ⟨w, u, hw, hu, hP, hD⟩ := hLS
  refine Lo_T (As := [.ref (cA 0), .int x]) (rest := rest) (wA := w) (wr := u) 12 81 (cells + 12) (slots + 81) 656351 7132416 (co_save l hst D k cA nA tA X w hw x (v, X') hv) ⟨hx, hb, hml, hown, htl⟩ (vx_cwSW 2 htl gL_law_L_save rfl rfl rfl (by decide +kernel) ⟨Nat.le_of_ble_eq_true rfl, Nat.le_of_ble_eq_true rfl⟩) hK hG hC hP hD hS hA (List.Perm.refl _) rfl hlz rfl hW hdg ⟨rfl, rfl⟩ ⟨rfl, rfl⟩ ⟨by omega, hcl⟩ ⟨by omega, hsl⟩ (fun ov w1 H locs hQ hP hD hS => ?_)
  obtain ⟨rfl, hw1⟩ := hQ
  exact kk H locs ⟨w1, u, hw1, hu, hP, hD⟩ hS
theorem lo_restore_p {X Y X' : XV} {pc : Nat} {v : Int64} {x : Int32} (C0 : LC p s m meth c l b L xs D k) (hLS : LTw D k s cA nA tA cB nB tB X Y H) (hS : va_S (fun q : Nat => s.heap.size ≤ q) s.heap H locs) (hlz : ls.size = 7) (hW : (rest.map fun v => v.category).sum ≤ 8) (hdg : decode cL_law pc = .ok (.invokestatic 184, 3)) (hv : o_restore X x = some (v, X')) (hcl : cells + 12 ≤ 656351) (hsl : slots + 81 ≤ 7132416)
    (kk : ∀ (H : Heap) (locs : List Loc), LTw D k s cA nA tA cB nB tB X' Y H → va_S (fun q : Nat => s.heap.size ≤ q) s.heap H locs → W p l e room_1 s m #[.ref b] below meth c H locs (cells + 12) (slots + 81) Z (F0 m (pc + 3) ls (.long v :: rest))) : W p l e room_1 s m #[.ref b] below meth c H locs cells slots Z (F0 m pc ls (.int x :: .ref (cA 0) :: rest)) := by
  obtain ⟨⟨hx, hb, hr, hml, hown, hts, hX9, hbl, hlocks, hgv⟩, hst, hK, hG, hC, hL⟩ := id C0
  have htl : ∀ w ∈ wsL_law, w.before #[Value.ref b] s = true := fun w h => hts w (wsL_law_in w h)
  have hA : ∀ q : Nat, s.heap.size ≤ q → (fun q : Nat => s.heap.size ≤ q) q := fun _ h => h
  obtain ⟨w, u, hw, hu, hP, hD⟩ := hLS
  refine Lo_T (As := [.ref (cA 0), .int x]) (rest := rest) (wA := w) (wr := u) 12 81 (cells + 12) (slots + 81) 656351 7132416 (co_restore l hst D k cA nA tA X w hw x (v, X') hv) ⟨hx, hb, hml, hown, htl⟩ (vx_cwSW 2 htl gL_law_L_restore rfl rfl rfl (by decide +kernel) ⟨Nat.le_of_ble_eq_true rfl, Nat.le_of_ble_eq_true rfl⟩) hK hG hC hP hD hS hA (List.Perm.refl _) rfl hlz rfl hW hdg ⟨rfl, rfl⟩ ⟨rfl, rfl⟩ ⟨by omega, hcl⟩ ⟨by omega, hsl⟩ (fun ov w1 H locs hQ hP hD hS => ?_)
  obtain ⟨rfl, hw1⟩ := hQ
  exact kk H locs ⟨w1, u, hw1, hu, hP, hD⟩ hS
theorem lo_alike {X Y : XV} {pc : Nat} {v x : Int32} (C0 : LC p s m meth c l b L xs D k) (hLS : LTw D k s cA nA tA cB nB tB X Y H) (hS : va_S (fun q : Nat => s.heap.size ≤ q) s.heap H locs) (hlz : ls.size = 7) (hW : (rest.map fun v => v.category).sum ≤ 8) (hdg : decode cL_law pc = .ok (.invokestatic 222, 3)) (hv : f_L_alike X Y x = some v) (hcl : cells + 662 ≤ 656351) (hsl : slots + 4080 ≤ 7132416)
    (kk : ∀ (H : Heap) (locs : List Loc), LTw D k s cA nA tA cB nB tB X Y H → va_S (fun q : Nat => s.heap.size ≤ q) s.heap H locs → W p l e room_1 s m #[.ref b] below meth c H locs (cells + 662) (slots + 4080) Z (F0 m (pc + 3) ls (.int v :: rest))) : W p l e room_1 s m #[.ref b] below meth c H locs cells slots Z (F0 m pc ls (.int x :: .ref (cB 0) :: .ref (cA 0) :: rest)) := by
  obtain ⟨⟨hx, hb, hr, hml, hown, hts, hX9, hbl, hlocks, hgv⟩, hst, hK, hG, hC, hL⟩ := id C0
  have htl : ∀ w ∈ wsL_law, w.before #[Value.ref b] s = true := fun w h => hts w (wsL_law_in w h)
  have hA : ∀ q : Nat, s.heap.size ≤ q → (fun q : Nat => s.heap.size ≤ q) q := fun _ h => h
  obtain ⟨w, u, hw, hu, hP, hD⟩ := hLS
  refine Lo_S (As := [.ref (cA 0), .ref (cB 0), .int x]) (rest := rest) (wA := w ++ u) (wr := []) 662 4080 (cells + 662) (slots + 4080) 656351 7132416 (c_L_alike l hst D k cA nA tA X w hw cB nB tB Y u hu x v hv) ⟨hx, hb, hml, hown, htl⟩ (va_cwS 3 htl gL_law_L_alike rfl rfl rfl (by decide +kernel) ⟨Nat.le_of_ble_eq_true rfl, Nat.le_of_ble_eq_true rfl⟩) hK hG hC hP hD hS hA (by rw [List.append_nil]) rfl hlz rfl hW hdg ⟨rfl, rfl⟩ ⟨rfl, rfl⟩ ⟨by omega, hcl⟩ ⟨by omega, hsl⟩ (fun ov w9 H locs hQ hP hD hS => ?_)
  obtain ⟨rfl, w1, u1, hp, hw1, hu1⟩ := hQ
  rw [List.append_nil] at hP hD
  exact kk H locs ⟨w1, u1, hw1, hu1, P_perm hp hP, D_perm hp hD⟩ hS
end LL
