set_option maxRecDepth 100000 in
set_option maxHeartbeats 4000000 in
theorem c_X1_stateAt (l : Launch) (hst : l.stackTraces = false) (D : va_G) (k : Nat → ClassId) (a n : Nat) (f : Nat → Option Nat) (i : Int32) (g5 g50 : Nat → Int32) (hg5 : f_J7_fill_53178 6 (fun _ => 0) 5 = some g5) (hg50 : f_J7_fill_53178 6 (fun _ => 0) 50 = some g50) (hi : vp_in i n) : Cx l D (tyK k) yX1_stateAt wsX1_stateAt ({ frames := 2, cells := 11, slots := 75, locals := 43 } : Room) [.ref a, .int i] [(a, qAr k n f)] [(a, qAr k n f)] (.inr (fun (ov : Option Value) (w : va_W) => (∃ r, f i.toNatClampNeg = some r ∧ ov = some (.ref r) ∧ w = [(a, qAr k n f)]) ∨ (f i.toNatClampNeg = none ∧ ∃ b : Nat → Nat, ov = some (.ref (b 0)) ∧ w = [(a, qAr k n (va_up f i.toNatClampNeg (some (b 0))))] ++ stW k b (stI g5 g50)))) := by
  obtain ⟨O, hO⟩ : ∃ O : Oc, O = .inr (fun (ov : Option Value) (w : va_W) => (∃ r, f i.toNatClampNeg = some r ∧ ov = some (.ref r) ∧ w = [(a, qAr k n f)]) ∨ (f i.toNatClampNeg = none ∧ ∃ b : Nat → Nat, ov = some (.ref (b 0)) ∧ w = [(a, qAr k n (va_up f i.toNatClampNeg (some (b 0))))] ++ stW k b (stI g5 g50))) := ⟨_, rfl⟩
  rw [← hO]
  refine Cx_of (cc := cX1_stateAt) (maxL := 3) (ret := (some (.object "EffectTrain$State"))) (by decide) rfl (Nat.le_of_ble_eq_true rfl) ?_
  intro p e s m args below meth c A ls hx hb hr hml hts hown hlocks hnm htab hK hG hA hP hD hS hl
  have hl : lv_has ls 3 [(0, .ref a), (1, .int i)] := hl
  have hP : va_P D vwCl ([(a, qAr k n f)]) s.heap := hP
  refine lv_aload_n hx hb dX1_stateAt_0 rfl (lv_at hl 0 rfl) ?_
  refine lv_iload_n hx hb dX1_stateAt_1 rfl (lv_at hl 1 rfl) ?_
  refine va_aldq hx hb hK hP 0 3 rfl rfl hi dX1_stateAt_2 ?_
  cases hf : f i.toNatClampNeg with
  | some r =>
    refine W.eq (g2 := F0 m 3 ls [.ref r]) (by first | rfl | (rw [hf]; rfl)) ?_
    refine lv_astore_n (lv' := [(2, .ref r), (0, .ref a), (1, .int i)]) hx hb dX1_stateAt_3 rfl hl (by decide) rfl (fun ls hl => ?_)
    refine lv_aload_n hx hb dX1_stateAt_4 rfl (lv_at hl 0 rfl) ?_
    refine lv_ifnonnull (tgt := 20) hx hb dX1_stateAt_5 (by decide) ?_
    refine lv_aload_n hx hb dX1_stateAt_20 rfl (lv_at hl 0 rfl) ?_
    exact Cx_aret hO (Or.inl ⟨r, hf, rfl, rfl⟩) (Nat.le_of_ble_eq_true rfl) (Nat.le_of_ble_eq_true rfl) hx hb hr (Or.inl ⟨_, rfl⟩) (Or.inr ⟨_, rfl⟩) hP hD hS dX1_stateAt_21 hlocks
  | none =>
    refine W.eq (g2 := F0 m 3 ls [.null]) (by first | rfl | (rw [hf]; rfl)) ?_
    refine lv_astore_nN (lv' := [(2, .null), (0, .ref a), (1, .int i)]) hx hb dX1_stateAt_3 rfl hl (by decide) rfl (fun ls hl => ?_)
    refine lv_aload_nN hx hb dX1_stateAt_4 rfl (lv_at hl 0 rfl) ?_
    refine lv_ifnonnullN hx hb dX1_stateAt_5 ?_
    have w_9 := hts (.classLink RX1 21 RX0) (by decide +kernel)
    have w_10 := hts (.instantiable RX0 12) (by decide +kernel)
    have w_11 := hts (.initialized RX0) (by decide +kernel)
    have w_12 : ∀ w ∈ wsX00, w ∈ wsX1_stateAt := by decide +kernel
    have w_13 : va_Nw (.methodLinkNest RX1 23 yX0_init "EffectTrain") s := hG.2.2.2.2.2 (23, yX0_init, "EffectTrain") (by decide +kernel)
    have w_14 := hts (.instanceMethod yX0_init) (by decide +kernel)
    refine va_new (ci := 0) (fs := [.int 0, .null, .int 0, .null, .null, .null, .null, .null, .null, .null, .null, .null]) (C := RX0) (T := TX0) (N := 12) hx hb hts w_12 tyX0 tyX0_ok hown w_9 w_10 w_11 hK hP hD hS hA rfl (fun j hj => by rcases (show j = 0 ∨ j = 1 ∨ j = 2 ∨ j = 3 ∨ j = 4 ∨ j = 5 ∨ j = 6 ∨ j = 7 ∨ j = 8 ∨ j = 9 ∨ j = 10 ∨ j = 11 by omega) with rfl | rfl | rfl | rfl | rfl | rfl | rfl | rfl | rfl | rfl | rfl | rfl <;> rfl) (Nat.le_of_ble_eq_true rfl) (Nat.le_of_ble_eq_true rfl) dX1_stateAt_8 (fun q_5 H hP hD hS => ?_)
    have hP : va_P D vwCl ([(a, qAr k n f), (q_5, .inr (0, [.int 0, .null, .int 0, .null, .null, .null, .null, .null, .null, .null, .null, .null]))]) H := hP
    have hD : va_D A ([(a, qAr k n f), (q_5, .inr (0, [.int 0, .null, .int 0, .null, .null, .null, .null, .null, .null, .null, .null, .null]))]) := hD
    refine W.eq (g2 := F0 m 11 ls [.ref q_5]) rfl ?_
    refine lv_dup hx hb dX1_stateAt_11 rfl ?_
    refine Cx_go (vx_runIN (As := []) (rest := [.ref q_5]) ⟨hx, hb, hml, hown, hts⟩ (c_X0_init l hst D k q_5 g5 g50 hg5 hg50 H.size) ⟨va_cnB 0 hts gX1_stateAt_X0_init_n23 rfl rfl rfl w_13 w_11 (by decide +kernel) ⟨(Nat.le_of_ble_eq_true rfl), (Nat.le_of_ble_eq_true rfl)⟩, rfl, w_14⟩ ⟨Px_blind, Px_at (wc := [(q_5, .inr (0, [.int 0, .null, .int 0, .null, .null, .null, .null, .null, .null, .null, .null, .null]))]) hK hG hP hD hS hA [1] rfl (by decide)⟩ rfl rfl hl.1 rfl (Nat.le_of_ble_eq_true rfl) dX1_stateAt_12 ⟨(Nat.le_of_ble_eq_true rfl), (Nat.le_of_ble_eq_true rfl)⟩) hP hD hS hA [1] rfl (fun _ _ _ _ _ h1 => nomatch h1) ?_
    intro ov B wc1 H1 locs1 h1 hB hP1 hD1 hk1 hF1 hS1
    cases h1
    obtain ⟨rfl, b, eb, rfl⟩ := hB
    subst eb
    obtain ⟨hP, hD⟩ := va_join (wr := [(a, qAr k n f)]) hP hD [1] [0] rfl rfl (by decide) (by decide) hk1 hF1 hP1 hD1
    clear hP1 hD1 hk1 hF1 hS
    generalize H1 = H at hP hS1 ⊢
    have hS := hS1; clear hS1
    generalize locs1 = locs at hS ⊢
    have hP : va_P D vwCl ([(a, qAr k n f)] ++ stW k b (stI g5 g50)) H := hP
    have hD : va_D A ([(a, qAr k n f)] ++ stW k b (stI g5 g50)) := hD
    refine W.eq (g2 := F0 m 15 ls [.ref (b 0)]) rfl ?_
    refine lv_astore_n (lv' := [(2, .ref (b 0)), (0, .ref a), (1, .int i)]) hx hb dX1_stateAt_15 rfl hl (by decide) rfl (fun ls hl => ?_)
    refine lv_aload_n hx hb dX1_stateAt_16 rfl (lv_at hl 1 rfl) ?_
    refine lv_iload_n hx hb dX1_stateAt_17 rfl (lv_at hl 2 rfl) ?_
    refine lv_aload_n hx hb dX1_stateAt_18 rfl (lv_at hl 0 rfl) ?_
    refine va_astq (r := (RX0, TX0, 12)) hx hb hK hP hD hS 0 3 1 0 rfl rfl rfl rfl hi dX1_stateAt_19 (fun H locs hP hD hS => ?_)
    have hP : va_P D vwCl ([(a, qAr k n (va_up f i.toNatClampNeg (some (b 0))))] ++ stW k b (stI g5 g50)) H := hP
    have hD : va_D A ([(a, qAr k n (va_up f i.toNatClampNeg (some (b 0))))] ++ stW k b (stI g5 g50)) := hD
    refine lv_aload_n hx hb dX1_stateAt_20 rfl (lv_at hl 0 rfl) ?_
    exact Cx_aret hO (Or.inr ⟨hf, b, rfl, rfl⟩) (Nat.le_of_ble_eq_true rfl) (Nat.le_of_ble_eq_true rfl) hx hb hr (Or.inl ⟨_, rfl⟩) (Or.inr ⟨_, rfl⟩) hP hD hS dX1_stateAt_21 hlocks
set_option maxRecDepth 100000 in
set_option maxHeartbeats 4000000 in
theorem c_X1_stateAt_s (l : Launch) (hst : l.stackTraces = false) (D : va_G) (k : Nat → ClassId) (a n : Nat) (f : Nat → Option Nat) (i : Int32) (r : Nat) (hf : f i.toNatClampNeg = some r) (hi : vp_in i n) : Cx l D (tyK k) yX1_stateAt wsX1_stateAt ({ frames := 2, cells := 0, slots := 0, locals := 43 } : Room) [.ref a, .int i] [(a, qAr k n f)] [(a, qAr k n f)] (.inr (fun (ov : Option Value) (w : va_W) => ov = some (.ref r) ∧ w = [(a, qAr k n f)])) := by
  obtain ⟨O, hO⟩ : ∃ O : Oc, O = .inr (fun (ov : Option Value) (w : va_W) => ov = some (.ref r) ∧ w = [(a, qAr k n f)]) := ⟨_, rfl⟩
  rw [← hO]
  refine Cx_of (cc := cX1_stateAt) (maxL := 3) (ret := (some (.object "EffectTrain$State"))) (by decide) rfl (Nat.le_of_ble_eq_true rfl) ?_
  intro p e s m args below meth c A ls hx hb hr hml hts hown hlocks hnm htab hK hG hA hP hD hS hl
  have hl : lv_has ls 3 [(0, .ref a), (1, .int i)] := hl
  have hP : va_P D vwCl ([(a, qAr k n f)]) s.heap := hP
  refine lv_aload_n hx hb dX1_stateAt_0 rfl (lv_at hl 0 rfl) ?_
  refine lv_iload_n hx hb dX1_stateAt_1 rfl (lv_at hl 1 rfl) ?_
  refine va_aldq hx hb hK hP 0 3 rfl rfl hi dX1_stateAt_2 ?_
  refine W.eq (g2 := F0 m 3 ls [.ref r]) (by first | rfl | (rw [hf]; rfl)) ?_
  refine lv_astore_n (lv' := [(2, .ref r), (0, .ref a), (1, .int i)]) hx hb dX1_stateAt_3 rfl hl (by decide) rfl (fun ls hl => ?_)
  refine lv_aload_n hx hb dX1_stateAt_4 rfl (lv_at hl 0 rfl) ?_
  refine lv_ifnonnull (tgt := 20) hx hb dX1_stateAt_5 (by decide) ?_
  refine lv_aload_n hx hb dX1_stateAt_20 rfl (lv_at hl 0 rfl) ?_
  exact Cx_aret hO (⟨rfl, rfl⟩) (Nat.le_of_ble_eq_true rfl) (Nat.le_of_ble_eq_true rfl) hx hb hr (Or.inl ⟨_, rfl⟩) (Or.inr ⟨_, rfl⟩) hP hD hS dX1_stateAt_21 hlocks
/-- the two fillings of a new state -/
def gI5 : Nat → Int32 := (f_J7_fill_53178 6 (fun _ => 0) 5).getD fun _ => 0
def gI50 : Nat → Int32 := (f_J7_fill_53178 6 (fun _ => 0) 50).getD fun _ => 0
theorem hgI5 : f_J7_fill_53178 6 (fun _ => 0) 5 = some gI5 := by
  have h : (f_J7_fill_53178 6 (fun _ => 0) 5).isSome = true := by decide +kernel
  unfold gI5
  cases hf : f_J7_fill_53178 6 (fun _ => 0) 5 with
  | none => rw [hf] at h; cases h
  | some g => rfl
theorem hgI50 : f_J7_fill_53178 6 (fun _ => 0) 50 = some gI50 := by
  have h : (f_J7_fill_53178 6 (fun _ => 0) 50).isSome = true := by decide +kernel
  unfold gI50
  cases hf : f_J7_fill_53178 6 (fun _ => 0) 50 with
  | none => rw [hf] at h; cases h
  | some g => rfl
/-- what stands at a place, or what a new one holds -/
def sq (V : PoV) (i : Nat) : StV := (V i).getD (stI gI5 gI50)
section POOL
variable {p : Program} {l : Launch} {e : Env} {R : Room} {s : State} {m : MethodId} {args : Array Value} {below : List Frame} {meth : Method} {c : Code} {H : Heap} {locs : List Loc} {cells slots : Nat} {Q : State → Prop}
variable {cc : ByteArray} {pc : Nat} {ls : Array Slot} {rest : List Value} {D : va_G} {k : Nat → ClassId}
theorem po_perm {j o n x : Nat} {cA : Nat → Nat} {A : AdV} (hj : (j = 3 ∧ o = 0 ∧ n = 3) ∨ (j = 4 ∧ o = 3 ∧ n = 14) ∨ (j = 5 ∧ o = 17 ∧ n = 2)) (hx : x < n) : ∃ po : va_W, List.Perm (poA k cA A) ([(cA j, qAr k n (qf n o A))] ++ po) ∧ ∀ b, List.Perm ([(cA j, qAr k n (qf n o (ua A (o + x) b)))] ++ po) (poA k cA (ua A (o + x) b)) := by
  rcases hj with ⟨rfl, rfl, rfl⟩ | ⟨rfl, rfl, rfl⟩ | ⟨rfl, rfl, rfl⟩
  · refine ⟨[(cA 4, qAr k 14 (qf 14 3 A)), (cA 5, qAr k 2 (qf 2 17 A))], List.Perm.refl _, fun b => ?_⟩
    show List.Perm _ [(cA 3, qAr k 3 (qf 3 0 (ua A (0 + x) b))), (cA 4, qAr k 14 (qf 14 3 (ua A (0 + x) b))), (cA 5, qAr k 2 (qf 2 17 (ua A (0 + x) b)))]
    rw [qf_ne (n := 14) (o := 3) (i := 0 + x) (Or.inl (by omega)), qf_ne (n := 2) (o := 17) (i := 0 + x) (Or.inl (by omega))]
    exact List.Perm.refl _
  · refine ⟨[(cA 3, qAr k 3 (qf 3 0 A)), (cA 5, qAr k 2 (qf 2 17 A))], List.Perm.swap _ _ _, fun b => ?_⟩
    show List.Perm _ [(cA 3, qAr k 3 (qf 3 0 (ua A (3 + x) b))), (cA 4, qAr k 14 (qf 14 3 (ua A (3 + x) b))), (cA 5, qAr k 2 (qf 2 17 (ua A (3 + x) b)))]
    rw [qf_ne (n := 3) (o := 0) (i := 3 + x) (Or.inr (by omega)), qf_ne (n := 2) (o := 17) (i := 3 + x) (Or.inl (by omega))]
    exact List.Perm.swap _ _ _
  · refine ⟨[(cA 3, qAr k 3 (qf 3 0 A)), (cA 4, qAr k 14 (qf 14 3 A))], List.perm_append_comm (l₁ := [(cA 3, qAr k 3 (qf 3 0 A)), (cA 4, qAr k 14 (qf 14 3 A))]) (l₂ := [(cA 5, qAr k 2 (qf 2 17 A))]), fun b => ?_⟩
    show List.Perm _ [(cA 3, qAr k 3 (qf 3 0 (ua A (17 + x) b))), (cA 4, qAr k 14 (qf 14 3 (ua A (17 + x) b))), (cA 5, qAr k 2 (qf 2 17 (ua A (17 + x) b)))]
    rw [qf_ne (n := 3) (o := 0) (i := 17 + x) (Or.inr (by omega)), qf_ne (n := 14) (o := 3) (i := 17 + x) (Or.inr (by omega))]
    exact List.perm_append_comm (l₁ := [(cA 5, qAr k 2 (qf 2 17 (ua A (17 + x) b)))]) (l₂ := [(cA 3, qAr k 3 (qf 3 0 A)), (cA 4, qAr k 14 (qf 14 3 A))])
theorem pm_1 {F T W po P pa : va_W} (h : List.Perm pa (W ++ po)) (ht : List.Perm T (pa ++ P)) : List.Perm (F ++ T) (W ++ (F ++ (po ++ P))) := by
  have h1 : List.Perm (F ++ T) (F ++ ((W ++ po) ++ P)) := (ht.trans (h.append_right _)).append_left _
  refine h1.trans ?_
  rw [List.append_assoc W po P, ← List.append_assoc F W, ← List.append_assoc W F]
  exact List.perm_append_comm.append_right _
theorem pm_2 {F T W po P pa : va_W} (h : List.Perm (W ++ po) pa) : List.Perm ((W ++ T) ++ (F ++ (po ++ P))) (F ++ (T ++ (pa ++ P))) := by
  have h1 : List.Perm ((W ++ T) ++ (F ++ (po ++ P))) (F ++ ((po ++ P) ++ (W ++ T))) := by
    rw [← List.append_assoc F (po ++ P) (W ++ T)]
    exact List.perm_append_comm
  refine h1.trans (List.Perm.append_left _ ?_)
  have h2 : List.Perm ((po ++ P) ++ (W ++ T)) ((T ++ W) ++ (po ++ P)) := List.perm_append_comm.trans (List.perm_append_comm.append_right _)
  refine h2.trans ?_
  rw [List.append_assoc T W, ← List.append_assoc W po P]
  exact (h.append_right _).append_left _
theorem st_call {A0 : Nat → Prop} {front tl : va_W} {nL index : Nat} {own : String} {Ts : List Cond} {cA : Nat → Nat} {A : AdV} {V : PoV} {i : Int32} (j o n : Nat) (hst : l.stackTraces = false)
    (S : CallFix p m c cc nL s args Ts own) (cw : CallB R s args own index yX1_stateAt cX1_stateAt 3 (some (.object "EffectTrain$State")) wsX1_stateAt ({ frames := 2, cells := 11, slots := 75, locals := 43 } : Room) 11 75 2 ∧ (Cond.static yX1_stateAt).before args s = true)
    (hK : va_K D vwCl (tyK k) s) (hG : gX A0 s) (hP : va_P D vwCl (front ++ tl) H) (hD : va_D A0 (front ++ tl)) (hS : va_S A0 s.heap H locs) (hA : ∀ q : Nat, s.heap.size ≤ q → A0 q)
    (hT : PoA k cA A V tl) (hj : (j = 3 ∧ o = 0 ∧ n = 3) ∨ (j = 4 ∧ o = 3 ∧ n = 14) ∨ (j = 5 ∧ o = 17 ∧ n = 2)) (hi : vp_in i n) (hh : ∀ b, A (o + i.toNatClampNeg) = some b → ∃ S, V (o + i.toNatClampNeg) = some S)
    (hsize : ls.size = nL) (hW : (rest.map fun v => v.category).sum ≤ 8) (hdg : decode cc pc = .ok (.invokestatic index, 3)) (hf : cells + 11 ≤ R.cells ∧ slots + 75 ≤ R.slots)
    (kk : ∀ (b : Nat → Nat) (S : StV) (A' : AdV) (H1 : Heap) (locs1 : List Loc), ((A (o + i.toNatClampNeg) = some b ∧ V (o + i.toNatClampNeg) = some S ∧ A' = A) ∨ (A (o + i.toNatClampNeg) = none ∧ S = stI gI5 gI50 ∧ A' = ua A (o + i.toNatClampNeg) b)) → va_P D vwCl (front ++ (stW k b S ++ (poA k cA A' ++ plW k A' (nq V (o + i.toNatClampNeg)) 19))) H1 → va_D A0 (front ++ (stW k b S ++ (poA k cA A' ++ plW k A' (nq V (o + i.toNatClampNeg)) 19))) → va_S A0 s.heap H1 locs1 → W p l e R s m args below meth c H1 locs1 (cells + 11) (slots + 75) Q (F0 m (pc + 3) ls (.ref (b 0) :: rest))) : W p l e R s m args below meth c H locs cells slots Q (F0 m pc ls (.int i :: .ref (cA j) :: rest)) := by
  have hx : i.toNatClampNeg < n := Nat.not_le.mp fun q => hi (Or.inr q)
  obtain ⟨po, hp1, hp2⟩ := po_perm (k := k) (cA := cA) (A := A) hj hx
  have hpm : List.Perm (front ++ tl) ([(cA j, qAr k n (qf n o A))] ++ (front ++ (po ++ plW k A V 19))) := pm_1 hp1 hT
  have hP1 := P_perm hpm hP
  have hD1 := D_perm hpm hD
  refine Cx_go (vx_runS (As := [.ref (cA j), .int i]) (rest := rest) S (c_X1_stateAt l hst D k (cA j) n (qf n o A) i gI5 gI50 hgI5 hgI50 hi H.size) cw ⟨Px_blind, Px_at (wc := [(cA j, qAr k n (qf n o A))]) hK hG hP1 hD1 hS hA [0] rfl (by decide)⟩ rfl rfl hsize rfl (by show 2 * 0 + _ ≤ 8; omega) hdg hf) hP1 hD1 hS hA [0] rfl (fun _ _ _ _ _ h1 => nomatch h1) ?_
  intro ov B wc1 H1 locs1 h1 hB hP2 hD2 hk1 hF1 hS1
  cases h1
  obtain ⟨hP3, hD3⟩ := jn_front hP1 hD1 hk1 hF1 hP2 hD2
  have hidx : o + i.toNatClampNeg < 19 := by omega
  rcases hB with ⟨r, e1, rfl, rfl⟩ | ⟨e1, b, rfl, rfl⟩
  · unfold qf at e1
    rw [if_pos hx] at e1
    cases ha : A (o + i.toNatClampNeg) with
    | none => rw [ha] at e1; cases e1
    | some b =>
      rw [ha] at e1
      have e2 : b 0 = r := Option.some.inj e1
      subst e2
      obtain ⟨S9, hs⟩ := hh b ha
      have hpm2 := hpm.symm.trans ((PoA.out hT hidx ha hs).append_left front)
      exact kk b S9 A H1 locs1 (Or.inl ⟨ha, hs, rfl⟩) (P_perm hpm2 hP3) (D_perm hpm2 hD3) hS1
  · unfold qf at e1
    rw [if_pos hx] at e1
    cases ha : A (o + i.toNatClampNeg) with
    | some b => rw [ha] at e1; cases e1
    | none =>
      rw [qf_up hx] at hP3 hD3
      have e3 : plW k (ua A (o + i.toNatClampNeg) b) (nq V (o + i.toNatClampNeg)) 19 = plW k A V 19 := plW_cg 19 fun y hy => by
        by_cases h : y = o + i.toNatClampNeg
        · subst h
          have q1 : nq V (o + i.toNatClampNeg) (o + i.toNatClampNeg) = none := by simp [nq]
          rw [q1, plB_nonev, ha, plB_none]
        · simp [nq, ua, h]
      have hpm2 := pm_2 (F := front) (T := stW k b (stI gI5 gI50)) (P := plW k A V 19) (hp2 b)
      rw [← e3] at hpm2 hP3 hD3
      exact kk b _ _ H1 locs1 (Or.inr ⟨ha, rfl, rfl⟩) (P_perm hpm2 hP3) (D_perm hpm2 hD3) hS1
theorem st_callI {A0 : Nat → Prop} {front tl : va_W} {nL index : Nat} {own : String} {Ts : List Cond} {cA : Nat → Nat} {V : PoV} {i : Int32} (j o n : Nat) (hst : l.stackTraces = false)
    (S : CallFix p m c cc nL s args Ts own) (cw : CallB R s args own index yX1_stateAt cX1_stateAt 3 (some (.object "EffectTrain$State")) wsX1_stateAt ({ frames := 2, cells := 11, slots := 75, locals := 43 } : Room) 11 75 2 ∧ (Cond.static yX1_stateAt).before args s = true)
    (hK : va_K D vwCl (tyK k) s) (hG : gX A0 s) (hP : va_P D vwCl (front ++ tl) H) (hD : va_D A0 (front ++ tl)) (hS : va_S A0 s.heap H locs) (hA : ∀ q : Nat, s.heap.size ≤ q → A0 q)
    (hT : PoIs k cA V tl) (hj : (j = 3 ∧ o = 0 ∧ n = 3) ∨ (j = 4 ∧ o = 3 ∧ n = 14) ∨ (j = 5 ∧ o = 17 ∧ n = 2)) (hi : vp_in i n)
    (hsize : ls.size = nL) (hW : (rest.map fun v => v.category).sum ≤ 8) (hdg : decode cc pc = .ok (.invokestatic index, 3)) (hf : cells + 11 ≤ R.cells ∧ slots + 75 ≤ R.slots)
    (kk : ∀ (b : Nat → Nat) (tl2 : va_W) (H1 : Heap) (locs1 : List Loc), PoH k cA V (o + i.toNatClampNeg) b tl2 → va_P D vwCl ((front ++ stW k b (sq V (o + i.toNatClampNeg))) ++ tl2) H1 → va_D A0 ((front ++ stW k b (sq V (o + i.toNatClampNeg))) ++ tl2) → va_S A0 s.heap H1 locs1 → W p l e R s m args below meth c H1 locs1 (cells + 11) (slots + 75) Q (F0 m (pc + 3) ls (.ref (b 0) :: rest))) : W p l e R s m args below meth c H locs cells slots Q (F0 m pc ls (.int i :: .ref (cA j) :: rest)) := by
  obtain ⟨A, hA1, hA2⟩ := hT
  have hx : i.toNatClampNeg < n := Nat.not_le.mp fun q => hi (Or.inr q)
  have hidx : o + i.toNatClampNeg < 19 := by omega
  refine st_call j o n hst S cw hK hG hP hD hS hA hA1 hj hi (fun b hb => ?_) hsize hW hdg hf ?_
  · cases hv : V (o + i.toNatClampNeg) with
    | some S => exact ⟨S, rfl⟩
    | none =>
      rw [(hA2 _ hidx).mpr hv] at hb
      cases hb
  · intro b S9 A' H1 locs1 h1 hP1 hD1 hS1
    rw [← List.append_assoc] at hP1 hD1
    have e1 : sq V (o + i.toNatClampNeg) = S9 := by
      unfold sq
      rcases h1 with ⟨_, h, _⟩ | ⟨h, h', _⟩
      · rw [h]; rfl
      · rw [(hA2 _ hidx).mp h, h']; rfl
    have e2 : A' (o + i.toNatClampNeg) = some b := by
      rcases h1 with ⟨h, _, rfl⟩ | ⟨h, h', rfl⟩
      · exact h
      · simp [ua]
    have e3 : ∀ y, ¬ y = o + i.toNatClampNeg → A' y = A y := fun y hy => by
      rcases h1 with ⟨h, _, rfl⟩ | ⟨h, h', rfl⟩
      · rfl
      · simp [ua, hy]
    rw [← e1] at hP1 hD1
    refine kk b _ H1 locs1 (fun S8 => ⟨A', PoA.put (List.Perm.refl _) hidx e2 S8, fun y hy => ?_⟩) hP1 hD1 hS1
    by_cases h : y = o + i.toNatClampNeg
    · subst h
      simp [uq, e2]
    · rw [e3 y h]
      simp only [uq, if_neg h]
      exact hA2 y hy
end POOL
