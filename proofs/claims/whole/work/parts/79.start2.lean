set_option maxRecDepth 100000 in
set_option maxHeartbeats 4000000 in
theorem whole_start0 (hF : NaNok) (hz : okF FP.fconst0) {p : Program} {e : Env} {s : State} {m : MethodId} {below : List Frame} {meth : Method} {c : Code} (l : Launch) (hflags : l.flags = flags0) {b L : Nat} {xs : Nat → Int32} (hL : L ≤ 2048) (C0 : lw_At p s m meth c b L xs) : W p l e room_1 s m #[Value.ref b] below meth c s.heap [] 0 0 (lw_Z below #[Value.ref b] s) (entryFrame m ([Value.ref b] : List Value).toArray 10) := by
  obtain ⟨hx, hb, hr, hml, hown, hts, hX, hbl, hlocks, hgv⟩ := id C0
  have hst : l.stackTraces = false := by
    unfold Launch.stackTraces
    rw [hflags]
    decide +kernel
  obtain ⟨D, k, hK⟩ := gK_0 hts
  have hG : gX (fun q : Nat => s.heap.size ≤ q) s := ⟨gS_0 hts hgv, gT_0 hts hgv, gN_0 hts hgv⟩
  have hC : gC s := gC_0 hgv
  have hA : ∀ q : Nat, s.heap.size ≤ q → (fun q : Nat => s.heap.size ≤ q) q := fun _ h => h
  have htl : ∀ w ∈ wsL_law, w.before #[Value.ref b] s = true := fun w h => hts w (wsL_law_in w h)
  have hS : va_S (fun q : Nat => s.heap.size ≤ q) s.heap s.heap [] := va_S.rf
  have hP : va_P D vwCl [] s.heap := fun k q h => by simp at h
  have hD : va_D (fun q : Nat => s.heap.size ≤ q) [] := ⟨fun i j p q h => by simp at h, fun k q h => by simp at h⟩
  have hl := lv_entry ([.ref b]) (n := 10) (Nat.le_of_ble_eq_true rfl)
  rw [lg_entry_eq]
  generalize (lg_sl ([.ref b]) ++ List.replicate (10 - (lg_sl ([.ref b])).length) Slot.unset).toArray = ls at hl ⊢
  have hl : lv_has ls 10 [(0, .ref b)] := hl
  refine va_new (ci := 1) (fs := [.null, .int 0, .null, .null, .null, .null, .null, .int 0, .int 0, .null, .null]) (C := RX1) (T := TX1) (N := 11) hx hb hts inX1 tyX1 tyX1_ok hown (hts (.classLink RL 8 RX1) (by decide +kernel)) (hts (.instantiable RX1 11) (by decide +kernel)) (hts (.initialized RX1) (by decide +kernel)) hK hP hD hS hA rfl (fun j hj => by rcases (show j = 0 ∨ j = 1 ∨ j = 2 ∨ j = 3 ∨ j = 4 ∨ j = 5 ∨ j = 6 ∨ j = 7 ∨ j = 8 ∨ j = 9 ∨ j = 10 by omega) with rfl | rfl | rfl | rfl | rfl | rfl | rfl | rfl | rfl | rfl | rfl <;> rfl) (Nat.le_of_ble_eq_true rfl) (Nat.le_of_ble_eq_true rfl) dL_law_0 (fun q0 H hP hD hS => ?_)
  have hP : va_P D vwCl ([(q0, .inr (1, [.null, .int 0, .null, .null, .null, .null, .null, .int 0, .int 0, .null, .null]))] ++ []) H := hP
  have hD : va_D (fun q : Nat => s.heap.size ≤ q) ([(q0, .inr (1, [.null, .int 0, .null, .null, .null, .null, .null, .int 0, .int 0, .null, .null]))] ++ []) := hD
  refine W.widen (k := 1) (n := 11) (Nat.le_of_ble_eq_true rfl) (Nat.le_of_ble_eq_true rfl) ?_
  refine lv_dup hx hb dL_law_3 rfl ?_
  refine Cx_goF (wc := [(q0, .inr (1, [.null, .int 0, .null, .null, .null, .null, .null, .int 0, .int 0, .null, .null]))]) (wx := [(q0, .inr (1, [.null, .int 0, .null, .null, .null, .null, .null, .int 0, .int 0, .null, .null]))]) (wr := []) (vx_runI (As := []) (rest := [.ref q0]) ⟨hx, hb, hml, hown, htl⟩ (c_X1_init l hst D k q0 gI5 gI50 hgI5 hgI50 H.size) (cwI 0 htl gL_law_X1_init rfl rfl rfl (hts (.initialized RX1) (by decide +kernel)) (hts (.methodLink RL 95 yX1_init) (by decide +kernel)) (hts (.instanceMethod yX1_init) (by decide +kernel)) rfl (by decide +kernel) ⟨(Nat.le_of_ble_eq_true rfl), (Nat.le_of_ble_eq_true rfl)⟩) ⟨Px_blind, Px_at (wc := [(q0, .inr (1, [.null, .int 0, .null, .null, .null, .null, .null, .int 0, .int 0, .null, .null]))]) hK hG hP hD hS hA [0] rfl (by decide)⟩ rfl rfl hl.1 rfl (Nat.le_of_ble_eq_true rfl) dL_law_4 ⟨(Nat.le_of_ble_eq_true rfl), (Nat.le_of_ble_eq_true rfl)⟩) hP hD hS hA rfl (fun _ _ _ _ _ h1 => nomatch h1) ?_
  intro ov B w1 H1 locs1 h1 hB hP hD hS
  cases h1
  obtain ⟨rfl, cA, nA, tA, rfl, rfl⟩ := hB
  rw [List.append_nil] at hP hD
  refine W.widen (k := 29) (n := 344) (Nat.le_of_ble_eq_true rfl) (Nat.le_of_ble_eq_true rfl) ?_
  refine W.eq (g2 := F0 m 7 ls [.ref (cA 0)]) rfl ?_
  refine lv_astore_n (lv' := [(1, .ref (cA 0)), (0, .ref b)]) hx hb dL_law_7 rfl hl (by decide) rfl (fun ls hl => ?_)
  refine va_new (ci := 2) (fs := [.int 0, .null, .int 0, .int 0, .int 0, .null, .int 0, .null, .null, .null, .int 0, .null, .null, .null, .null]) (C := RX2) (T := TX2) (N := 15) hx hb hts inX2 tyX2 tyX2_ok hown (hts (.classLink RL 96 RX2) (by decide +kernel)) (hts (.instantiable RX2 15) (by decide +kernel)) (hts (.initialized RX2) (by decide +kernel)) hK hP hD hS hA rfl (fun j hj => by rcases (show j = 0 ∨ j = 1 ∨ j = 2 ∨ j = 3 ∨ j = 4 ∨ j = 5 ∨ j = 6 ∨ j = 7 ∨ j = 8 ∨ j = 9 ∨ j = 10 ∨ j = 11 ∨ j = 12 ∨ j = 13 ∨ j = 14 by omega) with rfl | rfl | rfl | rfl | rfl | rfl | rfl | rfl | rfl | rfl | rfl | rfl | rfl | rfl | rfl <;> rfl) (Nat.le_of_ble_eq_true rfl) (Nat.le_of_ble_eq_true rfl) dL_law_8 (fun q1 H hP hD hS => ?_)
  have hP := P_perm List.perm_append_comm hP
  have hD := D_perm List.perm_append_comm hD
  refine W.widen (k := 30) (n := 359) (Nat.le_of_ble_eq_true rfl) (Nat.le_of_ble_eq_true rfl) ?_
  refine W.eq (g2 := F0 m 11 ls [.ref q1]) rfl ?_
  refine lv_dup hx hb dL_law_11 rfl ?_
  refine Cx_goF (wc := [(q1, .inr (2, [.int 0, .null, .int 0, .int 0, .int 0, .null, .int 0, .null, .null, .null, .int 0, .null, .null, .null, .null]))]) (wx := [(q1, .inr (2, [.int 0, .null, .int 0, .int 0, .int 0, .null, .int 0, .null, .null, .null, .int 0, .null, .null, .null, .null]))]) (wr := ((trW k cA nA tA trI ++ stW k nA (stI gI5 gI50) ++ stW k tA (stI gI5 gI50)) ++ poR k cA (fun _ => none))) (vx_runI (As := []) (rest := [.ref q1]) ⟨hx, hb, hml, hown, htl⟩ (c_X2_init l D k q1 H.size) (cwI 0 htl gL_law_X2_init rfl rfl rfl (hts (.initialized RX2) (by decide +kernel)) (hts (.methodLink RL 98 yX2_init) (by decide +kernel)) (hts (.instanceMethod yX2_init) (by decide +kernel)) rfl (by decide +kernel) ⟨(Nat.le_of_ble_eq_true rfl), (Nat.le_of_ble_eq_true rfl)⟩) ⟨Px_blind, Px_at (wc := [(q1, .inr (2, [.int 0, .null, .int 0, .int 0, .int 0, .null, .int 0, .null, .null, .null, .int 0, .null, .null, .null, .null]))]) hK hG hP hD hS hA [0] rfl (by decide)⟩ rfl rfl hl.1 rfl (Nat.le_of_ble_eq_true rfl) dL_law_12 ⟨(Nat.le_of_ble_eq_true rfl), (Nat.le_of_ble_eq_true rfl)⟩) hP hD hS hA rfl (fun _ _ _ _ _ h1 => nomatch h1) ?_
  intro ov B w1 H1 locs1 h1 hB hP hD hS
  cases h1
  obtain ⟨rfl, bM, rfl, rfl⟩ := hB
  refine W.widen (k := 39) (n := 1709) (Nat.le_of_ble_eq_true rfl) (Nat.le_of_ble_eq_true rfl) ?_
  refine W.eq (g2 := F0 m 15 ls [.ref (bM 0)]) rfl ?_
  refine lv_astore_n (lv' := [(2, .ref (bM 0)), (1, .ref (cA 0)), (0, .ref b)]) hx hb dL_law_15 rfl hl (by decide) rfl (fun ls hl => ?_)
  refine lv_iconst (v := 1) hx hb dL_law_16 (by decide) ?_
  refine va_newa (atype := .long) (ty := .long) (a0 := (1, .inr (.inl (fun _ => 0)))) (N' := 1) hx hb (hts (.arrayClass .long) (by decide +kernel)) rfl hK hP hD hS hA (fun _ => rfl) (by decide) (by decide) (Nat.le_of_ble_eq_true rfl) (Nat.le_of_ble_eq_true rfl) (Nat.le_of_ble_eq_true rfl) dL_law_17 (fun oA c4 H hK1 hP hD hS => ?_)
  have ec4 : c4 = k 4 := kcls_4 hK hK1
  subst ec4; clear hK1
  refine W.widen (k := 40) (n := 1710) (Nat.le_of_ble_eq_true rfl) (Nat.le_of_ble_eq_true rfl) ?_
  refine W.eq (g2 := F0 m 19 ls [.ref oA]) rfl ?_
  refine lv_astore_n (lv' := [(3, .ref oA), (2, .ref (bM 0)), (1, .ref (cA 0)), (0, .ref b)]) hx hb dL_law_19 rfl hl (by decide) rfl (fun ls hl => ?_)
  refine lv_iconst (v := 1) hx hb dL_law_20 (by decide) ?_
  refine va_newa (atype := .double) (ty := .double) (a0 := (1, .inr (.inr (.inr (.inl (fun _ => 0)))))) (N' := 1) hx hb (hts (.arrayClass .double) (by decide +kernel)) rfl hK hP hD hS hA (fun _ => rfl) (by decide) (by decide) (Nat.le_of_ble_eq_true rfl) (Nat.le_of_ble_eq_true rfl) (Nat.le_of_ble_eq_true rfl) dL_law_21 (fun dA c5 H hK1 hP hD hS => ?_)
  have ec5 : c5 = k 5 := kcls_5 hK hK1
  subst ec5; clear hK1
  refine W.widen (k := 41 + 40 * 0) (n := 1711 + 300 * 0) (Nat.le_of_ble_eq_true rfl) (Nat.le_of_ble_eq_true rfl) ?_
  refine W.eq (g2 := F0 m 23 ls [.ref dA]) rfl ?_
  refine lv_astore (lv' := [(4, .ref dA), (3, .ref oA), (2, .ref (bM 0)), (1, .ref (cA 0)), (0, .ref b)]) hx hb dL_law_23 hl (by decide) rfl (fun ls hl => ?_)
  refine lv_iconst (v := 0) hx hb dL_law_25 (by decide) ?_
  refine lv_istore (lv' := [(5, .int 0), (4, .ref dA), (3, .ref oA), (2, .ref (bM 0)), (1, .ref (cA 0)), (0, .ref b)]) hx hb dL_law_26 hl (by decide) rfl (fun ls hl => ?_)
  have hP : va_P D vwCl (mdW k bM mdI ++ ((trW k cA nA tA trI ++ stW k nA (stI gI5 gI50) ++ stW k tA (stI gI5 gI50)) ++ poR k cA (fun _ => none)) ++ ouW k oA (fun _ => 0) ++ duW k dA (fun _ => 0)) H := hP
  have hD : va_D (fun q : Nat => s.heap.size ≤ q) (mdW k bM mdI ++ ((trW k cA nA tA trI ++ stW k nA (stI gI5 gI50) ++ stW k tA (stI gI5 gI50)) ++ poR k cA (fun _ => none)) ++ ouW k oA (fun _ => 0) ++ duW k dA (fun _ => 0)) := hD
  have hP := P_perm (pq_s (md := mdW k bM mdI) (X := (trW k cA nA tA trI ++ stW k nA (stI gI5 gI50) ++ stW k tA (stI gI5 gI50))) (tl := poR k cA (fun _ => none)) (ou := ouW k oA (fun _ => 0)) (du := duW k dA (fun _ => 0))) hP
  have hD := D_perm (pq_s (md := mdW k bM mdI) (X := (trW k cA nA tA trI ++ stW k nA (stI gI5 gI50) ++ stW k tA (stI gI5 gI50))) (tl := poR k cA (fun _ => none)) (ou := ouW k oA (fun _ => 0)) (du := duW k dA (fun _ => 0))) hD
  exact law_loop hF hz ⟨C0, hst, hK, hG, hC⟩ hL (lw_Z below #[Value.ref b] s) 41 1711 (Nat.le_of_ble_eq_true rfl) (Nat.le_of_ble_eq_true rfl) (fun H locs ls hS => va_forget (fun q hq => hS.2.2 q hq) (lw_ret (d0 := s.drawn) (Drawn.sameBut.refl s.drawn lw_cs) hx hb hr hlocks dL_law_1874)) (L + 5) 0 (by omega) (by omega) trI (stI gI5 gI50) (stI gI5 gI50) (fun _ => none) (poR k cA (fun _ => none)) mdI (fun _ => 0) (fun _ => 0) H locs1 ls invI (poI k cA) hP hD hS (lv_sub hl [5, 4, 3, 2, 1, 0] rfl)
