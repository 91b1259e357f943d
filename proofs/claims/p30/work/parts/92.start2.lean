theorem ps2 {a b : va_W} : List.Perm (b ++ a) (a ++ b) := List.perm_append_comm
set_option maxRecDepth 100000 in
set_option maxHeartbeats 4000000 in
theorem whole_start0 {p : Program} {e : Env} {s : State} {m : MethodId} {below : List Frame} {meth : Method} {c : Code} (l : Launch) (hflags : l.flags = flags0) {b L : Nat} {xs : Nat → Int32} (hL : L ≤ 260) (C0 : lw_At p s m meth c b L xs) : W p l e room_1 s m #[Value.ref b] below meth c s.heap [] 0 0 (lw_Z below #[Value.ref b] s) (entryFrame m ([Value.ref b] : List Value).toArray 7) := by
  obtain ⟨hx, hb, hr, hml, hown, hts, hX, hbl, hlocks, hgv⟩ := id C0
  have hst : l.stackTraces = false := by
    unfold Launch.stackTraces
    rw [hflags]
    decide +kernel
  obtain ⟨D, k, hK⟩ := gK_0 hts
  have hG : gX (fun q : Nat => s.heap.size ≤ q) s := ⟨gS_0 hts hgv, gT_0 hts hgv, gN_0 hts hgv⟩
  have hC : gC s := gC_0 hgv
  have hA : ∀ q : Nat, s.heap.size ≤ q → (fun q : Nat => s.heap.size ≤ q) q := fun _ h => h
  have htl : ∀ w ∈ wsL_law, w.before #[Value.ref b] s = true := fun w h => hts w (wsL_law_in w h)
  have hS : va_S (fun q : Nat => s.heap.size ≤ q) s.heap s.heap [] := va_S.rf
  have hP : va_P D vwCl [] s.heap := fun k q h => by simp at h
  have hD : va_D (fun q : Nat => s.heap.size ≤ q) [] := ⟨fun i j p q h => by simp at h, fun k q h => by simp at h⟩
  have hLC : LC p s m meth c l b L xs D k := ⟨C0, hst, hK, hG, hC, hL⟩
  have hl := lv_entry ([.ref b]) (n := 7) (Nat.le_of_ble_eq_true rfl)
  rw [lg_entry_eq]
  generalize (lg_sl ([.ref b]) ++ List.replicate (7 - (lg_sl ([.ref b])).length) Slot.unset).toArray = ls at hl ⊢
  have hl : lv_has ls 7 [(0, .ref b)] := hl
  refine va_new (ci := 1) (fs := [.null, .int 0, .null, .null, .null, .null, .null, .int 0, .int 0, .null, .null]) (C := RX1) (T := TX1) (N := 11) hx hb hts inX1 tyX1 tyX1_ok hown (hts (.classLink RL 10 RX1) (by decide +kernel)) (hts (.instantiable RX1 11) (by decide +kernel)) (hts (.initialized RX1) (by decide +kernel)) hK hP hD hS hA rfl (fun j hj => by rcases (show j = 0 ∨ j = 1 ∨ j = 2 ∨ j = 3 ∨ j = 4 ∨ j = 5 ∨ j = 6 ∨ j = 7 ∨ j = 8 ∨ j = 9 ∨ j = 10 by omega) with rfl | rfl | rfl | rfl | rfl | rfl | rfl | rfl | rfl | rfl | rfl <;> rfl) (Nat.le_of_ble_eq_true rfl) (Nat.le_of_ble_eq_true rfl) dL_law_0 (fun q0 H hP hD hS => ?_)
  have hP : va_P D vwCl ([(q0, .inr (1, [.null, .int 0, .null, .null, .null, .null, .null, .int 0, .int 0, .null, .null]))] ++ []) H := hP
  have hD : va_D (fun q : Nat => s.heap.size ≤ q) ([(q0, .inr (1, [.null, .int 0, .null, .null, .null, .null, .null, .int 0, .int 0, .null, .null]))] ++ []) := hD
  refine W.widen (k := 1) (n := 11) (Nat.le_of_ble_eq_true rfl) (Nat.le_of_ble_eq_true rfl) ?_
  refine lv_dup hx hb dL_law_3 rfl ?_
  refine Cx_goF (wc := [(q0, .inr (1, [.null, .int 0, .null, .null, .null, .null, .null, .int 0, .int 0, .null, .null]))]) (wx := [(q0, .inr (1, [.null, .int 0, .null, .null, .null, .null, .null, .int 0, .int 0, .null, .null]))]) (wr := []) (vx_runI (As := []) (rest := [.ref q0]) ⟨hx, hb, hml, hown, htl⟩ (c_X1_init l hst D k q0 gI5 gI50 hgI5 hgI50 H.size) (cwI 0 htl gL_law_X1_init rfl rfl rfl (hts (.initialized RX1) (by decide +kernel)) (hts (.methodLink RL 217 yX1_init) (by decide +kernel)) (hts (.instanceMethod yX1_init) (by decide +kernel)) rfl (by decide +kernel) ⟨(Nat.le_of_ble_eq_true rfl), (Nat.le_of_ble_eq_true rfl)⟩) ⟨Px_blind, Px_at (wc := [(q0, .inr (1, [.null, .int 0, .null, .null, .null, .null, .null, .int 0, .int 0, .null, .null]))]) hK hG hP hD hS hA [0] rfl (by decide)⟩ rfl rfl hl.1 rfl (Nat.le_of_ble_eq_true rfl) dL_law_4 ⟨(Nat.le_of_ble_eq_true rfl), (Nat.le_of_ble_eq_true rfl)⟩) hP hD hS hA rfl (fun _ _ _ _ _ h1 => nomatch h1) ?_
  intro ov B w1 H1 locs1 h1 hB hP hD hS
  cases h1
  obtain ⟨rfl, cA, nA, tA, rfl, rfl⟩ := hB
  rw [List.append_nil] at hP hD
  have hw := obI k cA nA tA
  generalize trW k cA nA tA trI ++ stW k nA (stI gI5 gI50) ++ stW k tA (stI gI5 gI50) ++ poR k cA (fun _ => none) = w at hP hD hw
  refine W.widen (k := 29) (n := 344) (Nat.le_of_ble_eq_true rfl) (Nat.le_of_ble_eq_true rfl) ?_
  refine W.eq (g2 := F0 m 7 ls [.ref (cA 0)]) rfl ?_
  refine lv_astore_n (lv' := [(1, .ref (cA 0)), (0, .ref b)]) hx hb dL_law_7 rfl hl (by decide) rfl (fun ls hl => ?_)
  refine va_new (ci := 1) (fs := [.null, .int 0, .null, .null, .null, .null, .null, .int 0, .int 0, .null, .null]) (C := RX1) (T := TX1) (N := 11) hx hb hts inX1 tyX1 tyX1_ok hown (hts (.classLink RL 10 RX1) (by decide +kernel)) (hts (.instantiable RX1 11) (by decide +kernel)) (hts (.initialized RX1) (by decide +kernel)) hK hP hD hS hA rfl (fun j hj => by rcases (show j = 0 ∨ j = 1 ∨ j = 2 ∨ j = 3 ∨ j = 4 ∨ j = 5 ∨ j = 6 ∨ j = 7 ∨ j = 8 ∨ j = 9 ∨ j = 10 by omega) with rfl | rfl | rfl | rfl | rfl | rfl | rfl | rfl | rfl | rfl | rfl <;> rfl) (Nat.le_of_ble_eq_true rfl) (Nat.le_of_ble_eq_true rfl) dL_law_8 (fun q1 H hP hD hS => ?_)
  have hP := P_perm List.perm_append_comm hP
  have hD := D_perm List.perm_append_comm hD
  refine W.widen (k := 30) (n := 355) (Nat.le_of_ble_eq_true rfl) (Nat.le_of_ble_eq_true rfl) ?_
  refine W.eq (g2 := F0 m 11 ls [.ref q1]) rfl ?_
  refine lv_dup hx hb dL_law_11 rfl ?_
  refine Cx_goF (wc := [(q1, .inr (1, [.null, .int 0, .null, .null, .null, .null, .null, .int 0, .int 0, .null, .null]))]) (wx := [(q1, .inr (1, [.null, .int 0, .null, .null, .null, .null, .null, .int 0, .int 0, .null, .null]))]) (wr := w) (vx_runI (As := []) (rest := [.ref q1]) ⟨hx, hb, hml, hown, htl⟩ (c_X1_init l hst D k q1 gI5 gI50 hgI5 hgI50 H.size) (cwI 0 htl gL_law_X1_init rfl rfl rfl (hts (.initialized RX1) (by decide +kernel)) (hts (.methodLink RL 217 yX1_init) (by decide +kernel)) (hts (.instanceMethod yX1_init) (by decide +kernel)) rfl (by decide +kernel) ⟨(Nat.le_of_ble_eq_true rfl), (Nat.le_of_ble_eq_true rfl)⟩) ⟨Px_blind, Px_at (wc := [(q1, .inr (1, [.null, .int 0, .null, .null, .null, .null, .null, .int 0, .int 0, .null, .null]))]) hK hG hP hD hS hA [0] rfl (by decide)⟩ rfl rfl hl.1 rfl (Nat.le_of_ble_eq_true rfl) dL_law_12 ⟨(Nat.le_of_ble_eq_true rfl), (Nat.le_of_ble_eq_true rfl)⟩) hP hD hS hA rfl (fun _ _ _ _ _ h1 => nomatch h1) ?_
  intro ov B w1 H1 locs1 h1 hB hP hD hS
  cases h1
  obtain ⟨rfl, cB, nB, tB, rfl, rfl⟩ := hB
  have hu := obI k cB nB tB
  generalize trW k cB nB tB trI ++ stW k nB (stI gI5 gI50) ++ stW k tB (stI gI5 gI50) ++ poR k cB (fun _ => none) = u at hP hD hu
  have hP := P_perm ps2 hP
  have hD := D_perm ps2 hD
  refine W.widen (k := 58) (n := 688) (Nat.le_of_ble_eq_true rfl) (Nat.le_of_ble_eq_true rfl) ?_
  refine W.eq (g2 := F0 m 15 ls [.ref (cB 0)]) rfl ?_
  refine lv_astore_n (lv' := [(2, .ref (cB 0)), (1, .ref (cA 0)), (0, .ref b)]) hx hb dL_law_15 rfl hl (by decide) rfl (fun ls hl => ?_)
  have ok6 : okX 600 XI := okI.up (Nat.zero_le _)
  refine lv_aload_n hx hb dL_law_16 rfl (lv_at hl 1 rfl) ?_
  refine lv_aload_n hx hb dL_law_17 rfl (lv_at hl 0 rfl) ?_
  refine lv_aload_n hx hb dL_law_18 rfl (lv_at hl 2 rfl) ?_
  refine lv_iconst (v := 0) hx hb dL_law_19 (by decide) ?_
  refine lo_draw (j := 0) hLC (by omega) hP hD hS hl.1 (Nat.le_of_ble_eq_true rfl) dL_law_20 (by omega) (by omega) (fun H locs hP hD hS => ?_)
  have hLS : LTw D k s cA nA tA cB nB tB XI XI H := ⟨w, u, hw, hu, hP, hD⟩
  refine W.eq (g2 := F0 m 23 ls [.int (drV L xs 0), .ref (cB 0), .ref (cA 0)]) rfl ?_
  refine lo_alike hLC hLS hS hl.1 (Nat.le_of_ble_eq_true rfl) dL_law_23 (L_alike ok6 _) (by omega) (by omega) (fun H locs hLS hS => ?_)
  refine W.eq (g2 := F0 m 26 ls [.int 1]) rfl ?_
  refine lv_if_eq (tgt := 47) hx hb dL_law_26 (by decide) (fun q => absurd q (by decide)) (fun _ => ?_)
  refine lv_aload_n hx hb dL_law_29 rfl (lv_at hl 1 rfl) ?_
  refine lo_errors_p hLC hLS hS hl.1 (Nat.le_of_ble_eq_true rfl) dL_law_30 (L_errors ok6) (by omega) (by omega) (fun H locs hLS hS => ?_)
  refine W.eq (g2 := F0 m 33 ls [.int 1]) rfl ?_
  refine lv_if_eq (tgt := 47) hx hb dL_law_33 (by decide) (fun q => absurd q (by decide)) (fun _ => ?_)
  refine lv_aload_n hx hb dL_law_36 rfl (lv_at hl 1 rfl) ?_
  refine lo_built_p (X' := XI) hLC hLS hS hl.1 (Nat.le_of_ble_eq_true rfl) dL_law_37 (L_built ok6) (by omega) (by omega) (fun H locs hLS hS => ?_)
  refine W.eq (g2 := F0 m 40 ls [.int 1]) rfl ?_
  refine lv_if_eq (tgt := 47) hx hb dL_law_40 (by decide) (fun q => absurd q (by decide)) (fun _ => ?_)
  refine lv_iconst (v := 1) hx hb dL_law_43 (by decide) ?_
  refine lv_goto (tgt := 48) hx hb dL_law_44 (by decide) ?_
  refine lv_istore_n (lv' := [(3, .int 1), (2, .ref (cB 0)), (1, .ref (cA 0)), (0, .ref b)]) hx hb dL_law_48 rfl hl (by decide) rfl (fun ls hl => ?_)
  refine lv_iconst (v := 0) hx hb dL_law_49 (by decide) ?_
  refine lv_istore (lv' := [(4, .int 0), (3, .int 1), (2, .ref (cB 0)), (1, .ref (cA 0)), (0, .ref b)]) hx hb dL_law_50 hl (by decide) rfl (fun ls hl => ?_)
  refine W.widen (k := 1945 + 3493 * 0) (n := 12406 + 21596 * 0) (by omega) (by omega) ?_
  exact law_loop hLC (c9 := 1945) (s9 := 12406) (by omega) (by omega) (fun H locs ls hS => va_forget (fun q hq => hS.2.2 q hq) (lw_ret (d0 := s.drawn) (Drawn.sameBut.refl s.drawn lw_cs) hx hb hr hlocks dL_law_283)) 26 0 rfl XI H _ ls okI hLS hS (lv_sub hl [4, 3, 2, 1, 0] rfl)
