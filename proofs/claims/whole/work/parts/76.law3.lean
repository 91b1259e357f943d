section LAW
variable {p : Program} {l : Launch} {e : Env} {s : State} {m : MethodId} {below : List Frame} {meth : Method} {c : Code} {b L : Nat} {xs : Nat → Int32} {D : va_G} {k : Nat → ClassId} {cA nA tA bM : Nat → Nat} {oA dA nc : Nat} {cells slots : Nat} {Z : State → Prop} {T : TrV} {N V : StV} {Q : PoV} {tl : va_W} {M : MdV} {g : Nat → Int64} {gd : Nat → UInt64} {H : Heap} {locs : List Loc} {ls : Array Slot}
set_option maxRecDepth 100000 in
set_option maxHeartbeats 4000000 in
theorem law_scaledAfter (C0 : LC p s m meth c l b L xs D k) (hi : 4 * nc + 4 ≤ L) (hL : L ≤ 2048) (hI : INV nc T N Q M) (hT : PoIs k cA Q tl) (hP : va_P D vwCl (LWl k cA nA tA bM oA dA T N V M g gd tl) H) (hD : va_D (fun q : Nat => s.heap.size ≤ q) (LWl k cA nA tA bM oA dA T N V M g gd tl)) (hS : va_S (fun q : Nat => s.heap.size ≤ q) s.heap H locs) (hl : lv_has ls 10 [(0, .ref b), (1, .ref (cA 0)), (2, .ref (bM 0)), (3, .ref oA), (4, .ref dA), (5, .int (nI (4 * nc)))]) (hcl : cells + 40 ≤ 620558) (hsl : slots + 300 ≤ 7234429) (kk : LK p l e s m below meth c b D k cA nA tA bM oA dA nc cells slots Z) : W p l e room_1 s m #[.ref b] below meth c H locs cells slots Z (F0 m 1419 ls []) := by
  obtain ⟨⟨hx, hb, hr, hml, hown, hts, hX, hbl, hlocks, hgv⟩, hst, hK, hG, hC⟩ := id C0
  have hA : ∀ q : Nat, s.heap.size ≤ q → (fun q : Nat => s.heap.size ≤ q) q := fun _ h => h
  have hbA : ¬ (fun q : Nat => s.heap.size ≤ q) b := Nat.not_le.mpr hbl
  have htl : ∀ w ∈ wsL_law, w.before #[Value.ref b] s = true := fun w h => hts w (wsL_law_in w h)
  have hin : ∀ j, j < 4 → vp_in (nI (4 * nc + j)) L := fun j hj q => by
    rcases q with q | q
    · exact nI_pos (lt31 (by omega)) q
    · rw [nI_cl (by omega)] at q; omega
  refine lv_aload_n hx hb dL_law_1419 rfl (lv_at hl 1 rfl) ?_
  refine lv_aload_n hx hb dL_law_1420 rfl (lv_at hl 0 rfl) ?_
  refine lv_iload hx hb dL_law_1421 (lv_at hl 5 rfl) ?_
  refine lv_iconst (v := 1) hx hb dL_law_1423 (by decide) ?_
  refine lv_iadd hx hb dL_law_1424 ?_
  refine W.eq (g2 := F0 m 1425 ls [.int (nI (4 * nc + 1)), .ref b, .ref (cA 0)]) (by rw [show (1 : Int32) = nI 1 from rfl, nI_add]) ?_
  refine va_sld hx hb hX hbl hbA hS (hin 1 (by omega)) dL_law_1425 ?_
  refine W.eq (g2 := F0 m 1426 ls [.int (xs (4 * nc + 1)), .ref (cA 0)]) (by rw [nI_cl (by omega)]) ?_
  refine lv_aload_n hx hb dL_law_1426 rfl (lv_at hl 0 rfl) ?_
  refine lv_iload hx hb dL_law_1427 (lv_at hl 5 rfl) ?_
  refine lv_iconst (v := 2) hx hb dL_law_1429 (by decide) ?_
  refine lv_iadd hx hb dL_law_1430 ?_
  refine W.eq (g2 := F0 m 1431 ls [.int (nI (4 * nc + 2)), .ref b, .int (xs (4 * nc + 1)), .ref (cA 0)]) (by rw [show (2 : Int32) = nI 2 from rfl, nI_add]) ?_
  refine va_sld hx hb hX hbl hbA hS (hin 2 (by omega)) dL_law_1431 ?_
  refine W.eq (g2 := F0 m 1432 ls [.int (xs (4 * nc + 2)), .int (xs (4 * nc + 1)), .ref (cA 0)]) (by rw [nI_cl (by omega)]) ?_
  refine lv_aload_n hx hb dL_law_1432 rfl (lv_at hl 3 rfl) ?_
  obtain ⟨w0, Pp, bb, M', hy, hpm, hCl, hpost⟩ := w_scaledAfter (D := D) (V := V) (nA := nA) (tA := tA) hst hI (by omega) hT oA g ((xs (4 * nc + 1))) ((xs (4 * nc + 2)))
  have hq := pq_1 (md := mdW k bM M) (du := duW k dA gd) hpm
  refine Cx_goF (wc := w0) (wx := w0) (wr := (mdW k bM M ++ duW k dA gd)) (vx_runSX (As := [.ref (cA 0), .int (xs (4 * nc + 1)), .int (xs (4 * nc + 2)), .ref oA]) (rest := []) ⟨hx, hb, hml, hown, htl⟩ (hCl _) (vx_cwSW 4 htl gL_law_L_scaledAfter rfl rfl rfl (by decide +kernel) ⟨(Nat.le_of_ble_eq_true rfl), (Nat.le_of_ble_eq_true rfl)⟩) ⟨Pl_blind, Pl_at (wc := w0) hK hG hC (P_perm hq hP) (D_perm hq hD) hS hA (List.range w0.length) (rg_hi _ _) (rg_nd _)⟩ rfl rfl hl.1 rfl (Nat.le_of_ble_eq_true rfl) dL_law_1433 ⟨hcl, hsl⟩) (P_perm hq hP) (D_perm hq hD) hS hA rfl (fun _ _ _ _ _ h1 => nomatch h1) ?_
  intro ov B w1 H1 locs1 h1 hB hP1 hD1 hS1
  cases h1
  obtain ⟨kc, T', N', V', Q', tl', g', rfl, hmr, hk0, hpm2, hT2, hI2⟩ := hpost ov w1 hB
  obtain ⟨gd', egd⟩ : ∃ y, y = gd := ⟨_, rfl⟩
  rw [← egd] at hP1 hD1
  have hq2 := (pq_1 (md := mdW k bM M) (du := duW k dA gd') hpm2.symm).symm
  have hP : va_P D vwCl (trW k cA nA tA T' ++ stW k nA N' ++ stW k tA V' ++ mdW k bM M ++ ouW k oA g' ++ duW k dA gd' ++ tl') H1 := P_perm hq2 hP1
  have hD : va_D (fun q : Nat => s.heap.size ≤ q) (trW k cA nA tA T' ++ stW k nA N' ++ stW k tA V' ++ mdW k bM M ++ ouW k oA g' ++ duW k dA gd' ++ tl') := D_perm hq2 hD1
  have hS := hS1
  clear hP1 hD1 hS1
  refine W.eq (g2 := F0 m 1436 ls [.int kc]) rfl ?_
  refine lv_istore (lv' := [(6, .int kc), (0, .ref b), (1, .ref (cA 0)), (2, .ref (bM 0)), (3, .ref oA), (4, .ref dA), (5, .int (nI (4 * nc)))]) hx hb dL_law_1436 hl (by decide) rfl (fun ls hl => ?_)
  refine lv_aload_n hx hb dL_law_1438 rfl (lv_at hl 3 rfl) ?_
  refine lv_aload_n hx hb dL_law_1439 rfl (lv_at hl 1 rfl) ?_
  refine lv_iload hx hb dL_law_1440 (lv_at hl 6 rfl) ?_
  refine lv_iconst (v := 1) hx hb dL_law_1442 (by decide) ?_
  refine lv_iadd hx hb dL_law_1443 ?_
  refine W.eq (g2 := F0 m 1444 ls [.int (nI (4 * nc + 1)), .ref b, .ref (bM 0)]) (by rw [show (1 : Int32) = nI 1 from rfl, nI_add]) ?_
  refine va_sld hx hb hX hbl hbA hS (hin 1 (by omega)) dL_law_1444 ?_
  refine W.eq (g2 := F0 m 1445 ls [.int (xs (4 * nc + 1)), .ref (bM 0)]) (by rw [nI_cl (by omega)]) ?_
  refine lv_aload_n hx hb dL_law_1445 rfl (lv_at hl 1 rfl) ?_
  refine lv_iload hx hb dL_law_1446 (lv_at hl 6 rfl) ?_
  refine lv_iconst (v := 2) hx hb dL_law_1448 (by decide) ?_
  refine lv_iadd hx hb dL_law_1449 ?_
  refine W.eq (g2 := F0 m 1450 ls [.int (nI (4 * nc + 2)), .ref b, .int (xs (4 * nc + 1)), .ref (bM 0)]) (by rw [show (2 : Int32) = nI 2 from rfl, nI_add]) ?_
  refine va_sld hx hb hX hbl hbA hS (hin 2 (by omega)) dL_law_1450 ?_
  refine W.eq (g2 := F0 m 1451 ls [.int (xs (4 * nc + 2)), .int (xs (4 * nc + 1)), .ref (bM 0)]) (by rw [nI_cl (by omega)]) ?_
  refine Ck_V (As := [.int (xs (4 * nc + 1)), .int (xs (4 * nc + 2))]) (rest := []) (wc := mdW k bM M) (wc' := mdW k bM M') (w0' := trW k cA nA tA T' ++ stW k nA N' ++ stW k tA V' ++ mdW k bM M' ++ ouW k oA g' ++ duW k dA gd' ++ tl') ⟨hx, hb, hml, hown, htl⟩ (c_X2_scaledAfter l D k bM M ((xs (4 * nc + 1))) ((xs (4 * nc + 2))) bb M' hy) (cwV 2 htl gL_law_X2_scaledAfter rfl rfl rfl (by decide +kernel) ⟨(Nat.le_of_ble_eq_true rfl), (Nat.le_of_ble_eq_true rfl)⟩) hK hP hD hS hA (q0 := 26) (ci := 2) rfl rfl [26, 27, 28, 29, 30, 31, 32, 33, 34, 35] (hi_L rfl (hi_L rfl (hi_L rfl (hi_R rfl md_hi)))) (by decide) rfl (vs_L rfl (vs_L rfl (vs_L rfl (vs_R rfl md_all)))) rfl hl.1 rfl (Nat.le_of_ble_eq_true rfl) dL_law_1451 ⟨hcl, hsl⟩ (fun H locs hP hD hS => ?_)
  refine W.eq (g2 := F0 m 1454 ls [.int bb]) rfl ?_
  refine lv_istore (lv' := [(7, .int bb), (6, .int kc), (0, .ref b), (1, .ref (cA 0)), (2, .ref (bM 0)), (3, .ref oA), (4, .ref dA), (5, .int (nI (4 * nc)))]) hx hb dL_law_1454 hl (by decide) rfl (fun ls hl => ?_)
  refine lv_aload_n hx hb dL_law_1456 rfl (lv_at hl 4 rfl) ?_
  refine Ck_V (As := []) (rest := []) (wc := [mdO bM M']) (wc' := [mdO bM M']) (w0' := trW k cA nA tA T' ++ stW k nA N' ++ stW k tA V' ++ mdW k bM M' ++ ouW k oA g' ++ duW k dA gd' ++ tl') ⟨hx, hb, hml, hown, htl⟩ (c_X2_thrown l D k bM M' (m_ref M') rfl) (cwV 0 htl gL_law_X2_thrown rfl rfl rfl (by decide +kernel) ⟨(Nat.le_of_ble_eq_true rfl), (Nat.le_of_ble_eq_true rfl)⟩) hK hP hD hS hA (q0 := 26) (ci := 2) rfl rfl [26] rfl (by decide) rfl rfl rfl hl.1 rfl (Nat.le_of_ble_eq_true rfl) dL_law_1457 ⟨hcl, hsl⟩ (fun H locs hP hD hS => ?_)
  refine W.eq (g2 := F0 m 1460 ls [.int (m_ref M')]) rfl ?_
  refine lv_iload hx hb dL_law_1460 (lv_at hl 1 rfl) ?_
  refine lv_icmp_eq (tgt := 1467) hx hb dL_law_1462 (by decide) (fun c1 => ?_) (fun c1 => absurd hmr c1)
  have hend : W p l e room_1 s m #[.ref b] below meth c H locs (cells + 40) (slots + 300) Z (F0 m 1484 ls []) := by
    refine lv_goto (tgt := 1867) hx hb dL_law_1484 (by decide) ?_
    exact kk T' N' V' Q' tl' M' g' gd' _ _ ls hI2 hT2 hP hD hS (lv_sub hl [2, 3, 4, 5, 6, 7] rfl)
  refine W.widen (k := cells + 40) (n := slots + 300) (Nat.le_refl _) (Nat.le_refl _) ?_
  refine lv_iload hx hb dL_law_1467 (lv_at hl 1 rfl) ?_
  refine lv_if_ne (tgt := 1484) hx hb dL_law_1469 (by decide) (fun c2 => hend) (fun c2 => ?_)
  have hk9 : kc = 0 := c2
  obtain ⟨hG9, hg9⟩ := hk0 hk9
  refine lv_aload_n hx hb dL_law_1472 rfl (lv_at hl 5 rfl) ?_
  refine lv_iconst (v := 0) hx hb dL_law_1473 (by decide) ?_
  refine va_lald hx hb hK hP 36 4 rfl rfl (inb_vp (by decide)) dL_law_1474 ?_
  refine W.eq (g2 := F0 m 1475 ls [.long (g' 0)]) rfl ?_
  refine lv_iload hx hb dL_law_1475 (lv_at hl 0 rfl) ?_
  refine lv_i2l hx hb dL_law_1477 rfl ?_
  refine W.lcmp hx hb dL_law_1478 ?_
  have e0 : lg_cmp (g' 0) (bb.toInt64) = 0 := by rw [hg9]; simp [lg_cmp]
  exact lv_if_eq (tgt := 1484) hx hb dL_law_1479 (by decide) (fun c3 => hend) (fun c3 => absurd e0 c3)
set_option maxRecDepth 100000 in
set_option maxHeartbeats 4000000 in
theorem law_steamFor (C0 : LC p s m meth c l b L xs D k) (hi : 4 * nc + 4 ≤ L) (hL : L ≤ 2048) (hI : INV nc T N Q M) (hT : PoIs k cA Q tl) (hP : va_P D vwCl (LWl k cA nA tA bM oA dA T N V M g gd tl) H) (hD : va_D (fun q : Nat => s.heap.size ≤ q) (LWl k cA nA tA bM oA dA T N V M g gd tl)) (hS : va_S (fun q : Nat => s.heap.size ≤ q) s.heap H locs) (hl : lv_has ls 10 [(0, .ref b), (1, .ref (cA 0)), (2, .ref (bM 0)), (3, .ref oA), (4, .ref dA), (5, .int (nI (4 * nc)))]) (hcl : cells + 40 ≤ 620558) (hsl : slots + 300 ≤ 7234429) (kk : LK p l e s m below meth c b D k cA nA tA bM oA dA nc cells slots Z) : W p l e room_1 s m #[.ref b] below meth c H locs cells slots Z (F0 m 1487 ls []) := by
  obtain ⟨⟨hx, hb, hr, hml, hown, hts, hX, hbl, hlocks, hgv⟩, hst, hK, hG, hC⟩ := id C0
  have hA : ∀ q : Nat, s.heap.size ≤ q → (fun q : Nat => s.heap.size ≤ q) q := fun _ h => h
  have hbA : ¬ (fun q : Nat => s.heap.size ≤ q) b := Nat.not_le.mpr hbl
  have htl : ∀ w ∈ wsL_law, w.before #[Value.ref b] s = true := fun w h => hts w (wsL_law_in w h)
  have hin : ∀ j, j < 4 → vp_in (nI (4 * nc + j)) L := fun j hj q => by
    rcases q with q | q
    · exact nI_pos (lt31 (by omega)) q
    · rw [nI_cl (by omega)] at q; omega
  refine lv_aload_n hx hb dL_law_1487 rfl (lv_at hl 1 rfl) ?_
  refine lv_aload_n hx hb dL_law_1488 rfl (lv_at hl 0 rfl) ?_
  refine lv_iload hx hb dL_law_1489 (lv_at hl 5 rfl) ?_
  refine lv_iconst (v := 1) hx hb dL_law_1491 (by decide) ?_
  refine lv_iadd hx hb dL_law_1492 ?_
  refine W.eq (g2 := F0 m 1493 ls [.int (nI (4 * nc + 1)), .ref b, .ref (cA 0)]) (by rw [show (1 : Int32) = nI 1 from rfl, nI_add]) ?_
  refine va_sld hx hb hX hbl hbA hS (hin 1 (by omega)) dL_law_1493 ?_
  refine W.eq (g2 := F0 m 1494 ls [.int (xs (4 * nc + 1)), .ref (cA 0)]) (by rw [nI_cl (by omega)]) ?_
  refine lv_aload_n hx hb dL_law_1494 rfl (lv_at hl 0 rfl) ?_
  refine lv_iload hx hb dL_law_1495 (lv_at hl 5 rfl) ?_
  refine lv_iconst (v := 2) hx hb dL_law_1497 (by decide) ?_
  refine lv_iadd hx hb dL_law_1498 ?_
  refine W.eq (g2 := F0 m 1499 ls [.int (nI (4 * nc + 2)), .ref b, .int (xs (4 * nc + 1)), .ref (cA 0)]) (by rw [show (2 : Int32) = nI 2 from rfl, nI_add]) ?_
  refine va_sld hx hb hX hbl hbA hS (hin 2 (by omega)) dL_law_1499 ?_
  refine W.eq (g2 := F0 m 1500 ls [.int (xs (4 * nc + 2)), .int (xs (4 * nc + 1)), .ref (cA 0)]) (by rw [nI_cl (by omega)]) ?_
  refine lv_aload_n hx hb dL_law_1500 rfl (lv_at hl 3 rfl) ?_
  obtain ⟨w0, Pp, bb, M', hy, hpm, hCl, hpost⟩ := w_steamFor (D := D) (V := V) (nA := nA) (tA := tA) hst hI (by omega) hT oA g ((xs (4 * nc + 1))) ((xs (4 * nc + 2)))
  have hq := pq_1 (md := mdW k bM M) (du := duW k dA gd) hpm
  refine Cx_goF (wc := w0) (wx := w0) (wr := (mdW k bM M ++ duW k dA gd)) (vx_runSX (As := [.ref (cA 0), .int (xs (4 * nc + 1)), .int (xs (4 * nc + 2)), .ref oA]) (rest := []) ⟨hx, hb, hml, hown, htl⟩ (hCl _) (vx_cwSW 4 htl gL_law_L_steamFor rfl rfl rfl (by decide +kernel) ⟨(Nat.le_of_ble_eq_true rfl), (Nat.le_of_ble_eq_true rfl)⟩) ⟨Pl_blind, Pl_at (wc := w0) hK hG hC (P_perm hq hP) (D_perm hq hD) hS hA (List.range w0.length) (rg_hi _ _) (rg_nd _)⟩ rfl rfl hl.1 rfl (Nat.le_of_ble_eq_true rfl) dL_law_1501 ⟨hcl, hsl⟩) (P_perm hq hP) (D_perm hq hD) hS hA rfl (fun _ _ _ _ _ h1 => nomatch h1) ?_
  intro ov B w1 H1 locs1 h1 hB hP1 hD1 hS1
  cases h1
  obtain ⟨kc, T', N', V', Q', tl', g', rfl, hmr, hk0, hpm2, hT2, hI2⟩ := hpost ov w1 hB
  obtain ⟨gd', egd⟩ : ∃ y, y = gd := ⟨_, rfl⟩
  rw [← egd] at hP1 hD1
  have hq2 := (pq_1 (md := mdW k bM M) (du := duW k dA gd') hpm2.symm).symm
  have hP : va_P D vwCl (trW k cA nA tA T' ++ stW k nA N' ++ stW k tA V' ++ mdW k bM M ++ ouW k oA g' ++ duW k dA gd' ++ tl') H1 := P_perm hq2 hP1
  have hD : va_D (fun q : Nat => s.heap.size ≤ q) (trW k cA nA tA T' ++ stW k nA N' ++ stW k tA V' ++ mdW k bM M ++ ouW k oA g' ++ duW k dA gd' ++ tl') := D_perm hq2 hD1
  have hS := hS1
  clear hP1 hD1 hS1
  refine W.eq (g2 := F0 m 1504 ls [.int kc]) rfl ?_
  refine lv_istore (lv' := [(6, .int kc), (0, .ref b), (1, .ref (cA 0)), (2, .ref (bM 0)), (3, .ref oA), (4, .ref dA), (5, .int (nI (4 * nc)))]) hx hb dL_law_1504 hl (by decide) rfl (fun ls hl => ?_)
  refine lv_aload_n hx hb dL_law_1506 rfl (lv_at hl 3 rfl) ?_
  refine lv_aload_n hx hb dL_law_1507 rfl (lv_at hl 1 rfl) ?_
  refine lv_iload hx hb dL_law_1508 (lv_at hl 6 rfl) ?_
  refine lv_iconst (v := 1) hx hb dL_law_1510 (by decide) ?_
  refine lv_iadd hx hb dL_law_1511 ?_
  refine W.eq (g2 := F0 m 1512 ls [.int (nI (4 * nc + 1)), .ref b, .ref (bM 0)]) (by rw [show (1 : Int32) = nI 1 from rfl, nI_add]) ?_
  refine va_sld hx hb hX hbl hbA hS (hin 1 (by omega)) dL_law_1512 ?_
  refine W.eq (g2 := F0 m 1513 ls [.int (xs (4 * nc + 1)), .ref (bM 0)]) (by rw [nI_cl (by omega)]) ?_
  refine lv_aload_n hx hb dL_law_1513 rfl (lv_at hl 1 rfl) ?_
  refine lv_iload hx hb dL_law_1514 (lv_at hl 6 rfl) ?_
  refine lv_iconst (v := 2) hx hb dL_law_1516 (by decide) ?_
  refine lv_iadd hx hb dL_law_1517 ?_
  refine W.eq (g2 := F0 m 1518 ls [.int (nI (4 * nc + 2)), .ref b, .int (xs (4 * nc + 1)), .ref (bM 0)]) (by rw [show (2 : Int32) = nI 2 from rfl, nI_add]) ?_
  refine va_sld hx hb hX hbl hbA hS (hin 2 (by omega)) dL_law_1518 ?_
  refine W.eq (g2 := F0 m 1519 ls [.int (xs (4 * nc + 2)), .int (xs (4 * nc + 1)), .ref (bM 0)]) (by rw [nI_cl (by omega)]) ?_
  refine Ck_V (As := [.int (xs (4 * nc + 1)), .int (xs (4 * nc + 2))]) (rest := []) (wc := mdW k bM M) (wc' := mdW k bM M') (w0' := trW k cA nA tA T' ++ stW k nA N' ++ stW k tA V' ++ mdW k bM M' ++ ouW k oA g' ++ duW k dA gd' ++ tl') ⟨hx, hb, hml, hown, htl⟩ (c_X2_steamFor l D k bM M ((xs (4 * nc + 1))) ((xs (4 * nc + 2))) bb M' hy) (cwV 2 htl gL_law_X2_steamFor rfl rfl rfl (by decide +kernel) ⟨(Nat.le_of_ble_eq_true rfl), (Nat.le_of_ble_eq_true rfl)⟩) hK hP hD hS hA (q0 := 26) (ci := 2) rfl rfl [26, 27, 28, 29, 30, 31, 32, 33, 34, 35] (hi_L rfl (hi_L rfl (hi_L rfl (hi_R rfl md_hi)))) (by decide) rfl (vs_L rfl (vs_L rfl (vs_L rfl (vs_R rfl md_all)))) rfl hl.1 rfl (Nat.le_of_ble_eq_true rfl) dL_law_1519 ⟨hcl, hsl⟩ (fun H locs hP hD hS => ?_)
  refine W.eq (g2 := F0 m 1522 ls [.int bb]) rfl ?_
  refine lv_istore (lv' := [(7, .int bb), (6, .int kc), (0, .ref b), (1, .ref (cA 0)), (2, .ref (bM 0)), (3, .ref oA), (4, .ref dA), (5, .int (nI (4 * nc)))]) hx hb dL_law_1522 hl (by decide) rfl (fun ls hl => ?_)
  refine lv_aload_n hx hb dL_law_1524 rfl (lv_at hl 4 rfl) ?_
  refine Ck_V (As := []) (rest := []) (wc := [mdO bM M']) (wc' := [mdO bM M']) (w0' := trW k cA nA tA T' ++ stW k nA N' ++ stW k tA V' ++ mdW k bM M' ++ ouW k oA g' ++ duW k dA gd' ++ tl') ⟨hx, hb, hml, hown, htl⟩ (c_X2_thrown l D k bM M' (m_ref M') rfl) (cwV 0 htl gL_law_X2_thrown rfl rfl rfl (by decide +kernel) ⟨(Nat.le_of_ble_eq_true rfl), (Nat.le_of_ble_eq_true rfl)⟩) hK hP hD hS hA (q0 := 26) (ci := 2) rfl rfl [26] rfl (by decide) rfl rfl rfl hl.1 rfl (Nat.le_of_ble_eq_true rfl) dL_law_1525 ⟨hcl, hsl⟩ (fun H locs hP hD hS => ?_)
  refine W.eq (g2 := F0 m 1528 ls [.int (m_ref M')]) rfl ?_
  refine lv_iload hx hb dL_law_1528 (lv_at hl 1 rfl) ?_
  refine lv_icmp_eq (tgt := 1535) hx hb dL_law_1530 (by decide) (fun c1 => ?_) (fun c1 => absurd hmr c1)
  have hend : W p l e room_1 s m #[.ref b] below meth c H locs (cells + 40) (slots + 300) Z (F0 m 1552 ls []) := by
    refine lv_goto (tgt := 1867) hx hb dL_law_1552 (by decide) ?_
    exact kk T' N' V' Q' tl' M' g' gd' _ _ ls hI2 hT2 hP hD hS (lv_sub hl [2, 3, 4, 5, 6, 7] rfl)
  refine W.widen (k := cells + 40) (n := slots + 300) (Nat.le_refl _) (Nat.le_refl _) ?_
  refine lv_iload hx hb dL_law_1535 (lv_at hl 1 rfl) ?_
  refine lv_if_ne (tgt := 1552) hx hb dL_law_1537 (by decide) (fun c2 => hend) (fun c2 => ?_)
  have hk9 : kc = 0 := c2
  obtain ⟨hG9, hg9⟩ := hk0 hk9
  refine lv_aload_n hx hb dL_law_1540 rfl (lv_at hl 5 rfl) ?_
  refine lv_iconst (v := 0) hx hb dL_law_1541 (by decide) ?_
  refine va_lald hx hb hK hP 36 4 rfl rfl (inb_vp (by decide)) dL_law_1542 ?_
  refine W.eq (g2 := F0 m 1543 ls [.long (g' 0)]) rfl ?_
  refine lv_iload hx hb dL_law_1543 (lv_at hl 0 rfl) ?_
  refine lv_i2l hx hb dL_law_1545 rfl ?_
  refine W.lcmp hx hb dL_law_1546 ?_
  have e0 : lg_cmp (g' 0) (bb.toInt64) = 0 := by rw [hg9]; simp [lg_cmp]
  exact lv_if_eq (tgt := 1552) hx hb dL_law_1547 (by decide) (fun c3 => hend) (fun c3 => absurd e0 c3)
set_option maxRecDepth 100000 in
set_option maxHeartbeats 4000000 in
theorem law_runScript (C0 : LC p s m meth c l b L xs D k) (hi : 4 * nc + 4 ≤ L) (hL : L ≤ 2048) (hI : INV nc T N Q M) (hT : PoIs k cA Q tl) (hP : va_P D vwCl (LWl k cA nA tA bM oA dA T N V M g gd tl) H) (hD : va_D (fun q : Nat => s.heap.size ≤ q) (LWl k cA nA tA bM oA dA T N V M g gd tl)) (hS : va_S (fun q : Nat => s.heap.size ≤ q) s.heap H locs) (hl : lv_has ls 10 [(0, .ref b), (1, .ref (cA 0)), (2, .ref (bM 0)), (3, .ref oA), (4, .ref dA), (5, .int (nI (4 * nc)))]) (hcl : cells + 40 ≤ 620558) (hsl : slots + 300 ≤ 7234429) (kk : LK p l e s m below meth c b D k cA nA tA bM oA dA nc cells slots Z) : W p l e room_1 s m #[.ref b] below meth c H locs cells slots Z (F0 m 1555 ls []) := by
  obtain ⟨⟨hx, hb, hr, hml, hown, hts, hX, hbl, hlocks, hgv⟩, hst, hK, hG, hC⟩ := id C0
  have hA : ∀ q : Nat, s.heap.size ≤ q → (fun q : Nat => s.heap.size ≤ q) q := fun _ h => h
  have hbA : ¬ (fun q : Nat => s.heap.size ≤ q) b := Nat.not_le.mpr hbl
  have htl : ∀ w ∈ wsL_law, w.before #[Value.ref b] s = true := fun w h => hts w (wsL_law_in w h)
  have hin : ∀ j, j < 4 → vp_in (nI (4 * nc + j)) L := fun j hj q => by
    rcases q with q | q
    · exact nI_pos (lt31 (by omega)) q
    · rw [nI_cl (by omega)] at q; omega
  obtain ⟨lg, elg⟩ : ∃ lg : Int64, lg = (((xs (4 * nc + 2)).toInt64) <<< ((32 : Int32).toInt64 &&& 63)) ||| (((xs (4 * nc + 3)).toInt64) &&& 4294967295) := ⟨_, rfl⟩
  refine lv_aload_n hx hb dL_law_1555 rfl (lv_at hl 1 rfl) ?_
  refine lv_aload_n hx hb dL_law_1556 rfl (lv_at hl 0 rfl) ?_
  refine lv_iload hx hb dL_law_1557 (lv_at hl 5 rfl) ?_
  refine lv_iconst (v := 1) hx hb dL_law_1559 (by decide) ?_
  refine lv_iadd hx hb dL_law_1560 ?_
  refine W.eq (g2 := F0 m 1561 ls [.int (nI (4 * nc + 1)), .ref b, .ref (cA 0)]) (by rw [show (1 : Int32) = nI 1 from rfl, nI_add]) ?_
  refine va_sld hx hb hX hbl hbA hS (hin 1 (by omega)) dL_law_1561 ?_
  refine W.eq (g2 := F0 m 1562 ls [.int (xs (4 * nc + 1)), .ref (cA 0)]) (by rw [nI_cl (by omega)]) ?_
  refine lv_aload_n hx hb dL_law_1562 rfl (lv_at hl 0 rfl) ?_
  refine lv_iload hx hb dL_law_1563 (lv_at hl 5 rfl) ?_
  refine lv_iconst (v := 2) hx hb dL_law_1565 (by decide) ?_
  refine lv_iadd hx hb dL_law_1566 ?_
  refine W.eq (g2 := F0 m 1567 ls [.int (nI (4 * nc + 2)), .ref b, .int (xs (4 * nc + 1)), .ref (cA 0)]) (by rw [show (2 : Int32) = nI 2 from rfl, nI_add]) ?_
  refine va_sld hx hb hX hbl hbA hS (hin 2 (by omega)) dL_law_1567 ?_
  refine W.eq (g2 := F0 m 1568 ls [.int (xs (4 * nc + 2)), .int (xs (4 * nc + 1)), .ref (cA 0)]) (by rw [nI_cl (by omega)]) ?_
  refine lv_i2l hx hb dL_law_1568 rfl ?_
  refine lv_bipush (v := 32) hx hb dL_law_1569 (by decide) ?_
  refine lv_lshl hx hb dL_law_1571 rfl ?_
  refine lv_aload_n hx hb dL_law_1572 rfl (lv_at hl 0 rfl) ?_
  refine lv_iload hx hb dL_law_1573 (lv_at hl 5 rfl) ?_
  refine lv_iconst (v := 3) hx hb dL_law_1575 (by decide) ?_
  refine lv_iadd hx hb dL_law_1576 ?_
  refine W.eq (g2 := F0 m 1577 ls [.int (nI (4 * nc + 3)), .ref b, .long (((xs (4 * nc + 2)).toInt64) <<< ((32 : Int32).toInt64 &&& 63)), .int (xs (4 * nc + 1)), .ref (cA 0)]) (by rw [show (3 : Int32) = nI 3 from rfl, nI_add]) ?_
  refine va_sld hx hb hX hbl hbA hS (hin 3 (by omega)) dL_law_1577 ?_
  refine W.eq (g2 := F0 m 1578 ls [.int (xs (4 * nc + 3)), .long (((xs (4 * nc + 2)).toInt64) <<< ((32 : Int32).toInt64 &&& 63)), .int (xs (4 * nc + 1)), .ref (cA 0)]) (by rw [nI_cl (by omega)]) ?_
  refine lv_i2l hx hb dL_law_1578 rfl ?_
  refine lv_ldc2 (v := 4294967295) hx hb hown (htl (.constantLong RL 183 (4294967295)) wsL_c183) dL_law_1579 ?_
  refine lv_land hx hb dL_law_1582 ?_
  refine lv_lor hx hb dL_law_1583 ?_
  refine W.eq (g2 := F0 m 1584 ls [.long lg, .int (xs (4 * nc + 1)), .ref (cA 0)]) (by rw [elg]) ?_
  refine lv_aload_n hx hb dL_law_1584 rfl (lv_at hl 3 rfl) ?_
  obtain ⟨w0, Pp, bb, M', hy, hpm, hCl, hpost⟩ := w_runScript (D := D) (V := V) (nA := nA) (tA := tA) hst hI (by omega) hT oA g ((xs (4 * nc + 1))) (lg)
  have hq := pq_1 (md := mdW k bM M) (du := duW k dA gd) hpm
  refine Cx_goF (wc := w0) (wx := w0) (wr := (mdW k bM M ++ duW k dA gd)) (vx_runSX (As := [.ref (cA 0), .int (xs (4 * nc + 1)), .long lg, .ref oA]) (rest := []) ⟨hx, hb, hml, hown, htl⟩ (hCl _) (vx_cwSW 4 htl gL_law_L_runScript rfl rfl rfl (by decide +kernel) ⟨(Nat.le_of_ble_eq_true rfl), (Nat.le_of_ble_eq_true rfl)⟩) ⟨Pl_blind, Pl_at (wc := w0) hK hG hC (P_perm hq hP) (D_perm hq hD) hS hA (List.range w0.length) (rg_hi _ _) (rg_nd _)⟩ rfl rfl hl.1 rfl (Nat.le_of_ble_eq_true rfl) dL_law_1585 ⟨hcl, hsl⟩) (P_perm hq hP) (D_perm hq hD) hS hA rfl (fun _ _ _ _ _ h1 => nomatch h1) ?_
  intro ov B w1 H1 locs1 h1 hB hP1 hD1 hS1
  cases h1
  obtain ⟨kc, T', N', V', Q', tl', g', rfl, hmr, hk0, hpm2, hT2, hI2⟩ := hpost ov w1 hB
  obtain ⟨gd', egd⟩ : ∃ y, y = gd := ⟨_, rfl⟩
  rw [← egd] at hP1 hD1
  have hq2 := (pq_1 (md := mdW k bM M) (du := duW k dA gd') hpm2.symm).symm
  have hP : va_P D vwCl (trW k cA nA tA T' ++ stW k nA N' ++ stW k tA V' ++ mdW k bM M ++ ouW k oA g' ++ duW k dA gd' ++ tl') H1 := P_perm hq2 hP1
  have hD : va_D (fun q : Nat => s.heap.size ≤ q) (trW k cA nA tA T' ++ stW k nA N' ++ stW k tA V' ++ mdW k bM M ++ ouW k oA g' ++ duW k dA gd' ++ tl') := D_perm hq2 hD1
  have hS := hS1
  clear hP1 hD1 hS1
  refine W.eq (g2 := F0 m 1588 ls [.int kc]) rfl ?_
  refine lv_istore (lv' := [(6, .int kc), (0, .ref b), (1, .ref (cA 0)), (2, .ref (bM 0)), (3, .ref oA), (4, .ref dA), (5, .int (nI (4 * nc)))]) hx hb dL_law_1588 hl (by decide) rfl (fun ls hl => ?_)
  refine lv_aload_n hx hb dL_law_1590 rfl (lv_at hl 3 rfl) ?_
  refine lv_aload_n hx hb dL_law_1591 rfl (lv_at hl 1 rfl) ?_
  refine lv_iload hx hb dL_law_1592 (lv_at hl 6 rfl) ?_
  refine lv_iconst (v := 1) hx hb dL_law_1594 (by decide) ?_
  refine lv_iadd hx hb dL_law_1595 ?_
  refine W.eq (g2 := F0 m 1596 ls [.int (nI (4 * nc + 1)), .ref b, .ref (bM 0)]) (by rw [show (1 : Int32) = nI 1 from rfl, nI_add]) ?_
  refine va_sld hx hb hX hbl hbA hS (hin 1 (by omega)) dL_law_1596 ?_
  refine W.eq (g2 := F0 m 1597 ls [.int (xs (4 * nc + 1)), .ref (bM 0)]) (by rw [nI_cl (by omega)]) ?_
  refine lv_aload_n hx hb dL_law_1597 rfl (lv_at hl 1 rfl) ?_
  refine lv_iload hx hb dL_law_1598 (lv_at hl 6 rfl) ?_
  refine lv_iconst (v := 2) hx hb dL_law_1600 (by decide) ?_
  refine lv_iadd hx hb dL_law_1601 ?_
  refine W.eq (g2 := F0 m 1602 ls [.int (nI (4 * nc + 2)), .ref b, .int (xs (4 * nc + 1)), .ref (bM 0)]) (by rw [show (2 : Int32) = nI 2 from rfl, nI_add]) ?_
  refine va_sld hx hb hX hbl hbA hS (hin 2 (by omega)) dL_law_1602 ?_
  refine W.eq (g2 := F0 m 1603 ls [.int (xs (4 * nc + 2)), .int (xs (4 * nc + 1)), .ref (bM 0)]) (by rw [nI_cl (by omega)]) ?_
  refine lv_i2l hx hb dL_law_1603 rfl ?_
  refine lv_bipush (v := 32) hx hb dL_law_1604 (by decide) ?_
  refine lv_lshl hx hb dL_law_1606 rfl ?_
  refine lv_aload_n hx hb dL_law_1607 rfl (lv_at hl 1 rfl) ?_
  refine lv_iload hx hb dL_law_1608 (lv_at hl 6 rfl) ?_
  refine lv_iconst (v := 3) hx hb dL_law_1610 (by decide) ?_
  refine lv_iadd hx hb dL_law_1611 ?_
  refine W.eq (g2 := F0 m 1612 ls [.int (nI (4 * nc + 3)), .ref b, .long (((xs (4 * nc + 2)).toInt64) <<< ((32 : Int32).toInt64 &&& 63)), .int (xs (4 * nc + 1)), .ref (bM 0)]) (by rw [show (3 : Int32) = nI 3 from rfl, nI_add]) ?_
  refine va_sld hx hb hX hbl hbA hS (hin 3 (by omega)) dL_law_1612 ?_
  refine W.eq (g2 := F0 m 1613 ls [.int (xs (4 * nc + 3)), .long (((xs (4 * nc + 2)).toInt64) <<< ((32 : Int32).toInt64 &&& 63)), .int (xs (4 * nc + 1)), .ref (bM 0)]) (by rw [nI_cl (by omega)]) ?_
  refine lv_i2l hx hb dL_law_1613 rfl ?_
  refine lv_ldc2 (v := 4294967295) hx hb hown (htl (.constantLong RL 183 (4294967295)) wsL_c183) dL_law_1614 ?_
  refine lv_land hx hb dL_law_1617 ?_
  refine lv_lor hx hb dL_law_1618 ?_
  refine W.eq (g2 := F0 m 1619 ls [.long lg, .int (xs (4 * nc + 1)), .ref (bM 0)]) (by rw [elg]) ?_
  refine Ck_V (As := [.int (xs (4 * nc + 1)), .long lg]) (rest := []) (wc := mdW k bM M) (wc' := mdW k bM M') (w0' := trW k cA nA tA T' ++ stW k nA N' ++ stW k tA V' ++ mdW k bM M' ++ ouW k oA g' ++ duW k dA gd' ++ tl') ⟨hx, hb, hml, hown, htl⟩ (c_X2_runScript l D k bM M ((xs (4 * nc + 1))) (lg) bb M' hy) (cwV 2 htl gL_law_X2_runScript rfl rfl rfl (by decide +kernel) ⟨(Nat.le_of_ble_eq_true rfl), (Nat.le_of_ble_eq_true rfl)⟩) hK hP hD hS hA (q0 := 26) (ci := 2) rfl rfl [26, 27, 28, 29, 30, 31, 32, 33, 34, 35] (hi_L rfl (hi_L rfl (hi_L rfl (hi_R rfl md_hi)))) (by decide) rfl (vs_L rfl (vs_L rfl (vs_L rfl (vs_R rfl md_all)))) rfl hl.1 rfl (Nat.le_of_ble_eq_true rfl) dL_law_1619 ⟨hcl, hsl⟩ (fun H locs hP hD hS => ?_)
  refine W.eq (g2 := F0 m 1622 ls [.int bb]) rfl ?_
  refine lv_istore (lv' := [(7, .int bb), (6, .int kc), (0, .ref b), (1, .ref (cA 0)), (2, .ref (bM 0)), (3, .ref oA), (4, .ref dA), (5, .int (nI (4 * nc)))]) hx hb dL_law_1622 hl (by decide) rfl (fun ls hl => ?_)
  refine lv_aload_n hx hb dL_law_1624 rfl (lv_at hl 4 rfl) ?_
  refine Ck_V (As := []) (rest := []) (wc := [mdO bM M']) (wc' := [mdO bM M']) (w0' := trW k cA nA tA T' ++ stW k nA N' ++ stW k tA V' ++ mdW k bM M' ++ ouW k oA g' ++ duW k dA gd' ++ tl') ⟨hx, hb, hml, hown, htl⟩ (c_X2_thrown l D k bM M' (m_ref M') rfl) (cwV 0 htl gL_law_X2_thrown rfl rfl rfl (by decide +kernel) ⟨(Nat.le_of_ble_eq_true rfl), (Nat.le_of_ble_eq_true rfl)⟩) hK hP hD hS hA (q0 := 26) (ci := 2) rfl rfl [26] rfl (by decide) rfl rfl rfl hl.1 rfl (Nat.le_of_ble_eq_true rfl) dL_law_1625 ⟨hcl, hsl⟩ (fun H locs hP hD hS => ?_)
  refine W.eq (g2 := F0 m 1628 ls [.int (m_ref M')]) rfl ?_
  refine lv_iload hx hb dL_law_1628 (lv_at hl 1 rfl) ?_
  refine lv_icmp_eq (tgt := 1635) hx hb dL_law_1630 (by decide) (fun c1 => ?_) (fun c1 => absurd hmr c1)
  have hend : W p l e room_1 s m #[.ref b] below meth c H locs (cells + 40) (slots + 300) Z (F0 m 1652 ls []) := by
    refine lv_goto (tgt := 1867) hx hb dL_law_1652 (by decide) ?_
    exact kk T' N' V' Q' tl' M' g' gd' _ _ ls hI2 hT2 hP hD hS (lv_sub hl [2, 3, 4, 5, 6, 7] rfl)
  refine W.widen (k := cells + 40) (n := slots + 300) (Nat.le_refl _) (Nat.le_refl _) ?_
  refine lv_iload hx hb dL_law_1635 (lv_at hl 1 rfl) ?_
  refine lv_if_ne (tgt := 1652) hx hb dL_law_1637 (by decide) (fun c2 => hend) (fun c2 => ?_)
  have hk9 : kc = 0 := c2
  obtain ⟨hG9, hg9⟩ := hk0 hk9
  refine lv_aload_n hx hb dL_law_1640 rfl (lv_at hl 5 rfl) ?_
  refine lv_iconst (v := 0) hx hb dL_law_1641 (by decide) ?_
  refine va_lald hx hb hK hP 36 4 rfl rfl (inb_vp (by decide)) dL_law_1642 ?_
  refine W.eq (g2 := F0 m 1643 ls [.long (g' 0)]) rfl ?_
  refine lv_iload hx hb dL_law_1643 (lv_at hl 0 rfl) ?_
  refine lv_i2l hx hb dL_law_1645 rfl ?_
  refine W.lcmp hx hb dL_law_1646 ?_
  have e0 : lg_cmp (g' 0) (bb.toInt64) = 0 := by rw [hg9]; simp [lg_cmp]
  exact lv_if_eq (tgt := 1652) hx hb dL_law_1647 (by decide) (fun c3 => hend) (fun c3 => absurd e0 c3)
set_option maxRecDepth 100000 in
set_option maxHeartbeats 4000000 in
theorem law_simulate (C0 : LC p s m meth c l b L xs D k) (hi : 4 * nc + 4 ≤ L) (hL : L ≤ 2048) (hI : INV nc T N Q M) (hT : PoIs k cA Q tl) (hP : va_P D vwCl (LWl k cA nA tA bM oA dA T N V M g gd tl) H) (hD : va_D (fun q : Nat => s.heap.size ≤ q) (LWl k cA nA tA bM oA dA T N V M g gd tl)) (hS : va_S (fun q : Nat => s.heap.size ≤ q) s.heap H locs) (hl : lv_has ls 10 [(0, .ref b), (1, .ref (cA 0)), (2, .ref (bM 0)), (3, .ref oA), (4, .ref dA), (5, .int (nI (4 * nc)))]) (hcl : cells + 40 ≤ 620558) (hsl : slots + 300 ≤ 7234429) (kk : LK p l e s m below meth c b D k cA nA tA bM oA dA nc cells slots Z) : W p l e room_1 s m #[.ref b] below meth c H locs cells slots Z (F0 m 1655 ls []) := by
  obtain ⟨⟨hx, hb, hr, hml, hown, hts, hX, hbl, hlocks, hgv⟩, hst, hK, hG, hC⟩ := id C0
  have hA : ∀ q : Nat, s.heap.size ≤ q → (fun q : Nat => s.heap.size ≤ q) q := fun _ h => h
  have hbA : ¬ (fun q : Nat => s.heap.size ≤ q) b := Nat.not_le.mpr hbl
  have htl : ∀ w ∈ wsL_law, w.before #[Value.ref b] s = true := fun w h => hts w (wsL_law_in w h)
  have hin : ∀ j, j < 4 → vp_in (nI (4 * nc + j)) L := fun j hj q => by
    rcases q with q | q
    · exact nI_pos (lt31 (by omega)) q
    · rw [nI_cl (by omega)] at q; omega
  obtain ⟨lg, elg⟩ : ∃ lg : Int64, lg = (((xs (4 * nc + 1)).toInt64) <<< ((32 : Int32).toInt64 &&& 63)) ||| (((xs (4 * nc + 2)).toInt64) &&& 4294967295) := ⟨_, rfl⟩
  refine lv_aload_n hx hb dL_law_1655 rfl (lv_at hl 1 rfl) ?_
  refine lv_aload_n hx hb dL_law_1656 rfl (lv_at hl 0 rfl) ?_
  refine lv_iload hx hb dL_law_1657 (lv_at hl 5 rfl) ?_
  refine lv_iconst (v := 1) hx hb dL_law_1659 (by decide) ?_
  refine lv_iadd hx hb dL_law_1660 ?_
  refine W.eq (g2 := F0 m 1661 ls [.int (nI (4 * nc + 1)), .ref b, .ref (cA 0)]) (by rw [show (1 : Int32) = nI 1 from rfl, nI_add]) ?_
  refine va_sld hx hb hX hbl hbA hS (hin 1 (by omega)) dL_law_1661 ?_
  refine W.eq (g2 := F0 m 1662 ls [.int (xs (4 * nc + 1)), .ref (cA 0)]) (by rw [nI_cl (by omega)]) ?_
  refine lv_i2l hx hb dL_law_1662 rfl ?_
  refine lv_bipush (v := 32) hx hb dL_law_1663 (by decide) ?_
  refine lv_lshl hx hb dL_law_1665 rfl ?_
  refine lv_aload_n hx hb dL_law_1666 rfl (lv_at hl 0 rfl) ?_
  refine lv_iload hx hb dL_law_1667 (lv_at hl 5 rfl) ?_
  refine lv_iconst (v := 2) hx hb dL_law_1669 (by decide) ?_
  refine lv_iadd hx hb dL_law_1670 ?_
  refine W.eq (g2 := F0 m 1671 ls [.int (nI (4 * nc + 2)), .ref b, .long (((xs (4 * nc + 1)).toInt64) <<< ((32 : Int32).toInt64 &&& 63)), .ref (cA 0)]) (by rw [show (2 : Int32) = nI 2 from rfl, nI_add]) ?_
  refine va_sld hx hb hX hbl hbA hS (hin 2 (by omega)) dL_law_1671 ?_
  refine W.eq (g2 := F0 m 1672 ls [.int (xs (4 * nc + 2)), .long (((xs (4 * nc + 1)).toInt64) <<< ((32 : Int32).toInt64 &&& 63)), .ref (cA 0)]) (by rw [nI_cl (by omega)]) ?_
  refine lv_i2l hx hb dL_law_1672 rfl ?_
  refine lv_ldc2 (v := 4294967295) hx hb hown (htl (.constantLong RL 183 (4294967295)) wsL_c183) dL_law_1673 ?_
  refine lv_land hx hb dL_law_1676 ?_
  refine lv_lor hx hb dL_law_1677 ?_
  refine W.eq (g2 := F0 m 1678 ls [.long lg, .ref (cA 0)]) (by rw [elg]) ?_
  refine lv_aload_n hx hb dL_law_1678 rfl (lv_at hl 0 rfl) ?_
  refine lv_iload hx hb dL_law_1679 (lv_at hl 5 rfl) ?_
  refine lv_iconst (v := 3) hx hb dL_law_1681 (by decide) ?_
  refine lv_iadd hx hb dL_law_1682 ?_
  refine W.eq (g2 := F0 m 1683 ls [.int (nI (4 * nc + 3)), .ref b, .long lg, .ref (cA 0)]) (by rw [show (3 : Int32) = nI 3 from rfl, nI_add]) ?_
  refine va_sld hx hb hX hbl hbA hS (hin 3 (by omega)) dL_law_1683 ?_
  refine W.eq (g2 := F0 m 1684 ls [.int (xs (4 * nc + 3)), .long lg, .ref (cA 0)]) (by rw [nI_cl (by omega)]) ?_
  refine lv_aload_n hx hb dL_law_1684 rfl (lv_at hl 3 rfl) ?_
  obtain ⟨w0, Pp, bb, M', hy, hpm, hCl, hpost⟩ := w_simulate (D := D) (V := V) (nA := nA) (tA := tA) hst hI (by omega) hT oA g (lg) ((xs (4 * nc + 3)))
  have hq := pq_1 (md := mdW k bM M) (du := duW k dA gd) hpm
  refine Cx_goF (wc := w0) (wx := w0) (wr := (mdW k bM M ++ duW k dA gd)) (vx_runSX (As := [.ref (cA 0), .long lg, .int (xs (4 * nc + 3)), .ref oA]) (rest := []) ⟨hx, hb, hml, hown, htl⟩ (hCl _) (vx_cwSW 4 htl gL_law_L_simulate rfl rfl rfl (by decide +kernel) ⟨(Nat.le_of_ble_eq_true rfl), (Nat.le_of_ble_eq_true rfl)⟩) ⟨Pl_blind, Pl_at (wc := w0) hK hG hC (P_perm hq hP) (D_perm hq hD) hS hA (List.range w0.length) (rg_hi _ _) (rg_nd _)⟩ rfl rfl hl.1 rfl (Nat.le_of_ble_eq_true rfl) dL_law_1685 ⟨hcl, hsl⟩) (P_perm hq hP) (D_perm hq hD) hS hA rfl (fun _ _ _ _ _ h1 => nomatch h1) ?_
  intro ov B w1 H1 locs1 h1 hB hP1 hD1 hS1
  cases h1
  obtain ⟨kc, T', N', V', Q', tl', g', rfl, hmr, hk0, hpm2, hT2, hI2⟩ := hpost ov w1 hB
  obtain ⟨gd', egd⟩ : ∃ y, y = gd := ⟨_, rfl⟩
  rw [← egd] at hP1 hD1
  have hq2 := (pq_1 (md := mdW k bM M) (du := duW k dA gd') hpm2.symm).symm
  have hP : va_P D vwCl (trW k cA nA tA T' ++ stW k nA N' ++ stW k tA V' ++ mdW k bM M ++ ouW k oA g' ++ duW k dA gd' ++ tl') H1 := P_perm hq2 hP1
  have hD : va_D (fun q : Nat => s.heap.size ≤ q) (trW k cA nA tA T' ++ stW k nA N' ++ stW k tA V' ++ mdW k bM M ++ ouW k oA g' ++ duW k dA gd' ++ tl') := D_perm hq2 hD1
  have hS := hS1
  clear hP1 hD1 hS1
  refine W.eq (g2 := F0 m 1688 ls [.int kc]) rfl ?_
  refine lv_istore (lv' := [(6, .int kc), (0, .ref b), (1, .ref (cA 0)), (2, .ref (bM 0)), (3, .ref oA), (4, .ref dA), (5, .int (nI (4 * nc)))]) hx hb dL_law_1688 hl (by decide) rfl (fun ls hl => ?_)
  refine lv_aload_n hx hb dL_law_1690 rfl (lv_at hl 3 rfl) ?_
  refine lv_aload_n hx hb dL_law_1691 rfl (lv_at hl 1 rfl) ?_
  refine lv_iload hx hb dL_law_1692 (lv_at hl 6 rfl) ?_
  refine lv_iconst (v := 1) hx hb dL_law_1694 (by decide) ?_
  refine lv_iadd hx hb dL_law_1695 ?_
  refine W.eq (g2 := F0 m 1696 ls [.int (nI (4 * nc + 1)), .ref b, .ref (bM 0)]) (by rw [show (1 : Int32) = nI 1 from rfl, nI_add]) ?_
  refine va_sld hx hb hX hbl hbA hS (hin 1 (by omega)) dL_law_1696 ?_
  refine W.eq (g2 := F0 m 1697 ls [.int (xs (4 * nc + 1)), .ref (bM 0)]) (by rw [nI_cl (by omega)]) ?_
  refine lv_i2l hx hb dL_law_1697 rfl ?_
  refine lv_bipush (v := 32) hx hb dL_law_1698 (by decide) ?_
  refine lv_lshl hx hb dL_law_1700 rfl ?_
  refine lv_aload_n hx hb dL_law_1701 rfl (lv_at hl 1 rfl) ?_
  refine lv_iload hx hb dL_law_1702 (lv_at hl 6 rfl) ?_
  refine lv_iconst (v := 2) hx hb dL_law_1704 (by decide) ?_
  refine lv_iadd hx hb dL_law_1705 ?_
  refine W.eq (g2 := F0 m 1706 ls [.int (nI (4 * nc + 2)), .ref b, .long (((xs (4 * nc + 1)).toInt64) <<< ((32 : Int32).toInt64 &&& 63)), .ref (bM 0)]) (by rw [show (2 : Int32) = nI 2 from rfl, nI_add]) ?_
  refine va_sld hx hb hX hbl hbA hS (hin 2 (by omega)) dL_law_1706 ?_
  refine W.eq (g2 := F0 m 1707 ls [.int (xs (4 * nc + 2)), .long (((xs (4 * nc + 1)).toInt64) <<< ((32 : Int32).toInt64 &&& 63)), .ref (bM 0)]) (by rw [nI_cl (by omega)]) ?_
  refine lv_i2l hx hb dL_law_1707 rfl ?_
  refine lv_ldc2 (v := 4294967295) hx hb hown (htl (.constantLong RL 183 (4294967295)) wsL_c183) dL_law_1708 ?_
  refine lv_land hx hb dL_law_1711 ?_
  refine lv_lor hx hb dL_law_1712 ?_
  refine W.eq (g2 := F0 m 1713 ls [.long lg, .ref (bM 0)]) (by rw [elg]) ?_
  refine lv_aload_n hx hb dL_law_1713 rfl (lv_at hl 1 rfl) ?_
  refine lv_iload hx hb dL_law_1714 (lv_at hl 6 rfl) ?_
  refine lv_iconst (v := 3) hx hb dL_law_1716 (by decide) ?_
  refine lv_iadd hx hb dL_law_1717 ?_
  refine W.eq (g2 := F0 m 1718 ls [.int (nI (4 * nc + 3)), .ref b, .long lg, .ref (bM 0)]) (by rw [show (3 : Int32) = nI 3 from rfl, nI_add]) ?_
  refine va_sld hx hb hX hbl hbA hS (hin 3 (by omega)) dL_law_1718 ?_
  refine W.eq (g2 := F0 m 1719 ls [.int (xs (4 * nc + 3)), .long lg, .ref (bM 0)]) (by rw [nI_cl (by omega)]) ?_
  refine Ck_V (As := [.long lg, .int (xs (4 * nc + 3))]) (rest := []) (wc := mdW k bM M) (wc' := mdW k bM M') (w0' := trW k cA nA tA T' ++ stW k nA N' ++ stW k tA V' ++ mdW k bM M' ++ ouW k oA g' ++ duW k dA gd' ++ tl') ⟨hx, hb, hml, hown, htl⟩ (c_X2_simulate l D k bM M (lg) ((xs (4 * nc + 3))) bb M' hy) (cwV 2 htl gL_law_X2_simulate rfl rfl rfl (by decide +kernel) ⟨(Nat.le_of_ble_eq_true rfl), (Nat.le_of_ble_eq_true rfl)⟩) hK hP hD hS hA (q0 := 26) (ci := 2) rfl rfl [26, 27, 28, 29, 30, 31, 32, 33, 34, 35] (hi_L rfl (hi_L rfl (hi_L rfl (hi_R rfl md_hi)))) (by decide) rfl (vs_L rfl (vs_L rfl (vs_L rfl (vs_R rfl md_all)))) rfl hl.1 rfl (Nat.le_of_ble_eq_true rfl) dL_law_1719 ⟨hcl, hsl⟩ (fun H locs hP hD hS => ?_)
  refine W.eq (g2 := F0 m 1722 ls [.int bb]) rfl ?_
  refine lv_istore (lv' := [(7, .int bb), (6, .int kc), (0, .ref b), (1, .ref (cA 0)), (2, .ref (bM 0)), (3, .ref oA), (4, .ref dA), (5, .int (nI (4 * nc)))]) hx hb dL_law_1722 hl (by decide) rfl (fun ls hl => ?_)
  refine lv_aload_n hx hb dL_law_1724 rfl (lv_at hl 4 rfl) ?_
  refine Ck_V (As := []) (rest := []) (wc := [mdO bM M']) (wc' := [mdO bM M']) (w0' := trW k cA nA tA T' ++ stW k nA N' ++ stW k tA V' ++ mdW k bM M' ++ ouW k oA g' ++ duW k dA gd' ++ tl') ⟨hx, hb, hml, hown, htl⟩ (c_X2_thrown l D k bM M' (m_ref M') rfl) (cwV 0 htl gL_law_X2_thrown rfl rfl rfl (by decide +kernel) ⟨(Nat.le_of_ble_eq_true rfl), (Nat.le_of_ble_eq_true rfl)⟩) hK hP hD hS hA (q0 := 26) (ci := 2) rfl rfl [26] rfl (by decide) rfl rfl rfl hl.1 rfl (Nat.le_of_ble_eq_true rfl) dL_law_1725 ⟨hcl, hsl⟩ (fun H locs hP hD hS => ?_)
  refine W.eq (g2 := F0 m 1728 ls [.int (m_ref M')]) rfl ?_
  refine lv_iload hx hb dL_law_1728 (lv_at hl 1 rfl) ?_
  refine lv_icmp_eq (tgt := 1735) hx hb dL_law_1730 (by decide) (fun c1 => ?_) (fun c1 => absurd hmr c1)
  have hend : W p l e room_1 s m #[.ref b] below meth c H locs (cells + 40) (slots + 300) Z (F0 m 1752 ls []) := by
    refine lv_goto (tgt := 1867) hx hb dL_law_1752 (by decide) ?_
    exact kk T' N' V' Q' tl' M' g' gd' _ _ ls hI2 hT2 hP hD hS (lv_sub hl [2, 3, 4, 5, 6, 7] rfl)
  refine W.widen (k := cells + 40) (n := slots + 300) (Nat.le_refl _) (Nat.le_refl _) ?_
  refine lv_iload hx hb dL_law_1735 (lv_at hl 1 rfl) ?_
  refine lv_if_ne (tgt := 1752) hx hb dL_law_1737 (by decide) (fun c2 => hend) (fun c2 => ?_)
  have hk9 : kc = 0 := c2
  obtain ⟨hG9, hg9⟩ := hk0 hk9
  refine lv_aload_n hx hb dL_law_1740 rfl (lv_at hl 5 rfl) ?_
  refine lv_iconst (v := 0) hx hb dL_law_1741 (by decide) ?_
  refine va_lald hx hb hK hP 36 4 rfl rfl (inb_vp (by decide)) dL_law_1742 ?_
  refine W.eq (g2 := F0 m 1743 ls [.long (g' 0)]) rfl ?_
  refine lv_iload hx hb dL_law_1743 (lv_at hl 0 rfl) ?_
  refine lv_i2l hx hb dL_law_1745 rfl ?_
  refine W.lcmp hx hb dL_law_1746 ?_
  have e0 : lg_cmp (g' 0) (bb.toInt64) = 0 := by rw [hg9]; simp [lg_cmp]
  exact lv_if_eq (tgt := 1752) hx hb dL_law_1747 (by decide) (fun c3 => hend) (fun c3 => absurd e0 c3)
set_option maxRecDepth 100000 in
set_option maxHeartbeats 4000000 in
theorem law_save (C0 : LC p s m meth c l b L xs D k) (hi : 4 * nc + 4 ≤ L) (hL : L ≤ 2048) (hI : INV nc T N Q M) (hT : PoIs k cA Q tl) (hP : va_P D vwCl (LWl k cA nA tA bM oA dA T N V M g gd tl) H) (hD : va_D (fun q : Nat => s.heap.size ≤ q) (LWl k cA nA tA bM oA dA T N V M g gd tl)) (hS : va_S (fun q : Nat => s.heap.size ≤ q) s.heap H locs) (hl : lv_has ls 10 [(0, .ref b), (1, .ref (cA 0)), (2, .ref (bM 0)), (3, .ref oA), (4, .ref dA), (5, .int (nI (4 * nc)))]) (hcl : cells + 40 ≤ 620558) (hsl : slots + 300 ≤ 7234429) (kk : LK p l e s m below meth c b D k cA nA tA bM oA dA nc cells slots Z) : W p l e room_1 s m #[.ref b] below meth c H locs cells slots Z (F0 m 1755 ls []) := by
  obtain ⟨⟨hx, hb, hr, hml, hown, hts, hX, hbl, hlocks, hgv⟩, hst, hK, hG, hC⟩ := id C0
  have hA : ∀ q : Nat, s.heap.size ≤ q → (fun q : Nat => s.heap.size ≤ q) q := fun _ h => h
  have hbA : ¬ (fun q : Nat => s.heap.size ≤ q) b := Nat.not_le.mpr hbl
  have htl : ∀ w ∈ wsL_law, w.before #[Value.ref b] s = true := fun w h => hts w (wsL_law_in w h)
  have hin : ∀ j, j < 4 → vp_in (nI (4 * nc + j)) L := fun j hj q => by
    rcases q with q | q
    · exact nI_pos (lt31 (by omega)) q
    · rw [nI_cl (by omega)] at q; omega
  refine lv_aload_n hx hb dL_law_1755 rfl (lv_at hl 1 rfl) ?_
  refine lv_aload_n hx hb dL_law_1756 rfl (lv_at hl 0 rfl) ?_
  refine lv_iload hx hb dL_law_1757 (lv_at hl 5 rfl) ?_
  refine lv_iconst (v := 1) hx hb dL_law_1759 (by decide) ?_
  refine lv_iadd hx hb dL_law_1760 ?_
  refine W.eq (g2 := F0 m 1761 ls [.int (nI (4 * nc + 1)), .ref b, .ref (cA 0)]) (by rw [show (1 : Int32) = nI 1 from rfl, nI_add]) ?_
  refine va_sld hx hb hX hbl hbA hS (hin 1 (by omega)) dL_law_1761 ?_
  refine W.eq (g2 := F0 m 1762 ls [.int (xs (4 * nc + 1)), .ref (cA 0)]) (by rw [nI_cl (by omega)]) ?_
  refine lv_aload_n hx hb dL_law_1762 rfl (lv_at hl 3 rfl) ?_
  obtain ⟨w0, Pp, bb, M', hy, hpm, hCl, hpost⟩ := w_save (D := D) (V := V) (nA := nA) (tA := tA) hst hI (by omega) hT oA g ((xs (4 * nc + 1)))
  have hq := pq_1 (md := mdW k bM M) (du := duW k dA gd) hpm
  refine Cx_goF (wc := w0) (wx := w0) (wr := (mdW k bM M ++ duW k dA gd)) (vx_runSX (As := [.ref (cA 0), .int (xs (4 * nc + 1)), .ref oA]) (rest := []) ⟨hx, hb, hml, hown, htl⟩ (hCl _) (vx_cwSW 3 htl gL_law_L_save rfl rfl rfl (by decide +kernel) ⟨(Nat.le_of_ble_eq_true rfl), (Nat.le_of_ble_eq_true rfl)⟩) ⟨Pl_blind, Pl_at (wc := w0) hK hG hC (P_perm hq hP) (D_perm hq hD) hS hA (List.range w0.length) (rg_hi _ _) (rg_nd _)⟩ rfl rfl hl.1 rfl (Nat.le_of_ble_eq_true rfl) dL_law_1763 ⟨hcl, hsl⟩) (P_perm hq hP) (D_perm hq hD) hS hA rfl (fun _ _ _ _ _ h1 => nomatch h1) ?_
  intro ov B w1 H1 locs1 h1 hB hP1 hD1 hS1
  cases h1
  obtain ⟨kc, T', N', V', Q', tl', g', rfl, hmr, hk0, hpm2, hT2, hI2⟩ := hpost ov w1 hB
  obtain ⟨gd', egd⟩ : ∃ y, y = gd := ⟨_, rfl⟩
  rw [← egd] at hP1 hD1
  have hq2 := (pq_1 (md := mdW k bM M) (du := duW k dA gd') hpm2.symm).symm
  have hP : va_P D vwCl (trW k cA nA tA T' ++ stW k nA N' ++ stW k tA V' ++ mdW k bM M ++ ouW k oA g' ++ duW k dA gd' ++ tl') H1 := P_perm hq2 hP1
  have hD : va_D (fun q : Nat => s.heap.size ≤ q) (trW k cA nA tA T' ++ stW k nA N' ++ stW k tA V' ++ mdW k bM M ++ ouW k oA g' ++ duW k dA gd' ++ tl') := D_perm hq2 hD1
  have hS := hS1
  clear hP1 hD1 hS1
  refine W.eq (g2 := F0 m 1766 ls [.int kc]) rfl ?_
  refine lv_istore (lv' := [(6, .int kc), (0, .ref b), (1, .ref (cA 0)), (2, .ref (bM 0)), (3, .ref oA), (4, .ref dA), (5, .int (nI (4 * nc)))]) hx hb dL_law_1766 hl (by decide) rfl (fun ls hl => ?_)
  refine lv_aload_n hx hb dL_law_1768 rfl (lv_at hl 3 rfl) ?_
  refine lv_aload_n hx hb dL_law_1769 rfl (lv_at hl 1 rfl) ?_
  refine lv_iload hx hb dL_law_1770 (lv_at hl 6 rfl) ?_
  refine lv_iconst (v := 1) hx hb dL_law_1772 (by decide) ?_
  refine lv_iadd hx hb dL_law_1773 ?_
  refine W.eq (g2 := F0 m 1774 ls [.int (nI (4 * nc + 1)), .ref b, .ref (bM 0)]) (by rw [show (1 : Int32) = nI 1 from rfl, nI_add]) ?_
  refine va_sld hx hb hX hbl hbA hS (hin 1 (by omega)) dL_law_1774 ?_
  refine W.eq (g2 := F0 m 1775 ls [.int (xs (4 * nc + 1)), .ref (bM 0)]) (by rw [nI_cl (by omega)]) ?_
  refine Ck_V (As := [.int (xs (4 * nc + 1))]) (rest := []) (wc := mdW k bM M) (wc' := mdW k bM M') (w0' := trW k cA nA tA T' ++ stW k nA N' ++ stW k tA V' ++ mdW k bM M' ++ ouW k oA g' ++ duW k dA gd' ++ tl') ⟨hx, hb, hml, hown, htl⟩ (c_X2_save l D k bM M ((xs (4 * nc + 1))) bb M' hy) (cwV 1 htl gL_law_X2_save rfl rfl rfl (by decide +kernel) ⟨(Nat.le_of_ble_eq_true rfl), (Nat.le_of_ble_eq_true rfl)⟩) hK hP hD hS hA (q0 := 26) (ci := 2) rfl rfl [26, 27, 28, 29, 30, 31, 32, 33, 34, 35] (hi_L rfl (hi_L rfl (hi_L rfl (hi_R rfl md_hi)))) (by decide) rfl (vs_L rfl (vs_L rfl (vs_L rfl (vs_R rfl md_all)))) rfl hl.1 rfl (Nat.le_of_ble_eq_true rfl) dL_law_1775 ⟨hcl, hsl⟩ (fun H locs hP hD hS => ?_)
  refine W.eq (g2 := F0 m 1778 ls [.int bb]) rfl ?_
  refine lv_istore (lv' := [(7, .int bb), (6, .int kc), (0, .ref b), (1, .ref (cA 0)), (2, .ref (bM 0)), (3, .ref oA), (4, .ref dA), (5, .int (nI (4 * nc)))]) hx hb dL_law_1778 hl (by decide) rfl (fun ls hl => ?_)
  refine lv_aload_n hx hb dL_law_1780 rfl (lv_at hl 4 rfl) ?_
  refine Ck_V (As := []) (rest := []) (wc := [mdO bM M']) (wc' := [mdO bM M']) (w0' := trW k cA nA tA T' ++ stW k nA N' ++ stW k tA V' ++ mdW k bM M' ++ ouW k oA g' ++ duW k dA gd' ++ tl') ⟨hx, hb, hml, hown, htl⟩ (c_X2_thrown l D k bM M' (m_ref M') rfl) (cwV 0 htl gL_law_X2_thrown rfl rfl rfl (by decide +kernel) ⟨(Nat.le_of_ble_eq_true rfl), (Nat.le_of_ble_eq_true rfl)⟩) hK hP hD hS hA (q0 := 26) (ci := 2) rfl rfl [26] rfl (by decide) rfl rfl rfl hl.1 rfl (Nat.le_of_ble_eq_true rfl) dL_law_1781 ⟨hcl, hsl⟩ (fun H locs hP hD hS => ?_)
  refine W.eq (g2 := F0 m 1784 ls [.int (m_ref M')]) rfl ?_
  refine lv_iload hx hb dL_law_1784 (lv_at hl 1 rfl) ?_
  refine lv_icmp_eq (tgt := 1791) hx hb dL_law_1786 (by decide) (fun c1 => ?_) (fun c1 => absurd hmr c1)
  have hend : W p l e room_1 s m #[.ref b] below meth c H locs (cells + 40) (slots + 300) Z (F0 m 1808 ls []) := by
    refine lv_goto (tgt := 1867) hx hb dL_law_1808 (by decide) ?_
    exact kk T' N' V' Q' tl' M' g' gd' _ _ ls hI2 hT2 hP hD hS (lv_sub hl [2, 3, 4, 5, 6, 7] rfl)
  refine W.widen (k := cells + 40) (n := slots + 300) (Nat.le_refl _) (Nat.le_refl _) ?_
  refine lv_iload hx hb dL_law_1791 (lv_at hl 1 rfl) ?_
  refine lv_if_ne (tgt := 1808) hx hb dL_law_1793 (by decide) (fun c2 => hend) (fun c2 => ?_)
  have hk9 : kc = 0 := c2
  obtain ⟨hG9, hg9⟩ := hk0 hk9
  refine lv_aload_n hx hb dL_law_1796 rfl (lv_at hl 5 rfl) ?_
  refine lv_iconst (v := 0) hx hb dL_law_1797 (by decide) ?_
  refine va_lald hx hb hK hP 36 4 rfl rfl (inb_vp (by decide)) dL_law_1798 ?_
  refine W.eq (g2 := F0 m 1799 ls [.long (g' 0)]) rfl ?_
  refine lv_iload hx hb dL_law_1799 (lv_at hl 0 rfl) ?_
  refine lv_i2l hx hb dL_law_1801 rfl ?_
  refine W.lcmp hx hb dL_law_1802 ?_
  have e0 : lg_cmp (g' 0) (bb.toInt64) = 0 := by rw [hg9]; simp [lg_cmp]
  exact lv_if_eq (tgt := 1808) hx hb dL_law_1803 (by decide) (fun c3 => hend) (fun c3 => absurd e0 c3)
set_option maxRecDepth 100000 in
set_option maxHeartbeats 4000000 in
theorem law_restore (C0 : LC p s m meth c l b L xs D k) (hi : 4 * nc + 4 ≤ L) (hL : L ≤ 2048) (hI : INV nc T N Q M) (hT : PoIs k cA Q tl) (hP : va_P D vwCl (LWl k cA nA tA bM oA dA T N V M g gd tl) H) (hD : va_D (fun q : Nat => s.heap.size ≤ q) (LWl k cA nA tA bM oA dA T N V M g gd tl)) (hS : va_S (fun q : Nat => s.heap.size ≤ q) s.heap H locs) (hl : lv_has ls 10 [(0, .ref b), (1, .ref (cA 0)), (2, .ref (bM 0)), (3, .ref oA), (4, .ref dA), (5, .int (nI (4 * nc)))]) (hcl : cells + 40 ≤ 620558) (hsl : slots + 300 ≤ 7234429) (kk : LK p l e s m below meth c b D k cA nA tA bM oA dA nc cells slots Z) : W p l e room_1 s m #[.ref b] below meth c H locs cells slots Z (F0 m 1811 ls []) := by
  obtain ⟨⟨hx, hb, hr, hml, hown, hts, hX, hbl, hlocks, hgv⟩, hst, hK, hG, hC⟩ := id C0
  have hA : ∀ q : Nat, s.heap.size ≤ q → (fun q : Nat => s.heap.size ≤ q) q := fun _ h => h
  have hbA : ¬ (fun q : Nat => s.heap.size ≤ q) b := Nat.not_le.mpr hbl
  have htl : ∀ w ∈ wsL_law, w.before #[Value.ref b] s = true := fun w h => hts w (wsL_law_in w h)
  have hin : ∀ j, j < 4 → vp_in (nI (4 * nc + j)) L := fun j hj q => by
    rcases q with q | q
    · exact nI_pos (lt31 (by omega)) q
    · rw [nI_cl (by omega)] at q; omega
  refine lv_aload_n hx hb dL_law_1811 rfl (lv_at hl 1 rfl) ?_
  refine lv_aload_n hx hb dL_law_1812 rfl (lv_at hl 0 rfl) ?_
  refine lv_iload hx hb dL_law_1813 (lv_at hl 5 rfl) ?_
  refine lv_iconst (v := 1) hx hb dL_law_1815 (by decide) ?_
  refine lv_iadd hx hb dL_law_1816 ?_
  refine W.eq (g2 := F0 m 1817 ls [.int (nI (4 * nc + 1)), .ref b, .ref (cA 0)]) (by rw [show (1 : Int32) = nI 1 from rfl, nI_add]) ?_
  refine va_sld hx hb hX hbl hbA hS (hin 1 (by omega)) dL_law_1817 ?_
  refine W.eq (g2 := F0 m 1818 ls [.int (xs (4 * nc + 1)), .ref (cA 0)]) (by rw [nI_cl (by omega)]) ?_
  refine lv_aload_n hx hb dL_law_1818 rfl (lv_at hl 3 rfl) ?_
  obtain ⟨w0, Pp, bb, M', hy, hpm, hCl, hpost⟩ := w_restore (D := D) (V := V) (nA := nA) (tA := tA) hst hI (by omega) hT oA g ((xs (4 * nc + 1)))
  have hq := pq_1 (md := mdW k bM M) (du := duW k dA gd) hpm
  refine Cx_goF (wc := w0) (wx := w0) (wr := (mdW k bM M ++ duW k dA gd)) (vx_runSX (As := [.ref (cA 0), .int (xs (4 * nc + 1)), .ref oA]) (rest := []) ⟨hx, hb, hml, hown, htl⟩ (hCl _) (vx_cwSW 3 htl gL_law_L_restore rfl rfl rfl (by decide +kernel) ⟨(Nat.le_of_ble_eq_true rfl), (Nat.le_of_ble_eq_true rfl)⟩) ⟨Pl_blind, Pl_at (wc := w0) hK hG hC (P_perm hq hP) (D_perm hq hD) hS hA (List.range w0.length) (rg_hi _ _) (rg_nd _)⟩ rfl rfl hl.1 rfl (Nat.le_of_ble_eq_true rfl) dL_law_1819 ⟨hcl, hsl⟩) (P_perm hq hP) (D_perm hq hD) hS hA rfl (fun _ _ _ _ _ h1 => nomatch h1) ?_
  intro ov B w1 H1 locs1 h1 hB hP1 hD1 hS1
  cases h1
  obtain ⟨kc, T', N', V', Q', tl', g', rfl, hmr, hk0, hpm2, hT2, hI2⟩ := hpost ov w1 hB
  obtain ⟨gd', egd⟩ : ∃ y, y = gd := ⟨_, rfl⟩
  rw [← egd] at hP1 hD1
  have hq2 := (pq_1 (md := mdW k bM M) (du := duW k dA gd') hpm2.symm).symm
  have hP : va_P D vwCl (trW k cA nA tA T' ++ stW k nA N' ++ stW k tA V' ++ mdW k bM M ++ ouW k oA g' ++ duW k dA gd' ++ tl') H1 := P_perm hq2 hP1
  have hD : va_D (fun q : Nat => s.heap.size ≤ q) (trW k cA nA tA T' ++ stW k nA N' ++ stW k tA V' ++ mdW k bM M ++ ouW k oA g' ++ duW k dA gd' ++ tl') := D_perm hq2 hD1
  have hS := hS1
  clear hP1 hD1 hS1
  refine W.eq (g2 := F0 m 1822 ls [.int kc]) rfl ?_
  refine lv_istore (lv' := [(6, .int kc), (0, .ref b), (1, .ref (cA 0)), (2, .ref (bM 0)), (3, .ref oA), (4, .ref dA), (5, .int (nI (4 * nc)))]) hx hb dL_law_1822 hl (by decide) rfl (fun ls hl => ?_)
  refine lv_aload_n hx hb dL_law_1824 rfl (lv_at hl 3 rfl) ?_
  refine lv_aload_n hx hb dL_law_1825 rfl (lv_at hl 1 rfl) ?_
  refine lv_iload hx hb dL_law_1826 (lv_at hl 6 rfl) ?_
  refine lv_iconst (v := 1) hx hb dL_law_1828 (by decide) ?_
  refine lv_iadd hx hb dL_law_1829 ?_
  refine W.eq (g2 := F0 m 1830 ls [.int (nI (4 * nc + 1)), .ref b, .ref (bM 0)]) (by rw [show (1 : Int32) = nI 1 from rfl, nI_add]) ?_
  refine va_sld hx hb hX hbl hbA hS (hin 1 (by omega)) dL_law_1830 ?_
  refine W.eq (g2 := F0 m 1831 ls [.int (xs (4 * nc + 1)), .ref (bM 0)]) (by rw [nI_cl (by omega)]) ?_
  refine Ck_V (As := [.int (xs (4 * nc + 1))]) (rest := []) (wc := mdW k bM M) (wc' := mdW k bM M') (w0' := trW k cA nA tA T' ++ stW k nA N' ++ stW k tA V' ++ mdW k bM M' ++ ouW k oA g' ++ duW k dA gd' ++ tl') ⟨hx, hb, hml, hown, htl⟩ (c_X2_restore l D k bM M ((xs (4 * nc + 1))) bb M' hy) (cwV 1 htl gL_law_X2_restore rfl rfl rfl (by decide +kernel) ⟨(Nat.le_of_ble_eq_true rfl), (Nat.le_of_ble_eq_true rfl)⟩) hK hP hD hS hA (q0 := 26) (ci := 2) rfl rfl [26, 27, 28, 29, 30, 31, 32, 33, 34, 35] (hi_L rfl (hi_L rfl (hi_L rfl (hi_R rfl md_hi)))) (by decide) rfl (vs_L rfl (vs_L rfl (vs_L rfl (vs_R rfl md_all)))) rfl hl.1 rfl (Nat.le_of_ble_eq_true rfl) dL_law_1831 ⟨hcl, hsl⟩ (fun H locs hP hD hS => ?_)
  refine W.eq (g2 := F0 m 1834 ls [.int bb]) rfl ?_
  refine lv_istore (lv' := [(7, .int bb), (6, .int kc), (0, .ref b), (1, .ref (cA 0)), (2, .ref (bM 0)), (3, .ref oA), (4, .ref dA), (5, .int (nI (4 * nc)))]) hx hb dL_law_1834 hl (by decide) rfl (fun ls hl => ?_)
  refine lv_aload_n hx hb dL_law_1836 rfl (lv_at hl 4 rfl) ?_
  refine Ck_V (As := []) (rest := []) (wc := [mdO bM M']) (wc' := [mdO bM M']) (w0' := trW k cA nA tA T' ++ stW k nA N' ++ stW k tA V' ++ mdW k bM M' ++ ouW k oA g' ++ duW k dA gd' ++ tl') ⟨hx, hb, hml, hown, htl⟩ (c_X2_thrown l D k bM M' (m_ref M') rfl) (cwV 0 htl gL_law_X2_thrown rfl rfl rfl (by decide +kernel) ⟨(Nat.le_of_ble_eq_true rfl), (Nat.le_of_ble_eq_true rfl)⟩) hK hP hD hS hA (q0 := 26) (ci := 2) rfl rfl [26] rfl (by decide) rfl rfl rfl hl.1 rfl (Nat.le_of_ble_eq_true rfl) dL_law_1837 ⟨hcl, hsl⟩ (fun H locs hP hD hS => ?_)
  refine W.eq (g2 := F0 m 1840 ls [.int (m_ref M')]) rfl ?_
  refine lv_iload hx hb dL_law_1840 (lv_at hl 1 rfl) ?_
  refine lv_icmp_eq (tgt := 1847) hx hb dL_law_1842 (by decide) (fun c1 => ?_) (fun c1 => absurd hmr c1)
  have hend : W p l e room_1 s m #[.ref b] below meth c H locs (cells + 40) (slots + 300) Z (F0 m 1864 ls []) := by
    refine lv_goto (tgt := 1867) hx hb dL_law_1864 (by decide) ?_
    exact kk T' N' V' Q' tl' M' g' gd' _ _ ls hI2 hT2 hP hD hS (lv_sub hl [2, 3, 4, 5, 6, 7] rfl)
  refine W.widen (k := cells + 40) (n := slots + 300) (Nat.le_refl _) (Nat.le_refl _) ?_
  refine lv_iload hx hb dL_law_1847 (lv_at hl 1 rfl) ?_
  refine lv_if_ne (tgt := 1864) hx hb dL_law_1849 (by decide) (fun c2 => hend) (fun c2 => ?_)
  have hk9 : kc = 0 := c2
  obtain ⟨hG9, hg9⟩ := hk0 hk9
  refine lv_aload_n hx hb dL_law_1852 rfl (lv_at hl 5 rfl) ?_
  refine lv_iconst (v := 0) hx hb dL_law_1853 (by decide) ?_
  refine va_lald hx hb hK hP 36 4 rfl rfl (inb_vp (by decide)) dL_law_1854 ?_
  refine W.eq (g2 := F0 m 1855 ls [.long (g' 0)]) rfl ?_
  refine lv_iload hx hb dL_law_1855 (lv_at hl 0 rfl) ?_
  refine lv_i2l hx hb dL_law_1857 rfl ?_
  refine W.lcmp hx hb dL_law_1858 ?_
  have e0 : lg_cmp (g' 0) (bb.toInt64) = 0 := by rw [hg9]; simp [lg_cmp]
  exact lv_if_eq (tgt := 1864) hx hb dL_law_1859 (by decide) (fun c3 => hend) (fun c3 => absurd e0 c3)
end LAW
