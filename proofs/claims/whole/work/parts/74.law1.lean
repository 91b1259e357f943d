section LAW
variable {p : Program} {l : Launch} {e : Env} {s : State} {m : MethodId} {below : List Frame} {meth : Method} {c : Code} {b L : Nat} {xs : Nat → Int32} {D : va_G} {k : Nat → ClassId} {cA nA tA bM : Nat → Nat} {oA dA nc : Nat} {cells slots : Nat} {Z : State → Prop} {T : TrV} {N V : StV} {Q : PoV} {tl : va_W} {M : MdV} {g : Nat → Int64} {gd : Nat → UInt64} {H : Heap} {locs : List Loc} {ls : Array Slot}
set_option maxRecDepth 100000 in
set_option maxHeartbeats 4000000 in
theorem law_neighbor_0 (C0 : LC p s m meth c l b L xs D k) (hi : 4 * nc + 4 ≤ L) (hL : L ≤ 2048) (hI : INV nc T N Q M) (hT : PoIs k cA Q tl) (hP : va_P D vwCl (LWl k cA nA tA bM oA dA T N V M g gd tl) H) (hD : va_D (fun q : Nat => s.heap.size ≤ q) (LWl k cA nA tA bM oA dA T N V M g gd tl)) (hS : va_S (fun q : Nat => s.heap.size ≤ q) s.heap H locs) (hl : lv_has ls 10 [(0, .ref b), (1, .ref (cA 0)), (2, .ref (bM 0)), (3, .ref oA), (4, .ref dA), (5, .int (nI (4 * nc)))]) (hcl : cells + 40 ≤ 620558) (hsl : slots + 300 ≤ 7234429) (kk : LK p l e s m below meth c b D k cA nA tA bM oA dA nc cells slots Z) (hz9 : xs (4 * nc + 2) = 0) : W p l e room_1 s m #[.ref b] below meth c H locs cells slots Z (F0 m 474 ls []) := by
  obtain ⟨⟨hx, hb, hr, hml, hown, hts, hX, hbl, hlocks, hgv⟩, hst, hK, hG, hC⟩ := id C0
  have hA : ∀ q : Nat, s.heap.size ≤ q → (fun q : Nat => s.heap.size ≤ q) q := fun _ h => h
  have hbA : ¬ (fun q : Nat => s.heap.size ≤ q) b := Nat.not_le.mpr hbl
  have htl : ∀ w ∈ wsL_law, w.before #[Value.ref b] s = true := fun w h => hts w (wsL_law_in w h)
  have hin : ∀ j, j < 4 → vp_in (nI (4 * nc + j)) L := fun j hj q => by
    rcases q with q | q
    · exact nI_pos (lt31 (by omega)) q
    · rw [nI_cl (by omega)] at q; omega
  refine lv_aload_n hx hb dL_law_474 rfl (lv_at hl 1 rfl) ?_
  refine lv_aload_n hx hb dL_law_475 rfl (lv_at hl 0 rfl) ?_
  refine lv_iload hx hb dL_law_476 (lv_at hl 5 rfl) ?_
  refine lv_iconst (v := 1) hx hb dL_law_478 (by decide) ?_
  refine lv_iadd hx hb dL_law_479 ?_
  refine W.eq (g2 := F0 m 480 ls [.int (nI (4 * nc + 1)), .ref b, .ref (cA 0)]) (by rw [show (1 : Int32) = nI 1 from rfl, nI_add]) ?_
  refine va_sld hx hb hX hbl hbA hS (hin 1 (by omega)) dL_law_480 ?_
  refine W.eq (g2 := F0 m 481 ls [.int (xs (4 * nc + 1)), .ref (cA 0)]) (by rw [nI_cl (by omega)]) ?_
  refine lv_aload_n hx hb dL_law_481 rfl (lv_at hl 0 rfl) ?_
  refine lv_iload hx hb dL_law_482 (lv_at hl 5 rfl) ?_
  refine lv_iconst (v := 2) hx hb dL_law_484 (by decide) ?_
  refine lv_iadd hx hb dL_law_485 ?_
  refine W.eq (g2 := F0 m 486 ls [.int (nI (4 * nc + 2)), .ref b, .int (xs (4 * nc + 1)), .ref (cA 0)]) (by rw [show (2 : Int32) = nI 2 from rfl, nI_add]) ?_
  refine va_sld hx hb hX hbl hbA hS (hin 2 (by omega)) dL_law_486 ?_
  refine W.eq (g2 := F0 m 487 ls [.int (xs (4 * nc + 2)), .int (xs (4 * nc + 1)), .ref (cA 0)]) (by rw [nI_cl (by omega)]) ?_
  refine lv_if_eq (tgt := 494) hx hb dL_law_487 (by decide) (fun c9 => ?_) (fun c9 => absurd hz9 c9)
  refine lv_iconst (v := 0) hx hb dL_law_494 (by decide) ?_
  refine lv_aload_n hx hb dL_law_495 rfl (lv_at hl 3 rfl) ?_
  obtain ⟨w0, Pp, bb, M', hy, hpm, hCl, hpost⟩ := w_neighbor (D := D) (V := V) (nA := nA) (tA := tA) hst hI (by omega) hT oA g ((xs (4 * nc + 1))) (0)
  have hq := pq_1 (md := mdW k bM M) (du := duW k dA gd) hpm
  refine Cx_goF (wc := w0) (wx := w0) (wr := (mdW k bM M ++ duW k dA gd)) (vx_runSX (As := [.ref (cA 0), .int (xs (4 * nc + 1)), .int 0, .ref oA]) (rest := []) ⟨hx, hb, hml, hown, htl⟩ (hCl _) (vx_cwSW 4 htl gL_law_L_neighbor rfl rfl rfl (by decide +kernel) ⟨(Nat.le_of_ble_eq_true rfl), (Nat.le_of_ble_eq_true rfl)⟩) ⟨Pl_blind, Pl_at (wc := w0) hK hG hC (P_perm hq hP) (D_perm hq hD) hS hA (List.range w0.length) (rg_hi _ _) (rg_nd _)⟩ rfl rfl hl.1 rfl (Nat.le_of_ble_eq_true rfl) dL_law_496 ⟨hcl, hsl⟩) (P_perm hq hP) (D_perm hq hD) hS hA rfl (fun _ _ _ _ _ h1 => nomatch h1) ?_
  intro ov B w1 H1 locs1 h1 hB hP1 hD1 hS1
  cases h1
  obtain ⟨kc, T', N', V', Q', tl', g', rfl, hmr, hk0, hpm2, hT2, hI2⟩ := hpost ov w1 hB
  obtain ⟨gd', egd⟩ : ∃ y, y = gd := ⟨_, rfl⟩
  rw [← egd] at hP1 hD1
  have hq2 := (pq_1 (md := mdW k bM M) (du := duW k dA gd') hpm2.symm).symm
  have hP : va_P D vwCl (trW k cA nA tA T' ++ stW k nA N' ++ stW k tA V' ++ mdW k bM M ++ ouW k oA g' ++ duW k dA gd' ++ tl') H1 := P_perm hq2 hP1
  have hD : va_D (fun q : Nat => s.heap.size ≤ q) (trW k cA nA tA T' ++ stW k nA N' ++ stW k tA V' ++ mdW k bM M ++ ouW k oA g' ++ duW k dA gd' ++ tl') := D_perm hq2 hD1
  have hS := hS1
  clear hP1 hD1 hS1
  refine W.eq (g2 := F0 m 499 ls [.int kc]) rfl ?_
  refine lv_istore (lv' := [(6, .int kc), (0, .ref b), (1, .ref (cA 0)), (2, .ref (bM 0)), (3, .ref oA), (4, .ref dA), (5, .int (nI (4 * nc)))]) hx hb dL_law_499 hl (by decide) rfl (fun ls hl => ?_)
  refine lv_aload_n hx hb dL_law_501 rfl (lv_at hl 3 rfl) ?_
  refine lv_aload_n hx hb dL_law_502 rfl (lv_at hl 1 rfl) ?_
  refine lv_iload hx hb dL_law_503 (lv_at hl 6 rfl) ?_
  refine lv_iconst (v := 1) hx hb dL_law_505 (by decide) ?_
  refine lv_iadd hx hb dL_law_506 ?_
  refine W.eq (g2 := F0 m 507 ls [.int (nI (4 * nc + 1)), .ref b, .ref (bM 0)]) (by rw [show (1 : Int32) = nI 1 from rfl, nI_add]) ?_
  refine va_sld hx hb hX hbl hbA hS (hin 1 (by omega)) dL_law_507 ?_
  refine W.eq (g2 := F0 m 508 ls [.int (xs (4 * nc + 1)), .ref (bM 0)]) (by rw [nI_cl (by omega)]) ?_
  refine lv_aload_n hx hb dL_law_508 rfl (lv_at hl 1 rfl) ?_
  refine lv_iload hx hb dL_law_509 (lv_at hl 6 rfl) ?_
  refine lv_iconst (v := 2) hx hb dL_law_511 (by decide) ?_
  refine lv_iadd hx hb dL_law_512 ?_
  refine W.eq (g2 := F0 m 513 ls [.int (nI (4 * nc + 2)), .ref b, .int (xs (4 * nc + 1)), .ref (bM 0)]) (by rw [show (2 : Int32) = nI 2 from rfl, nI_add]) ?_
  refine va_sld hx hb hX hbl hbA hS (hin 2 (by omega)) dL_law_513 ?_
  refine W.eq (g2 := F0 m 514 ls [.int (xs (4 * nc + 2)), .int (xs (4 * nc + 1)), .ref (bM 0)]) (by rw [nI_cl (by omega)]) ?_
  refine lv_if_eq (tgt := 521) hx hb dL_law_514 (by decide) (fun c9 => ?_) (fun c9 => absurd hz9 c9)
  refine lv_iconst (v := 0) hx hb dL_law_521 (by decide) ?_
  refine Ck_V (As := [.int (xs (4 * nc + 1)), .int 0]) (rest := []) (wc := mdW k bM M) (wc' := mdW k bM M') (w0' := trW k cA nA tA T' ++ stW k nA N' ++ stW k tA V' ++ mdW k bM M' ++ ouW k oA g' ++ duW k dA gd' ++ tl') ⟨hx, hb, hml, hown, htl⟩ (c_X2_neighbor l D k bM M ((xs (4 * nc + 1))) (0) bb M' hy) (cwV 2 htl gL_law_X2_neighbor rfl rfl rfl (by decide +kernel) ⟨(Nat.le_of_ble_eq_true rfl), (Nat.le_of_ble_eq_true rfl)⟩) hK hP hD hS hA (q0 := 26) (ci := 2) rfl rfl [26, 27, 28, 29, 30, 31, 32, 33, 34, 35] (hi_L rfl (hi_L rfl (hi_L rfl (hi_R rfl md_hi)))) (by decide) rfl (vs_L rfl (vs_L rfl (vs_L rfl (vs_R rfl md_all)))) rfl hl.1 rfl (Nat.le_of_ble_eq_true rfl) dL_law_522 ⟨hcl, hsl⟩ (fun H locs hP hD hS => ?_)
  refine W.eq (g2 := F0 m 525 ls [.int bb]) rfl ?_
  refine lv_istore (lv' := [(7, .int bb), (6, .int kc), (0, .ref b), (1, .ref (cA 0)), (2, .ref (bM 0)), (3, .ref oA), (4, .ref dA), (5, .int (nI (4 * nc)))]) hx hb dL_law_525 hl (by decide) rfl (fun ls hl => ?_)
  refine lv_aload_n hx hb dL_law_527 rfl (lv_at hl 4 rfl) ?_
  refine Ck_V (As := []) (rest := []) (wc := [mdO bM M']) (wc' := [mdO bM M']) (w0' := trW k cA nA tA T' ++ stW k nA N' ++ stW k tA V' ++ mdW k bM M' ++ ouW k oA g' ++ duW k dA gd' ++ tl') ⟨hx, hb, hml, hown, htl⟩ (c_X2_thrown l D k bM M' (m_ref M') rfl) (cwV 0 htl gL_law_X2_thrown rfl rfl rfl (by decide +kernel) ⟨(Nat.le_of_ble_eq_true rfl), (Nat.le_of_ble_eq_true rfl)⟩) hK hP hD hS hA (q0 := 26) (ci := 2) rfl rfl [26] rfl (by decide) rfl rfl rfl hl.1 rfl (Nat.le_of_ble_eq_true rfl) dL_law_528 ⟨hcl, hsl⟩ (fun H locs hP hD hS => ?_)
  refine W.eq (g2 := F0 m 531 ls [.int (m_ref M')]) rfl ?_
  refine lv_iload hx hb dL_law_531 (lv_at hl 1 rfl) ?_
  refine lv_icmp_eq (tgt := 538) hx hb dL_law_533 (by decide) (fun c1 => ?_) (fun c1 => absurd hmr c1)
  have hend : W p l e room_1 s m #[.ref b] below meth c H locs (cells + 40) (slots + 300) Z (F0 m 555 ls []) := by
    refine lv_goto (tgt := 1867) hx hb dL_law_555 (by decide) ?_
    exact kk T' N' V' Q' tl' M' g' gd' _ _ ls hI2 hT2 hP hD hS (lv_sub hl [2, 3, 4, 5, 6, 7] rfl)
  refine W.widen (k := cells + 40) (n := slots + 300) (Nat.le_refl _) (Nat.le_refl _) ?_
  refine lv_iload hx hb dL_law_538 (lv_at hl 1 rfl) ?_
  refine lv_if_ne (tgt := 555) hx hb dL_law_540 (by decide) (fun c2 => hend) (fun c2 => ?_)
  have hk9 : kc = 0 := c2
  obtain ⟨hG9, hg9⟩ := hk0 hk9
  refine lv_aload_n hx hb dL_law_543 rfl (lv_at hl 5 rfl) ?_
  refine lv_iconst (v := 0) hx hb dL_law_544 (by decide) ?_
  refine va_lald hx hb hK hP 36 4 rfl rfl (inb_vp (by decide)) dL_law_545 ?_
  refine W.eq (g2 := F0 m 546 ls [.long (g' 0)]) rfl ?_
  refine lv_iload hx hb dL_law_546 (lv_at hl 0 rfl) ?_
  refine lv_i2l hx hb dL_law_548 rfl ?_
  refine W.lcmp hx hb dL_law_549 ?_
  have e0 : lg_cmp (g' 0) (bb.toInt64) = 0 := by rw [hg9]; simp [lg_cmp]
  exact lv_if_eq (tgt := 555) hx hb dL_law_550 (by decide) (fun c3 => hend) (fun c3 => absurd e0 c3)
set_option maxRecDepth 100000 in
set_option maxHeartbeats 4000000 in
theorem law_neighbor_1 (C0 : LC p s m meth c l b L xs D k) (hi : 4 * nc + 4 ≤ L) (hL : L ≤ 2048) (hI : INV nc T N Q M) (hT : PoIs k cA Q tl) (hP : va_P D vwCl (LWl k cA nA tA bM oA dA T N V M g gd tl) H) (hD : va_D (fun q : Nat => s.heap.size ≤ q) (LWl k cA nA tA bM oA dA T N V M g gd tl)) (hS : va_S (fun q : Nat => s.heap.size ≤ q) s.heap H locs) (hl : lv_has ls 10 [(0, .ref b), (1, .ref (cA 0)), (2, .ref (bM 0)), (3, .ref oA), (4, .ref dA), (5, .int (nI (4 * nc)))]) (hcl : cells + 40 ≤ 620558) (hsl : slots + 300 ≤ 7234429) (kk : LK p l e s m below meth c b D k cA nA tA bM oA dA nc cells slots Z) (hz9 : ¬ xs (4 * nc + 2) = 0) : W p l e room_1 s m #[.ref b] below meth c H locs cells slots Z (F0 m 474 ls []) := by
  obtain ⟨⟨hx, hb, hr, hml, hown, hts, hX, hbl, hlocks, hgv⟩, hst, hK, hG, hC⟩ := id C0
  have hA : ∀ q : Nat, s.heap.size ≤ q → (fun q : Nat => s.heap.size ≤ q) q := fun _ h => h
  have hbA : ¬ (fun q : Nat => s.heap.size ≤ q) b := Nat.not_le.mpr hbl
  have htl : ∀ w ∈ wsL_law, w.before #[Value.ref b] s = true := fun w h => hts w (wsL_law_in w h)
  have hin : ∀ j, j < 4 → vp_in (nI (4 * nc + j)) L := fun j hj q => by
    rcases q with q | q
    · exact nI_pos (lt31 (by omega)) q
    · rw [nI_cl (by omega)] at q; omega
  refine lv_aload_n hx hb dL_law_474 rfl (lv_at hl 1 rfl) ?_
  refine lv_aload_n hx hb dL_law_475 rfl (lv_at hl 0 rfl) ?_
  refine lv_iload hx hb dL_law_476 (lv_at hl 5 rfl) ?_
  refine lv_iconst (v := 1) hx hb dL_law_478 (by decide) ?_
  refine lv_iadd hx hb dL_law_479 ?_
  refine W.eq (g2 := F0 m 480 ls [.int (nI (4 * nc + 1)), .ref b, .ref (cA 0)]) (by rw [show (1 : Int32) = nI 1 from rfl, nI_add]) ?_
  refine va_sld hx hb hX hbl hbA hS (hin 1 (by omega)) dL_law_480 ?_
  refine W.eq (g2 := F0 m 481 ls [.int (xs (4 * nc + 1)), .ref (cA 0)]) (by rw [nI_cl (by omega)]) ?_
  refine lv_aload_n hx hb dL_law_481 rfl (lv_at hl 0 rfl) ?_
  refine lv_iload hx hb dL_law_482 (lv_at hl 5 rfl) ?_
  refine lv_iconst (v := 2) hx hb dL_law_484 (by decide) ?_
  refine lv_iadd hx hb dL_law_485 ?_
  refine W.eq (g2 := F0 m 486 ls [.int (nI (4 * nc + 2)), .ref b, .int (xs (4 * nc + 1)), .ref (cA 0)]) (by rw [show (2 : Int32) = nI 2 from rfl, nI_add]) ?_
  refine va_sld hx hb hX hbl hbA hS (hin 2 (by omega)) dL_law_486 ?_
  refine W.eq (g2 := F0 m 487 ls [.int (xs (4 * nc + 2)), .int (xs (4 * nc + 1)), .ref (cA 0)]) (by rw [nI_cl (by omega)]) ?_
  refine lv_if_eq (tgt := 494) hx hb dL_law_487 (by decide) (fun c9 => absurd c9 hz9) (fun c9 => ?_)
  refine lv_iconst (v := 1) hx hb dL_law_490 (by decide) ?_
  refine lv_goto (tgt := 495) hx hb dL_law_491 (by decide) ?_
  refine lv_aload_n hx hb dL_law_495 rfl (lv_at hl 3 rfl) ?_
  obtain ⟨w0, Pp, bb, M', hy, hpm, hCl, hpost⟩ := w_neighbor (D := D) (V := V) (nA := nA) (tA := tA) hst hI (by omega) hT oA g ((xs (4 * nc + 1))) (1)
  have hq := pq_1 (md := mdW k bM M) (du := duW k dA gd) hpm
  refine Cx_goF (wc := w0) (wx := w0) (wr := (mdW k bM M ++ duW k dA gd)) (vx_runSX (As := [.ref (cA 0), .int (xs (4 * nc + 1)), .int 1, .ref oA]) (rest := []) ⟨hx, hb, hml, hown, htl⟩ (hCl _) (vx_cwSW 4 htl gL_law_L_neighbor rfl rfl rfl (by decide +kernel) ⟨(Nat.le_of_ble_eq_true rfl), (Nat.le_of_ble_eq_true rfl)⟩) ⟨Pl_blind, Pl_at (wc := w0) hK hG hC (P_perm hq hP) (D_perm hq hD) hS hA (List.range w0.length) (rg_hi _ _) (rg_nd _)⟩ rfl rfl hl.1 rfl (Nat.le_of_ble_eq_true rfl) dL_law_496 ⟨hcl, hsl⟩) (P_perm hq hP) (D_perm hq hD) hS hA rfl (fun _ _ _ _ _ h1 => nomatch h1) ?_
  intro ov B w1 H1 locs1 h1 hB hP1 hD1 hS1
  cases h1
  obtain ⟨kc, T', N', V', Q', tl', g', rfl, hmr, hk0, hpm2, hT2, hI2⟩ := hpost ov w1 hB
  obtain ⟨gd', egd⟩ : ∃ y, y = gd := ⟨_, rfl⟩
  rw [← egd] at hP1 hD1
  have hq2 := (pq_1 (md := mdW k bM M) (du := duW k dA gd') hpm2.symm).symm
  have hP : va_P D vwCl (trW k cA nA tA T' ++ stW k nA N' ++ stW k tA V' ++ mdW k bM M ++ ouW k oA g' ++ duW k dA gd' ++ tl') H1 := P_perm hq2 hP1
  have hD : va_D (fun q : Nat => s.heap.size ≤ q) (trW k cA nA tA T' ++ stW k nA N' ++ stW k tA V' ++ mdW k bM M ++ ouW k oA g' ++ duW k dA gd' ++ tl') := D_perm hq2 hD1
  have hS := hS1
  clear hP1 hD1 hS1
  refine W.eq (g2 := F0 m 499 ls [.int kc]) rfl ?_
  refine lv_istore (lv' := [(6, .int kc), (0, .ref b), (1, .ref (cA 0)), (2, .ref (bM 0)), (3, .ref oA), (4, .ref dA), (5, .int (nI (4 * nc)))]) hx hb dL_law_499 hl (by decide) rfl (fun ls hl => ?_)
  refine lv_aload_n hx hb dL_law_501 rfl (lv_at hl 3 rfl) ?_
  refine lv_aload_n hx hb dL_law_502 rfl (lv_at hl 1 rfl) ?_
  refine lv_iload hx hb dL_law_503 (lv_at hl 6 rfl) ?_
  refine lv_iconst (v := 1) hx hb dL_law_505 (by decide) ?_
  refine lv_iadd hx hb dL_law_506 ?_
  refine W.eq (g2 := F0 m 507 ls [.int (nI (4 * nc + 1)), .ref b, .ref (bM 0)]) (by rw [show (1 : Int32) = nI 1 from rfl, nI_add]) ?_
  refine va_sld hx hb hX hbl hbA hS (hin 1 (by omega)) dL_law_507 ?_
  refine W.eq (g2 := F0 m 508 ls [.int (xs (4 * nc + 1)), .ref (bM 0)]) (by rw [nI_cl (by omega)]) ?_
  refine lv_aload_n hx hb dL_law_508 rfl (lv_at hl 1 rfl) ?_
  refine lv_iload hx hb dL_law_509 (lv_at hl 6 rfl) ?_
  refine lv_iconst (v := 2) hx hb dL_law_511 (by decide) ?_
  refine lv_iadd hx hb dL_law_512 ?_
  refine W.eq (g2 := F0 m 513 ls [.int (nI (4 * nc + 2)), .ref b, .int (xs (4 * nc + 1)), .ref (bM 0)]) (by rw [show (2 : Int32) = nI 2 from rfl, nI_add]) ?_
  refine va_sld hx hb hX hbl hbA hS (hin 2 (by omega)) dL_law_513 ?_
  refine W.eq (g2 := F0 m 514 ls [.int (xs (4 * nc + 2)), .int (xs (4 * nc + 1)), .ref (bM 0)]) (by rw [nI_cl (by omega)]) ?_
  refine lv_if_eq (tgt := 521) hx hb dL_law_514 (by decide) (fun c9 => absurd c9 hz9) (fun c9 => ?_)
  refine lv_iconst (v := 1) hx hb dL_law_517 (by decide) ?_
  refine lv_goto (tgt := 522) hx hb dL_law_518 (by decide) ?_
  refine Ck_V (As := [.int (xs (4 * nc + 1)), .int 1]) (rest := []) (wc := mdW k bM M) (wc' := mdW k bM M') (w0' := trW k cA nA tA T' ++ stW k nA N' ++ stW k tA V' ++ mdW k bM M' ++ ouW k oA g' ++ duW k dA gd' ++ tl') ⟨hx, hb, hml, hown, htl⟩ (c_X2_neighbor l D k bM M ((xs (4 * nc + 1))) (1) bb M' hy) (cwV 2 htl gL_law_X2_neighbor rfl rfl rfl (by decide +kernel) ⟨(Nat.le_of_ble_eq_true rfl), (Nat.le_of_ble_eq_true rfl)⟩) hK hP hD hS hA (q0 := 26) (ci := 2) rfl rfl [26, 27, 28, 29, 30, 31, 32, 33, 34, 35] (hi_L rfl (hi_L rfl (hi_L rfl (hi_R rfl md_hi)))) (by decide) rfl (vs_L rfl (vs_L rfl (vs_L rfl (vs_R rfl md_all)))) rfl hl.1 rfl (Nat.le_of_ble_eq_true rfl) dL_law_522 ⟨hcl, hsl⟩ (fun H locs hP hD hS => ?_)
  refine W.eq (g2 := F0 m 525 ls [.int bb]) rfl ?_
  refine lv_istore (lv' := [(7, .int bb), (6, .int kc), (0, .ref b), (1, .ref (cA 0)), (2, .ref (bM 0)), (3, .ref oA), (4, .ref dA), (5, .int (nI (4 * nc)))]) hx hb dL_law_525 hl (by decide) rfl (fun ls hl => ?_)
  refine lv_aload_n hx hb dL_law_527 rfl (lv_at hl 4 rfl) ?_
  refine Ck_V (As := []) (rest := []) (wc := [mdO bM M']) (wc' := [mdO bM M']) (w0' := trW k cA nA tA T' ++ stW k nA N' ++ stW k tA V' ++ mdW k bM M' ++ ouW k oA g' ++ duW k dA gd' ++ tl') ⟨hx, hb, hml, hown, htl⟩ (c_X2_thrown l D k bM M' (m_ref M') rfl) (cwV 0 htl gL_law_X2_thrown rfl rfl rfl (by decide +kernel) ⟨(Nat.le_of_ble_eq_true rfl), (Nat.le_of_ble_eq_true rfl)⟩) hK hP hD hS hA (q0 := 26) (ci := 2) rfl rfl [26] rfl (by decide) rfl rfl rfl hl.1 rfl (Nat.le_of_ble_eq_true rfl) dL_law_528 ⟨hcl, hsl⟩ (fun H locs hP hD hS => ?_)
  refine W.eq (g2 := F0 m 531 ls [.int (m_ref M')]) rfl ?_
  refine lv_iload hx hb dL_law_531 (lv_at hl 1 rfl) ?_
  refine lv_icmp_eq (tgt := 538) hx hb dL_law_533 (by decide) (fun c1 => ?_) (fun c1 => absurd hmr c1)
  have hend : W p l e room_1 s m #[.ref b] below meth c H locs (cells + 40) (slots + 300) Z (F0 m 555 ls []) := by
    refine lv_goto (tgt := 1867) hx hb dL_law_555 (by decide) ?_
    exact kk T' N' V' Q' tl' M' g' gd' _ _ ls hI2 hT2 hP hD hS (lv_sub hl [2, 3, 4, 5, 6, 7] rfl)
  refine W.widen (k := cells + 40) (n := slots + 300) (Nat.le_refl _) (Nat.le_refl _) ?_
  refine lv_iload hx hb dL_law_538 (lv_at hl 1 rfl) ?_
  refine lv_if_ne (tgt := 555) hx hb dL_law_540 (by decide) (fun c2 => hend) (fun c2 => ?_)
  have hk9 : kc = 0 := c2
  obtain ⟨hG9, hg9⟩ := hk0 hk9
  refine lv_aload_n hx hb dL_law_543 rfl (lv_at hl 5 rfl) ?_
  refine lv_iconst (v := 0) hx hb dL_law_544 (by decide) ?_
  refine va_lald hx hb hK hP 36 4 rfl rfl (inb_vp (by decide)) dL_law_545 ?_
  refine W.eq (g2 := F0 m 546 ls [.long (g' 0)]) rfl ?_
  refine lv_iload hx hb dL_law_546 (lv_at hl 0 rfl) ?_
  refine lv_i2l hx hb dL_law_548 rfl ?_
  refine W.lcmp hx hb dL_law_549 ?_
  have e0 : lg_cmp (g' 0) (bb.toInt64) = 0 := by rw [hg9]; simp [lg_cmp]
  exact lv_if_eq (tgt := 555) hx hb dL_law_550 (by decide) (fun c3 => hend) (fun c3 => absurd e0 c3)
set_option maxRecDepth 100000 in
set_option maxHeartbeats 4000000 in
theorem law_economy (C0 : LC p s m meth c l b L xs D k) (hF : NaNok) (hz : okF FP.fconst0) (hi : 4 * nc + 4 ≤ L) (hL : L ≤ 2048) (hI : INV nc T N Q M) (hT : PoIs k cA Q tl) (hP : va_P D vwCl (LWl k cA nA tA bM oA dA T N V M g gd tl) H) (hD : va_D (fun q : Nat => s.heap.size ≤ q) (LWl k cA nA tA bM oA dA T N V M g gd tl)) (hS : va_S (fun q : Nat => s.heap.size ≤ q) s.heap H locs) (hl : lv_has ls 10 [(0, .ref b), (1, .ref (cA 0)), (2, .ref (bM 0)), (3, .ref oA), (4, .ref dA), (5, .int (nI (4 * nc)))]) (hcl : cells + 40 ≤ 620558) (hsl : slots + 300 ≤ 7234429) (kk : LK p l e s m below meth c b D k cA nA tA bM oA dA nc cells slots Z) : W p l e room_1 s m #[.ref b] below meth c H locs cells slots Z (F0 m 558 ls []) := by
  obtain ⟨⟨hx, hb, hr, hml, hown, hts, hX, hbl, hlocks, hgv⟩, hst, hK, hG, hC⟩ := id C0
  have hA : ∀ q : Nat, s.heap.size ≤ q → (fun q : Nat => s.heap.size ≤ q) q := fun _ h => h
  have hbA : ¬ (fun q : Nat => s.heap.size ≤ q) b := Nat.not_le.mpr hbl
  have htl : ∀ w ∈ wsL_law, w.before #[Value.ref b] s = true := fun w h => hts w (wsL_law_in w h)
  have hin : ∀ j, j < 4 → vp_in (nI (4 * nc + j)) L := fun j hj q => by
    rcases q with q | q
    · exact nI_pos (lt31 (by omega)) q
    · rw [nI_cl (by omega)] at q; omega
  refine lv_aload_n hx hb dL_law_558 rfl (lv_at hl 1 rfl) ?_
  obtain ⟨rm, wc, wr, wx, oc, bb, M', ⟨f1, f2, f3, f4⟩, hp, ⟨fs, he⟩, hf, hCx, hy, hE, hB⟩ := k_economy (V := V) (nA := nA) (tA := tA) (D := D) hst hI (by omega) hT hF hz
  have hq := pq_0 (md := mdW k bM M) (ou := ouW k oA g) (du := duW k dA gd) hp
  rw [List.append_assoc wc wr] at hq
  refine Cx_goF (wc := wc) (wx := wx) (wr := wr ++ (mdW k bM M ++ (ouW k oA g ++ duW k dA gd))) (vx_runV (As := []) (rest := []) ⟨hx, hb, hml, hown, htl⟩ (hCx _) (cwV 0 htl gL_law_X1_economy rfl rfl rfl (by decide +kernel) ⟨(by show rm.frames + 1 ≤ 2048; omega), (by show 8 + (2 + 11) + rm.locals ≤ 84000; omega)⟩) ⟨Px_blind, va_recv (q0 := 0) (ci := 1) hK (P_perm hq hP) rfl (by rw [List.getElem?_append_left (List.getElem?_eq_some_iff.mp he).1]; exact he), Px_at (wc := wc) hK hG (P_perm hq hP) (D_perm hq hD) hS hA (List.range wc.length) (rg_hi _ _) (rg_nd _)⟩ rfl rfl hl.1 rfl (Nat.le_of_ble_eq_true rfl) dL_law_559 ⟨(by show cells + rm.cells ≤ 620558; omega), (by show slots + rm.slots ≤ 7234429; omega)⟩) (P_perm hq hP) (D_perm hq hD) hS hA hf ?_ ?_
  · intro E ce q9 H1 locs1 h1
    obtain ⟨cd, hm, -⟩ := hE E h1
    cases hm
  intro ov B w1 H1 locs1 h1 hB9 hP1 hD1 hS1
  obtain ⟨hG9, hmr, hb9⟩ := hB B h1
  obtain ⟨rfl, T', N', V', Q', tl', hp2, hT2, hI2⟩ := hb9 ov w1 hB9
  obtain ⟨g', eg⟩ : ∃ y, y = g := ⟨_, rfl⟩
  obtain ⟨gd', egd⟩ : ∃ y, y = gd := ⟨_, rfl⟩
  rw [← eg, ← egd, ← List.append_assoc w1 wr] at hP1 hD1
  have hq2 := (pq_0 (md := mdW k bM M) (ou := ouW k oA g') (du := duW k dA gd') hp2.symm).symm
  have hP : va_P D vwCl (trW k cA nA tA T' ++ stW k nA N' ++ stW k tA V' ++ mdW k bM M ++ ouW k oA g' ++ duW k dA gd' ++ tl') H1 := P_perm hq2 hP1
  have hD : va_D (fun q : Nat => s.heap.size ≤ q) (trW k cA nA tA T' ++ stW k nA N' ++ stW k tA V' ++ mdW k bM M ++ ouW k oA g' ++ duW k dA gd' ++ tl') := D_perm hq2 hD1
  have hS := hS1
  clear hP1 hD1 hS1
  refine W.widen (k := cells + 40) (n := slots + 300) (by show cells + rm.cells ≤ cells + 40; omega) (by show slots + rm.slots ≤ slots + 300; omega) ?_
  refine W.eq (g2 := F0 m 562 ls [.float bb]) rfl ?_
  refine lv_f2d hx hb dL_law_562 hG9.1 ?_
  refine lv_dstore (lv' := [(6, .double (FP.f2d bb)), (0, .ref b), (1, .ref (cA 0)), (2, .ref (bM 0)), (3, .ref oA), (4, .ref dA), (5, .int (nI (4 * nc)))]) hx hb dL_law_563 hl (by decide) rfl (fun ls hl => ?_)
  refine lv_aload_n hx hb dL_law_565 rfl (lv_at hl 3 rfl) ?_
  refine Ck_V (As := []) (rest := []) (wc := mdW k bM M) (wc' := mdW k bM M') (w0' := trW k cA nA tA T' ++ stW k nA N' ++ stW k tA V' ++ mdW k bM M' ++ ouW k oA g' ++ duW k dA gd' ++ tl') ⟨hx, hb, hml, hown, htl⟩ (c_X2_economy l D k bM M  bb M' hy) (cwV 0 htl gL_law_X2_economy rfl rfl rfl (by decide +kernel) ⟨(Nat.le_of_ble_eq_true rfl), (Nat.le_of_ble_eq_true rfl)⟩) hK hP hD hS hA (q0 := 26) (ci := 2) rfl rfl [26, 27, 28, 29, 30, 31, 32, 33, 34, 35] (hi_L rfl (hi_L rfl (hi_L rfl (hi_R rfl md_hi)))) (by decide) rfl (vs_L rfl (vs_L rfl (vs_L rfl (vs_R rfl md_all)))) rfl hl.1 rfl (Nat.le_of_ble_eq_true rfl) dL_law_566 ⟨hcl, hsl⟩ (fun H locs hP hD hS => ?_)
  refine W.eq (g2 := F0 m 569 ls [.float bb]) rfl ?_
  refine lv_f2d hx hb dL_law_569 hG9.1 ?_
  refine lv_dstore (lv' := [(8, .double (FP.f2d bb)), (6, .double (FP.f2d bb)), (0, .ref b), (1, .ref (cA 0)), (2, .ref (bM 0)), (3, .ref oA), (4, .ref dA), (5, .int (nI (4 * nc)))]) hx hb dL_law_570 hl (by decide) rfl (fun ls hl => ?_)
  refine lv_dload hx hb dL_law_572 (lv_at hl 1 rfl) ?_
  refine lv_dload hx hb dL_law_574 (lv_at hl 0 rfl) ?_
  refine lv_dcmp0 hx hb hG9.2 dL_law_576 ?_
  refine lv_if_eq (tgt := 598) hx hb dL_law_577 (by decide) (fun c3 => ?_) (fun c3 => absurd rfl c3)
  refine lv_goto (tgt := 1867) hx hb dL_law_598 (by decide) ?_
  exact kk T' N' V' Q' tl' M' g' gd' _ _ ls hI2 hT2 hP hD hS (lv_sub hl [2, 3, 4, 5, 6, 7] rfl)
set_option maxRecDepth 100000 in
set_option maxHeartbeats 4000000 in
theorem law_share (C0 : LC p s m meth c l b L xs D k) (hF : NaNok) (hz : okF FP.fconst0) (hi : 4 * nc + 4 ≤ L) (hL : L ≤ 2048) (hI : INV nc T N Q M) (hT : PoIs k cA Q tl) (hP : va_P D vwCl (LWl k cA nA tA bM oA dA T N V M g gd tl) H) (hD : va_D (fun q : Nat => s.heap.size ≤ q) (LWl k cA nA tA bM oA dA T N V M g gd tl)) (hS : va_S (fun q : Nat => s.heap.size ≤ q) s.heap H locs) (hl : lv_has ls 10 [(0, .ref b), (1, .ref (cA 0)), (2, .ref (bM 0)), (3, .ref oA), (4, .ref dA), (5, .int (nI (4 * nc)))]) (hcl : cells + 40 ≤ 620558) (hsl : slots + 300 ≤ 7234429) (kk : LK p l e s m below meth c b D k cA nA tA bM oA dA nc cells slots Z) : W p l e room_1 s m #[.ref b] below meth c H locs cells slots Z (F0 m 601 ls []) := by
  obtain ⟨⟨hx, hb, hr, hml, hown, hts, hX, hbl, hlocks, hgv⟩, hst, hK, hG, hC⟩ := id C0
  have hA : ∀ q : Nat, s.heap.size ≤ q → (fun q : Nat => s.heap.size ≤ q) q := fun _ h => h
  have hbA : ¬ (fun q : Nat => s.heap.size ≤ q) b := Nat.not_le.mpr hbl
  have htl : ∀ w ∈ wsL_law, w.before #[Value.ref b] s = true := fun w h => hts w (wsL_law_in w h)
  have hin : ∀ j, j < 4 → vp_in (nI (4 * nc + j)) L := fun j hj q => by
    rcases q with q | q
    · exact nI_pos (lt31 (by omega)) q
    · rw [nI_cl (by omega)] at q; omega
  refine lv_aload_n hx hb dL_law_601 rfl (lv_at hl 1 rfl) ?_
  refine lv_aload_n hx hb dL_law_602 rfl (lv_at hl 0 rfl) ?_
  refine lv_iload hx hb dL_law_603 (lv_at hl 5 rfl) ?_
  refine lv_iconst (v := 1) hx hb dL_law_605 (by decide) ?_
  refine lv_iadd hx hb dL_law_606 ?_
  refine W.eq (g2 := F0 m 607 ls [.int (nI (4 * nc + 1)), .ref b, .ref (cA 0)]) (by rw [show (1 : Int32) = nI 1 from rfl, nI_add]) ?_
  refine va_sld hx hb hX hbl hbA hS (hin 1 (by omega)) dL_law_607 ?_
  refine W.eq (g2 := F0 m 608 ls [.int (xs (4 * nc + 1)), .ref (cA 0)]) (by rw [nI_cl (by omega)]) ?_
  refine lv_aload hx hb dL_law_608 (lv_at hl 4 rfl) ?_
  obtain ⟨w0, Pp, bb, M', hy, hpm, hCl, hpost⟩ := w_share (D := D) (V := V) (nA := nA) (tA := tA) hst hF hz hI (by omega) hT dA gd ((xs (4 * nc + 1)))
  have hq := pq_2 (md := mdW k bM M) (ou := ouW k oA g) hpm
  refine Cx_goF (wc := w0) (wx := w0) (wr := (mdW k bM M ++ ouW k oA g)) (vx_runSX (As := [.ref (cA 0), .int (xs (4 * nc + 1)), .ref dA]) (rest := []) ⟨hx, hb, hml, hown, htl⟩ (hCl _) (vx_cwSW 3 htl gL_law_L_share rfl rfl rfl (by decide +kernel) ⟨(Nat.le_of_ble_eq_true rfl), (Nat.le_of_ble_eq_true rfl)⟩) ⟨Pl_blind, Pl_at (wc := w0) hK hG hC (P_perm hq hP) (D_perm hq hD) hS hA (List.range w0.length) (rg_hi _ _) (rg_nd _)⟩ rfl rfl hl.1 rfl (Nat.le_of_ble_eq_true rfl) dL_law_610 ⟨hcl, hsl⟩) (P_perm hq hP) (D_perm hq hD) hS hA rfl (fun _ _ _ _ _ h1 => nomatch h1) ?_
  intro ov B w1 H1 locs1 h1 hB hP1 hD1 hS1
  cases h1
  obtain ⟨kc, T', N', V', Q', tl', gd', rfl, hmr, hk0, hpm2, hT2, hI2⟩ := hpost ov w1 hB
  obtain ⟨g', eg⟩ : ∃ y, y = g := ⟨_, rfl⟩
  rw [← eg] at hP1 hD1
  have hq2 := (pq_2 (md := mdW k bM M) (ou := ouW k oA g') hpm2.symm).symm
  have hP : va_P D vwCl (trW k cA nA tA T' ++ stW k nA N' ++ stW k tA V' ++ mdW k bM M ++ ouW k oA g' ++ duW k dA gd' ++ tl') H1 := P_perm hq2 hP1
  have hD : va_D (fun q : Nat => s.heap.size ≤ q) (trW k cA nA tA T' ++ stW k nA N' ++ stW k tA V' ++ mdW k bM M ++ ouW k oA g' ++ duW k dA gd' ++ tl') := D_perm hq2 hD1
  have hS := hS1
  clear hP1 hD1 hS1
  refine W.eq (g2 := F0 m 613 ls [.int kc]) rfl ?_
  refine lv_istore (lv' := [(6, .int kc), (0, .ref b), (1, .ref (cA 0)), (2, .ref (bM 0)), (3, .ref oA), (4, .ref dA), (5, .int (nI (4 * nc)))]) hx hb dL_law_613 hl (by decide) rfl (fun ls hl => ?_)
  refine lv_aload_n hx hb dL_law_615 rfl (lv_at hl 3 rfl) ?_
  refine lv_aload_n hx hb dL_law_616 rfl (lv_at hl 1 rfl) ?_
  refine lv_iload hx hb dL_law_617 (lv_at hl 6 rfl) ?_
  refine lv_iconst (v := 1) hx hb dL_law_619 (by decide) ?_
  refine lv_iadd hx hb dL_law_620 ?_
  refine W.eq (g2 := F0 m 621 ls [.int (nI (4 * nc + 1)), .ref b, .ref (bM 0)]) (by rw [show (1 : Int32) = nI 1 from rfl, nI_add]) ?_
  refine va_sld hx hb hX hbl hbA hS (hin 1 (by omega)) dL_law_621 ?_
  refine W.eq (g2 := F0 m 622 ls [.int (xs (4 * nc + 1)), .ref (bM 0)]) (by rw [nI_cl (by omega)]) ?_
  refine Ck_V (As := [.int (xs (4 * nc + 1))]) (rest := []) (wc := mdW k bM M) (wc' := mdW k bM M') (w0' := trW k cA nA tA T' ++ stW k nA N' ++ stW k tA V' ++ mdW k bM M' ++ ouW k oA g' ++ duW k dA gd' ++ tl') ⟨hx, hb, hml, hown, htl⟩ (c_X2_share l D k bM M ((xs (4 * nc + 1))) bb M' hy) (cwV 1 htl gL_law_X2_share rfl rfl rfl (by decide +kernel) ⟨(Nat.le_of_ble_eq_true rfl), (Nat.le_of_ble_eq_true rfl)⟩) hK hP hD hS hA (q0 := 26) (ci := 2) rfl rfl [26, 27, 28, 29, 30, 31, 32, 33, 34, 35] (hi_L rfl (hi_L rfl (hi_L rfl (hi_R rfl md_hi)))) (by decide) rfl (vs_L rfl (vs_L rfl (vs_L rfl (vs_R rfl md_all)))) rfl hl.1 rfl (Nat.le_of_ble_eq_true rfl) dL_law_622 ⟨hcl, hsl⟩ (fun H locs hP hD hS => ?_)
  refine W.eq (g2 := F0 m 625 ls [.float bb]) rfl ?_
  refine lv_fstore (lv' := [(7, .float bb), (6, .int kc), (0, .ref b), (1, .ref (cA 0)), (2, .ref (bM 0)), (3, .ref oA), (4, .ref dA), (5, .int (nI (4 * nc)))]) hx hb dL_law_625 hl (by decide) rfl (fun ls hl => ?_)
  refine lv_aload_n hx hb dL_law_627 rfl (lv_at hl 4 rfl) ?_
  refine Ck_V (As := []) (rest := []) (wc := [mdO bM M']) (wc' := [mdO bM M']) (w0' := trW k cA nA tA T' ++ stW k nA N' ++ stW k tA V' ++ mdW k bM M' ++ ouW k oA g' ++ duW k dA gd' ++ tl') ⟨hx, hb, hml, hown, htl⟩ (c_X2_thrown l D k bM M' (m_ref M') rfl) (cwV 0 htl gL_law_X2_thrown rfl rfl rfl (by decide +kernel) ⟨(Nat.le_of_ble_eq_true rfl), (Nat.le_of_ble_eq_true rfl)⟩) hK hP hD hS hA (q0 := 26) (ci := 2) rfl rfl [26] rfl (by decide) rfl rfl rfl hl.1 rfl (Nat.le_of_ble_eq_true rfl) dL_law_628 ⟨hcl, hsl⟩ (fun H locs hP hD hS => ?_)
  refine W.eq (g2 := F0 m 631 ls [.int (m_ref M')]) rfl ?_
  refine lv_iload hx hb dL_law_631 (lv_at hl 1 rfl) ?_
  refine lv_icmp_eq (tgt := 638) hx hb dL_law_633 (by decide) (fun c1 => ?_) (fun c1 => absurd hmr c1)
  have hend : W p l e room_1 s m #[.ref b] below meth c H locs (cells + 40) (slots + 300) Z (F0 m 676 ls []) := by
    refine lv_goto (tgt := 1867) hx hb dL_law_676 (by decide) ?_
    exact kk T' N' V' Q' tl' M' g' gd' _ _ ls hI2 hT2 hP hD hS (lv_sub hl [2, 3, 4, 5, 6, 7] rfl)
  refine W.widen (k := cells + 40) (n := slots + 300) (Nat.le_refl _) (Nat.le_refl _) ?_
  refine lv_iload hx hb dL_law_638 (lv_at hl 1 rfl) ?_
  refine lv_if_ne (tgt := 676) hx hb dL_law_640 (by decide) (fun c2 => hend) (fun c2 => ?_)
  have hk9 : kc = 0 := c2
  obtain ⟨hG9, hg9⟩ := hk0 hk9
  refine lv_aload hx hb dL_law_643 (lv_at hl 6 rfl) ?_
  refine lv_iconst (v := 0) hx hb dL_law_645 (by decide) ?_
  refine va_dald hx hb hK hP 37 5 rfl rfl (inb_vp (by decide)) dL_law_646 ?_
  refine W.eq (g2 := F0 m 647 ls [.double (gd' 0)]) rfl ?_
  refine lv_fload hx hb dL_law_647 (lv_at hl 0 rfl) ?_
  refine lv_f2d hx hb dL_law_649 hG9.1 ?_
  refine lv_dcmp0 hx hb (by rw [hg9]; exact hG9.2) dL_law_650 ?_
  exact lv_if_eq (tgt := 676) hx hb dL_law_651 (by decide) (fun c3 => hend) (fun c3 => absurd rfl c3)
set_option maxRecDepth 100000 in
set_option maxHeartbeats 4000000 in
theorem law_tick (C0 : LC p s m meth c l b L xs D k) (hi : 4 * nc + 4 ≤ L) (hL : L ≤ 2048) (hI : INV nc T N Q M) (hT : PoIs k cA Q tl) (hP : va_P D vwCl (LWl k cA nA tA bM oA dA T N V M g gd tl) H) (hD : va_D (fun q : Nat => s.heap.size ≤ q) (LWl k cA nA tA bM oA dA T N V M g gd tl)) (hS : va_S (fun q : Nat => s.heap.size ≤ q) s.heap H locs) (hl : lv_has ls 10 [(0, .ref b), (1, .ref (cA 0)), (2, .ref (bM 0)), (3, .ref oA), (4, .ref dA), (5, .int (nI (4 * nc)))]) (hcl : cells + 40 ≤ 620558) (hsl : slots + 300 ≤ 7234429) (kk : LK p l e s m below meth c b D k cA nA tA bM oA dA nc cells slots Z) : W p l e room_1 s m #[.ref b] below meth c H locs cells slots Z (F0 m 679 ls []) := by
  obtain ⟨⟨hx, hb, hr, hml, hown, hts, hX, hbl, hlocks, hgv⟩, hst, hK, hG, hC⟩ := id C0
  have hA : ∀ q : Nat, s.heap.size ≤ q → (fun q : Nat => s.heap.size ≤ q) q := fun _ h => h
  have hbA : ¬ (fun q : Nat => s.heap.size ≤ q) b := Nat.not_le.mpr hbl
  have htl : ∀ w ∈ wsL_law, w.before #[Value.ref b] s = true := fun w h => hts w (wsL_law_in w h)
  have hin : ∀ j, j < 4 → vp_in (nI (4 * nc + j)) L := fun j hj q => by
    rcases q with q | q
    · exact nI_pos (lt31 (by omega)) q
    · rw [nI_cl (by omega)] at q; omega
  refine lv_aload_n hx hb dL_law_679 rfl (lv_at hl 1 rfl) ?_
  refine lv_aload_n hx hb dL_law_680 rfl (lv_at hl 0 rfl) ?_
  refine lv_iload hx hb dL_law_681 (lv_at hl 5 rfl) ?_
  refine lv_iconst (v := 1) hx hb dL_law_683 (by decide) ?_
  refine lv_iadd hx hb dL_law_684 ?_
  refine W.eq (g2 := F0 m 685 ls [.int (nI (4 * nc + 1)), .ref b, .ref (cA 0)]) (by rw [show (1 : Int32) = nI 1 from rfl, nI_add]) ?_
  refine va_sld hx hb hX hbl hbA hS (hin 1 (by omega)) dL_law_685 ?_
  refine W.eq (g2 := F0 m 686 ls [.int (xs (4 * nc + 1)), .ref (cA 0)]) (by rw [nI_cl (by omega)]) ?_
  refine lv_aload_n hx hb dL_law_686 rfl (lv_at hl 3 rfl) ?_
  obtain ⟨w0, Pp, bb, M', hy, hpm, hCl, hpost⟩ := w_tick (D := D) (V := V) (nA := nA) (tA := tA) hst hI (by omega) hT oA g ((xs (4 * nc + 1)))
  have hq := pq_1 (md := mdW k bM M) (du := duW k dA gd) hpm
  refine Cx_goF (wc := w0) (wx := w0) (wr := (mdW k bM M ++ duW k dA gd)) (vx_runSX (As := [.ref (cA 0), .int (xs (4 * nc + 1)), .ref oA]) (rest := []) ⟨hx, hb, hml, hown, htl⟩ (hCl _) (vx_cwSW 3 htl gL_law_L_tick rfl rfl rfl (by decide +kernel) ⟨(Nat.le_of_ble_eq_true rfl), (Nat.le_of_ble_eq_true rfl)⟩) ⟨Pl_blind, Pl_at (wc := w0) hK hG hC (P_perm hq hP) (D_perm hq hD) hS hA (List.range w0.length) (rg_hi _ _) (rg_nd _)⟩ rfl rfl hl.1 rfl (Nat.le_of_ble_eq_true rfl) dL_law_687 ⟨hcl, hsl⟩) (P_perm hq hP) (D_perm hq hD) hS hA rfl (fun _ _ _ _ _ h1 => nomatch h1) ?_
  intro ov B w1 H1 locs1 h1 hB hP1 hD1 hS1
  cases h1
  obtain ⟨kc, T', N', V', Q', tl', g', rfl, hmr, hk0, hpm2, hT2, hI2⟩ := hpost ov w1 hB
  obtain ⟨gd', egd⟩ : ∃ y, y = gd := ⟨_, rfl⟩
  rw [← egd] at hP1 hD1
  have hq2 := (pq_1 (md := mdW k bM M) (du := duW k dA gd') hpm2.symm).symm
  have hP : va_P D vwCl (trW k cA nA tA T' ++ stW k nA N' ++ stW k tA V' ++ mdW k bM M ++ ouW k oA g' ++ duW k dA gd' ++ tl') H1 := P_perm hq2 hP1
  have hD : va_D (fun q : Nat => s.heap.size ≤ q) (trW k cA nA tA T' ++ stW k nA N' ++ stW k tA V' ++ mdW k bM M ++ ouW k oA g' ++ duW k dA gd' ++ tl') := D_perm hq2 hD1
  have hS := hS1
  clear hP1 hD1 hS1
  refine W.eq (g2 := F0 m 690 ls [.int kc]) rfl ?_
  refine lv_istore (lv' := [(6, .int kc), (0, .ref b), (1, .ref (cA 0)), (2, .ref (bM 0)), (3, .ref oA), (4, .ref dA), (5, .int (nI (4 * nc)))]) hx hb dL_law_690 hl (by decide) rfl (fun ls hl => ?_)
  refine lv_aload_n hx hb dL_law_692 rfl (lv_at hl 3 rfl) ?_
  refine lv_aload_n hx hb dL_law_693 rfl (lv_at hl 1 rfl) ?_
  refine lv_iload hx hb dL_law_694 (lv_at hl 6 rfl) ?_
  refine lv_iconst (v := 1) hx hb dL_law_696 (by decide) ?_
  refine lv_iadd hx hb dL_law_697 ?_
  refine W.eq (g2 := F0 m 698 ls [.int (nI (4 * nc + 1)), .ref b, .ref (bM 0)]) (by rw [show (1 : Int32) = nI 1 from rfl, nI_add]) ?_
  refine va_sld hx hb hX hbl hbA hS (hin 1 (by omega)) dL_law_698 ?_
  refine W.eq (g2 := F0 m 699 ls [.int (xs (4 * nc + 1)), .ref (bM 0)]) (by rw [nI_cl (by omega)]) ?_
  refine Ck_V (As := [.int (xs (4 * nc + 1))]) (rest := []) (wc := mdW k bM M) (wc' := mdW k bM M') (w0' := trW k cA nA tA T' ++ stW k nA N' ++ stW k tA V' ++ mdW k bM M' ++ ouW k oA g' ++ duW k dA gd' ++ tl') ⟨hx, hb, hml, hown, htl⟩ (c_X2_tick l D k bM M ((xs (4 * nc + 1))) bb M' hy) (cwV 1 htl gL_law_X2_tick rfl rfl rfl (by decide +kernel) ⟨(Nat.le_of_ble_eq_true rfl), (Nat.le_of_ble_eq_true rfl)⟩) hK hP hD hS hA (q0 := 26) (ci := 2) rfl rfl [26, 27, 28, 29, 30, 31, 32, 33, 34, 35] (hi_L rfl (hi_L rfl (hi_L rfl (hi_R rfl md_hi)))) (by decide) rfl (vs_L rfl (vs_L rfl (vs_L rfl (vs_R rfl md_all)))) rfl hl.1 rfl (Nat.le_of_ble_eq_true rfl) dL_law_699 ⟨hcl, hsl⟩ (fun H locs hP hD hS => ?_)
  refine W.eq (g2 := F0 m 702 ls [.int bb]) rfl ?_
  refine lv_istore (lv' := [(7, .int bb), (6, .int kc), (0, .ref b), (1, .ref (cA 0)), (2, .ref (bM 0)), (3, .ref oA), (4, .ref dA), (5, .int (nI (4 * nc)))]) hx hb dL_law_702 hl (by decide) rfl (fun ls hl => ?_)
  refine lv_aload_n hx hb dL_law_704 rfl (lv_at hl 4 rfl) ?_
  refine Ck_V (As := []) (rest := []) (wc := [mdO bM M']) (wc' := [mdO bM M']) (w0' := trW k cA nA tA T' ++ stW k nA N' ++ stW k tA V' ++ mdW k bM M' ++ ouW k oA g' ++ duW k dA gd' ++ tl') ⟨hx, hb, hml, hown, htl⟩ (c_X2_thrown l D k bM M' (m_ref M') rfl) (cwV 0 htl gL_law_X2_thrown rfl rfl rfl (by decide +kernel) ⟨(Nat.le_of_ble_eq_true rfl), (Nat.le_of_ble_eq_true rfl)⟩) hK hP hD hS hA (q0 := 26) (ci := 2) rfl rfl [26] rfl (by decide) rfl rfl rfl hl.1 rfl (Nat.le_of_ble_eq_true rfl) dL_law_705 ⟨hcl, hsl⟩ (fun H locs hP hD hS => ?_)
  refine W.eq (g2 := F0 m 708 ls [.int (m_ref M')]) rfl ?_
  refine lv_iload hx hb dL_law_708 (lv_at hl 1 rfl) ?_
  refine lv_icmp_eq (tgt := 715) hx hb dL_law_710 (by decide) (fun c1 => ?_) (fun c1 => absurd hmr c1)
  have hend : W p l e room_1 s m #[.ref b] below meth c H locs (cells + 40) (slots + 300) Z (F0 m 732 ls []) := by
    refine lv_goto (tgt := 1867) hx hb dL_law_732 (by decide) ?_
    exact kk T' N' V' Q' tl' M' g' gd' _ _ ls hI2 hT2 hP hD hS (lv_sub hl [2, 3, 4, 5, 6, 7] rfl)
  refine W.widen (k := cells + 40) (n := slots + 300) (Nat.le_refl _) (Nat.le_refl _) ?_
  refine lv_iload hx hb dL_law_715 (lv_at hl 1 rfl) ?_
  refine lv_if_ne (tgt := 732) hx hb dL_law_717 (by decide) (fun c2 => hend) (fun c2 => ?_)
  have hk9 : kc = 0 := c2
  obtain ⟨hG9, hg9⟩ := hk0 hk9
  refine lv_aload_n hx hb dL_law_720 rfl (lv_at hl 5 rfl) ?_
  refine lv_iconst (v := 0) hx hb dL_law_721 (by decide) ?_
  refine va_lald hx hb hK hP 36 4 rfl rfl (inb_vp (by decide)) dL_law_722 ?_
  refine W.eq (g2 := F0 m 723 ls [.long (g' 0)]) rfl ?_
  refine lv_iload hx hb dL_law_723 (lv_at hl 0 rfl) ?_
  refine lv_i2l hx hb dL_law_725 rfl ?_
  refine W.lcmp hx hb dL_law_726 ?_
  have e0 : lg_cmp (g' 0) (bb.toInt64) = 0 := by rw [hg9]; simp [lg_cmp]
  exact lv_if_eq (tgt := 732) hx hb dL_law_727 (by decide) (fun c3 => hend) (fun c3 => absurd e0 c3)
set_option maxRecDepth 100000 in
set_option maxHeartbeats 4000000 in
theorem law_set (C0 : LC p s m meth c l b L xs D k) (hi : 4 * nc + 4 ≤ L) (hL : L ≤ 2048) (hI : INV nc T N Q M) (hT : PoIs k cA Q tl) (hP : va_P D vwCl (LWl k cA nA tA bM oA dA T N V M g gd tl) H) (hD : va_D (fun q : Nat => s.heap.size ≤ q) (LWl k cA nA tA bM oA dA T N V M g gd tl)) (hS : va_S (fun q : Nat => s.heap.size ≤ q) s.heap H locs) (hl : lv_has ls 10 [(0, .ref b), (1, .ref (cA 0)), (2, .ref (bM 0)), (3, .ref oA), (4, .ref dA), (5, .int (nI (4 * nc)))]) (hcl : cells + 40 ≤ 620558) (hsl : slots + 300 ≤ 7234429) (kk : LK p l e s m below meth c b D k cA nA tA bM oA dA nc cells slots Z) : W p l e room_1 s m #[.ref b] below meth c H locs cells slots Z (F0 m 735 ls []) := by
  obtain ⟨⟨hx, hb, hr, hml, hown, hts, hX, hbl, hlocks, hgv⟩, hst, hK, hG, hC⟩ := id C0
  have hA : ∀ q : Nat, s.heap.size ≤ q → (fun q : Nat => s.heap.size ≤ q) q := fun _ h => h
  have hbA : ¬ (fun q : Nat => s.heap.size ≤ q) b := Nat.not_le.mpr hbl
  have htl : ∀ w ∈ wsL_law, w.before #[Value.ref b] s = true := fun w h => hts w (wsL_law_in w h)
  have hin : ∀ j, j < 4 → vp_in (nI (4 * nc + j)) L := fun j hj q => by
    rcases q with q | q
    · exact nI_pos (lt31 (by omega)) q
    · rw [nI_cl (by omega)] at q; omega
  refine lv_aload_n hx hb dL_law_735 rfl (lv_at hl 1 rfl) ?_
  refine lv_aload_n hx hb dL_law_736 rfl (lv_at hl 0 rfl) ?_
  refine lv_iload hx hb dL_law_737 (lv_at hl 5 rfl) ?_
  refine lv_iconst (v := 1) hx hb dL_law_739 (by decide) ?_
  refine lv_iadd hx hb dL_law_740 ?_
  refine W.eq (g2 := F0 m 741 ls [.int (nI (4 * nc + 1)), .ref b, .ref (cA 0)]) (by rw [show (1 : Int32) = nI 1 from rfl, nI_add]) ?_
  refine va_sld hx hb hX hbl hbA hS (hin 1 (by omega)) dL_law_741 ?_
  refine W.eq (g2 := F0 m 742 ls [.int (xs (4 * nc + 1)), .ref (cA 0)]) (by rw [nI_cl (by omega)]) ?_
  refine lv_aload_n hx hb dL_law_742 rfl (lv_at hl 0 rfl) ?_
  refine lv_iload hx hb dL_law_743 (lv_at hl 5 rfl) ?_
  refine lv_iconst (v := 2) hx hb dL_law_745 (by decide) ?_
  refine lv_iadd hx hb dL_law_746 ?_
  refine W.eq (g2 := F0 m 747 ls [.int (nI (4 * nc + 2)), .ref b, .int (xs (4 * nc + 1)), .ref (cA 0)]) (by rw [show (2 : Int32) = nI 2 from rfl, nI_add]) ?_
  refine va_sld hx hb hX hbl hbA hS (hin 2 (by omega)) dL_law_747 ?_
  refine W.eq (g2 := F0 m 748 ls [.int (xs (4 * nc + 2)), .int (xs (4 * nc + 1)), .ref (cA 0)]) (by rw [nI_cl (by omega)]) ?_
  refine lv_aload_n hx hb dL_law_748 rfl (lv_at hl 3 rfl) ?_
  obtain ⟨w0, Pp, bb, M', hy, hpm, hCl, hpost⟩ := w_set (D := D) (V := V) (nA := nA) (tA := tA) hst hI (by omega) hT oA g ((xs (4 * nc + 1))) ((xs (4 * nc + 2)))
  have hq := pq_1 (md := mdW k bM M) (du := duW k dA gd) hpm
  refine Cx_goF (wc := w0) (wx := w0) (wr := (mdW k bM M ++ duW k dA gd)) (vx_runSX (As := [.ref (cA 0), .int (xs (4 * nc + 1)), .int (xs (4 * nc + 2)), .ref oA]) (rest := []) ⟨hx, hb, hml, hown, htl⟩ (hCl _) (vx_cwSW 4 htl gL_law_L_set rfl rfl rfl (by decide +kernel) ⟨(Nat.le_of_ble_eq_true rfl), (Nat.le_of_ble_eq_true rfl)⟩) ⟨Pl_blind, Pl_at (wc := w0) hK hG hC (P_perm hq hP) (D_perm hq hD) hS hA (List.range w0.length) (rg_hi _ _) (rg_nd _)⟩ rfl rfl hl.1 rfl (Nat.le_of_ble_eq_true rfl) dL_law_749 ⟨hcl, hsl⟩) (P_perm hq hP) (D_perm hq hD) hS hA rfl (fun _ _ _ _ _ h1 => nomatch h1) ?_
  intro ov B w1 H1 locs1 h1 hB hP1 hD1 hS1
  cases h1
  obtain ⟨kc, T', N', V', Q', tl', g', rfl, hmr, hk0, hpm2, hT2, hI2⟩ := hpost ov w1 hB
  obtain ⟨gd', egd⟩ : ∃ y, y = gd := ⟨_, rfl⟩
  rw [← egd] at hP1 hD1
  have hq2 := (pq_1 (md := mdW k bM M) (du := duW k dA gd') hpm2.symm).symm
  have hP : va_P D vwCl (trW k cA nA tA T' ++ stW k nA N' ++ stW k tA V' ++ mdW k bM M ++ ouW k oA g' ++ duW k dA gd' ++ tl') H1 := P_perm hq2 hP1
  have hD : va_D (fun q : Nat => s.heap.size ≤ q) (trW k cA nA tA T' ++ stW k nA N' ++ stW k tA V' ++ mdW k bM M ++ ouW k oA g' ++ duW k dA gd' ++ tl') := D_perm hq2 hD1
  have hS := hS1
  clear hP1 hD1 hS1
  refine W.eq (g2 := F0 m 752 ls [.int kc]) rfl ?_
  refine lv_istore (lv' := [(6, .int kc), (0, .ref b), (1, .ref (cA 0)), (2, .ref (bM 0)), (3, .ref oA), (4, .ref dA), (5, .int (nI (4 * nc)))]) hx hb dL_law_752 hl (by decide) rfl (fun ls hl => ?_)
  refine lv_aload_n hx hb dL_law_754 rfl (lv_at hl 3 rfl) ?_
  refine lv_aload_n hx hb dL_law_755 rfl (lv_at hl 1 rfl) ?_
  refine lv_iload hx hb dL_law_756 (lv_at hl 6 rfl) ?_
  refine lv_iconst (v := 1) hx hb dL_law_758 (by decide) ?_
  refine lv_iadd hx hb dL_law_759 ?_
  refine W.eq (g2 := F0 m 760 ls [.int (nI (4 * nc + 1)), .ref b, .ref (bM 0)]) (by rw [show (1 : Int32) = nI 1 from rfl, nI_add]) ?_
  refine va_sld hx hb hX hbl hbA hS (hin 1 (by omega)) dL_law_760 ?_
  refine W.eq (g2 := F0 m 761 ls [.int (xs (4 * nc + 1)), .ref (bM 0)]) (by rw [nI_cl (by omega)]) ?_
  refine lv_aload_n hx hb dL_law_761 rfl (lv_at hl 1 rfl) ?_
  refine lv_iload hx hb dL_law_762 (lv_at hl 6 rfl) ?_
  refine lv_iconst (v := 2) hx hb dL_law_764 (by decide) ?_
  refine lv_iadd hx hb dL_law_765 ?_
  refine W.eq (g2 := F0 m 766 ls [.int (nI (4 * nc + 2)), .ref b, .int (xs (4 * nc + 1)), .ref (bM 0)]) (by rw [show (2 : Int32) = nI 2 from rfl, nI_add]) ?_
  refine va_sld hx hb hX hbl hbA hS (hin 2 (by omega)) dL_law_766 ?_
  refine W.eq (g2 := F0 m 767 ls [.int (xs (4 * nc + 2)), .int (xs (4 * nc + 1)), .ref (bM 0)]) (by rw [nI_cl (by omega)]) ?_
  refine Ck_V (As := [.int (xs (4 * nc + 1)), .int (xs (4 * nc + 2))]) (rest := []) (wc := mdW k bM M) (wc' := mdW k bM M') (w0' := trW k cA nA tA T' ++ stW k nA N' ++ stW k tA V' ++ mdW k bM M' ++ ouW k oA g' ++ duW k dA gd' ++ tl') ⟨hx, hb, hml, hown, htl⟩ (c_X2_set l D k bM M ((xs (4 * nc + 1))) ((xs (4 * nc + 2))) bb M' hy) (cwV 2 htl gL_law_X2_set rfl rfl rfl (by decide +kernel) ⟨(Nat.le_of_ble_eq_true rfl), (Nat.le_of_ble_eq_true rfl)⟩) hK hP hD hS hA (q0 := 26) (ci := 2) rfl rfl [26, 27, 28, 29, 30, 31, 32, 33, 34, 35] (hi_L rfl (hi_L rfl (hi_L rfl (hi_R rfl md_hi)))) (by decide) rfl (vs_L rfl (vs_L rfl (vs_L rfl (vs_R rfl md_all)))) rfl hl.1 rfl (Nat.le_of_ble_eq_true rfl) dL_law_767 ⟨hcl, hsl⟩ (fun H locs hP hD hS => ?_)
  refine W.eq (g2 := F0 m 770 ls [.int bb]) rfl ?_
  refine lv_istore (lv' := [(7, .int bb), (6, .int kc), (0, .ref b), (1, .ref (cA 0)), (2, .ref (bM 0)), (3, .ref oA), (4, .ref dA), (5, .int (nI (4 * nc)))]) hx hb dL_law_770 hl (by decide) rfl (fun ls hl => ?_)
  refine lv_aload_n hx hb dL_law_772 rfl (lv_at hl 4 rfl) ?_
  refine Ck_V (As := []) (rest := []) (wc := [mdO bM M']) (wc' := [mdO bM M']) (w0' := trW k cA nA tA T' ++ stW k nA N' ++ stW k tA V' ++ mdW k bM M' ++ ouW k oA g' ++ duW k dA gd' ++ tl') ⟨hx, hb, hml, hown, htl⟩ (c_X2_thrown l D k bM M' (m_ref M') rfl) (cwV 0 htl gL_law_X2_thrown rfl rfl rfl (by decide +kernel) ⟨(Nat.le_of_ble_eq_true rfl), (Nat.le_of_ble_eq_true rfl)⟩) hK hP hD hS hA (q0 := 26) (ci := 2) rfl rfl [26] rfl (by decide) rfl rfl rfl hl.1 rfl (Nat.le_of_ble_eq_true rfl) dL_law_773 ⟨hcl, hsl⟩ (fun H locs hP hD hS => ?_)
  refine W.eq (g2 := F0 m 776 ls [.int (m_ref M')]) rfl ?_
  refine lv_iload hx hb dL_law_776 (lv_at hl 1 rfl) ?_
  refine lv_icmp_eq (tgt := 783) hx hb dL_law_778 (by decide) (fun c1 => ?_) (fun c1 => absurd hmr c1)
  have hend : W p l e room_1 s m #[.ref b] below meth c H locs (cells + 40) (slots + 300) Z (F0 m 800 ls []) := by
    refine lv_goto (tgt := 1867) hx hb dL_law_800 (by decide) ?_
    exact kk T' N' V' Q' tl' M' g' gd' _ _ ls hI2 hT2 hP hD hS (lv_sub hl [2, 3, 4, 5, 6, 7] rfl)
  refine W.widen (k := cells + 40) (n := slots + 300) (Nat.le_refl _) (Nat.le_refl _) ?_
  refine lv_iload hx hb dL_law_783 (lv_at hl 1 rfl) ?_
  refine lv_if_ne (tgt := 800) hx hb dL_law_785 (by decide) (fun c2 => hend) (fun c2 => ?_)
  have hk9 : kc = 0 := c2
  obtain ⟨hG9, hg9⟩ := hk0 hk9
  refine lv_aload_n hx hb dL_law_788 rfl (lv_at hl 5 rfl) ?_
  refine lv_iconst (v := 0) hx hb dL_law_789 (by decide) ?_
  refine va_lald hx hb hK hP 36 4 rfl rfl (inb_vp (by decide)) dL_law_790 ?_
  refine W.eq (g2 := F0 m 791 ls [.long (g' 0)]) rfl ?_
  refine lv_iload hx hb dL_law_791 (lv_at hl 0 rfl) ?_
  refine lv_i2l hx hb dL_law_793 rfl ?_
  refine W.lcmp hx hb dL_law_794 ?_
  have e0 : lg_cmp (g' 0) (bb.toInt64) = 0 := by rw [hg9]; simp [lg_cmp]
  exact lv_if_eq (tgt := 800) hx hb dL_law_795 (by decide) (fun c3 => hend) (fun c3 => absurd e0 c3)
set_option maxRecDepth 100000 in
set_option maxHeartbeats 4000000 in
theorem law_setValve (C0 : LC p s m meth c l b L xs D k) (hi : 4 * nc + 4 ≤ L) (hL : L ≤ 2048) (hI : INV nc T N Q M) (hT : PoIs k cA Q tl) (hP : va_P D vwCl (LWl k cA nA tA bM oA dA T N V M g gd tl) H) (hD : va_D (fun q : Nat => s.heap.size ≤ q) (LWl k cA nA tA bM oA dA T N V M g gd tl)) (hS : va_S (fun q : Nat => s.heap.size ≤ q) s.heap H locs) (hl : lv_has ls 10 [(0, .ref b), (1, .ref (cA 0)), (2, .ref (bM 0)), (3, .ref oA), (4, .ref dA), (5, .int (nI (4 * nc)))]) (hcl : cells + 40 ≤ 620558) (hsl : slots + 300 ≤ 7234429) (kk : LK p l e s m below meth c b D k cA nA tA bM oA dA nc cells slots Z) : W p l e room_1 s m #[.ref b] below meth c H locs cells slots Z (F0 m 803 ls []) := by
  obtain ⟨⟨hx, hb, hr, hml, hown, hts, hX, hbl, hlocks, hgv⟩, hst, hK, hG, hC⟩ := id C0
  have hA : ∀ q : Nat, s.heap.size ≤ q → (fun q : Nat => s.heap.size ≤ q) q := fun _ h => h
  have hbA : ¬ (fun q : Nat => s.heap.size ≤ q) b := Nat.not_le.mpr hbl
  have htl : ∀ w ∈ wsL_law, w.before #[Value.ref b] s = true := fun w h => hts w (wsL_law_in w h)
  have hin : ∀ j, j < 4 → vp_in (nI (4 * nc + j)) L := fun j hj q => by
    rcases q with q | q
    · exact nI_pos (lt31 (by omega)) q
    · rw [nI_cl (by omega)] at q; omega
  refine lv_aload_n hx hb dL_law_803 rfl (lv_at hl 1 rfl) ?_
  refine lv_aload_n hx hb dL_law_804 rfl (lv_at hl 0 rfl) ?_
  refine lv_iload hx hb dL_law_805 (lv_at hl 5 rfl) ?_
  refine lv_iconst (v := 1) hx hb dL_law_807 (by decide) ?_
  refine lv_iadd hx hb dL_law_808 ?_
  refine W.eq (g2 := F0 m 809 ls [.int (nI (4 * nc + 1)), .ref b, .ref (cA 0)]) (by rw [show (1 : Int32) = nI 1 from rfl, nI_add]) ?_
  refine va_sld hx hb hX hbl hbA hS (hin 1 (by omega)) dL_law_809 ?_
  refine W.eq (g2 := F0 m 810 ls [.int (xs (4 * nc + 1)), .ref (cA 0)]) (by rw [nI_cl (by omega)]) ?_
  refine lv_aload_n hx hb dL_law_810 rfl (lv_at hl 0 rfl) ?_
  refine lv_iload hx hb dL_law_811 (lv_at hl 5 rfl) ?_
  refine lv_iconst (v := 2) hx hb dL_law_813 (by decide) ?_
  refine lv_iadd hx hb dL_law_814 ?_
  refine W.eq (g2 := F0 m 815 ls [.int (nI (4 * nc + 2)), .ref b, .int (xs (4 * nc + 1)), .ref (cA 0)]) (by rw [show (2 : Int32) = nI 2 from rfl, nI_add]) ?_
  refine va_sld hx hb hX hbl hbA hS (hin 2 (by omega)) dL_law_815 ?_
  refine W.eq (g2 := F0 m 816 ls [.int (xs (4 * nc + 2)), .int (xs (4 * nc + 1)), .ref (cA 0)]) (by rw [nI_cl (by omega)]) ?_
  refine lv_aload_n hx hb dL_law_816 rfl (lv_at hl 3 rfl) ?_
  obtain ⟨w0, Pp, bb, M', hy, hpm, hCl, hpost⟩ := w_setValve (D := D) (V := V) (nA := nA) (tA := tA) hst hI (by omega) hT oA g ((xs (4 * nc + 1))) ((xs (4 * nc + 2)))
  have hq := pq_1 (md := mdW k bM M) (du := duW k dA gd) hpm
  refine Cx_goF (wc := w0) (wx := w0) (wr := (mdW k bM M ++ duW k dA gd)) (vx_runSX (As := [.ref (cA 0), .int (xs (4 * nc + 1)), .int (xs (4 * nc + 2)), .ref oA]) (rest := []) ⟨hx, hb, hml, hown, htl⟩ (hCl _) (vx_cwSW 4 htl gL_law_L_setValve rfl rfl rfl (by decide +kernel) ⟨(Nat.le_of_ble_eq_true rfl), (Nat.le_of_ble_eq_true rfl)⟩) ⟨Pl_blind, Pl_at (wc := w0) hK hG hC (P_perm hq hP) (D_perm hq hD) hS hA (List.range w0.length) (rg_hi _ _) (rg_nd _)⟩ rfl rfl hl.1 rfl (Nat.le_of_ble_eq_true rfl) dL_law_817 ⟨hcl, hsl⟩) (P_perm hq hP) (D_perm hq hD) hS hA rfl (fun _ _ _ _ _ h1 => nomatch h1) ?_
  intro ov B w1 H1 locs1 h1 hB hP1 hD1 hS1
  cases h1
  obtain ⟨kc, T', N', V', Q', tl', g', rfl, hmr, hk0, hpm2, hT2, hI2⟩ := hpost ov w1 hB
  obtain ⟨gd', egd⟩ : ∃ y, y = gd := ⟨_, rfl⟩
  rw [← egd] at hP1 hD1
  have hq2 := (pq_1 (md := mdW k bM M) (du := duW k dA gd') hpm2.symm).symm
  have hP : va_P D vwCl (trW k cA nA tA T' ++ stW k nA N' ++ stW k tA V' ++ mdW k bM M ++ ouW k oA g' ++ duW k dA gd' ++ tl') H1 := P_perm hq2 hP1
  have hD : va_D (fun q : Nat => s.heap.size ≤ q) (trW k cA nA tA T' ++ stW k nA N' ++ stW k tA V' ++ mdW k bM M ++ ouW k oA g' ++ duW k dA gd' ++ tl') := D_perm hq2 hD1
  have hS := hS1
  clear hP1 hD1 hS1
  refine W.eq (g2 := F0 m 820 ls [.int kc]) rfl ?_
  refine lv_istore (lv' := [(6, .int kc), (0, .ref b), (1, .ref (cA 0)), (2, .ref (bM 0)), (3, .ref oA), (4, .ref dA), (5, .int (nI (4 * nc)))]) hx hb dL_law_820 hl (by decide) rfl (fun ls hl => ?_)
  refine lv_aload_n hx hb dL_law_822 rfl (lv_at hl 3 rfl) ?_
  refine lv_aload_n hx hb dL_law_823 rfl (lv_at hl 1 rfl) ?_
  refine lv_iload hx hb dL_law_824 (lv_at hl 6 rfl) ?_
  refine lv_iconst (v := 1) hx hb dL_law_826 (by decide) ?_
  refine lv_iadd hx hb dL_law_827 ?_
  refine W.eq (g2 := F0 m 828 ls [.int (nI (4 * nc + 1)), .ref b, .ref (bM 0)]) (by rw [show (1 : Int32) = nI 1 from rfl, nI_add]) ?_
  refine va_sld hx hb hX hbl hbA hS (hin 1 (by omega)) dL_law_828 ?_
  refine W.eq (g2 := F0 m 829 ls [.int (xs (4 * nc + 1)), .ref (bM 0)]) (by rw [nI_cl (by omega)]) ?_
  refine lv_aload_n hx hb dL_law_829 rfl (lv_at hl 1 rfl) ?_
  refine lv_iload hx hb dL_law_830 (lv_at hl 6 rfl) ?_
  refine lv_iconst (v := 2) hx hb dL_law_832 (by decide) ?_
  refine lv_iadd hx hb dL_law_833 ?_
  refine W.eq (g2 := F0 m 834 ls [.int (nI (4 * nc + 2)), .ref b, .int (xs (4 * nc + 1)), .ref (bM 0)]) (by rw [show (2 : Int32) = nI 2 from rfl, nI_add]) ?_
  refine va_sld hx hb hX hbl hbA hS (hin 2 (by omega)) dL_law_834 ?_
  refine W.eq (g2 := F0 m 835 ls [.int (xs (4 * nc + 2)), .int (xs (4 * nc + 1)), .ref (bM 0)]) (by rw [nI_cl (by omega)]) ?_
  refine Ck_V (As := [.int (xs (4 * nc + 1)), .int (xs (4 * nc + 2))]) (rest := []) (wc := mdW k bM M) (wc' := mdW k bM M') (w0' := trW k cA nA tA T' ++ stW k nA N' ++ stW k tA V' ++ mdW k bM M' ++ ouW k oA g' ++ duW k dA gd' ++ tl') ⟨hx, hb, hml, hown, htl⟩ (c_X2_setValve l D k bM M ((xs (4 * nc + 1))) ((xs (4 * nc + 2))) bb M' hy) (cwV 2 htl gL_law_X2_setValve rfl rfl rfl (by decide +kernel) ⟨(Nat.le_of_ble_eq_true rfl), (Nat.le_of_ble_eq_true rfl)⟩) hK hP hD hS hA (q0 := 26) (ci := 2) rfl rfl [26, 27, 28, 29, 30, 31, 32, 33, 34, 35] (hi_L rfl (hi_L rfl (hi_L rfl (hi_R rfl md_hi)))) (by decide) rfl (vs_L rfl (vs_L rfl (vs_L rfl (vs_R rfl md_all)))) rfl hl.1 rfl (Nat.le_of_ble_eq_true rfl) dL_law_835 ⟨hcl, hsl⟩ (fun H locs hP hD hS => ?_)
  refine W.eq (g2 := F0 m 838 ls [.int bb]) rfl ?_
  refine lv_istore (lv' := [(7, .int bb), (6, .int kc), (0, .ref b), (1, .ref (cA 0)), (2, .ref (bM 0)), (3, .ref oA), (4, .ref dA), (5, .int (nI (4 * nc)))]) hx hb dL_law_838 hl (by decide) rfl (fun ls hl => ?_)
  refine lv_aload_n hx hb dL_law_840 rfl (lv_at hl 4 rfl) ?_
  refine Ck_V (As := []) (rest := []) (wc := [mdO bM M']) (wc' := [mdO bM M']) (w0' := trW k cA nA tA T' ++ stW k nA N' ++ stW k tA V' ++ mdW k bM M' ++ ouW k oA g' ++ duW k dA gd' ++ tl') ⟨hx, hb, hml, hown, htl⟩ (c_X2_thrown l D k bM M' (m_ref M') rfl) (cwV 0 htl gL_law_X2_thrown rfl rfl rfl (by decide +kernel) ⟨(Nat.le_of_ble_eq_true rfl), (Nat.le_of_ble_eq_true rfl)⟩) hK hP hD hS hA (q0 := 26) (ci := 2) rfl rfl [26] rfl (by decide) rfl rfl rfl hl.1 rfl (Nat.le_of_ble_eq_true rfl) dL_law_841 ⟨hcl, hsl⟩ (fun H locs hP hD hS => ?_)
  refine W.eq (g2 := F0 m 844 ls [.int (m_ref M')]) rfl ?_
  refine lv_iload hx hb dL_law_844 (lv_at hl 1 rfl) ?_
  refine lv_icmp_eq (tgt := 851) hx hb dL_law_846 (by decide) (fun c1 => ?_) (fun c1 => absurd hmr c1)
  have hend : W p l e room_1 s m #[.ref b] below meth c H locs (cells + 40) (slots + 300) Z (F0 m 868 ls []) := by
    refine lv_goto (tgt := 1867) hx hb dL_law_868 (by decide) ?_
    exact kk T' N' V' Q' tl' M' g' gd' _ _ ls hI2 hT2 hP hD hS (lv_sub hl [2, 3, 4, 5, 6, 7] rfl)
  refine W.widen (k := cells + 40) (n := slots + 300) (Nat.le_refl _) (Nat.le_refl _) ?_
  refine lv_iload hx hb dL_law_851 (lv_at hl 1 rfl) ?_
  refine lv_if_ne (tgt := 868) hx hb dL_law_853 (by decide) (fun c2 => hend) (fun c2 => ?_)
  have hk9 : kc = 0 := c2
  obtain ⟨hG9, hg9⟩ := hk0 hk9
  refine lv_aload_n hx hb dL_law_856 rfl (lv_at hl 5 rfl) ?_
  refine lv_iconst (v := 0) hx hb dL_law_857 (by decide) ?_
  refine va_lald hx hb hK hP 36 4 rfl rfl (inb_vp (by decide)) dL_law_858 ?_
  refine W.eq (g2 := F0 m 859 ls [.long (g' 0)]) rfl ?_
  refine lv_iload hx hb dL_law_859 (lv_at hl 0 rfl) ?_
  refine lv_i2l hx hb dL_law_861 rfl ?_
  refine W.lcmp hx hb dL_law_862 ?_
  have e0 : lg_cmp (g' 0) (bb.toInt64) = 0 := by rw [hg9]; simp [lg_cmp]
  exact lv_if_eq (tgt := 868) hx hb dL_law_863 (by decide) (fun c3 => hend) (fun c3 => absurd e0 c3)
set_option maxRecDepth 100000 in
set_option maxHeartbeats 4000000 in
theorem law_setBleed (C0 : LC p s m meth c l b L xs D k) (hi : 4 * nc + 4 ≤ L) (hL : L ≤ 2048) (hI : INV nc T N Q M) (hT : PoIs k cA Q tl) (hP : va_P D vwCl (LWl k cA nA tA bM oA dA T N V M g gd tl) H) (hD : va_D (fun q : Nat => s.heap.size ≤ q) (LWl k cA nA tA bM oA dA T N V M g gd tl)) (hS : va_S (fun q : Nat => s.heap.size ≤ q) s.heap H locs) (hl : lv_has ls 10 [(0, .ref b), (1, .ref (cA 0)), (2, .ref (bM 0)), (3, .ref oA), (4, .ref dA), (5, .int (nI (4 * nc)))]) (hcl : cells + 40 ≤ 620558) (hsl : slots + 300 ≤ 7234429) (kk : LK p l e s m below meth c b D k cA nA tA bM oA dA nc cells slots Z) : W p l e room_1 s m #[.ref b] below meth c H locs cells slots Z (F0 m 871 ls []) := by
  obtain ⟨⟨hx, hb, hr, hml, hown, hts, hX, hbl, hlocks, hgv⟩, hst, hK, hG, hC⟩ := id C0
  have hA : ∀ q : Nat, s.heap.size ≤ q → (fun q : Nat => s.heap.size ≤ q) q := fun _ h => h
  have hbA : ¬ (fun q : Nat => s.heap.size ≤ q) b := Nat.not_le.mpr hbl
  have htl : ∀ w ∈ wsL_law, w.before #[Value.ref b] s = true := fun w h => hts w (wsL_law_in w h)
  have hin : ∀ j, j < 4 → vp_in (nI (4 * nc + j)) L := fun j hj q => by
    rcases q with q | q
    · exact nI_pos (lt31 (by omega)) q
    · rw [nI_cl (by omega)] at q; omega
  refine lv_aload_n hx hb dL_law_871 rfl (lv_at hl 1 rfl) ?_
  refine lv_aload_n hx hb dL_law_872 rfl (lv_at hl 0 rfl) ?_
  refine lv_iload hx hb dL_law_873 (lv_at hl 5 rfl) ?_
  refine lv_iconst (v := 1) hx hb dL_law_875 (by decide) ?_
  refine lv_iadd hx hb dL_law_876 ?_
  refine W.eq (g2 := F0 m 877 ls [.int (nI (4 * nc + 1)), .ref b, .ref (cA 0)]) (by rw [show (1 : Int32) = nI 1 from rfl, nI_add]) ?_
  refine va_sld hx hb hX hbl hbA hS (hin 1 (by omega)) dL_law_877 ?_
  refine W.eq (g2 := F0 m 878 ls [.int (xs (4 * nc + 1)), .ref (cA 0)]) (by rw [nI_cl (by omega)]) ?_
  refine lv_aload_n hx hb dL_law_878 rfl (lv_at hl 0 rfl) ?_
  refine lv_iload hx hb dL_law_879 (lv_at hl 5 rfl) ?_
  refine lv_iconst (v := 2) hx hb dL_law_881 (by decide) ?_
  refine lv_iadd hx hb dL_law_882 ?_
  refine W.eq (g2 := F0 m 883 ls [.int (nI (4 * nc + 2)), .ref b, .int (xs (4 * nc + 1)), .ref (cA 0)]) (by rw [show (2 : Int32) = nI 2 from rfl, nI_add]) ?_
  refine va_sld hx hb hX hbl hbA hS (hin 2 (by omega)) dL_law_883 ?_
  refine W.eq (g2 := F0 m 884 ls [.int (xs (4 * nc + 2)), .int (xs (4 * nc + 1)), .ref (cA 0)]) (by rw [nI_cl (by omega)]) ?_
  refine lv_aload_n hx hb dL_law_884 rfl (lv_at hl 3 rfl) ?_
  obtain ⟨w0, Pp, bb, M', hy, hpm, hCl, hpost⟩ := w_setBleed (D := D) (V := V) (nA := nA) (tA := tA) hst hI (by omega) hT oA g ((xs (4 * nc + 1))) ((xs (4 * nc + 2)))
  have hq := pq_1 (md := mdW k bM M) (du := duW k dA gd) hpm
  refine Cx_goF (wc := w0) (wx := w0) (wr := (mdW k bM M ++ duW k dA gd)) (vx_runSX (As := [.ref (cA 0), .int (xs (4 * nc + 1)), .int (xs (4 * nc + 2)), .ref oA]) (rest := []) ⟨hx, hb, hml, hown, htl⟩ (hCl _) (vx_cwSW 4 htl gL_law_L_setBleed rfl rfl rfl (by decide +kernel) ⟨(Nat.le_of_ble_eq_true rfl), (Nat.le_of_ble_eq_true rfl)⟩) ⟨Pl_blind, Pl_at (wc := w0) hK hG hC (P_perm hq hP) (D_perm hq hD) hS hA (List.range w0.length) (rg_hi _ _) (rg_nd _)⟩ rfl rfl hl.1 rfl (Nat.le_of_ble_eq_true rfl) dL_law_885 ⟨hcl, hsl⟩) (P_perm hq hP) (D_perm hq hD) hS hA rfl (fun _ _ _ _ _ h1 => nomatch h1) ?_
  intro ov B w1 H1 locs1 h1 hB hP1 hD1 hS1
  cases h1
  obtain ⟨kc, T', N', V', Q', tl', g', rfl, hmr, hk0, hpm2, hT2, hI2⟩ := hpost ov w1 hB
  obtain ⟨gd', egd⟩ : ∃ y, y = gd := ⟨_, rfl⟩
  rw [← egd] at hP1 hD1
  have hq2 := (pq_1 (md := mdW k bM M) (du := duW k dA gd') hpm2.symm).symm
  have hP : va_P D vwCl (trW k cA nA tA T' ++ stW k nA N' ++ stW k tA V' ++ mdW k bM M ++ ouW k oA g' ++ duW k dA gd' ++ tl') H1 := P_perm hq2 hP1
  have hD : va_D (fun q : Nat => s.heap.size ≤ q) (trW k cA nA tA T' ++ stW k nA N' ++ stW k tA V' ++ mdW k bM M ++ ouW k oA g' ++ duW k dA gd' ++ tl') := D_perm hq2 hD1
  have hS := hS1
  clear hP1 hD1 hS1
  refine W.eq (g2 := F0 m 888 ls [.int kc]) rfl ?_
  refine lv_istore (lv' := [(6, .int kc), (0, .ref b), (1, .ref (cA 0)), (2, .ref (bM 0)), (3, .ref oA), (4, .ref dA), (5, .int (nI (4 * nc)))]) hx hb dL_law_888 hl (by decide) rfl (fun ls hl => ?_)
  refine lv_aload_n hx hb dL_law_890 rfl (lv_at hl 3 rfl) ?_
  refine lv_aload_n hx hb dL_law_891 rfl (lv_at hl 1 rfl) ?_
  refine lv_iload hx hb dL_law_892 (lv_at hl 6 rfl) ?_
  refine lv_iconst (v := 1) hx hb dL_law_894 (by decide) ?_
  refine lv_iadd hx hb dL_law_895 ?_
  refine W.eq (g2 := F0 m 896 ls [.int (nI (4 * nc + 1)), .ref b, .ref (bM 0)]) (by rw [show (1 : Int32) = nI 1 from rfl, nI_add]) ?_
  refine va_sld hx hb hX hbl hbA hS (hin 1 (by omega)) dL_law_896 ?_
  refine W.eq (g2 := F0 m 897 ls [.int (xs (4 * nc + 1)), .ref (bM 0)]) (by rw [nI_cl (by omega)]) ?_
  refine lv_aload_n hx hb dL_law_897 rfl (lv_at hl 1 rfl) ?_
  refine lv_iload hx hb dL_law_898 (lv_at hl 6 rfl) ?_
  refine lv_iconst (v := 2) hx hb dL_law_900 (by decide) ?_
  refine lv_iadd hx hb dL_law_901 ?_
  refine W.eq (g2 := F0 m 902 ls [.int (nI (4 * nc + 2)), .ref b, .int (xs (4 * nc + 1)), .ref (bM 0)]) (by rw [show (2 : Int32) = nI 2 from rfl, nI_add]) ?_
  refine va_sld hx hb hX hbl hbA hS (hin 2 (by omega)) dL_law_902 ?_
  refine W.eq (g2 := F0 m 903 ls [.int (xs (4 * nc + 2)), .int (xs (4 * nc + 1)), .ref (bM 0)]) (by rw [nI_cl (by omega)]) ?_
  refine Ck_V (As := [.int (xs (4 * nc + 1)), .int (xs (4 * nc + 2))]) (rest := []) (wc := mdW k bM M) (wc' := mdW k bM M') (w0' := trW k cA nA tA T' ++ stW k nA N' ++ stW k tA V' ++ mdW k bM M' ++ ouW k oA g' ++ duW k dA gd' ++ tl') ⟨hx, hb, hml, hown, htl⟩ (c_X2_setBleed l D k bM M ((xs (4 * nc + 1))) ((xs (4 * nc + 2))) bb M' hy) (cwV 2 htl gL_law_X2_setBleed rfl rfl rfl (by decide +kernel) ⟨(Nat.le_of_ble_eq_true rfl), (Nat.le_of_ble_eq_true rfl)⟩) hK hP hD hS hA (q0 := 26) (ci := 2) rfl rfl [26, 27, 28, 29, 30, 31, 32, 33, 34, 35] (hi_L rfl (hi_L rfl (hi_L rfl (hi_R rfl md_hi)))) (by decide) rfl (vs_L rfl (vs_L rfl (vs_L rfl (vs_R rfl md_all)))) rfl hl.1 rfl (Nat.le_of_ble_eq_true rfl) dL_law_903 ⟨hcl, hsl⟩ (fun H locs hP hD hS => ?_)
  refine W.eq (g2 := F0 m 906 ls [.int bb]) rfl ?_
  refine lv_istore (lv' := [(7, .int bb), (6, .int kc), (0, .ref b), (1, .ref (cA 0)), (2, .ref (bM 0)), (3, .ref oA), (4, .ref dA), (5, .int (nI (4 * nc)))]) hx hb dL_law_906 hl (by decide) rfl (fun ls hl => ?_)
  refine lv_aload_n hx hb dL_law_908 rfl (lv_at hl 4 rfl) ?_
  refine Ck_V (As := []) (rest := []) (wc := [mdO bM M']) (wc' := [mdO bM M']) (w0' := trW k cA nA tA T' ++ stW k nA N' ++ stW k tA V' ++ mdW k bM M' ++ ouW k oA g' ++ duW k dA gd' ++ tl') ⟨hx, hb, hml, hown, htl⟩ (c_X2_thrown l D k bM M' (m_ref M') rfl) (cwV 0 htl gL_law_X2_thrown rfl rfl rfl (by decide +kernel) ⟨(Nat.le_of_ble_eq_true rfl), (Nat.le_of_ble_eq_true rfl)⟩) hK hP hD hS hA (q0 := 26) (ci := 2) rfl rfl [26] rfl (by decide) rfl rfl rfl hl.1 rfl (Nat.le_of_ble_eq_true rfl) dL_law_909 ⟨hcl, hsl⟩ (fun H locs hP hD hS => ?_)
  refine W.eq (g2 := F0 m 912 ls [.int (m_ref M')]) rfl ?_
  refine lv_iload hx hb dL_law_912 (lv_at hl 1 rfl) ?_
  refine lv_icmp_eq (tgt := 919) hx hb dL_law_914 (by decide) (fun c1 => ?_) (fun c1 => absurd hmr c1)
  have hend : W p l e room_1 s m #[.ref b] below meth c H locs (cells + 40) (slots + 300) Z (F0 m 936 ls []) := by
    refine lv_goto (tgt := 1867) hx hb dL_law_936 (by decide) ?_
    exact kk T' N' V' Q' tl' M' g' gd' _ _ ls hI2 hT2 hP hD hS (lv_sub hl [2, 3, 4, 5, 6, 7] rfl)
  refine W.widen (k := cells + 40) (n := slots + 300) (Nat.le_refl _) (Nat.le_refl _) ?_
  refine lv_iload hx hb dL_law_919 (lv_at hl 1 rfl) ?_
  refine lv_if_ne (tgt := 936) hx hb dL_law_921 (by decide) (fun c2 => hend) (fun c2 => ?_)
  have hk9 : kc = 0 := c2
  obtain ⟨hG9, hg9⟩ := hk0 hk9
  refine lv_aload_n hx hb dL_law_924 rfl (lv_at hl 5 rfl) ?_
  refine lv_iconst (v := 0) hx hb dL_law_925 (by decide) ?_
  refine va_lald hx hb hK hP 36 4 rfl rfl (inb_vp (by decide)) dL_law_926 ?_
  refine W.eq (g2 := F0 m 927 ls [.long (g' 0)]) rfl ?_
  refine lv_iload hx hb dL_law_927 (lv_at hl 0 rfl) ?_
  refine lv_i2l hx hb dL_law_929 rfl ?_
  refine W.lcmp hx hb dL_law_930 ?_
  have e0 : lg_cmp (g' 0) (bb.toInt64) = 0 := by rw [hg9]; simp [lg_cmp]
  exact lv_if_eq (tgt := 936) hx hb dL_law_931 (by decide) (fun c3 => hend) (fun c3 => absurd e0 c3)
end LAW
