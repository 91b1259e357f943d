section LAW
variable {p : Program} {l : Launch} {e : Env} {s : State} {m : MethodId} {below : List Frame} {meth : Method} {c : Code} {b L : Nat} {xs : Nat → Int32} {D : va_G} {k : Nat → ClassId} {cA nA tA bM : Nat → Nat} {oA dA nc : Nat} {cells slots : Nat} {Z : State → Prop} {T : TrV} {N V : StV} {Q : PoV} {tl : va_W} {M : MdV} {g : Nat → Int64} {gd : Nat → UInt64} {H : Heap} {locs : List Loc} {ls : Array Slot}
set_option maxRecDepth 100000 in
set_option maxHeartbeats 4000000 in
theorem law_wash (C0 : LC p s m meth c l b L xs D k) (hi : 4 * nc + 4 ≤ L) (hL : L ≤ 2048) (hI : INV nc T N Q M) (hT : PoIs k cA Q tl) (hP : va_P D vwCl (LWl k cA nA tA bM oA dA T N V M g gd tl) H) (hD : va_D (fun q : Nat => s.heap.size ≤ q) (LWl k cA nA tA bM oA dA T N V M g gd tl)) (hS : va_S (fun q : Nat => s.heap.size ≤ q) s.heap H locs) (hl : lv_has ls 10 [(0, .ref b), (1, .ref (cA 0)), (2, .ref (bM 0)), (3, .ref oA), (4, .ref dA), (5, .int (nI (4 * nc)))]) (hcl : cells + 40 ≤ 620558) (hsl : slots + 300 ≤ 7234429) (kk : LK p l e s m below meth c b D k cA nA tA bM oA dA nc cells slots Z) : W p l e room_1 s m #[.ref b] below meth c H locs cells slots Z (F0 m 939 ls []) := by
  obtain ⟨⟨hx, hb, hr, hml, hown, hts, hX, hbl, hlocks, hgv⟩, hst, hK, hG, hC⟩ := id C0
  have hA : ∀ q : Nat, s.heap.size ≤ q → (fun q : Nat => s.heap.size ≤ q) q := fun _ h => h
  have hbA : ¬ (fun q : Nat => s.heap.size ≤ q) b := Nat.not_le.mpr hbl
  have htl : ∀ w ∈ wsL_law, w.before #[Value.ref b] s = true := fun w h => hts w (wsL_law_in w h)
  have hin : ∀ j, j < 4 → vp_in (nI (4 * nc + j)) L := fun j hj q => by
    rcases q with q | q
    · exact nI_pos (lt31 (by omega)) q
    · rw [nI_cl (by omega)] at q; omega
  refine lv_aload_n hx hb dL_law_939 rfl (lv_at hl 1 rfl) ?_
  refine lv_aload_n hx hb dL_law_940 rfl (lv_at hl 0 rfl) ?_
  refine lv_iload hx hb dL_law_941 (lv_at hl 5 rfl) ?_
  refine lv_iconst (v := 1) hx hb dL_law_943 (by decide) ?_
  refine lv_iadd hx hb dL_law_944 ?_
  refine W.eq (g2 := F0 m 945 ls [.int (nI (4 * nc + 1)), .ref b, .ref (cA 0)]) (by rw [show (1 : Int32) = nI 1 from rfl, nI_add]) ?_
  refine va_sld hx hb hX hbl hbA hS (hin 1 (by omega)) dL_law_945 ?_
  refine W.eq (g2 := F0 m 946 ls [.int (xs (4 * nc + 1)), .ref (cA 0)]) (by rw [nI_cl (by omega)]) ?_
  refine lv_aload_n hx hb dL_law_946 rfl (lv_at hl 0 rfl) ?_
  refine lv_iload hx hb dL_law_947 (lv_at hl 5 rfl) ?_
  refine lv_iconst (v := 2) hx hb dL_law_949 (by decide) ?_
  refine lv_iadd hx hb dL_law_950 ?_
  refine W.eq (g2 := F0 m 951 ls [.int (nI (4 * nc + 2)), .ref b, .int (xs (4 * nc + 1)), .ref (cA 0)]) (by rw [show (2 : Int32) = nI 2 from rfl, nI_add]) ?_
  refine va_sld hx hb hX hbl hbA hS (hin 2 (by omega)) dL_law_951 ?_
  refine W.eq (g2 := F0 m 952 ls [.int (xs (4 * nc + 2)), .int (xs (4 * nc + 1)), .ref (cA 0)]) (by rw [nI_cl (by omega)]) ?_
  refine lv_aload_n hx hb dL_law_952 rfl (lv_at hl 3 rfl) ?_
  obtain ⟨w0, Pp, bb, M', hy, hpm, hCl, hpost⟩ := w_wash (D := D) (V := V) (nA := nA) (tA := tA) hst hI (by omega) hT oA g ((xs (4 * nc + 1))) ((xs (4 * nc + 2)))
  have hq := pq_1 (md := mdW k bM M) (du := duW k dA gd) hpm
  refine Cx_goF (wc := w0) (wx := w0) (wr := (mdW k bM M ++ duW k dA gd)) (vx_runSX (As := [.ref (cA 0), .int (xs (4 * nc + 1)), .int (xs (4 * nc + 2)), .ref oA]) (rest := []) ⟨hx, hb, hml, hown, htl⟩ (hCl _) (vx_cwSW 4 htl gL_law_L_wash rfl rfl rfl (by decide +kernel) ⟨(Nat.le_of_ble_eq_true rfl), (Nat.le_of_ble_eq_true rfl)⟩) ⟨Pl_blind, Pl_at (wc := w0) hK hG hC (P_perm hq hP) (D_perm hq hD) hS hA (List.range w0.length) (rg_hi _ _) (rg_nd _)⟩ rfl rfl hl.1 rfl (Nat.le_of_ble_eq_true rfl) dL_law_953 ⟨hcl, hsl⟩) (P_perm hq hP) (D_perm hq hD) hS hA rfl (fun _ _ _ _ _ h1 => nomatch h1) ?_
  intro ov B w1 H1 locs1 h1 hB hP1 hD1 hS1
  cases h1
  obtain ⟨kc, T', N', V', Q', tl', g', rfl, hmr, hk0, hpm2, hT2, hI2⟩ := hpost ov w1 hB
  obtain ⟨gd', egd⟩ : ∃ y, y = gd := ⟨_, rfl⟩
  rw [← egd] at hP1 hD1
  have hq2 := (pq_1 (md := mdW k bM M) (du := duW k dA gd') hpm2.symm).symm
  have hP : va_P D vwCl (trW k cA nA tA T' ++ stW k nA N' ++ stW k tA V' ++ mdW k bM M ++ ouW k oA g' ++ duW k dA gd' ++ tl') H1 := P_perm hq2 hP1
  have hD : va_D (fun q : Nat => s.heap.size ≤ q) (trW k cA nA tA T' ++ stW k nA N' ++ stW k tA V' ++ mdW k bM M ++ ouW k oA g' ++ duW k dA gd' ++ tl') := D_perm hq2 hD1
  have hS := hS1
  clear hP1 hD1 hS1
  refine W.eq (g2 := F0 m 956 ls [.int kc]) rfl ?_
  refine lv_istore (lv' := [(6, .int kc), (0, .ref b), (1, .ref (cA 0)), (2, .ref (bM 0)), (3, .ref oA), (4, .ref dA), (5, .int (nI (4 * nc)))]) hx hb dL_law_956 hl (by decide) rfl (fun ls hl => ?_)
  refine lv_aload_n hx hb dL_law_958 rfl (lv_at hl 3 rfl) ?_
  refine lv_aload_n hx hb dL_law_959 rfl (lv_at hl 1 rfl) ?_
  refine lv_iload hx hb dL_law_960 (lv_at hl 6 rfl) ?_
  refine lv_iconst (v := 1) hx hb dL_law_962 (by decide) ?_
  refine lv_iadd hx hb dL_law_963 ?_
  refine W.eq (g2 := F0 m 964 ls [.int (nI (4 * nc + 1)), .ref b, .ref (bM 0)]) (by rw [show (1 : Int32) = nI 1 from rfl, nI_add]) ?_
  refine va_sld hx hb hX hbl hbA hS (hin 1 (by omega)) dL_law_964 ?_
  refine W.eq (g2 := F0 m 965 ls [.int (xs (4 * nc + 1)), .ref (bM 0)]) (by rw [nI_cl (by omega)]) ?_
  refine lv_aload_n hx hb dL_law_965 rfl (lv_at hl 1 rfl) ?_
  refine lv_iload hx hb dL_law_966 (lv_at hl 6 rfl) ?_
  refine lv_iconst (v := 2) hx hb dL_law_968 (by decide) ?_
  refine lv_iadd hx hb dL_law_969 ?_
  refine W.eq (g2 := F0 m 970 ls [.int (nI (4 * nc + 2)), .ref b, .int (xs (4 * nc + 1)), .ref (bM 0)]) (by rw [show (2 : Int32) = nI 2 from rfl, nI_add]) ?_
  refine va_sld hx hb hX hbl hbA hS (hin 2 (by omega)) dL_law_970 ?_
  refine W.eq (g2 := F0 m 971 ls [.int (xs (4 * nc + 2)), .int (xs (4 * nc + 1)), .ref (bM 0)]) (by rw [nI_cl (by omega)]) ?_
  refine Ck_V (As := [.int (xs (4 * nc + 1)), .int (xs (4 * nc + 2))]) (rest := []) (wc := mdW k bM M) (wc' := mdW k bM M') (w0' := trW k cA nA tA T' ++ stW k nA N' ++ stW k tA V' ++ mdW k bM M' ++ ouW k oA g' ++ duW k dA gd' ++ tl') ⟨hx, hb, hml, hown, htl⟩ (c_X2_wash l D k bM M ((xs (4 * nc + 1))) ((xs (4 * nc + 2))) bb M' hy) (cwV 2 htl gL_law_X2_wash rfl rfl rfl (by decide +kernel) ⟨(Nat.le_of_ble_eq_true rfl), (Nat.le_of_ble_eq_true rfl)⟩) hK hP hD hS hA (q0 := 26) (ci := 2) rfl rfl [26, 27, 28, 29, 30, 31, 32, 33, 34, 35] (hi_L rfl (hi_L rfl (hi_L rfl (hi_R rfl md_hi)))) (by decide) rfl (vs_L rfl (vs_L rfl (vs_L rfl (vs_R rfl md_all)))) rfl hl.1 rfl (Nat.le_of_ble_eq_true rfl) dL_law_971 ⟨hcl, hsl⟩ (fun H locs hP hD hS => ?_)
  refine W.eq (g2 := F0 m 974 ls [.int bb]) rfl ?_
  refine lv_istore (lv' := [(7, .int bb), (6, .int kc), (0, .ref b), (1, .ref (cA 0)), (2, .ref (bM 0)), (3, .ref oA), (4, .ref dA), (5, .int (nI (4 * nc)))]) hx hb dL_law_974 hl (by decide) rfl (fun ls hl => ?_)
  refine lv_aload_n hx hb dL_law_976 rfl (lv_at hl 4 rfl) ?_
  refine Ck_V (As := []) (rest := []) (wc := [mdO bM M']) (wc' := [mdO bM M']) (w0' := trW k cA nA tA T' ++ stW k nA N' ++ stW k tA V' ++ mdW k bM M' ++ ouW k oA g' ++ duW k dA gd' ++ tl') ⟨hx, hb, hml, hown, htl⟩ (c_X2_thrown l D k bM M' (m_ref M') rfl) (cwV 0 htl gL_law_X2_thrown rfl rfl rfl (by decide +kernel) ⟨(Nat.le_of_ble_eq_true rfl), (Nat.le_of_ble_eq_true rfl)⟩) hK hP hD hS hA (q0 := 26) (ci := 2) rfl rfl [26] rfl (by decide) rfl rfl rfl hl.1 rfl (Nat.le_of_ble_eq_true rfl) dL_law_977 ⟨hcl, hsl⟩ (fun H locs hP hD hS => ?_)
  refine W.eq (g2 := F0 m 980 ls [.int (m_ref M')]) rfl ?_
  refine lv_iload hx hb dL_law_980 (lv_at hl 1 rfl) ?_
  refine lv_icmp_eq (tgt := 987) hx hb dL_law_982 (by decide) (fun c1 => ?_) (fun c1 => absurd hmr c1)
  have hend : W p l e room_1 s m #[.ref b] below meth c H locs (cells + 40) (slots + 300) Z (F0 m 1004 ls []) := by
    refine lv_goto (tgt := 1867) hx hb dL_law_1004 (by decide) ?_
    exact kk T' N' V' Q' tl' M' g' gd' _ _ ls hI2 hT2 hP hD hS (lv_sub hl [2, 3, 4, 5, 6, 7] rfl)
  refine W.widen (k := cells + 40) (n := slots + 300) (Nat.le_refl _) (Nat.le_refl _) ?_
  refine lv_iload hx hb dL_law_987 (lv_at hl 1 rfl) ?_
  refine lv_if_ne (tgt := 1004) hx hb dL_law_989 (by decide) (fun c2 => hend) (fun c2 => ?_)
  have hk9 : kc = 0 := c2
  obtain ⟨hG9, hg9⟩ := hk0 hk9
  refine lv_aload_n hx hb dL_law_992 rfl (lv_at hl 5 rfl) ?_
  refine lv_iconst (v := 0) hx hb dL_law_993 (by decide) ?_
  refine va_lald hx hb hK hP 36 4 rfl rfl (inb_vp (by decide)) dL_law_994 ?_
  refine W.eq (g2 := F0 m 995 ls [.long (g' 0)]) rfl ?_
  refine lv_iload hx hb dL_law_995 (lv_at hl 0 rfl) ?_
  refine lv_i2l hx hb dL_law_997 rfl ?_
  refine W.lcmp hx hb dL_law_998 ?_
  have e0 : lg_cmp (g' 0) (bb.toInt64) = 0 := by rw [hg9]; simp [lg_cmp]
  exact lv_if_eq (tgt := 1004) hx hb dL_law_999 (by decide) (fun c3 => hend) (fun c3 => absurd e0 c3)
set_option maxRecDepth 100000 in
set_option maxHeartbeats 4000000 in
theorem law_endWash (C0 : LC p s m meth c l b L xs D k) (hi : 4 * nc + 4 ≤ L) (hL : L ≤ 2048) (hI : INV nc T N Q M) (hT : PoIs k cA Q tl) (hP : va_P D vwCl (LWl k cA nA tA bM oA dA T N V M g gd tl) H) (hD : va_D (fun q : Nat => s.heap.size ≤ q) (LWl k cA nA tA bM oA dA T N V M g gd tl)) (hS : va_S (fun q : Nat => s.heap.size ≤ q) s.heap H locs) (hl : lv_has ls 10 [(0, .ref b), (1, .ref (cA 0)), (2, .ref (bM 0)), (3, .ref oA), (4, .ref dA), (5, .int (nI (4 * nc)))]) (hcl : cells + 40 ≤ 620558) (hsl : slots + 300 ≤ 7234429) (kk : LK p l e s m below meth c b D k cA nA tA bM oA dA nc cells slots Z) : W p l e room_1 s m #[.ref b] below meth c H locs cells slots Z (F0 m 1007 ls []) := by
  obtain ⟨⟨hx, hb, hr, hml, hown, hts, hX, hbl, hlocks, hgv⟩, hst, hK, hG, hC⟩ := id C0
  have hA : ∀ q : Nat, s.heap.size ≤ q → (fun q : Nat => s.heap.size ≤ q) q := fun _ h => h
  have hbA : ¬ (fun q : Nat => s.heap.size ≤ q) b := Nat.not_le.mpr hbl
  have htl : ∀ w ∈ wsL_law, w.before #[Value.ref b] s = true := fun w h => hts w (wsL_law_in w h)
  have hin : ∀ j, j < 4 → vp_in (nI (4 * nc + j)) L := fun j hj q => by
    rcases q with q | q
    · exact nI_pos (lt31 (by omega)) q
    · rw [nI_cl (by omega)] at q; omega
  refine lv_aload_n hx hb dL_law_1007 rfl (lv_at hl 1 rfl) ?_
  refine lv_aload_n hx hb dL_law_1008 rfl (lv_at hl 0 rfl) ?_
  refine lv_iload hx hb dL_law_1009 (lv_at hl 5 rfl) ?_
  refine lv_iconst (v := 1) hx hb dL_law_1011 (by decide) ?_
  refine lv_iadd hx hb dL_law_1012 ?_
  refine W.eq (g2 := F0 m 1013 ls [.int (nI (4 * nc + 1)), .ref b, .ref (cA 0)]) (by rw [show (1 : Int32) = nI 1 from rfl, nI_add]) ?_
  refine va_sld hx hb hX hbl hbA hS (hin 1 (by omega)) dL_law_1013 ?_
  refine W.eq (g2 := F0 m 1014 ls [.int (xs (4 * nc + 1)), .ref (cA 0)]) (by rw [nI_cl (by omega)]) ?_
  refine lv_aload_n hx hb dL_law_1014 rfl (lv_at hl 3 rfl) ?_
  obtain ⟨w0, Pp, bb, M', hy, hpm, hCl, hpost⟩ := w_endWash (D := D) (V := V) (nA := nA) (tA := tA) hst hI (by omega) hT oA g ((xs (4 * nc + 1)))
  have hq := pq_1 (md := mdW k bM M) (du := duW k dA gd) hpm
  refine Cx_goF (wc := w0) (wx := w0) (wr := (mdW k bM M ++ duW k dA gd)) (vx_runSX (As := [.ref (cA 0), .int (xs (4 * nc + 1)), .ref oA]) (rest := []) ⟨hx, hb, hml, hown, htl⟩ (hCl _) (vx_cwSW 3 htl gL_law_L_endWash rfl rfl rfl (by decide +kernel) ⟨(Nat.le_of_ble_eq_true rfl), (Nat.le_of_ble_eq_true rfl)⟩) ⟨Pl_blind, Pl_at (wc := w0) hK hG hC (P_perm hq hP) (D_perm hq hD) hS hA (List.range w0.length) (rg_hi _ _) (rg_nd _)⟩ rfl rfl hl.1 rfl (Nat.le_of_ble_eq_true rfl) dL_law_1015 ⟨hcl, hsl⟩) (P_perm hq hP) (D_perm hq hD) hS hA rfl (fun _ _ _ _ _ h1 => nomatch h1) ?_
  intro ov B w1 H1 locs1 h1 hB hP1 hD1 hS1
  cases h1
  obtain ⟨kc, T', N', V', Q', tl', g', rfl, hmr, hk0, hpm2, hT2, hI2⟩ := hpost ov w1 hB
  obtain ⟨gd', egd⟩ : ∃ y, y = gd := ⟨_, rfl⟩
  rw [← egd] at hP1 hD1
  have hq2 := (pq_1 (md := mdW k bM M) (du := duW k dA gd') hpm2.symm).symm
  have hP : va_P D vwCl (trW k cA nA tA T' ++ stW k nA N' ++ stW k tA V' ++ mdW k bM M ++ ouW k oA g' ++ duW k dA gd' ++ tl') H1 := P_perm hq2 hP1
  have hD : va_D (fun q : Nat => s.heap.size ≤ q) (trW k cA nA tA T' ++ stW k nA N' ++ stW k tA V' ++ mdW k bM M ++ ouW k oA g' ++ duW k dA gd' ++ tl') := D_perm hq2 hD1
  have hS := hS1
  clear hP1 hD1 hS1
  refine W.eq (g2 := F0 m 1018 ls [.int kc]) rfl ?_
  refine lv_istore (lv' := [(6, .int kc), (0, .ref b), (1, .ref (cA 0)), (2, .ref (bM 0)), (3, .ref oA), (4, .ref dA), (5, .int (nI (4 * nc)))]) hx hb dL_law_1018 hl (by decide) rfl (fun ls hl => ?_)
  refine lv_aload_n hx hb dL_law_1020 rfl (lv_at hl 3 rfl) ?_
  refine lv_aload_n hx hb dL_law_1021 rfl (lv_at hl 1 rfl) ?_
  refine lv_iload hx hb dL_law_1022 (lv_at hl 6 rfl) ?_
  refine lv_iconst (v := 1) hx hb dL_law_1024 (by decide) ?_
  refine lv_iadd hx hb dL_law_1025 ?_
  refine W.eq (g2 := F0 m 1026 ls [.int (nI (4 * nc + 1)), .ref b, .ref (bM 0)]) (by rw [show (1 : Int32) = nI 1 from rfl, nI_add]) ?_
  refine va_sld hx hb hX hbl hbA hS (hin 1 (by omega)) dL_law_1026 ?_
  refine W.eq (g2 := F0 m 1027 ls [.int (xs (4 * nc + 1)), .ref (bM 0)]) (by rw [nI_cl (by omega)]) ?_
  refine Ck_V (As := [.int (xs (4 * nc + 1))]) (rest := []) (wc := mdW k bM M) (wc' := mdW k bM M') (w0' := trW k cA nA tA T' ++ stW k nA N' ++ stW k tA V' ++ mdW k bM M' ++ ouW k oA g' ++ duW k dA gd' ++ tl') ⟨hx, hb, hml, hown, htl⟩ (c_X2_endWash l D k bM M ((xs (4 * nc + 1))) bb M' hy) (cwV 1 htl gL_law_X2_endWash rfl rfl rfl (by decide +kernel) ⟨(Nat.le_of_ble_eq_true rfl), (Nat.le_of_ble_eq_true rfl)⟩) hK hP hD hS hA (q0 := 26) (ci := 2) rfl rfl [26, 27, 28, 29, 30, 31, 32, 33, 34, 35] (hi_L rfl (hi_L rfl (hi_L rfl (hi_R rfl md_hi)))) (by decide) rfl (vs_L rfl (vs_L rfl (vs_L rfl (vs_R rfl md_all)))) rfl hl.1 rfl (Nat.le_of_ble_eq_true rfl) dL_law_1027 ⟨hcl, hsl⟩ (fun H locs hP hD hS => ?_)
  refine W.eq (g2 := F0 m 1030 ls [.int bb]) rfl ?_
  refine lv_istore (lv' := [(7, .int bb), (6, .int kc), (0, .ref b), (1, .ref (cA 0)), (2, .ref (bM 0)), (3, .ref oA), (4, .ref dA), (5, .int (nI (4 * nc)))]) hx hb dL_law_1030 hl (by decide) rfl (fun ls hl => ?_)
  refine lv_aload_n hx hb dL_law_1032 rfl (lv_at hl 4 rfl) ?_
  refine Ck_V (As := []) (rest := []) (wc := [mdO bM M']) (wc' := [mdO bM M']) (w0' := trW k cA nA tA T' ++ stW k nA N' ++ stW k tA V' ++ mdW k bM M' ++ ouW k oA g' ++ duW k dA gd' ++ tl') ⟨hx, hb, hml, hown, htl⟩ (c_X2_thrown l D k bM M' (m_ref M') rfl) (cwV 0 htl gL_law_X2_thrown rfl rfl rfl (by decide +kernel) ⟨(Nat.le_of_ble_eq_true rfl), (Nat.le_of_ble_eq_true rfl)⟩) hK hP hD hS hA (q0 := 26) (ci := 2) rfl rfl [26] rfl (by decide) rfl rfl rfl hl.1 rfl (Nat.le_of_ble_eq_true rfl) dL_law_1033 ⟨hcl, hsl⟩ (fun H locs hP hD hS => ?_)
  refine W.eq (g2 := F0 m 1036 ls [.int (m_ref M')]) rfl ?_
  refine lv_iload hx hb dL_law_1036 (lv_at hl 1 rfl) ?_
  refine lv_icmp_eq (tgt := 1043) hx hb dL_law_1038 (by decide) (fun c1 => ?_) (fun c1 => absurd hmr c1)
  have hend : W p l e room_1 s m #[.ref b] below meth c H locs (cells + 40) (slots + 300) Z (F0 m 1060 ls []) := by
    refine lv_goto (tgt := 1867) hx hb dL_law_1060 (by decide) ?_
    exact kk T' N' V' Q' tl' M' g' gd' _ _ ls hI2 hT2 hP hD hS (lv_sub hl [2, 3, 4, 5, 6, 7] rfl)
  refine W.widen (k := cells + 40) (n := slots + 300) (Nat.le_refl _) (Nat.le_refl _) ?_
  refine lv_iload hx hb dL_law_1043 (lv_at hl 1 rfl) ?_
  refine lv_if_ne (tgt := 1060) hx hb dL_law_1045 (by decide) (fun c2 => hend) (fun c2 => ?_)
  have hk9 : kc = 0 := c2
  obtain ⟨hG9, hg9⟩ := hk0 hk9
  refine lv_aload_n hx hb dL_law_1048 rfl (lv_at hl 5 rfl) ?_
  refine lv_iconst (v := 0) hx hb dL_law_1049 (by decide) ?_
  refine va_lald hx hb hK hP 36 4 rfl rfl (inb_vp (by decide)) dL_law_1050 ?_
  refine W.eq (g2 := F0 m 1051 ls [.long (g' 0)]) rfl ?_
  refine lv_iload hx hb dL_law_1051 (lv_at hl 0 rfl) ?_
  refine lv_i2l hx hb dL_law_1053 rfl ?_
  refine W.lcmp hx hb dL_law_1054 ?_
  have e0 : lg_cmp (g' 0) (bb.toInt64) = 0 := by rw [hg9]; simp [lg_cmp]
  exact lv_if_eq (tgt := 1060) hx hb dL_law_1055 (by decide) (fun c3 => hend) (fun c3 => absurd e0 c3)
set_option maxRecDepth 100000 in
set_option maxHeartbeats 4000000 in
theorem law_undo (C0 : LC p s m meth c l b L xs D k) (hi : 4 * nc + 4 ≤ L) (hL : L ≤ 2048) (hI : INV nc T N Q M) (hT : PoIs k cA Q tl) (hP : va_P D vwCl (LWl k cA nA tA bM oA dA T N V M g gd tl) H) (hD : va_D (fun q : Nat => s.heap.size ≤ q) (LWl k cA nA tA bM oA dA T N V M g gd tl)) (hS : va_S (fun q : Nat => s.heap.size ≤ q) s.heap H locs) (hl : lv_has ls 10 [(0, .ref b), (1, .ref (cA 0)), (2, .ref (bM 0)), (3, .ref oA), (4, .ref dA), (5, .int (nI (4 * nc)))]) (hcl : cells + 40 ≤ 620558) (hsl : slots + 300 ≤ 7234429) (kk : LK p l e s m below meth c b D k cA nA tA bM oA dA nc cells slots Z) : W p l e room_1 s m #[.ref b] below meth c H locs cells slots Z (F0 m 1063 ls []) := by
  obtain ⟨⟨hx, hb, hr, hml, hown, hts, hX, hbl, hlocks, hgv⟩, hst, hK, hG, hC⟩ := id C0
  have hA : ∀ q : Nat, s.heap.size ≤ q → (fun q : Nat => s.heap.size ≤ q) q := fun _ h => h
  have hbA : ¬ (fun q : Nat => s.heap.size ≤ q) b := Nat.not_le.mpr hbl
  have htl : ∀ w ∈ wsL_law, w.before #[Value.ref b] s = true := fun w h => hts w (wsL_law_in w h)
  have hin : ∀ j, j < 4 → vp_in (nI (4 * nc + j)) L := fun j hj q => by
    rcases q with q | q
    · exact nI_pos (lt31 (by omega)) q
    · rw [nI_cl (by omega)] at q; omega
  refine lv_aload_n hx hb dL_law_1063 rfl (lv_at hl 1 rfl) ?_
  refine lv_aload_n hx hb dL_law_1064 rfl (lv_at hl 3 rfl) ?_
  obtain ⟨w0, Pp, bb, M', hy, hpm, hCl, hpost⟩ := w_undo (D := D) (V := V) (nA := nA) (tA := tA) hst hI (by omega) hT oA g 
  have hq := pq_1 (md := mdW k bM M) (du := duW k dA gd) hpm
  refine Cx_goF (wc := w0) (wx := w0) (wr := (mdW k bM M ++ duW k dA gd)) (vx_runSX (As := [.ref (cA 0), .ref oA]) (rest := []) ⟨hx, hb, hml, hown, htl⟩ (hCl _) (vx_cwSW 2 htl gL_law_L_undo rfl rfl rfl (by decide +kernel) ⟨(Nat.le_of_ble_eq_true rfl), (Nat.le_of_ble_eq_true rfl)⟩) ⟨Pl_blind, Pl_at (wc := w0) hK hG hC (P_perm hq hP) (D_perm hq hD) hS hA (List.range w0.length) (rg_hi _ _) (rg_nd _)⟩ rfl rfl hl.1 rfl (Nat.le_of_ble_eq_true rfl) dL_law_1065 ⟨hcl, hsl⟩) (P_perm hq hP) (D_perm hq hD) hS hA rfl (fun _ _ _ _ _ h1 => nomatch h1) ?_
  intro ov B w1 H1 locs1 h1 hB hP1 hD1 hS1
  cases h1
  obtain ⟨kc, T', N', V', Q', tl', g', rfl, hmr, hk0, hpm2, hT2, hI2⟩ := hpost ov w1 hB
  obtain ⟨gd', egd⟩ : ∃ y, y = gd := ⟨_, rfl⟩
  rw [← egd] at hP1 hD1
  have hq2 := (pq_1 (md := mdW k bM M) (du := duW k dA gd') hpm2.symm).symm
  have hP : va_P D vwCl (trW k cA nA tA T' ++ stW k nA N' ++ stW k tA V' ++ mdW k bM M ++ ouW k oA g' ++ duW k dA gd' ++ tl') H1 := P_perm hq2 hP1
  have hD : va_D (fun q : Nat => s.heap.size ≤ q) (trW k cA nA tA T' ++ stW k nA N' ++ stW k tA V' ++ mdW k bM M ++ ouW k oA g' ++ duW k dA gd' ++ tl') := D_perm hq2 hD1
  have hS := hS1
  clear hP1 hD1 hS1
  refine W.eq (g2 := F0 m 1068 ls [.int kc]) rfl ?_
  refine lv_istore (lv' := [(6, .int kc), (0, .ref b), (1, .ref (cA 0)), (2, .ref (bM 0)), (3, .ref oA), (4, .ref dA), (5, .int (nI (4 * nc)))]) hx hb dL_law_1068 hl (by decide) rfl (fun ls hl => ?_)
  refine lv_aload_n hx hb dL_law_1070 rfl (lv_at hl 3 rfl) ?_
  refine Ck_V (As := []) (rest := []) (wc := mdW k bM M) (wc' := mdW k bM M') (w0' := trW k cA nA tA T' ++ stW k nA N' ++ stW k tA V' ++ mdW k bM M' ++ ouW k oA g' ++ duW k dA gd' ++ tl') ⟨hx, hb, hml, hown, htl⟩ (c_X2_undo l D k bM M  bb M' hy) (cwV 0 htl gL_law_X2_undo rfl rfl rfl (by decide +kernel) ⟨(Nat.le_of_ble_eq_true rfl), (Nat.le_of_ble_eq_true rfl)⟩) hK hP hD hS hA (q0 := 26) (ci := 2) rfl rfl [26, 27, 28, 29, 30, 31, 32, 33, 34, 35] (hi_L rfl (hi_L rfl (hi_L rfl (hi_R rfl md_hi)))) (by decide) rfl (vs_L rfl (vs_L rfl (vs_L rfl (vs_R rfl md_all)))) rfl hl.1 rfl (Nat.le_of_ble_eq_true rfl) dL_law_1071 ⟨hcl, hsl⟩ (fun H locs hP hD hS => ?_)
  refine W.eq (g2 := F0 m 1074 ls [.int bb]) rfl ?_
  refine lv_istore (lv' := [(7, .int bb), (6, .int kc), (0, .ref b), (1, .ref (cA 0)), (2, .ref (bM 0)), (3, .ref oA), (4, .ref dA), (5, .int (nI (4 * nc)))]) hx hb dL_law_1074 hl (by decide) rfl (fun ls hl => ?_)
  refine lv_aload_n hx hb dL_law_1076 rfl (lv_at hl 4 rfl) ?_
  refine Ck_V (As := []) (rest := []) (wc := [mdO bM M']) (wc' := [mdO bM M']) (w0' := trW k cA nA tA T' ++ stW k nA N' ++ stW k tA V' ++ mdW k bM M' ++ ouW k oA g' ++ duW k dA gd' ++ tl') ⟨hx, hb, hml, hown, htl⟩ (c_X2_thrown l D k bM M' (m_ref M') rfl) (cwV 0 htl gL_law_X2_thrown rfl rfl rfl (by decide +kernel) ⟨(Nat.le_of_ble_eq_true rfl), (Nat.le_of_ble_eq_true rfl)⟩) hK hP hD hS hA (q0 := 26) (ci := 2) rfl rfl [26] rfl (by decide) rfl rfl rfl hl.1 rfl (Nat.le_of_ble_eq_true rfl) dL_law_1077 ⟨hcl, hsl⟩ (fun H locs hP hD hS => ?_)
  refine W.eq (g2 := F0 m 1080 ls [.int (m_ref M')]) rfl ?_
  refine lv_iload hx hb dL_law_1080 (lv_at hl 1 rfl) ?_
  refine lv_icmp_eq (tgt := 1087) hx hb dL_law_1082 (by decide) (fun c1 => ?_) (fun c1 => absurd hmr c1)
  have hend : W p l e room_1 s m #[.ref b] below meth c H locs (cells + 40) (slots + 300) Z (F0 m 1104 ls []) := by
    refine lv_goto (tgt := 1867) hx hb dL_law_1104 (by decide) ?_
    exact kk T' N' V' Q' tl' M' g' gd' _ _ ls hI2 hT2 hP hD hS (lv_sub hl [2, 3, 4, 5, 6, 7] rfl)
  refine W.widen (k := cells + 40) (n := slots + 300) (Nat.le_refl _) (Nat.le_refl _) ?_
  refine lv_iload hx hb dL_law_1087 (lv_at hl 1 rfl) ?_
  refine lv_if_ne (tgt := 1104) hx hb dL_law_1089 (by decide) (fun c2 => hend) (fun c2 => ?_)
  have hk9 : kc = 0 := c2
  obtain ⟨hG9, hg9⟩ := hk0 hk9
  refine lv_aload_n hx hb dL_law_1092 rfl (lv_at hl 5 rfl) ?_
  refine lv_iconst (v := 0) hx hb dL_law_1093 (by decide) ?_
  refine va_lald hx hb hK hP 36 4 rfl rfl (inb_vp (by decide)) dL_law_1094 ?_
  refine W.eq (g2 := F0 m 1095 ls [.long (g' 0)]) rfl ?_
  refine lv_iload hx hb dL_law_1095 (lv_at hl 0 rfl) ?_
  refine lv_i2l hx hb dL_law_1097 rfl ?_
  refine W.lcmp hx hb dL_law_1098 ?_
  have e0 : lg_cmp (g' 0) (bb.toInt64) = 0 := by rw [hg9]; simp [lg_cmp]
  exact lv_if_eq (tgt := 1104) hx hb dL_law_1099 (by decide) (fun c3 => hend) (fun c3 => absurd e0 c3)
set_option maxRecDepth 100000 in
set_option maxHeartbeats 4000000 in
theorem law_ahead (C0 : LC p s m meth c l b L xs D k) (hi : 4 * nc + 4 ≤ L) (hL : L ≤ 2048) (hI : INV nc T N Q M) (hT : PoIs k cA Q tl) (hP : va_P D vwCl (LWl k cA nA tA bM oA dA T N V M g gd tl) H) (hD : va_D (fun q : Nat => s.heap.size ≤ q) (LWl k cA nA tA bM oA dA T N V M g gd tl)) (hS : va_S (fun q : Nat => s.heap.size ≤ q) s.heap H locs) (hl : lv_has ls 10 [(0, .ref b), (1, .ref (cA 0)), (2, .ref (bM 0)), (3, .ref oA), (4, .ref dA), (5, .int (nI (4 * nc)))]) (hcl : cells + 40 ≤ 620558) (hsl : slots + 300 ≤ 7234429) (kk : LK p l e s m below meth c b D k cA nA tA bM oA dA nc cells slots Z) : W p l e room_1 s m #[.ref b] below meth c H locs cells slots Z (F0 m 1107 ls []) := by
  obtain ⟨⟨hx, hb, hr, hml, hown, hts, hX, hbl, hlocks, hgv⟩, hst, hK, hG, hC⟩ := id C0
  have hA : ∀ q : Nat, s.heap.size ≤ q → (fun q : Nat => s.heap.size ≤ q) q := fun _ h => h
  have hbA : ¬ (fun q : Nat => s.heap.size ≤ q) b := Nat.not_le.mpr hbl
  have htl : ∀ w ∈ wsL_law, w.before #[Value.ref b] s = true := fun w h => hts w (wsL_law_in w h)
  have hin : ∀ j, j < 4 → vp_in (nI (4 * nc + j)) L := fun j hj q => by
    rcases q with q | q
    · exact nI_pos (lt31 (by omega)) q
    · rw [nI_cl (by omega)] at q; omega
  refine lv_aload_n hx hb dL_law_1107 rfl (lv_at hl 1 rfl) ?_
  refine lv_aload_n hx hb dL_law_1108 rfl (lv_at hl 0 rfl) ?_
  refine lv_iload hx hb dL_law_1109 (lv_at hl 5 rfl) ?_
  refine lv_iconst (v := 1) hx hb dL_law_1111 (by decide) ?_
  refine lv_iadd hx hb dL_law_1112 ?_
  refine W.eq (g2 := F0 m 1113 ls [.int (nI (4 * nc + 1)), .ref b, .ref (cA 0)]) (by rw [show (1 : Int32) = nI 1 from rfl, nI_add]) ?_
  refine va_sld hx hb hX hbl hbA hS (hin 1 (by omega)) dL_law_1113 ?_
  refine W.eq (g2 := F0 m 1114 ls [.int (xs (4 * nc + 1)), .ref (cA 0)]) (by rw [nI_cl (by omega)]) ?_
  refine lv_aload_n hx hb dL_law_1114 rfl (lv_at hl 0 rfl) ?_
  refine lv_iload hx hb dL_law_1115 (lv_at hl 5 rfl) ?_
  refine lv_iconst (v := 2) hx hb dL_law_1117 (by decide) ?_
  refine lv_iadd hx hb dL_law_1118 ?_
  refine W.eq (g2 := F0 m 1119 ls [.int (nI (4 * nc + 2)), .ref b, .int (xs (4 * nc + 1)), .ref (cA 0)]) (by rw [show (2 : Int32) = nI 2 from rfl, nI_add]) ?_
  refine va_sld hx hb hX hbl hbA hS (hin 2 (by omega)) dL_law_1119 ?_
  refine W.eq (g2 := F0 m 1120 ls [.int (xs (4 * nc + 2)), .int (xs (4 * nc + 1)), .ref (cA 0)]) (by rw [nI_cl (by omega)]) ?_
  refine lv_aload_n hx hb dL_law_1120 rfl (lv_at hl 0 rfl) ?_
  refine lv_iload hx hb dL_law_1121 (lv_at hl 5 rfl) ?_
  refine lv_iconst (v := 3) hx hb dL_law_1123 (by decide) ?_
  refine lv_iadd hx hb dL_law_1124 ?_
  refine W.eq (g2 := F0 m 1125 ls [.int (nI (4 * nc + 3)), .ref b, .int (xs (4 * nc + 2)), .int (xs (4 * nc + 1)), .ref (cA 0)]) (by rw [show (3 : Int32) = nI 3 from rfl, nI_add]) ?_
  refine va_sld hx hb hX hbl hbA hS (hin 3 (by omega)) dL_law_1125 ?_
  refine W.eq (g2 := F0 m 1126 ls [.int (xs (4 * nc + 3)), .int (xs (4 * nc + 2)), .int (xs (4 * nc + 1)), .ref (cA 0)]) (by rw [nI_cl (by omega)]) ?_
  refine lv_aload_n hx hb dL_law_1126 rfl (lv_at hl 3 rfl) ?_
  obtain ⟨w0, Pp, bb, M', hy, hpm, hCl, hpost⟩ := w_ahead (D := D) (V := V) (nA := nA) (tA := tA) hst hI (by omega) hT oA g ((xs (4 * nc + 1))) ((xs (4 * nc + 2))) ((xs (4 * nc + 3)))
  have hq := pq_1 (md := mdW k bM M) (du := duW k dA gd) hpm
  refine Cx_goF (wc := w0) (wx := w0) (wr := (mdW k bM M ++ duW k dA gd)) (vx_runSX (As := [.ref (cA 0), .int (xs (4 * nc + 1)), .int (xs (4 * nc + 2)), .int (xs (4 * nc + 3)), .ref oA]) (rest := []) ⟨hx, hb, hml, hown, htl⟩ (hCl _) (vx_cwSW 5 htl gL_law_L_ahead rfl rfl rfl (by decide +kernel) ⟨(Nat.le_of_ble_eq_true rfl), (Nat.le_of_ble_eq_true rfl)⟩) ⟨Pl_blind, Pl_at (wc := w0) hK hG hC (P_perm hq hP) (D_perm hq hD) hS hA (List.range w0.length) (rg_hi _ _) (rg_nd _)⟩ rfl rfl hl.1 rfl (Nat.le_of_ble_eq_true rfl) dL_law_1127 ⟨hcl, hsl⟩) (P_perm hq hP) (D_perm hq hD) hS hA rfl (fun _ _ _ _ _ h1 => nomatch h1) ?_
  intro ov B w1 H1 locs1 h1 hB hP1 hD1 hS1
  cases h1
  obtain ⟨kc, T', N', V', Q', tl', g', rfl, hmr, hk0, hpm2, hT2, hI2⟩ := hpost ov w1 hB
  obtain ⟨gd', egd⟩ : ∃ y, y = gd := ⟨_, rfl⟩
  rw [← egd] at hP1 hD1
  have hq2 := (pq_1 (md := mdW k bM M) (du := duW k dA gd') hpm2.symm).symm
  have hP : va_P D vwCl (trW k cA nA tA T' ++ stW k nA N' ++ stW k tA V' ++ mdW k bM M ++ ouW k oA g' ++ duW k dA gd' ++ tl') H1 := P_perm hq2 hP1
  have hD : va_D (fun q : Nat => s.heap.size ≤ q) (trW k cA nA tA T' ++ stW k nA N' ++ stW k tA V' ++ mdW k bM M ++ ouW k oA g' ++ duW k dA gd' ++ tl') := D_perm hq2 hD1
  have hS := hS1
  clear hP1 hD1 hS1
  refine W.eq (g2 := F0 m 1130 ls [.int kc]) rfl ?_
  refine lv_istore (lv' := [(6, .int kc), (0, .ref b), (1, .ref (cA 0)), (2, .ref (bM 0)), (3, .ref oA), (4, .ref dA), (5, .int (nI (4 * nc)))]) hx hb dL_law_1130 hl (by decide) rfl (fun ls hl => ?_)
  refine lv_aload_n hx hb dL_law_1132 rfl (lv_at hl 3 rfl) ?_
  refine lv_aload_n hx hb dL_law_1133 rfl (lv_at hl 1 rfl) ?_
  refine lv_iload hx hb dL_law_1134 (lv_at hl 6 rfl) ?_
  refine lv_iconst (v := 1) hx hb dL_law_1136 (by decide) ?_
  refine lv_iadd hx hb dL_law_1137 ?_
  refine W.eq (g2 := F0 m 1138 ls [.int (nI (4 * nc + 1)), .ref b, .ref (bM 0)]) (by rw [show (1 : Int32) = nI 1 from rfl, nI_add]) ?_
  refine va_sld hx hb hX hbl hbA hS (hin 1 (by omega)) dL_law_1138 ?_
  refine W.eq (g2 := F0 m 1139 ls [.int (xs (4 * nc + 1)), .ref (bM 0)]) (by rw [nI_cl (by omega)]) ?_
  refine lv_aload_n hx hb dL_law_1139 rfl (lv_at hl 1 rfl) ?_
  refine lv_iload hx hb dL_law_1140 (lv_at hl 6 rfl) ?_
  refine lv_iconst (v := 2) hx hb dL_law_1142 (by decide) ?_
  refine lv_iadd hx hb dL_law_1143 ?_
  refine W.eq (g2 := F0 m 1144 ls [.int (nI (4 * nc + 2)), .ref b, .int (xs (4 * nc + 1)), .ref (bM 0)]) (by rw [show (2 : Int32) = nI 2 from rfl, nI_add]) ?_
  refine va_sld hx hb hX hbl hbA hS (hin 2 (by omega)) dL_law_1144 ?_
  refine W.eq (g2 := F0 m 1145 ls [.int (xs (4 * nc + 2)), .int (xs (4 * nc + 1)), .ref (bM 0)]) (by rw [nI_cl (by omega)]) ?_
  refine lv_aload_n hx hb dL_law_1145 rfl (lv_at hl 1 rfl) ?_
  refine lv_iload hx hb dL_law_1146 (lv_at hl 6 rfl) ?_
  refine lv_iconst (v := 3) hx hb dL_law_1148 (by decide) ?_
  refine lv_iadd hx hb dL_law_1149 ?_
  refine W.eq (g2 := F0 m 1150 ls [.int (nI (4 * nc + 3)), .ref b, .int (xs (4 * nc + 2)), .int (xs (4 * nc + 1)), .ref (bM 0)]) (by rw [show (3 : Int32) = nI 3 from rfl, nI_add]) ?_
  refine va_sld hx hb hX hbl hbA hS (hin 3 (by omega)) dL_law_1150 ?_
  refine W.eq (g2 := F0 m 1151 ls [.int (xs (4 * nc + 3)), .int (xs (4 * nc + 2)), .int (xs (4 * nc + 1)), .ref (bM 0)]) (by rw [nI_cl (by omega)]) ?_
  refine Ck_V (As := [.int (xs (4 * nc + 1)), .int (xs (4 * nc + 2)), .int (xs (4 * nc + 3))]) (rest := []) (wc := mdW k bM M) (wc' := mdW k bM M') (w0' := trW k cA nA tA T' ++ stW k nA N' ++ stW k tA V' ++ mdW k bM M' ++ ouW k oA g' ++ duW k dA gd' ++ tl') ⟨hx, hb, hml, hown, htl⟩ (c_X2_ahead l D k bM M ((xs (4 * nc + 1))) ((xs (4 * nc + 2))) ((xs (4 * nc + 3))) bb M' hy) (cwV 3 htl gL_law_X2_ahead rfl rfl rfl (by decide +kernel) ⟨(Nat.le_of_ble_eq_true rfl), (Nat.le_of_ble_eq_true rfl)⟩) hK hP hD hS hA (q0 := 26) (ci := 2) rfl rfl [26, 27, 28, 29, 30, 31, 32, 33, 34, 35] (hi_L rfl (hi_L rfl (hi_L rfl (hi_R rfl md_hi)))) (by decide) rfl (vs_L rfl (vs_L rfl (vs_L rfl (vs_R rfl md_all)))) rfl hl.1 rfl (Nat.le_of_ble_eq_true rfl) dL_law_1151 ⟨hcl, hsl⟩ (fun H locs hP hD hS => ?_)
  refine W.eq (g2 := F0 m 1154 ls [.int bb]) rfl ?_
  refine lv_istore (lv' := [(7, .int bb), (6, .int kc), (0, .ref b), (1, .ref (cA 0)), (2, .ref (bM 0)), (3, .ref oA), (4, .ref dA), (5, .int (nI (4 * nc)))]) hx hb dL_law_1154 hl (by decide) rfl (fun ls hl => ?_)
  refine lv_aload_n hx hb dL_law_1156 rfl (lv_at hl 4 rfl) ?_
  refine Ck_V (As := []) (rest := []) (wc := [mdO bM M']) (wc' := [mdO bM M']) (w0' := trW k cA nA tA T' ++ stW k nA N' ++ stW k tA V' ++ mdW k bM M' ++ ouW k oA g' ++ duW k dA gd' ++ tl') ⟨hx, hb, hml, hown, htl⟩ (c_X2_thrown l D k bM M' (m_ref M') rfl) (cwV 0 htl gL_law_X2_thrown rfl rfl rfl (by decide +kernel) ⟨(Nat.le_of_ble_eq_true rfl), (Nat.le_of_ble_eq_true rfl)⟩) hK hP hD hS hA (q0 := 26) (ci := 2) rfl rfl [26] rfl (by decide) rfl rfl rfl hl.1 rfl (Nat.le_of_ble_eq_true rfl) dL_law_1157 ⟨hcl, hsl⟩ (fun H locs hP hD hS => ?_)
  refine W.eq (g2 := F0 m 1160 ls [.int (m_ref M')]) rfl ?_
  refine lv_iload hx hb dL_law_1160 (lv_at hl 1 rfl) ?_
  refine lv_icmp_eq (tgt := 1167) hx hb dL_law_1162 (by decide) (fun c1 => ?_) (fun c1 => absurd hmr c1)
  have hend : W p l e room_1 s m #[.ref b] below meth c H locs (cells + 40) (slots + 300) Z (F0 m 1184 ls []) := by
    refine lv_goto (tgt := 1867) hx hb dL_law_1184 (by decide) ?_
    exact kk T' N' V' Q' tl' M' g' gd' _ _ ls hI2 hT2 hP hD hS (lv_sub hl [2, 3, 4, 5, 6, 7] rfl)
  refine W.widen (k := cells + 40) (n := slots + 300) (Nat.le_refl _) (Nat.le_refl _) ?_
  refine lv_iload hx hb dL_law_1167 (lv_at hl 1 rfl) ?_
  refine lv_if_ne (tgt := 1184) hx hb dL_law_1169 (by decide) (fun c2 => hend) (fun c2 => ?_)
  have hk9 : kc = 0 := c2
  obtain ⟨hG9, hg9⟩ := hk0 hk9
  refine lv_aload_n hx hb dL_law_1172 rfl (lv_at hl 5 rfl) ?_
  refine lv_iconst (v := 0) hx hb dL_law_1173 (by decide) ?_
  refine va_lald hx hb hK hP 36 4 rfl rfl (inb_vp (by decide)) dL_law_1174 ?_
  refine W.eq (g2 := F0 m 1175 ls [.long (g' 0)]) rfl ?_
  refine lv_iload hx hb dL_law_1175 (lv_at hl 0 rfl) ?_
  refine lv_i2l hx hb dL_law_1177 rfl ?_
  refine W.lcmp hx hb dL_law_1178 ?_
  have e0 : lg_cmp (g' 0) (bb.toInt64) = 0 := by rw [hg9]; simp [lg_cmp]
  exact lv_if_eq (tgt := 1184) hx hb dL_law_1179 (by decide) (fun c3 => hend) (fun c3 => absurd e0 c3)
set_option maxRecDepth 100000 in
set_option maxHeartbeats 4000000 in
theorem law_growth (C0 : LC p s m meth c l b L xs D k) (hi : 4 * nc + 4 ≤ L) (hL : L ≤ 2048) (hI : INV nc T N Q M) (hT : PoIs k cA Q tl) (hP : va_P D vwCl (LWl k cA nA tA bM oA dA T N V M g gd tl) H) (hD : va_D (fun q : Nat => s.heap.size ≤ q) (LWl k cA nA tA bM oA dA T N V M g gd tl)) (hS : va_S (fun q : Nat => s.heap.size ≤ q) s.heap H locs) (hl : lv_has ls 10 [(0, .ref b), (1, .ref (cA 0)), (2, .ref (bM 0)), (3, .ref oA), (4, .ref dA), (5, .int (nI (4 * nc)))]) (hcl : cells + 40 ≤ 620558) (hsl : slots + 300 ≤ 7234429) (kk : LK p l e s m below meth c b D k cA nA tA bM oA dA nc cells slots Z) : W p l e room_1 s m #[.ref b] below meth c H locs cells slots Z (F0 m 1187 ls []) := by
  obtain ⟨⟨hx, hb, hr, hml, hown, hts, hX, hbl, hlocks, hgv⟩, hst, hK, hG, hC⟩ := id C0
  have hA : ∀ q : Nat, s.heap.size ≤ q → (fun q : Nat => s.heap.size ≤ q) q := fun _ h => h
  have hbA : ¬ (fun q : Nat => s.heap.size ≤ q) b := Nat.not_le.mpr hbl
  have htl : ∀ w ∈ wsL_law, w.before #[Value.ref b] s = true := fun w h => hts w (wsL_law_in w h)
  have hin : ∀ j, j < 4 → vp_in (nI (4 * nc + j)) L := fun j hj q => by
    rcases q with q | q
    · exact nI_pos (lt31 (by omega)) q
    · rw [nI_cl (by omega)] at q; omega
  refine lv_aload_n hx hb dL_law_1187 rfl (lv_at hl 1 rfl) ?_
  refine lv_aload_n hx hb dL_law_1188 rfl (lv_at hl 0 rfl) ?_
  refine lv_iload hx hb dL_law_1189 (lv_at hl 5 rfl) ?_
  refine lv_iconst (v := 1) hx hb dL_law_1191 (by decide) ?_
  refine lv_iadd hx hb dL_law_1192 ?_
  refine W.eq (g2 := F0 m 1193 ls [.int (nI (4 * nc + 1)), .ref b, .ref (cA 0)]) (by rw [show (1 : Int32) = nI 1 from rfl, nI_add]) ?_
  refine va_sld hx hb hX hbl hbA hS (hin 1 (by omega)) dL_law_1193 ?_
  refine W.eq (g2 := F0 m 1194 ls [.int (xs (4 * nc + 1)), .ref (cA 0)]) (by rw [nI_cl (by omega)]) ?_
  refine lv_aload_n hx hb dL_law_1194 rfl (lv_at hl 0 rfl) ?_
  refine lv_iload hx hb dL_law_1195 (lv_at hl 5 rfl) ?_
  refine lv_iconst (v := 2) hx hb dL_law_1197 (by decide) ?_
  refine lv_iadd hx hb dL_law_1198 ?_
  refine W.eq (g2 := F0 m 1199 ls [.int (nI (4 * nc + 2)), .ref b, .int (xs (4 * nc + 1)), .ref (cA 0)]) (by rw [show (2 : Int32) = nI 2 from rfl, nI_add]) ?_
  refine va_sld hx hb hX hbl hbA hS (hin 2 (by omega)) dL_law_1199 ?_
  refine W.eq (g2 := F0 m 1200 ls [.int (xs (4 * nc + 2)), .int (xs (4 * nc + 1)), .ref (cA 0)]) (by rw [nI_cl (by omega)]) ?_
  refine lv_aload_n hx hb dL_law_1200 rfl (lv_at hl 3 rfl) ?_
  obtain ⟨w0, Pp, bb, M', hy, hpm, hCl, hpost⟩ := w_growth (D := D) (V := V) (nA := nA) (tA := tA) hst hI (by omega) hT oA g ((xs (4 * nc + 1))) ((xs (4 * nc + 2)))
  have hq := pq_1 (md := mdW k bM M) (du := duW k dA gd) hpm
  refine Cx_goF (wc := w0) (wx := w0) (wr := (mdW k bM M ++ duW k dA gd)) (vx_runSX (As := [.ref (cA 0), .int (xs (4 * nc + 1)), .int (xs (4 * nc + 2)), .ref oA]) (rest := []) ⟨hx, hb, hml, hown, htl⟩ (hCl _) (vx_cwSW 4 htl gL_law_L_growth rfl rfl rfl (by decide +kernel) ⟨(Nat.le_of_ble_eq_true rfl), (Nat.le_of_ble_eq_true rfl)⟩) ⟨Pl_blind, Pl_at (wc := w0) hK hG hC (P_perm hq hP) (D_perm hq hD) hS hA (List.range w0.length) (rg_hi _ _) (rg_nd _)⟩ rfl rfl hl.1 rfl (Nat.le_of_ble_eq_true rfl) dL_law_1201 ⟨hcl, hsl⟩) (P_perm hq hP) (D_perm hq hD) hS hA rfl (fun _ _ _ _ _ h1 => nomatch h1) ?_
  intro ov B w1 H1 locs1 h1 hB hP1 hD1 hS1
  cases h1
  obtain ⟨kc, T', N', V', Q', tl', g', rfl, hmr, hk0, hpm2, hT2, hI2⟩ := hpost ov w1 hB
  obtain ⟨gd', egd⟩ : ∃ y, y = gd := ⟨_, rfl⟩
  rw [← egd] at hP1 hD1
  have hq2 := (pq_1 (md := mdW k bM M) (du := duW k dA gd') hpm2.symm).symm
  have hP : va_P D vwCl (trW k cA nA tA T' ++ stW k nA N' ++ stW k tA V' ++ mdW k bM M ++ ouW k oA g' ++ duW k dA gd' ++ tl') H1 := P_perm hq2 hP1
  have hD : va_D (fun q : Nat => s.heap.size ≤ q) (trW k cA nA tA T' ++ stW k nA N' ++ stW k tA V' ++ mdW k bM M ++ ouW k oA g' ++ duW k dA gd' ++ tl') := D_perm hq2 hD1
  have hS := hS1
  clear hP1 hD1 hS1
  refine W.eq (g2 := F0 m 1204 ls [.int kc]) rfl ?_
  refine lv_istore (lv' := [(6, .int kc), (0, .ref b), (1, .ref (cA 0)), (2, .ref (bM 0)), (3, .ref oA), (4, .ref dA), (5, .int (nI (4 * nc)))]) hx hb dL_law_1204 hl (by decide) rfl (fun ls hl => ?_)
  refine lv_aload_n hx hb dL_law_1206 rfl (lv_at hl 3 rfl) ?_
  refine lv_aload_n hx hb dL_law_1207 rfl (lv_at hl 1 rfl) ?_
  refine lv_iload hx hb dL_law_1208 (lv_at hl 6 rfl) ?_
  refine lv_iconst (v := 1) hx hb dL_law_1210 (by decide) ?_
  refine lv_iadd hx hb dL_law_1211 ?_
  refine W.eq (g2 := F0 m 1212 ls [.int (nI (4 * nc + 1)), .ref b, .ref (bM 0)]) (by rw [show (1 : Int32) = nI 1 from rfl, nI_add]) ?_
  refine va_sld hx hb hX hbl hbA hS (hin 1 (by omega)) dL_law_1212 ?_
  refine W.eq (g2 := F0 m 1213 ls [.int (xs (4 * nc + 1)), .ref (bM 0)]) (by rw [nI_cl (by omega)]) ?_
  refine lv_aload_n hx hb dL_law_1213 rfl (lv_at hl 1 rfl) ?_
  refine lv_iload hx hb dL_law_1214 (lv_at hl 6 rfl) ?_
  refine lv_iconst (v := 2) hx hb dL_law_1216 (by decide) ?_
  refine lv_iadd hx hb dL_law_1217 ?_
  refine W.eq (g2 := F0 m 1218 ls [.int (nI (4 * nc + 2)), .ref b, .int (xs (4 * nc + 1)), .ref (bM 0)]) (by rw [show (2 : Int32) = nI 2 from rfl, nI_add]) ?_
  refine va_sld hx hb hX hbl hbA hS (hin 2 (by omega)) dL_law_1218 ?_
  refine W.eq (g2 := F0 m 1219 ls [.int (xs (4 * nc + 2)), .int (xs (4 * nc + 1)), .ref (bM 0)]) (by rw [nI_cl (by omega)]) ?_
  refine Ck_V (As := [.int (xs (4 * nc + 1)), .int (xs (4 * nc + 2))]) (rest := []) (wc := mdW k bM M) (wc' := mdW k bM M') (w0' := trW k cA nA tA T' ++ stW k nA N' ++ stW k tA V' ++ mdW k bM M' ++ ouW k oA g' ++ duW k dA gd' ++ tl') ⟨hx, hb, hml, hown, htl⟩ (c_X2_growth l D k bM M ((xs (4 * nc + 1))) ((xs (4 * nc + 2))) bb M' hy) (cwV 2 htl gL_law_X2_growth rfl rfl rfl (by decide +kernel) ⟨(Nat.le_of_ble_eq_true rfl), (Nat.le_of_ble_eq_true rfl)⟩) hK hP hD hS hA (q0 := 26) (ci := 2) rfl rfl [26, 27, 28, 29, 30, 31, 32, 33, 34, 35] (hi_L rfl (hi_L rfl (hi_L rfl (hi_R rfl md_hi)))) (by decide) rfl (vs_L rfl (vs_L rfl (vs_L rfl (vs_R rfl md_all)))) rfl hl.1 rfl (Nat.le_of_ble_eq_true rfl) dL_law_1219 ⟨hcl, hsl⟩ (fun H locs hP hD hS => ?_)
  refine W.eq (g2 := F0 m 1222 ls [.int bb]) rfl ?_
  refine lv_istore (lv' := [(7, .int bb), (6, .int kc), (0, .ref b), (1, .ref (cA 0)), (2, .ref (bM 0)), (3, .ref oA), (4, .ref dA), (5, .int (nI (4 * nc)))]) hx hb dL_law_1222 hl (by decide) rfl (fun ls hl => ?_)
  refine lv_aload_n hx hb dL_law_1224 rfl (lv_at hl 4 rfl) ?_
  refine Ck_V (As := []) (rest := []) (wc := [mdO bM M']) (wc' := [mdO bM M']) (w0' := trW k cA nA tA T' ++ stW k nA N' ++ stW k tA V' ++ mdW k bM M' ++ ouW k oA g' ++ duW k dA gd' ++ tl') ⟨hx, hb, hml, hown, htl⟩ (c_X2_thrown l D k bM M' (m_ref M') rfl) (cwV 0 htl gL_law_X2_thrown rfl rfl rfl (by decide +kernel) ⟨(Nat.le_of_ble_eq_true rfl), (Nat.le_of_ble_eq_true rfl)⟩) hK hP hD hS hA (q0 := 26) (ci := 2) rfl rfl [26] rfl (by decide) rfl rfl rfl hl.1 rfl (Nat.le_of_ble_eq_true rfl) dL_law_1225 ⟨hcl, hsl⟩ (fun H locs hP hD hS => ?_)
  refine W.eq (g2 := F0 m 1228 ls [.int (m_ref M')]) rfl ?_
  refine lv_iload hx hb dL_law_1228 (lv_at hl 1 rfl) ?_
  refine lv_icmp_eq (tgt := 1235) hx hb dL_law_1230 (by decide) (fun c1 => ?_) (fun c1 => absurd hmr c1)
  have hend : W p l e room_1 s m #[.ref b] below meth c H locs (cells + 40) (slots + 300) Z (F0 m 1252 ls []) := by
    refine lv_goto (tgt := 1867) hx hb dL_law_1252 (by decide) ?_
    exact kk T' N' V' Q' tl' M' g' gd' _ _ ls hI2 hT2 hP hD hS (lv_sub hl [2, 3, 4, 5, 6, 7] rfl)
  refine W.widen (k := cells + 40) (n := slots + 300) (Nat.le_refl _) (Nat.le_refl _) ?_
  refine lv_iload hx hb dL_law_1235 (lv_at hl 1 rfl) ?_
  refine lv_if_ne (tgt := 1252) hx hb dL_law_1237 (by decide) (fun c2 => hend) (fun c2 => ?_)
  have hk9 : kc = 0 := c2
  obtain ⟨hG9, hg9⟩ := hk0 hk9
  refine lv_aload_n hx hb dL_law_1240 rfl (lv_at hl 5 rfl) ?_
  refine lv_iconst (v := 0) hx hb dL_law_1241 (by decide) ?_
  refine va_lald hx hb hK hP 36 4 rfl rfl (inb_vp (by decide)) dL_law_1242 ?_
  refine W.eq (g2 := F0 m 1243 ls [.long (g' 0)]) rfl ?_
  refine lv_iload hx hb dL_law_1243 (lv_at hl 0 rfl) ?_
  refine lv_i2l hx hb dL_law_1245 rfl ?_
  refine W.lcmp hx hb dL_law_1246 ?_
  have e0 : lg_cmp (g' 0) (bb.toInt64) = 0 := by rw [hg9]; simp [lg_cmp]
  exact lv_if_eq (tgt := 1252) hx hb dL_law_1247 (by decide) (fun c3 => hend) (fun c3 => absurd e0 c3)
set_option maxRecDepth 100000 in
set_option maxHeartbeats 4000000 in
theorem law_washGain (C0 : LC p s m meth c l b L xs D k) (hi : 4 * nc + 4 ≤ L) (hL : L ≤ 2048) (hI : INV nc T N Q M) (hT : PoIs k cA Q tl) (hP : va_P D vwCl (LWl k cA nA tA bM oA dA T N V M g gd tl) H) (hD : va_D (fun q : Nat => s.heap.size ≤ q) (LWl k cA nA tA bM oA dA T N V M g gd tl)) (hS : va_S (fun q : Nat => s.heap.size ≤ q) s.heap H locs) (hl : lv_has ls 10 [(0, .ref b), (1, .ref (cA 0)), (2, .ref (bM 0)), (3, .ref oA), (4, .ref dA), (5, .int (nI (4 * nc)))]) (hcl : cells + 40 ≤ 620558) (hsl : slots + 300 ≤ 7234429) (kk : LK p l e s m below meth c b D k cA nA tA bM oA dA nc cells slots Z) : W p l e room_1 s m #[.ref b] below meth c H locs cells slots Z (F0 m 1255 ls []) := by
  obtain ⟨⟨hx, hb, hr, hml, hown, hts, hX, hbl, hlocks, hgv⟩, hst, hK, hG, hC⟩ := id C0
  have hA : ∀ q : Nat, s.heap.size ≤ q → (fun q : Nat => s.heap.size ≤ q) q := fun _ h => h
  have hbA : ¬ (fun q : Nat => s.heap.size ≤ q) b := Nat.not_le.mpr hbl
  have htl : ∀ w ∈ wsL_law, w.before #[Value.ref b] s = true := fun w h => hts w (wsL_law_in w h)
  have hin : ∀ j, j < 4 → vp_in (nI (4 * nc + j)) L := fun j hj q => by
    rcases q with q | q
    · exact nI_pos (lt31 (by omega)) q
    · rw [nI_cl (by omega)] at q; omega
  refine lv_aload_n hx hb dL_law_1255 rfl (lv_at hl 1 rfl) ?_
  refine lv_aload_n hx hb dL_law_1256 rfl (lv_at hl 0 rfl) ?_
  refine lv_iload hx hb dL_law_1257 (lv_at hl 5 rfl) ?_
  refine lv_iconst (v := 1) hx hb dL_law_1259 (by decide) ?_
  refine lv_iadd hx hb dL_law_1260 ?_
  refine W.eq (g2 := F0 m 1261 ls [.int (nI (4 * nc + 1)), .ref b, .ref (cA 0)]) (by rw [show (1 : Int32) = nI 1 from rfl, nI_add]) ?_
  refine va_sld hx hb hX hbl hbA hS (hin 1 (by omega)) dL_law_1261 ?_
  refine W.eq (g2 := F0 m 1262 ls [.int (xs (4 * nc + 1)), .ref (cA 0)]) (by rw [nI_cl (by omega)]) ?_
  refine lv_aload_n hx hb dL_law_1262 rfl (lv_at hl 0 rfl) ?_
  refine lv_iload hx hb dL_law_1263 (lv_at hl 5 rfl) ?_
  refine lv_iconst (v := 2) hx hb dL_law_1265 (by decide) ?_
  refine lv_iadd hx hb dL_law_1266 ?_
  refine W.eq (g2 := F0 m 1267 ls [.int (nI (4 * nc + 2)), .ref b, .int (xs (4 * nc + 1)), .ref (cA 0)]) (by rw [show (2 : Int32) = nI 2 from rfl, nI_add]) ?_
  refine va_sld hx hb hX hbl hbA hS (hin 2 (by omega)) dL_law_1267 ?_
  refine W.eq (g2 := F0 m 1268 ls [.int (xs (4 * nc + 2)), .int (xs (4 * nc + 1)), .ref (cA 0)]) (by rw [nI_cl (by omega)]) ?_
  refine lv_aload_n hx hb dL_law_1268 rfl (lv_at hl 0 rfl) ?_
  refine lv_iload hx hb dL_law_1269 (lv_at hl 5 rfl) ?_
  refine lv_iconst (v := 3) hx hb dL_law_1271 (by decide) ?_
  refine lv_iadd hx hb dL_law_1272 ?_
  refine W.eq (g2 := F0 m 1273 ls [.int (nI (4 * nc + 3)), .ref b, .int (xs (4 * nc + 2)), .int (xs (4 * nc + 1)), .ref (cA 0)]) (by rw [show (3 : Int32) = nI 3 from rfl, nI_add]) ?_
  refine va_sld hx hb hX hbl hbA hS (hin 3 (by omega)) dL_law_1273 ?_
  refine W.eq (g2 := F0 m 1274 ls [.int (xs (4 * nc + 3)), .int (xs (4 * nc + 2)), .int (xs (4 * nc + 1)), .ref (cA 0)]) (by rw [nI_cl (by omega)]) ?_
  refine lv_aload_n hx hb dL_law_1274 rfl (lv_at hl 3 rfl) ?_
  obtain ⟨w0, Pp, bb, M', hy, hpm, hCl, hpost⟩ := w_washGain (D := D) (V := V) (nA := nA) (tA := tA) hst hI (by omega) hT oA g ((xs (4 * nc + 1))) ((xs (4 * nc + 2))) ((xs (4 * nc + 3)))
  have hq := pq_1 (md := mdW k bM M) (du := duW k dA gd) hpm
  refine Cx_goF (wc := w0) (wx := w0) (wr := (mdW k bM M ++ duW k dA gd)) (vx_runSX (As := [.ref (cA 0), .int (xs (4 * nc + 1)), .int (xs (4 * nc + 2)), .int (xs (4 * nc + 3)), .ref oA]) (rest := []) ⟨hx, hb, hml, hown, htl⟩ (hCl _) (vx_cwSW 5 htl gL_law_L_washGain rfl rfl rfl (by decide +kernel) ⟨(Nat.le_of_ble_eq_true rfl), (Nat.le_of_ble_eq_true rfl)⟩) ⟨Pl_blind, Pl_at (wc := w0) hK hG hC (P_perm hq hP) (D_perm hq hD) hS hA (List.range w0.length) (rg_hi _ _) (rg_nd _)⟩ rfl rfl hl.1 rfl (Nat.le_of_ble_eq_true rfl) dL_law_1275 ⟨hcl, hsl⟩) (P_perm hq hP) (D_perm hq hD) hS hA rfl (fun _ _ _ _ _ h1 => nomatch h1) ?_
  intro ov B w1 H1 locs1 h1 hB hP1 hD1 hS1
  cases h1
  obtain ⟨kc, T', N', V', Q', tl', g', rfl, hmr, hk0, hpm2, hT2, hI2⟩ := hpost ov w1 hB
  obtain ⟨gd', egd⟩ : ∃ y, y = gd := ⟨_, rfl⟩
  rw [← egd] at hP1 hD1
  have hq2 := (pq_1 (md := mdW k bM M) (du := duW k dA gd') hpm2.symm).symm
  have hP : va_P D vwCl (trW k cA nA tA T' ++ stW k nA N' ++ stW k tA V' ++ mdW k bM M ++ ouW k oA g' ++ duW k dA gd' ++ tl') H1 := P_perm hq2 hP1
  have hD : va_D (fun q : Nat => s.heap.size ≤ q) (trW k cA nA tA T' ++ stW k nA N' ++ stW k tA V' ++ mdW k bM M ++ ouW k oA g' ++ duW k dA gd' ++ tl') := D_perm hq2 hD1
  have hS := hS1
  clear hP1 hD1 hS1
  refine W.eq (g2 := F0 m 1278 ls [.int kc]) rfl ?_
  refine lv_istore (lv' := [(6, .int kc), (0, .ref b), (1, .ref (cA 0)), (2, .ref (bM 0)), (3, .ref oA), (4, .ref dA), (5, .int (nI (4 * nc)))]) hx hb dL_law_1278 hl (by decide) rfl (fun ls hl => ?_)
  refine lv_aload_n hx hb dL_law_1280 rfl (lv_at hl 3 rfl) ?_
  refine lv_aload_n hx hb dL_law_1281 rfl (lv_at hl 1 rfl) ?_
  refine lv_iload hx hb dL_law_1282 (lv_at hl 6 rfl) ?_
  refine lv_iconst (v := 1) hx hb dL_law_1284 (by decide) ?_
  refine lv_iadd hx hb dL_law_1285 ?_
  refine W.eq (g2 := F0 m 1286 ls [.int (nI (4 * nc + 1)), .ref b, .ref (bM 0)]) (by rw [show (1 : Int32) = nI 1 from rfl, nI_add]) ?_
  refine va_sld hx hb hX hbl hbA hS (hin 1 (by omega)) dL_law_1286 ?_
  refine W.eq (g2 := F0 m 1287 ls [.int (xs (4 * nc + 1)), .ref (bM 0)]) (by rw [nI_cl (by omega)]) ?_
  refine lv_aload_n hx hb dL_law_1287 rfl (lv_at hl 1 rfl) ?_
  refine lv_iload hx hb dL_law_1288 (lv_at hl 6 rfl) ?_
  refine lv_iconst (v := 2) hx hb dL_law_1290 (by decide) ?_
  refine lv_iadd hx hb dL_law_1291 ?_
  refine W.eq (g2 := F0 m 1292 ls [.int (nI (4 * nc + 2)), .ref b, .int (xs (4 * nc + 1)), .ref (bM 0)]) (by rw [show (2 : Int32) = nI 2 from rfl, nI_add]) ?_
  refine va_sld hx hb hX hbl hbA hS (hin 2 (by omega)) dL_law_1292 ?_
  refine W.eq (g2 := F0 m 1293 ls [.int (xs (4 * nc + 2)), .int (xs (4 * nc + 1)), .ref (bM 0)]) (by rw [nI_cl (by omega)]) ?_
  refine lv_aload_n hx hb dL_law_1293 rfl (lv_at hl 1 rfl) ?_
  refine lv_iload hx hb dL_law_1294 (lv_at hl 6 rfl) ?_
  refine lv_iconst (v := 3) hx hb dL_law_1296 (by decide) ?_
  refine lv_iadd hx hb dL_law_1297 ?_
  refine W.eq (g2 := F0 m 1298 ls [.int (nI (4 * nc + 3)), .ref b, .int (xs (4 * nc + 2)), .int (xs (4 * nc + 1)), .ref (bM 0)]) (by rw [show (3 : Int32) = nI 3 from rfl, nI_add]) ?_
  refine va_sld hx hb hX hbl hbA hS (hin 3 (by omega)) dL_law_1298 ?_
  refine W.eq (g2 := F0 m 1299 ls [.int (xs (4 * nc + 3)), .int (xs (4 * nc + 2)), .int (xs (4 * nc + 1)), .ref (bM 0)]) (by rw [nI_cl (by omega)]) ?_
  refine Ck_V (As := [.int (xs (4 * nc + 1)), .int (xs (4 * nc + 2)), .int (xs (4 * nc + 3))]) (rest := []) (wc := mdW k bM M) (wc' := mdW k bM M') (w0' := trW k cA nA tA T' ++ stW k nA N' ++ stW k tA V' ++ mdW k bM M' ++ ouW k oA g' ++ duW k dA gd' ++ tl') ⟨hx, hb, hml, hown, htl⟩ (c_X2_washGain l D k bM M ((xs (4 * nc + 1))) ((xs (4 * nc + 2))) ((xs (4 * nc + 3))) bb M' hy) (cwV 3 htl gL_law_X2_washGain rfl rfl rfl (by decide +kernel) ⟨(Nat.le_of_ble_eq_true rfl), (Nat.le_of_ble_eq_true rfl)⟩) hK hP hD hS hA (q0 := 26) (ci := 2) rfl rfl [26, 27, 28, 29, 30, 31, 32, 33, 34, 35] (hi_L rfl (hi_L rfl (hi_L rfl (hi_R rfl md_hi)))) (by decide) rfl (vs_L rfl (vs_L rfl (vs_L rfl (vs_R rfl md_all)))) rfl hl.1 rfl (Nat.le_of_ble_eq_true rfl) dL_law_1299 ⟨hcl, hsl⟩ (fun H locs hP hD hS => ?_)
  refine W.eq (g2 := F0 m 1302 ls [.int bb]) rfl ?_
  refine lv_istore (lv' := [(7, .int bb), (6, .int kc), (0, .ref b), (1, .ref (cA 0)), (2, .ref (bM 0)), (3, .ref oA), (4, .ref dA), (5, .int (nI (4 * nc)))]) hx hb dL_law_1302 hl (by decide) rfl (fun ls hl => ?_)
  refine lv_aload_n hx hb dL_law_1304 rfl (lv_at hl 4 rfl) ?_
  refine Ck_V (As := []) (rest := []) (wc := [mdO bM M']) (wc' := [mdO bM M']) (w0' := trW k cA nA tA T' ++ stW k nA N' ++ stW k tA V' ++ mdW k bM M' ++ ouW k oA g' ++ duW k dA gd' ++ tl') ⟨hx, hb, hml, hown, htl⟩ (c_X2_thrown l D k bM M' (m_ref M') rfl) (cwV 0 htl gL_law_X2_thrown rfl rfl rfl (by decide +kernel) ⟨(Nat.le_of_ble_eq_true rfl), (Nat.le_of_ble_eq_true rfl)⟩) hK hP hD hS hA (q0 := 26) (ci := 2) rfl rfl [26] rfl (by decide) rfl rfl rfl hl.1 rfl (Nat.le_of_ble_eq_true rfl) dL_law_1305 ⟨hcl, hsl⟩ (fun H locs hP hD hS => ?_)
  refine W.eq (g2 := F0 m 1308 ls [.int (m_ref M')]) rfl ?_
  refine lv_iload hx hb dL_law_1308 (lv_at hl 1 rfl) ?_
  refine lv_icmp_eq (tgt := 1315) hx hb dL_law_1310 (by decide) (fun c1 => ?_) (fun c1 => absurd hmr c1)
  have hend : W p l e room_1 s m #[.ref b] below meth c H locs (cells + 40) (slots + 300) Z (F0 m 1332 ls []) := by
    refine lv_goto (tgt := 1867) hx hb dL_law_1332 (by decide) ?_
    exact kk T' N' V' Q' tl' M' g' gd' _ _ ls hI2 hT2 hP hD hS (lv_sub hl [2, 3, 4, 5, 6, 7] rfl)
  refine W.widen (k := cells + 40) (n := slots + 300) (Nat.le_refl _) (Nat.le_refl _) ?_
  refine lv_iload hx hb dL_law_1315 (lv_at hl 1 rfl) ?_
  refine lv_if_ne (tgt := 1332) hx hb dL_law_1317 (by decide) (fun c2 => hend) (fun c2 => ?_)
  have hk9 : kc = 0 := c2
  obtain ⟨hG9, hg9⟩ := hk0 hk9
  refine lv_aload_n hx hb dL_law_1320 rfl (lv_at hl 5 rfl) ?_
  refine lv_iconst (v := 0) hx hb dL_law_1321 (by decide) ?_
  refine va_lald hx hb hK hP 36 4 rfl rfl (inb_vp (by decide)) dL_law_1322 ?_
  refine W.eq (g2 := F0 m 1323 ls [.long (g' 0)]) rfl ?_
  refine lv_iload hx hb dL_law_1323 (lv_at hl 0 rfl) ?_
  refine lv_i2l hx hb dL_law_1325 rfl ?_
  refine W.lcmp hx hb dL_law_1326 ?_
  have e0 : lg_cmp (g' 0) (bb.toInt64) = 0 := by rw [hg9]; simp [lg_cmp]
  exact lv_if_eq (tgt := 1332) hx hb dL_law_1327 (by decide) (fun c3 => hend) (fun c3 => absurd e0 c3)
set_option maxRecDepth 100000 in
set_option maxHeartbeats 4000000 in
theorem law_bestTurns_0 (C0 : LC p s m meth c l b L xs D k) (hi : 4 * nc + 4 ≤ L) (hL : L ≤ 2048) (hI : INV nc T N Q M) (hT : PoIs k cA Q tl) (hP : va_P D vwCl (LWl k cA nA tA bM oA dA T N V M g gd tl) H) (hD : va_D (fun q : Nat => s.heap.size ≤ q) (LWl k cA nA tA bM oA dA T N V M g gd tl)) (hS : va_S (fun q : Nat => s.heap.size ≤ q) s.heap H locs) (hl : lv_has ls 10 [(0, .ref b), (1, .ref (cA 0)), (2, .ref (bM 0)), (3, .ref oA), (4, .ref dA), (5, .int (nI (4 * nc)))]) (hcl : cells + 40 ≤ 620558) (hsl : slots + 300 ≤ 7234429) (kk : LK p l e s m below meth c b D k cA nA tA bM oA dA nc cells slots Z) (hz9 : xs (4 * nc + 2) = 0) : W p l e room_1 s m #[.ref b] below meth c H locs cells slots Z (F0 m 1335 ls []) := by
  obtain ⟨⟨hx, hb, hr, hml, hown, hts, hX, hbl, hlocks, hgv⟩, hst, hK, hG, hC⟩ := id C0
  have hA : ∀ q : Nat, s.heap.size ≤ q → (fun q : Nat => s.heap.size ≤ q) q := fun _ h => h
  have hbA : ¬ (fun q : Nat => s.heap.size ≤ q) b := Nat.not_le.mpr hbl
  have htl : ∀ w ∈ wsL_law, w.before #[Value.ref b] s = true := fun w h => hts w (wsL_law_in w h)
  have hin : ∀ j, j < 4 → vp_in (nI (4 * nc + j)) L := fun j hj q => by
    rcases q with q | q
    · exact nI_pos (lt31 (by omega)) q
    · rw [nI_cl (by omega)] at q; omega
  refine lv_aload_n hx hb dL_law_1335 rfl (lv_at hl 1 rfl) ?_
  refine lv_aload_n hx hb dL_law_1336 rfl (lv_at hl 0 rfl) ?_
  refine lv_iload hx hb dL_law_1337 (lv_at hl 5 rfl) ?_
  refine lv_iconst (v := 1) hx hb dL_law_1339 (by decide) ?_
  refine lv_iadd hx hb dL_law_1340 ?_
  refine W.eq (g2 := F0 m 1341 ls [.int (nI (4 * nc + 1)), .ref b, .ref (cA 0)]) (by rw [show (1 : Int32) = nI 1 from rfl, nI_add]) ?_
  refine va_sld hx hb hX hbl hbA hS (hin 1 (by omega)) dL_law_1341 ?_
  refine W.eq (g2 := F0 m 1342 ls [.int (xs (4 * nc + 1)), .ref (cA 0)]) (by rw [nI_cl (by omega)]) ?_
  refine lv_aload_n hx hb dL_law_1342 rfl (lv_at hl 0 rfl) ?_
  refine lv_iload hx hb dL_law_1343 (lv_at hl 5 rfl) ?_
  refine lv_iconst (v := 2) hx hb dL_law_1345 (by decide) ?_
  refine lv_iadd hx hb dL_law_1346 ?_
  refine W.eq (g2 := F0 m 1347 ls [.int (nI (4 * nc + 2)), .ref b, .int (xs (4 * nc + 1)), .ref (cA 0)]) (by rw [show (2 : Int32) = nI 2 from rfl, nI_add]) ?_
  refine va_sld hx hb hX hbl hbA hS (hin 2 (by omega)) dL_law_1347 ?_
  refine W.eq (g2 := F0 m 1348 ls [.int (xs (4 * nc + 2)), .int (xs (4 * nc + 1)), .ref (cA 0)]) (by rw [nI_cl (by omega)]) ?_
  refine lv_if_eq (tgt := 1355) hx hb dL_law_1348 (by decide) (fun c9 => ?_) (fun c9 => absurd hz9 c9)
  refine lv_iconst (v := 0) hx hb dL_law_1355 (by decide) ?_
  refine lv_aload_n hx hb dL_law_1356 rfl (lv_at hl 3 rfl) ?_
  obtain ⟨w0, Pp, bb, M', hy, hpm, hCl, hpost⟩ := w_bestTurns (D := D) (V := V) (nA := nA) (tA := tA) hst hI (by omega) hT oA g ((xs (4 * nc + 1))) (0)
  have hq := pq_1 (md := mdW k bM M) (du := duW k dA gd) hpm
  refine Cx_goF (wc := w0) (wx := w0) (wr := (mdW k bM M ++ duW k dA gd)) (vx_runSX (As := [.ref (cA 0), .int (xs (4 * nc + 1)), .int 0, .ref oA]) (rest := []) ⟨hx, hb, hml, hown, htl⟩ (hCl _) (vx_cwSW 4 htl gL_law_L_bestTurns rfl rfl rfl (by decide +kernel) ⟨(Nat.le_of_ble_eq_true rfl), (Nat.le_of_ble_eq_true rfl)⟩) ⟨Pl_blind, Pl_at (wc := w0) hK hG hC (P_perm hq hP) (D_perm hq hD) hS hA (List.range w0.length) (rg_hi _ _) (rg_nd _)⟩ rfl rfl hl.1 rfl (Nat.le_of_ble_eq_true rfl) dL_law_1357 ⟨hcl, hsl⟩) (P_perm hq hP) (D_perm hq hD) hS hA rfl (fun _ _ _ _ _ h1 => nomatch h1) ?_
  intro ov B w1 H1 locs1 h1 hB hP1 hD1 hS1
  cases h1
  obtain ⟨kc, T', N', V', Q', tl', g', rfl, hmr, hk0, hpm2, hT2, hI2⟩ := hpost ov w1 hB
  obtain ⟨gd', egd⟩ : ∃ y, y = gd := ⟨_, rfl⟩
  rw [← egd] at hP1 hD1
  have hq2 := (pq_1 (md := mdW k bM M) (du := duW k dA gd') hpm2.symm).symm
  have hP : va_P D vwCl (trW k cA nA tA T' ++ stW k nA N' ++ stW k tA V' ++ mdW k bM M ++ ouW k oA g' ++ duW k dA gd' ++ tl') H1 := P_perm hq2 hP1
  have hD : va_D (fun q : Nat => s.heap.size ≤ q) (trW k cA nA tA T' ++ stW k nA N' ++ stW k tA V' ++ mdW k bM M ++ ouW k oA g' ++ duW k dA gd' ++ tl') := D_perm hq2 hD1
  have hS := hS1
  clear hP1 hD1 hS1
  refine W.eq (g2 := F0 m 1360 ls [.int kc]) rfl ?_
  refine lv_istore (lv' := [(6, .int kc), (0, .ref b), (1, .ref (cA 0)), (2, .ref (bM 0)), (3, .ref oA), (4, .ref dA), (5, .int (nI (4 * nc)))]) hx hb dL_law_1360 hl (by decide) rfl (fun ls hl => ?_)
  refine lv_aload_n hx hb dL_law_1362 rfl (lv_at hl 3 rfl) ?_
  refine lv_aload_n hx hb dL_law_1363 rfl (lv_at hl 1 rfl) ?_
  refine lv_iload hx hb dL_law_1364 (lv_at hl 6 rfl) ?_
  refine lv_iconst (v := 1) hx hb dL_law_1366 (by decide) ?_
  refine lv_iadd hx hb dL_law_1367 ?_
  refine W.eq (g2 := F0 m 1368 ls [.int (nI (4 * nc + 1)), .ref b, .ref (bM 0)]) (by rw [show (1 : Int32) = nI 1 from rfl, nI_add]) ?_
  refine va_sld hx hb hX hbl hbA hS (hin 1 (by omega)) dL_law_1368 ?_
  refine W.eq (g2 := F0 m 1369 ls [.int (xs (4 * nc + 1)), .ref (bM 0)]) (by rw [nI_cl (by omega)]) ?_
  refine lv_aload_n hx hb dL_law_1369 rfl (lv_at hl 1 rfl) ?_
  refine lv_iload hx hb dL_law_1370 (lv_at hl 6 rfl) ?_
  refine lv_iconst (v := 2) hx hb dL_law_1372 (by decide) ?_
  refine lv_iadd hx hb dL_law_1373 ?_
  refine W.eq (g2 := F0 m 1374 ls [.int (nI (4 * nc + 2)), .ref b, .int (xs (4 * nc + 1)), .ref (bM 0)]) (by rw [show (2 : Int32) = nI 2 from rfl, nI_add]) ?_
  refine va_sld hx hb hX hbl hbA hS (hin 2 (by omega)) dL_law_1374 ?_
  refine W.eq (g2 := F0 m 1375 ls [.int (xs (4 * nc + 2)), .int (xs (4 * nc + 1)), .ref (bM 0)]) (by rw [nI_cl (by omega)]) ?_
  refine lv_if_eq (tgt := 1382) hx hb dL_law_1375 (by decide) (fun c9 => ?_) (fun c9 => absurd hz9 c9)
  refine lv_iconst (v := 0) hx hb dL_law_1382 (by decide) ?_
  refine Ck_V (As := [.int (xs (4 * nc + 1)), .int 0]) (rest := []) (wc := mdW k bM M) (wc' := mdW k bM M') (w0' := trW k cA nA tA T' ++ stW k nA N' ++ stW k tA V' ++ mdW k bM M' ++ ouW k oA g' ++ duW k dA gd' ++ tl') ⟨hx, hb, hml, hown, htl⟩ (c_X2_bestTurns l D k bM M ((xs (4 * nc + 1))) (0) bb M' hy) (cwV 2 htl gL_law_X2_bestTurns rfl rfl rfl (by decide +kernel) ⟨(Nat.le_of_ble_eq_true rfl), (Nat.le_of_ble_eq_true rfl)⟩) hK hP hD hS hA (q0 := 26) (ci := 2) rfl rfl [26, 27, 28, 29, 30, 31, 32, 33, 34, 35] (hi_L rfl (hi_L rfl (hi_L rfl (hi_R rfl md_hi)))) (by decide) rfl (vs_L rfl (vs_L rfl (vs_L rfl (vs_R rfl md_all)))) rfl hl.1 rfl (Nat.le_of_ble_eq_true rfl) dL_law_1383 ⟨hcl, hsl⟩ (fun H locs hP hD hS => ?_)
  refine W.eq (g2 := F0 m 1386 ls [.int bb]) rfl ?_
  refine lv_istore (lv' := [(7, .int bb), (6, .int kc), (0, .ref b), (1, .ref (cA 0)), (2, .ref (bM 0)), (3, .ref oA), (4, .ref dA), (5, .int (nI (4 * nc)))]) hx hb dL_law_1386 hl (by decide) rfl (fun ls hl => ?_)
  refine lv_aload_n hx hb dL_law_1388 rfl (lv_at hl 4 rfl) ?_
  refine Ck_V (As := []) (rest := []) (wc := [mdO bM M']) (wc' := [mdO bM M']) (w0' := trW k cA nA tA T' ++ stW k nA N' ++ stW k tA V' ++ mdW k bM M' ++ ouW k oA g' ++ duW k dA gd' ++ tl') ⟨hx, hb, hml, hown, htl⟩ (c_X2_thrown l D k bM M' (m_ref M') rfl) (cwV 0 htl gL_law_X2_thrown rfl rfl rfl (by decide +kernel) ⟨(Nat.le_of_ble_eq_true rfl), (Nat.le_of_ble_eq_true rfl)⟩) hK hP hD hS hA (q0 := 26) (ci := 2) rfl rfl [26] rfl (by decide) rfl rfl rfl hl.1 rfl (Nat.le_of_ble_eq_true rfl) dL_law_1389 ⟨hcl, hsl⟩ (fun H locs hP hD hS => ?_)
  refine W.eq (g2 := F0 m 1392 ls [.int (m_ref M')]) rfl ?_
  refine lv_iload hx hb dL_law_1392 (lv_at hl 1 rfl) ?_
  refine lv_icmp_eq (tgt := 1399) hx hb dL_law_1394 (by decide) (fun c1 => ?_) (fun c1 => absurd hmr c1)
  have hend : W p l e room_1 s m #[.ref b] below meth c H locs (cells + 40) (slots + 300) Z (F0 m 1416 ls []) := by
    refine lv_goto (tgt := 1867) hx hb dL_law_1416 (by decide) ?_
    exact kk T' N' V' Q' tl' M' g' gd' _ _ ls hI2 hT2 hP hD hS (lv_sub hl [2, 3, 4, 5, 6, 7] rfl)
  refine W.widen (k := cells + 40) (n := slots + 300) (Nat.le_refl _) (Nat.le_refl _) ?_
  refine lv_iload hx hb dL_law_1399 (lv_at hl 1 rfl) ?_
  refine lv_if_ne (tgt := 1416) hx hb dL_law_1401 (by decide) (fun c2 => hend) (fun c2 => ?_)
  have hk9 : kc = 0 := c2
  obtain ⟨hG9, hg9⟩ := hk0 hk9
  refine lv_aload_n hx hb dL_law_1404 rfl (lv_at hl 5 rfl) ?_
  refine lv_iconst (v := 0) hx hb dL_law_1405 (by decide) ?_
  refine va_lald hx hb hK hP 36 4 rfl rfl (inb_vp (by decide)) dL_law_1406 ?_
  refine W.eq (g2 := F0 m 1407 ls [.long (g' 0)]) rfl ?_
  refine lv_iload hx hb dL_law_1407 (lv_at hl 0 rfl) ?_
  refine lv_i2l hx hb dL_law_1409 rfl ?_
  refine W.lcmp hx hb dL_law_1410 ?_
  have e0 : lg_cmp (g' 0) (bb.toInt64) = 0 := by rw [hg9]; simp [lg_cmp]
  exact lv_if_eq (tgt := 1416) hx hb dL_law_1411 (by decide) (fun c3 => hend) (fun c3 => absurd e0 c3)
set_option maxRecDepth 100000 in
set_option maxHeartbeats 4000000 in
theorem law_bestTurns_1 (C0 : LC p s m meth c l b L xs D k) (hi : 4 * nc + 4 ≤ L) (hL : L ≤ 2048) (hI : INV nc T N Q M) (hT : PoIs k cA Q tl) (hP : va_P D vwCl (LWl k cA nA tA bM oA dA T N V M g gd tl) H) (hD : va_D (fun q : Nat => s.heap.size ≤ q) (LWl k cA nA tA bM oA dA T N V M g gd tl)) (hS : va_S (fun q : Nat => s.heap.size ≤ q) s.heap H locs) (hl : lv_has ls 10 [(0, .ref b), (1, .ref (cA 0)), (2, .ref (bM 0)), (3, .ref oA), (4, .ref dA), (5, .int (nI (4 * nc)))]) (hcl : cells + 40 ≤ 620558) (hsl : slots + 300 ≤ 7234429) (kk : LK p l e s m below meth c b D k cA nA tA bM oA dA nc cells slots Z) (hz9 : ¬ xs (4 * nc + 2) = 0) : W p l e room_1 s m #[.ref b] below meth c H locs cells slots Z (F0 m 1335 ls []) := by
  obtain ⟨⟨hx, hb, hr, hml, hown, hts, hX, hbl, hlocks, hgv⟩, hst, hK, hG, hC⟩ := id C0
  have hA : ∀ q : Nat, s.heap.size ≤ q → (fun q : Nat => s.heap.size ≤ q) q := fun _ h => h
  have hbA : ¬ (fun q : Nat => s.heap.size ≤ q) b := Nat.not_le.mpr hbl
  have htl : ∀ w ∈ wsL_law, w.before #[Value.ref b] s = true := fun w h => hts w (wsL_law_in w h)
  have hin : ∀ j, j < 4 → vp_in (nI (4 * nc + j)) L := fun j hj q => by
    rcases q with q | q
    · exact nI_pos (lt31 (by omega)) q
    · rw [nI_cl (by omega)] at q; omega
  refine lv_aload_n hx hb dL_law_1335 rfl (lv_at hl 1 rfl) ?_
  refine lv_aload_n hx hb dL_law_1336 rfl (lv_at hl 0 rfl) ?_
  refine lv_iload hx hb dL_law_1337 (lv_at hl 5 rfl) ?_
  refine lv_iconst (v := 1) hx hb dL_law_1339 (by decide) ?_
  refine lv_iadd hx hb dL_law_1340 ?_
  refine W.eq (g2 := F0 m 1341 ls [.int (nI (4 * nc + 1)), .ref b, .ref (cA 0)]) (by rw [show (1 : Int32) = nI 1 from rfl, nI_add]) ?_
  refine va_sld hx hb hX hbl hbA hS (hin 1 (by omega)) dL_law_1341 ?_
  refine W.eq (g2 := F0 m 1342 ls [.int (xs (4 * nc + 1)), .ref (cA 0)]) (by rw [nI_cl (by omega)]) ?_
  refine lv_aload_n hx hb dL_law_1342 rfl (lv_at hl 0 rfl) ?_
  refine lv_iload hx hb dL_law_1343 (lv_at hl 5 rfl) ?_
  refine lv_iconst (v := 2) hx hb dL_law_1345 (by decide) ?_
  refine lv_iadd hx hb dL_law_1346 ?_
  refine W.eq (g2 := F0 m 1347 ls [.int (nI (4 * nc + 2)), .ref b, .int (xs (4 * nc + 1)), .ref (cA 0)]) (by rw [show (2 : Int32) = nI 2 from rfl, nI_add]) ?_
  refine va_sld hx hb hX hbl hbA hS (hin 2 (by omega)) dL_law_1347 ?_
  refine W.eq (g2 := F0 m 1348 ls [.int (xs (4 * nc + 2)), .int (xs (4 * nc + 1)), .ref (cA 0)]) (by rw [nI_cl (by omega)]) ?_
  refine lv_if_eq (tgt := 1355) hx hb dL_law_1348 (by decide) (fun c9 => absurd c9 hz9) (fun c9 => ?_)
  refine lv_iconst (v := 1) hx hb dL_law_1351 (by decide) ?_
  refine lv_goto (tgt := 1356) hx hb dL_law_1352 (by decide) ?_
  refine lv_aload_n hx hb dL_law_1356 rfl (lv_at hl 3 rfl) ?_
  obtain ⟨w0, Pp, bb, M', hy, hpm, hCl, hpost⟩ := w_bestTurns (D := D) (V := V) (nA := nA) (tA := tA) hst hI (by omega) hT oA g ((xs (4 * nc + 1))) (1)
  have hq := pq_1 (md := mdW k bM M) (du := duW k dA gd) hpm
  refine Cx_goF (wc := w0) (wx := w0) (wr := (mdW k bM M ++ duW k dA gd)) (vx_runSX (As := [.ref (cA 0), .int (xs (4 * nc + 1)), .int 1, .ref oA]) (rest := []) ⟨hx, hb, hml, hown, htl⟩ (hCl _) (vx_cwSW 4 htl gL_law_L_bestTurns rfl rfl rfl (by decide +kernel) ⟨(Nat.le_of_ble_eq_true rfl), (Nat.le_of_ble_eq_true rfl)⟩) ⟨Pl_blind, Pl_at (wc := w0) hK hG hC (P_perm hq hP) (D_perm hq hD) hS hA (List.range w0.length) (rg_hi _ _) (rg_nd _)⟩ rfl rfl hl.1 rfl (Nat.le_of_ble_eq_true rfl) dL_law_1357 ⟨hcl, hsl⟩) (P_perm hq hP) (D_perm hq hD) hS hA rfl (fun _ _ _ _ _ h1 => nomatch h1) ?_
  intro ov B w1 H1 locs1 h1 hB hP1 hD1 hS1
  cases h1
  obtain ⟨kc, T', N', V', Q', tl', g', rfl, hmr, hk0, hpm2, hT2, hI2⟩ := hpost ov w1 hB
  obtain ⟨gd', egd⟩ : ∃ y, y = gd := ⟨_, rfl⟩
  rw [← egd] at hP1 hD1
  have hq2 := (pq_1 (md := mdW k bM M) (du := duW k dA gd') hpm2.symm).symm
  have hP : va_P D vwCl (trW k cA nA tA T' ++ stW k nA N' ++ stW k tA V' ++ mdW k bM M ++ ouW k oA g' ++ duW k dA gd' ++ tl') H1 := P_perm hq2 hP1
  have hD : va_D (fun q : Nat => s.heap.size ≤ q) (trW k cA nA tA T' ++ stW k nA N' ++ stW k tA V' ++ mdW k bM M ++ ouW k oA g' ++ duW k dA gd' ++ tl') := D_perm hq2 hD1
  have hS := hS1
  clear hP1 hD1 hS1
  refine W.eq (g2 := F0 m 1360 ls [.int kc]) rfl ?_
  refine lv_istore (lv' := [(6, .int kc), (0, .ref b), (1, .ref (cA 0)), (2, .ref (bM 0)), (3, .ref oA), (4, .ref dA), (5, .int (nI (4 * nc)))]) hx hb dL_law_1360 hl (by decide) rfl (fun ls hl => ?_)
  refine lv_aload_n hx hb dL_law_1362 rfl (lv_at hl 3 rfl) ?_
  refine lv_aload_n hx hb dL_law_1363 rfl (lv_at hl 1 rfl) ?_
  refine lv_iload hx hb dL_law_1364 (lv_at hl 6 rfl) ?_
  refine lv_iconst (v := 1) hx hb dL_law_1366 (by decide) ?_
  refine lv_iadd hx hb dL_law_1367 ?_
  refine W.eq (g2 := F0 m 1368 ls [.int (nI (4 * nc + 1)), .ref b, .ref (bM 0)]) (by rw [show (1 : Int32) = nI 1 from rfl, nI_add]) ?_
  refine va_sld hx hb hX hbl hbA hS (hin 1 (by omega)) dL_law_1368 ?_
  refine W.eq (g2 := F0 m 1369 ls [.int (xs (4 * nc + 1)), .ref (bM 0)]) (by rw [nI_cl (by omega)]) ?_
  refine lv_aload_n hx hb dL_law_1369 rfl (lv_at hl 1 rfl) ?_
  refine lv_iload hx hb dL_law_1370 (lv_at hl 6 rfl) ?_
  refine lv_iconst (v := 2) hx hb dL_law_1372 (by decide) ?_
  refine lv_iadd hx hb dL_law_1373 ?_
  refine W.eq (g2 := F0 m 1374 ls [.int (nI (4 * nc + 2)), .ref b, .int (xs (4 * nc + 1)), .ref (bM 0)]) (by rw [show (2 : Int32) = nI 2 from rfl, nI_add]) ?_
  refine va_sld hx hb hX hbl hbA hS (hin 2 (by omega)) dL_law_1374 ?_
  refine W.eq (g2 := F0 m 1375 ls [.int (xs (4 * nc + 2)), .int (xs (4 * nc + 1)), .ref (bM 0)]) (by rw [nI_cl (by omega)]) ?_
  refine lv_if_eq (tgt := 1382) hx hb dL_law_1375 (by decide) (fun c9 => absurd c9 hz9) (fun c9 => ?_)
  refine lv_iconst (v := 1) hx hb dL_law_1378 (by decide) ?_
  refine lv_goto (tgt := 1383) hx hb dL_law_1379 (by decide) ?_
  refine Ck_V (As := [.int (xs (4 * nc + 1)), .int 1]) (rest := []) (wc := mdW k bM M) (wc' := mdW k bM M') (w0' := trW k cA nA tA T' ++ stW k nA N' ++ stW k tA V' ++ mdW k bM M' ++ ouW k oA g' ++ duW k dA gd' ++ tl') ⟨hx, hb, hml, hown, htl⟩ (c_X2_bestTurns l D k bM M ((xs (4 * nc + 1))) (1) bb M' hy) (cwV 2 htl gL_law_X2_bestTurns rfl rfl rfl (by decide +kernel) ⟨(Nat.le_of_ble_eq_true rfl), (Nat.le_of_ble_eq_true rfl)⟩) hK hP hD hS hA (q0 := 26) (ci := 2) rfl rfl [26, 27, 28, 29, 30, 31, 32, 33, 34, 35] (hi_L rfl (hi_L rfl (hi_L rfl (hi_R rfl md_hi)))) (by decide) rfl (vs_L rfl (vs_L rfl (vs_L rfl (vs_R rfl md_all)))) rfl hl.1 rfl (Nat.le_of_ble_eq_true rfl) dL_law_1383 ⟨hcl, hsl⟩ (fun H locs hP hD hS => ?_)
  refine W.eq (g2 := F0 m 1386 ls [.int bb]) rfl ?_
  refine lv_istore (lv' := [(7, .int bb), (6, .int kc), (0, .ref b), (1, .ref (cA 0)), (2, .ref (bM 0)), (3, .ref oA), (4, .ref dA), (5, .int (nI (4 * nc)))]) hx hb dL_law_1386 hl (by decide) rfl (fun ls hl => ?_)
  refine lv_aload_n hx hb dL_law_1388 rfl (lv_at hl 4 rfl) ?_
  refine Ck_V (As := []) (rest := []) (wc := [mdO bM M']) (wc' := [mdO bM M']) (w0' := trW k cA nA tA T' ++ stW k nA N' ++ stW k tA V' ++ mdW k bM M' ++ ouW k oA g' ++ duW k dA gd' ++ tl') ⟨hx, hb, hml, hown, htl⟩ (c_X2_thrown l D k bM M' (m_ref M') rfl) (cwV 0 htl gL_law_X2_thrown rfl rfl rfl (by decide +kernel) ⟨(Nat.le_of_ble_eq_true rfl), (Nat.le_of_ble_eq_true rfl)⟩) hK hP hD hS hA (q0 := 26) (ci := 2) rfl rfl [26] rfl (by decide) rfl rfl rfl hl.1 rfl (Nat.le_of_ble_eq_true rfl) dL_law_1389 ⟨hcl, hsl⟩ (fun H locs hP hD hS => ?_)
  refine W.eq (g2 := F0 m 1392 ls [.int (m_ref M')]) rfl ?_
  refine lv_iload hx hb dL_law_1392 (lv_at hl 1 rfl) ?_
  refine lv_icmp_eq (tgt := 1399) hx hb dL_law_1394 (by decide) (fun c1 => ?_) (fun c1 => absurd hmr c1)
  have hend : W p l e room_1 s m #[.ref b] below meth c H locs (cells + 40) (slots + 300) Z (F0 m 1416 ls []) := by
    refine lv_goto (tgt := 1867) hx hb dL_law_1416 (by decide) ?_
    exact kk T' N' V' Q' tl' M' g' gd' _ _ ls hI2 hT2 hP hD hS (lv_sub hl [2, 3, 4, 5, 6, 7] rfl)
  refine W.widen (k := cells + 40) (n := slots + 300) (Nat.le_refl _) (Nat.le_refl _) ?_
  refine lv_iload hx hb dL_law_1399 (lv_at hl 1 rfl) ?_
  refine lv_if_ne (tgt := 1416) hx hb dL_law_1401 (by decide) (fun c2 => hend) (fun c2 => ?_)
  have hk9 : kc = 0 := c2
  obtain ⟨hG9, hg9⟩ := hk0 hk9
  refine lv_aload_n hx hb dL_law_1404 rfl (lv_at hl 5 rfl) ?_
  refine lv_iconst (v := 0) hx hb dL_law_1405 (by decide) ?_
  refine va_lald hx hb hK hP 36 4 rfl rfl (inb_vp (by decide)) dL_law_1406 ?_
  refine W.eq (g2 := F0 m 1407 ls [.long (g' 0)]) rfl ?_
  refine lv_iload hx hb dL_law_1407 (lv_at hl 0 rfl) ?_
  refine lv_i2l hx hb dL_law_1409 rfl ?_
  refine W.lcmp hx hb dL_law_1410 ?_
  have e0 : lg_cmp (g' 0) (bb.toInt64) = 0 := by rw [hg9]; simp [lg_cmp]
  exact lv_if_eq (tgt := 1416) hx hb dL_law_1411 (by decide) (fun c3 => hend) (fun c3 => absurd e0 c3)
end LAW
