section LAW
variable {p : Program} {l : Launch} {e : Env} {s : State} {m : MethodId} {below : List Frame} {meth : Method} {c : Code} {b L : Nat} {xs : Nat → Int32} {D : va_G} {k : Nat → ClassId} {cA nA tA bM : Nat → Nat} {oA dA nc : Nat} {cells slots : Nat} {Z : State → Prop} {T : TrV} {N V : StV} {Q : PoV} {tl : va_W} {M : MdV} {g : Nat → Int64} {gd : Nat → UInt64} {H : Heap} {locs : List Loc} {ls : Array Slot}
theorem wsL_c183 : Cond.constantLong RL 183 (4294967295) ∈ wsL_law := List.mem_of_getElem? (i := 8) rfl
set_option maxRecDepth 100000 in
set_option maxHeartbeats 4000000 in
theorem law_append (C0 : LC p s m meth c l b L xs D k) (hi : 4 * nc + 4 ≤ L) (hL : L ≤ 2048) (hI : INV nc T N Q M) (hT : PoIs k cA Q tl) (hP : va_P D vwCl (LWl k cA nA tA bM oA dA T N V M g gd tl) H) (hD : va_D (fun q : Nat => s.heap.size ≤ q) (LWl k cA nA tA bM oA dA T N V M g gd tl)) (hS : va_S (fun q : Nat => s.heap.size ≤ q) s.heap H locs) (hl : lv_has ls 10 [(0, .ref b), (1, .ref (cA 0)), (2, .ref (bM 0)), (3, .ref oA), (4, .ref dA), (5, .int (nI (4 * nc)))]) (hcl : cells + 40 ≤ 620558) (hsl : slots + 300 ≤ 7234429) (kk : LK p l e s m below meth c b D k cA nA tA bM oA dA nc cells slots Z) : W p l e room_1 s m #[.ref b] below meth c H locs cells slots Z (F0 m 168 ls []) := by
  obtain ⟨⟨hx, hb, hr, hml, hown, hts, hX, hbl, hlocks, hgv⟩, hst, hK, hG, hC⟩ := id C0
  have hA : ∀ q : Nat, s.heap.size ≤ q → (fun q : Nat => s.heap.size ≤ q) q := fun _ h => h
  have hbA : ¬ (fun q : Nat => s.heap.size ≤ q) b := Nat.not_le.mpr hbl
  have htl : ∀ w ∈ wsL_law, w.before #[Value.ref b] s = true := fun w h => hts w (wsL_law_in w h)
  have hin : ∀ j, j < 4 → vp_in (nI (4 * nc + j)) L := fun j hj q => by
    rcases q with q | q
    · exact nI_pos (lt31 (by omega)) q
    · rw [nI_cl (by omega)] at q; omega
  refine lv_aload_n hx hb dL_law_168 rfl (lv_at hl 1 rfl) ?_
  refine lv_aload_n hx hb dL_law_169 rfl (lv_at hl 0 rfl) ?_
  refine lv_iload hx hb dL_law_170 (lv_at hl 5 rfl) ?_
  refine lv_iconst (v := 1) hx hb dL_law_172 (by decide) ?_
  refine lv_iadd hx hb dL_law_173 ?_
  refine W.eq (g2 := F0 m 174 ls [.int (nI (4 * nc + 1)), .ref b, .ref (cA 0)]) (by rw [show (1 : Int32) = nI 1 from rfl, nI_add]) ?_
  refine va_sld hx hb hX hbl hbA hS (hin 1 (by omega)) dL_law_174 ?_
  refine W.eq (g2 := F0 m 175 ls [.int (xs (4 * nc + 1)), .ref (cA 0)]) (by rw [nI_cl (by omega)]) ?_
  refine lv_aload_n hx hb dL_law_175 rfl (lv_at hl 3 rfl) ?_
  obtain ⟨w0, Pp, bb, M', hy, hpm, hCl, hpost⟩ := w_append (D := D) (V := V) (nA := nA) (tA := tA) hst hI (by omega) hT oA g ((xs (4 * nc + 1)))
  have hq := pq_1 (md := mdW k bM M) (du := duW k dA gd) hpm
  refine Cx_goF (wc := w0) (wx := w0) (wr := (mdW k bM M ++ duW k dA gd)) (vx_runSX (As := [.ref (cA 0), .int (xs (4 * nc + 1)), .ref oA]) (rest := []) ⟨hx, hb, hml, hown, htl⟩ (hCl _) (vx_cwSW 3 htl gL_law_L_append rfl rfl rfl (by decide +kernel) ⟨(Nat.le_of_ble_eq_true rfl), (Nat.le_of_ble_eq_true rfl)⟩) ⟨Pl_blind, Pl_at (wc := w0) hK hG hC (P_perm hq hP) (D_perm hq hD) hS hA (List.range w0.length) (rg_hi _ _) (rg_nd _)⟩ rfl rfl hl.1 rfl (Nat.le_of_ble_eq_true rfl) dL_law_176 ⟨hcl, hsl⟩) (P_perm hq hP) (D_perm hq hD) hS hA rfl (fun _ _ _ _ _ h1 => nomatch h1) ?_
  intro ov B w1 H1 locs1 h1 hB hP1 hD1 hS1
  cases h1
  obtain ⟨kc, T', N', V', Q', tl', g', rfl, hmr, hk0, hpm2, hT2, hI2⟩ := hpost ov w1 hB
  obtain ⟨gd', egd⟩ : ∃ y, y = gd := ⟨_, rfl⟩
  rw [← egd] at hP1 hD1
  have hq2 := (pq_1 (md := mdW k bM M) (du := duW k dA gd') hpm2.symm).symm
  have hP : va_P D vwCl (trW k cA nA tA T' ++ stW k nA N' ++ stW k tA V' ++ mdW k bM M ++ ouW k oA g' ++ duW k dA gd' ++ tl') H1 := P_perm hq2 hP1
  have hD : va_D (fun q : Nat => s.heap.size ≤ q) (trW k cA nA tA T' ++ stW k nA N' ++ stW k tA V' ++ mdW k bM M ++ ouW k oA g' ++ duW k dA gd' ++ tl') := D_perm hq2 hD1
  have hS := hS1
  clear hP1 hD1 hS1
  refine W.eq (g2 := F0 m 179 ls [.int kc]) rfl ?_
  refine lv_istore (lv' := [(6, .int kc), (0, .ref b), (1, .ref (cA 0)), (2, .ref (bM 0)), (3, .ref oA), (4, .ref dA), (5, .int (nI (4 * nc)))]) hx hb dL_law_179 hl (by decide) rfl (fun ls hl => ?_)
  refine lv_aload_n hx hb dL_law_181 rfl (lv_at hl 3 rfl) ?_
  refine lv_aload_n hx hb dL_law_182 rfl (lv_at hl 1 rfl) ?_
  refine lv_iload hx hb dL_law_183 (lv_at hl 6 rfl) ?_
  refine lv_iconst (v := 1) hx hb dL_law_185 (by decide) ?_
  refine lv_iadd hx hb dL_law_186 ?_
  refine W.eq (g2 := F0 m 187 ls [.int (nI (4 * nc + 1)), .ref b, .ref (bM 0)]) (by rw [show (1 : Int32) = nI 1 from rfl, nI_add]) ?_
  refine va_sld hx hb hX hbl hbA hS (hin 1 (by omega)) dL_law_187 ?_
  refine W.eq (g2 := F0 m 188 ls [.int (xs (4 * nc + 1)), .ref (bM 0)]) (by rw [nI_cl (by omega)]) ?_
  refine Ck_V (As := [.int (xs (4 * nc + 1))]) (rest := []) (wc := mdW k bM M) (wc' := mdW k bM M') (w0' := trW k cA nA tA T' ++ stW k nA N' ++ stW k tA V' ++ mdW k bM M' ++ ouW k oA g' ++ duW k dA gd' ++ tl') ⟨hx, hb, hml, hown, htl⟩ (c_X2_append l D k bM M ((xs (4 * nc + 1))) bb M' hy) (cwV 1 htl gL_law_X2_append rfl rfl rfl (by decide +kernel) ⟨(Nat.le_of_ble_eq_true rfl), (Nat.le_of_ble_eq_true rfl)⟩) hK hP hD hS hA (q0 := 26) (ci := 2) rfl rfl [26, 27, 28, 29, 30, 31, 32, 33, 34, 35] (hi_L rfl (hi_L rfl (hi_L rfl (hi_R rfl md_hi)))) (by decide) rfl (vs_L rfl (vs_L rfl (vs_L rfl (vs_R rfl md_all)))) rfl hl.1 rfl (Nat.le_of_ble_eq_true rfl) dL_law_188 ⟨hcl, hsl⟩ (fun H locs hP hD hS => ?_)
  refine W.eq (g2 := F0 m 191 ls [.int bb]) rfl ?_
  refine lv_istore (lv' := [(7, .int bb), (6, .int kc), (0, .ref b), (1, .ref (cA 0)), (2, .ref (bM 0)), (3, .ref oA), (4, .ref dA), (5, .int (nI (4 * nc)))]) hx hb dL_law_191 hl (by decide) rfl (fun ls hl => ?_)
  refine lv_aload_n hx hb dL_law_193 rfl (lv_at hl 4 rfl) ?_
  refine Ck_V (As := []) (rest := []) (wc := [mdO bM M']) (wc' := [mdO bM M']) (w0' := trW k cA nA tA T' ++ stW k nA N' ++ stW k tA V' ++ mdW k bM M' ++ ouW k oA g' ++ duW k dA gd' ++ tl') ⟨hx, hb, hml, hown, htl⟩ (c_X2_thrown l D k bM M' (m_ref M') rfl) (cwV 0 htl gL_law_X2_thrown rfl rfl rfl (by decide +kernel) ⟨(Nat.le_of_ble_eq_true rfl), (Nat.le_of_ble_eq_true rfl)⟩) hK hP hD hS hA (q0 := 26) (ci := 2) rfl rfl [26] rfl (by decide) rfl rfl rfl hl.1 rfl (Nat.le_of_ble_eq_true rfl) dL_law_194 ⟨hcl, hsl⟩ (fun H locs hP hD hS => ?_)
  refine W.eq (g2 := F0 m 197 ls [.int (m_ref M')]) rfl ?_
  refine lv_iload hx hb dL_law_197 (lv_at hl 1 rfl) ?_
  refine lv_icmp_eq (tgt := 204) hx hb dL_law_199 (by decide) (fun c1 => ?_) (fun c1 => absurd hmr c1)
  have hend : W p l e room_1 s m #[.ref b] below meth c H locs (cells + 40) (slots + 300) Z (F0 m 221 ls []) := by
    refine lv_goto (tgt := 1867) hx hb dL_law_221 (by decide) ?_
    exact kk T' N' V' Q' tl' M' g' gd' _ _ ls hI2 hT2 hP hD hS (lv_sub hl [2, 3, 4, 5, 6, 7] rfl)
  refine W.widen (k := cells + 40) (n := slots + 300) (Nat.le_refl _) (Nat.le_refl _) ?_
  refine lv_iload hx hb dL_law_204 (lv_at hl 1 rfl) ?_
  refine lv_if_ne (tgt := 221) hx hb dL_law_206 (by decide) (fun c2 => hend) (fun c2 => ?_)
  have hk9 : kc = 0 := c2
  obtain ⟨hG9, hg9⟩ := hk0 hk9
  refine lv_aload_n hx hb dL_law_209 rfl (lv_at hl 5 rfl) ?_
  refine lv_iconst (v := 0) hx hb dL_law_210 (by decide) ?_
  refine va_lald hx hb hK hP 36 4 rfl rfl (inb_vp (by decide)) dL_law_211 ?_
  refine W.eq (g2 := F0 m 212 ls [.long (g' 0)]) rfl ?_
  refine lv_iload hx hb dL_law_212 (lv_at hl 0 rfl) ?_
  refine lv_i2l hx hb dL_law_214 rfl ?_
  refine W.lcmp hx hb dL_law_215 ?_
  have e0 : lg_cmp (g' 0) (bb.toInt64) = 0 := by rw [hg9]; simp [lg_cmp]
  exact lv_if_eq (tgt := 221) hx hb dL_law_216 (by decide) (fun c3 => hend) (fun c3 => absurd e0 c3)
set_option maxRecDepth 100000 in
set_option maxHeartbeats 4000000 in
theorem law_clearText (C0 : LC p s m meth c l b L xs D k) (hi : 4 * nc + 4 ≤ L) (hL : L ≤ 2048) (hI : INV nc T N Q M) (hT : PoIs k cA Q tl) (hP : va_P D vwCl (LWl k cA nA tA bM oA dA T N V M g gd tl) H) (hD : va_D (fun q : Nat => s.heap.size ≤ q) (LWl k cA nA tA bM oA dA T N V M g gd tl)) (hS : va_S (fun q : Nat => s.heap.size ≤ q) s.heap H locs) (hl : lv_has ls 10 [(0, .ref b), (1, .ref (cA 0)), (2, .ref (bM 0)), (3, .ref oA), (4, .ref dA), (5, .int (nI (4 * nc)))]) (hcl : cells + 40 ≤ 620558) (hsl : slots + 300 ≤ 7234429) (kk : LK p l e s m below meth c b D k cA nA tA bM oA dA nc cells slots Z) : W p l e room_1 s m #[.ref b] below meth c H locs cells slots Z (F0 m 224 ls []) := by
  obtain ⟨⟨hx, hb, hr, hml, hown, hts, hX, hbl, hlocks, hgv⟩, hst, hK, hG, hC⟩ := id C0
  have hA : ∀ q : Nat, s.heap.size ≤ q → (fun q : Nat => s.heap.size ≤ q) q := fun _ h => h
  have hbA : ¬ (fun q : Nat => s.heap.size ≤ q) b := Nat.not_le.mpr hbl
  have htl : ∀ w ∈ wsL_law, w.before #[Value.ref b] s = true := fun w h => hts w (wsL_law_in w h)
  have hin : ∀ j, j < 4 → vp_in (nI (4 * nc + j)) L := fun j hj q => by
    rcases q with q | q
    · exact nI_pos (lt31 (by omega)) q
    · rw [nI_cl (by omega)] at q; omega
  refine lv_aload_n hx hb dL_law_224 rfl (lv_at hl 1 rfl) ?_
  obtain ⟨rm, wc, wr, wx, oc, bb, M', ⟨f1, f2, f3, f4⟩, hp, ⟨fs, he⟩, hf, hCx, hy, hE, hB⟩ := k_clearText (V := V) (nA := nA) (tA := tA) (D := D) hst hI (by omega) hT
  have hq := pq_0 (md := mdW k bM M) (ou := ouW k oA g) (du := duW k dA gd) hp
  rw [List.append_assoc wc wr] at hq
  refine Cx_goF (wc := wc) (wx := wx) (wr := wr ++ (mdW k bM M ++ (ouW k oA g ++ duW k dA gd))) (vx_runV (As := []) (rest := []) ⟨hx, hb, hml, hown, htl⟩ (hCx _) (cwV 0 htl gL_law_X1_clearText rfl rfl rfl (by decide +kernel) ⟨(by show rm.frames + 1 ≤ 2048; omega), (by show 8 + (2 + 11) + rm.locals ≤ 84000; omega)⟩) ⟨Px_blind, va_recv (q0 := 0) (ci := 1) hK (P_perm hq hP) rfl (by rw [List.getElem?_append_left (List.getElem?_eq_some_iff.mp he).1]; exact he), Px_at (wc := wc) hK hG (P_perm hq hP) (D_perm hq hD) hS hA (List.range wc.length) (rg_hi _ _) (rg_nd _)⟩ rfl rfl hl.1 rfl (Nat.le_of_ble_eq_true rfl) dL_law_225 ⟨(by show cells + rm.cells ≤ 620558; omega), (by show slots + rm.slots ≤ 7234429; omega)⟩) (P_perm hq hP) (D_perm hq hD) hS hA hf ?_ ?_
  · intro E ce q9 H1 locs1 h1
    obtain ⟨cd, hm, -⟩ := hE E h1
    cases hm
  intro ov B w1 H1 locs1 h1 hB9 hP1 hD1 hS1
  obtain ⟨hG9, hmr, hb9⟩ := hB B h1
  obtain ⟨rfl, T', N', V', Q', tl', hp2, hT2, hI2⟩ := hb9 ov w1 hB9
  obtain ⟨g', eg⟩ : ∃ y, y = g := ⟨_, rfl⟩
  obtain ⟨gd', egd⟩ : ∃ y, y = gd := ⟨_, rfl⟩
  rw [← eg, ← egd, ← List.append_assoc w1 wr] at hP1 hD1
  have hq2 := (pq_0 (md := mdW k bM M) (ou := ouW k oA g') (du := duW k dA gd') hp2.symm).symm
  have hP : va_P D vwCl (trW k cA nA tA T' ++ stW k nA N' ++ stW k tA V' ++ mdW k bM M ++ ouW k oA g' ++ duW k dA gd' ++ tl') H1 := P_perm hq2 hP1
  have hD : va_D (fun q : Nat => s.heap.size ≤ q) (trW k cA nA tA T' ++ stW k nA N' ++ stW k tA V' ++ mdW k bM M ++ ouW k oA g' ++ duW k dA gd' ++ tl') := D_perm hq2 hD1
  have hS := hS1
  clear hP1 hD1 hS1
  refine W.widen (k := cells + 40) (n := slots + 300) (by show cells + rm.cells ≤ cells + 40; omega) (by show slots + rm.slots ≤ slots + 300; omega) ?_
  refine W.eq (g2 := F0 m 228 ls [.int bb]) rfl ?_
  refine lv_aload_n hx hb dL_law_228 rfl (lv_at hl 2 rfl) ?_
  refine Ck_V (As := []) (rest := [.int bb]) (wc := mdW k bM M) (wc' := mdW k bM M') (w0' := trW k cA nA tA T' ++ stW k nA N' ++ stW k tA V' ++ mdW k bM M' ++ ouW k oA g' ++ duW k dA gd' ++ tl') ⟨hx, hb, hml, hown, htl⟩ (c_X2_clearText l D k bM M  bb M' hy) (cwV 0 htl gL_law_X2_clearText rfl rfl rfl (by decide +kernel) ⟨(Nat.le_of_ble_eq_true rfl), (Nat.le_of_ble_eq_true rfl)⟩) hK hP hD hS hA (q0 := 26) (ci := 2) rfl rfl [26, 27, 28, 29, 30, 31, 32, 33, 34, 35] (hi_L rfl (hi_L rfl (hi_L rfl (hi_R rfl md_hi)))) (by decide) rfl (vs_L rfl (vs_L rfl (vs_L rfl (vs_R rfl md_all)))) rfl hl.1 rfl (Nat.le_of_ble_eq_true rfl) dL_law_229 ⟨hcl, hsl⟩ (fun H locs hP hD hS => ?_)
  refine W.eq (g2 := F0 m 232 ls [.int bb, .int bb]) rfl ?_
  refine lv_icmp_eq (tgt := 1867) hx hb dL_law_232 (by decide) (fun c1 => ?_) (fun c1 => absurd rfl c1)
  exact kk T' N' V' Q' tl' M' g' gd' _ _ ls hI2 hT2 hP hD hS (lv_sub hl [0, 1, 2, 3, 4, 5] rfl)
set_option maxRecDepth 100000 in
set_option maxHeartbeats 4000000 in
theorem law_errorPosition (C0 : LC p s m meth c l b L xs D k) (hi : 4 * nc + 4 ≤ L) (hL : L ≤ 2048) (hI : INV nc T N Q M) (hT : PoIs k cA Q tl) (hP : va_P D vwCl (LWl k cA nA tA bM oA dA T N V M g gd tl) H) (hD : va_D (fun q : Nat => s.heap.size ≤ q) (LWl k cA nA tA bM oA dA T N V M g gd tl)) (hS : va_S (fun q : Nat => s.heap.size ≤ q) s.heap H locs) (hl : lv_has ls 10 [(0, .ref b), (1, .ref (cA 0)), (2, .ref (bM 0)), (3, .ref oA), (4, .ref dA), (5, .int (nI (4 * nc)))]) (hcl : cells + 40 ≤ 620558) (hsl : slots + 300 ≤ 7234429) (kk : LK p l e s m below meth c b D k cA nA tA bM oA dA nc cells slots Z) : W p l e room_1 s m #[.ref b] below meth c H locs cells slots Z (F0 m 237 ls []) := by
  obtain ⟨⟨hx, hb, hr, hml, hown, hts, hX, hbl, hlocks, hgv⟩, hst, hK, hG, hC⟩ := id C0
  have hA : ∀ q : Nat, s.heap.size ≤ q → (fun q : Nat => s.heap.size ≤ q) q := fun _ h => h
  have hbA : ¬ (fun q : Nat => s.heap.size ≤ q) b := Nat.not_le.mpr hbl
  have htl : ∀ w ∈ wsL_law, w.before #[Value.ref b] s = true := fun w h => hts w (wsL_law_in w h)
  have hin : ∀ j, j < 4 → vp_in (nI (4 * nc + j)) L := fun j hj q => by
    rcases q with q | q
    · exact nI_pos (lt31 (by omega)) q
    · rw [nI_cl (by omega)] at q; omega
  refine lv_aload_n hx hb dL_law_237 rfl (lv_at hl 1 rfl) ?_
  obtain ⟨rm, wc, wr, wx, oc, bb, M', ⟨f1, f2, f3, f4⟩, hp, ⟨fs, he⟩, hf, hCx, hy, hE, hB⟩ := k_errorPosition (V := V) (nA := nA) (tA := tA) (D := D) hst hI (by omega) hT
  have hq := pq_0 (md := mdW k bM M) (ou := ouW k oA g) (du := duW k dA gd) hp
  rw [List.append_assoc wc wr] at hq
  refine Cx_goF (wc := wc) (wx := wx) (wr := wr ++ (mdW k bM M ++ (ouW k oA g ++ duW k dA gd))) (vx_runV (As := []) (rest := []) ⟨hx, hb, hml, hown, htl⟩ (hCx _) (cwV 0 htl gL_law_X1_errorPosition rfl rfl rfl (by decide +kernel) ⟨(by show rm.frames + 1 ≤ 2048; omega), (by show 8 + (1 + 11) + rm.locals ≤ 84000; omega)⟩) ⟨Px_blind, va_recv (q0 := 0) (ci := 1) hK (P_perm hq hP) rfl (by rw [List.getElem?_append_left (List.getElem?_eq_some_iff.mp he).1]; exact he), Px_at (wc := wc) hK hG (P_perm hq hP) (D_perm hq hD) hS hA (List.range wc.length) (rg_hi _ _) (rg_nd _)⟩ rfl rfl hl.1 rfl (Nat.le_of_ble_eq_true rfl) dL_law_238 ⟨(by show cells + rm.cells ≤ 620558; omega), (by show slots + rm.slots ≤ 7234429; omega)⟩) (P_perm hq hP) (D_perm hq hD) hS hA hf ?_ ?_
  · intro E ce q9 H1 locs1 h1
    obtain ⟨cd, hm, -⟩ := hE E h1
    cases hm
  intro ov B w1 H1 locs1 h1 hB9 hP1 hD1 hS1
  obtain ⟨hG9, hmr, hb9⟩ := hB B h1
  obtain ⟨rfl, T', N', V', Q', tl', hp2, hT2, hI2⟩ := hb9 ov w1 hB9
  obtain ⟨g', eg⟩ : ∃ y, y = g := ⟨_, rfl⟩
  obtain ⟨gd', egd⟩ : ∃ y, y = gd := ⟨_, rfl⟩
  rw [← eg, ← egd, ← List.append_assoc w1 wr] at hP1 hD1
  have hq2 := (pq_0 (md := mdW k bM M) (ou := ouW k oA g') (du := duW k dA gd') hp2.symm).symm
  have hP : va_P D vwCl (trW k cA nA tA T' ++ stW k nA N' ++ stW k tA V' ++ mdW k bM M ++ ouW k oA g' ++ duW k dA gd' ++ tl') H1 := P_perm hq2 hP1
  have hD : va_D (fun q : Nat => s.heap.size ≤ q) (trW k cA nA tA T' ++ stW k nA N' ++ stW k tA V' ++ mdW k bM M ++ ouW k oA g' ++ duW k dA gd' ++ tl') := D_perm hq2 hD1
  have hS := hS1
  clear hP1 hD1 hS1
  refine W.widen (k := cells + 40) (n := slots + 300) (by show cells + rm.cells ≤ cells + 40; omega) (by show slots + rm.slots ≤ slots + 300; omega) ?_
  refine W.eq (g2 := F0 m 241 ls [.int bb]) rfl ?_
  refine lv_aload_n hx hb dL_law_241 rfl (lv_at hl 2 rfl) ?_
  refine Ck_V (As := []) (rest := [.int bb]) (wc := mdW k bM M) (wc' := mdW k bM M') (w0' := trW k cA nA tA T' ++ stW k nA N' ++ stW k tA V' ++ mdW k bM M' ++ ouW k oA g' ++ duW k dA gd' ++ tl') ⟨hx, hb, hml, hown, htl⟩ (c_X2_errorPosition l D k bM M  bb M' hy) (cwV 0 htl gL_law_X2_errorPosition rfl rfl rfl (by decide +kernel) ⟨(Nat.le_of_ble_eq_true rfl), (Nat.le_of_ble_eq_true rfl)⟩) hK hP hD hS hA (q0 := 26) (ci := 2) rfl rfl [26, 27, 28, 29, 30, 31, 32, 33, 34, 35] (hi_L rfl (hi_L rfl (hi_L rfl (hi_R rfl md_hi)))) (by decide) rfl (vs_L rfl (vs_L rfl (vs_L rfl (vs_R rfl md_all)))) rfl hl.1 rfl (Nat.le_of_ble_eq_true rfl) dL_law_242 ⟨hcl, hsl⟩ (fun H locs hP hD hS => ?_)
  refine W.eq (g2 := F0 m 245 ls [.int bb, .int bb]) rfl ?_
  refine lv_icmp_eq (tgt := 1867) hx hb dL_law_245 (by decide) (fun c1 => ?_) (fun c1 => absurd rfl c1)
  exact kk T' N' V' Q' tl' M' g' gd' _ _ ls hI2 hT2 hP hD hS (lv_sub hl [0, 1, 2, 3, 4, 5] rfl)
set_option maxRecDepth 100000 in
set_option maxHeartbeats 4000000 in
theorem law_load (C0 : LC p s m meth c l b L xs D k) (hi : 4 * nc + 4 ≤ L) (hL : L ≤ 2048) (hI : INV nc T N Q M) (hT : PoIs k cA Q tl) (hP : va_P D vwCl (LWl k cA nA tA bM oA dA T N V M g gd tl) H) (hD : va_D (fun q : Nat => s.heap.size ≤ q) (LWl k cA nA tA bM oA dA T N V M g gd tl)) (hS : va_S (fun q : Nat => s.heap.size ≤ q) s.heap H locs) (hl : lv_has ls 10 [(0, .ref b), (1, .ref (cA 0)), (2, .ref (bM 0)), (3, .ref oA), (4, .ref dA), (5, .int (nI (4 * nc)))]) (hcl : cells + 40 ≤ 620558) (hsl : slots + 300 ≤ 7234429) (kk : LK p l e s m below meth c b D k cA nA tA bM oA dA nc cells slots Z) : W p l e room_1 s m #[.ref b] below meth c H locs cells slots Z (F0 m 250 ls []) := by
  obtain ⟨⟨hx, hb, hr, hml, hown, hts, hX, hbl, hlocks, hgv⟩, hst, hK, hG, hC⟩ := id C0
  have hA : ∀ q : Nat, s.heap.size ≤ q → (fun q : Nat => s.heap.size ≤ q) q := fun _ h => h
  have hbA : ¬ (fun q : Nat => s.heap.size ≤ q) b := Nat.not_le.mpr hbl
  have htl : ∀ w ∈ wsL_law, w.before #[Value.ref b] s = true := fun w h => hts w (wsL_law_in w h)
  have hin : ∀ j, j < 4 → vp_in (nI (4 * nc + j)) L := fun j hj q => by
    rcases q with q | q
    · exact nI_pos (lt31 (by omega)) q
    · rw [nI_cl (by omega)] at q; omega
  refine lv_aload_n hx hb dL_law_250 rfl (lv_at hl 1 rfl) ?_
  refine lv_aload_n hx hb dL_law_251 rfl (lv_at hl 3 rfl) ?_
  obtain ⟨w0, Pp, bb, M', hy, hpm, hCl, hpost⟩ := w_load (D := D) (V := V) (nA := nA) (tA := tA) hst hI (by omega) hT oA g 
  have hq := pq_1 (md := mdW k bM M) (du := duW k dA gd) hpm
  refine Cx_goF (wc := w0) (wx := w0) (wr := (mdW k bM M ++ duW k dA gd)) (vx_runSX (As := [.ref (cA 0), .ref oA]) (rest := []) ⟨hx, hb, hml, hown, htl⟩ (hCl _) (vx_cwSW 2 htl gL_law_L_load rfl rfl rfl (by decide +kernel) ⟨(Nat.le_of_ble_eq_true rfl), (Nat.le_of_ble_eq_true rfl)⟩) ⟨Pl_blind, Pl_at (wc := w0) hK hG hC (P_perm hq hP) (D_perm hq hD) hS hA (List.range w0.length) (rg_hi _ _) (rg_nd _)⟩ rfl rfl hl.1 rfl (Nat.le_of_ble_eq_true rfl) dL_law_252 ⟨hcl, hsl⟩) (P_perm hq hP) (D_perm hq hD) hS hA rfl (fun _ _ _ _ _ h1 => nomatch h1) ?_
  intro ov B w1 H1 locs1 h1 hB hP1 hD1 hS1
  cases h1
  obtain ⟨kc, T', N', V', Q', tl', g', rfl, hmr, hk0, hpm2, hT2, hI2⟩ := hpost ov w1 hB
  obtain ⟨gd', egd⟩ : ∃ y, y = gd := ⟨_, rfl⟩
  rw [← egd] at hP1 hD1
  have hq2 := (pq_1 (md := mdW k bM M) (du := duW k dA gd') hpm2.symm).symm
  have hP : va_P D vwCl (trW k cA nA tA T' ++ stW k nA N' ++ stW k tA V' ++ mdW k bM M ++ ouW k oA g' ++ duW k dA gd' ++ tl') H1 := P_perm hq2 hP1
  have hD : va_D (fun q : Nat => s.heap.size ≤ q) (trW k cA nA tA T' ++ stW k nA N' ++ stW k tA V' ++ mdW k bM M ++ ouW k oA g' ++ duW k dA gd' ++ tl') := D_perm hq2 hD1
  have hS := hS1
  clear hP1 hD1 hS1
  refine W.eq (g2 := F0 m 255 ls [.int kc]) rfl ?_
  refine lv_istore (lv' := [(6, .int kc), (0, .ref b), (1, .ref (cA 0)), (2, .ref (bM 0)), (3, .ref oA), (4, .ref dA), (5, .int (nI (4 * nc)))]) hx hb dL_law_255 hl (by decide) rfl (fun ls hl => ?_)
  refine lv_aload_n hx hb dL_law_257 rfl (lv_at hl 3 rfl) ?_
  refine Ck_V (As := []) (rest := []) (wc := mdW k bM M) (wc' := mdW k bM M') (w0' := trW k cA nA tA T' ++ stW k nA N' ++ stW k tA V' ++ mdW k bM M' ++ ouW k oA g' ++ duW k dA gd' ++ tl') ⟨hx, hb, hml, hown, htl⟩ (c_X2_load l D k bM M  bb M' hy) (cwV 0 htl gL_law_X2_load rfl rfl rfl (by decide +kernel) ⟨(Nat.le_of_ble_eq_true rfl), (Nat.le_of_ble_eq_true rfl)⟩) hK hP hD hS hA (q0 := 26) (ci := 2) rfl rfl [26, 27, 28, 29, 30, 31, 32, 33, 34, 35] (hi_L rfl (hi_L rfl (hi_L rfl (hi_R rfl md_hi)))) (by decide) rfl (vs_L rfl (vs_L rfl (vs_L rfl (vs_R rfl md_all)))) rfl hl.1 rfl (Nat.le_of_ble_eq_true rfl) dL_law_258 ⟨hcl, hsl⟩ (fun H locs hP hD hS => ?_)
  refine W.eq (g2 := F0 m 261 ls [.int bb]) rfl ?_
  refine lv_istore (lv' := [(7, .int bb), (6, .int kc), (0, .ref b), (1, .ref (cA 0)), (2, .ref (bM 0)), (3, .ref oA), (4, .ref dA), (5, .int (nI (4 * nc)))]) hx hb dL_law_261 hl (by decide) rfl (fun ls hl => ?_)
  refine lv_aload_n hx hb dL_law_263 rfl (lv_at hl 4 rfl) ?_
  refine Ck_V (As := []) (rest := []) (wc := [mdO bM M']) (wc' := [mdO bM M']) (w0' := trW k cA nA tA T' ++ stW k nA N' ++ stW k tA V' ++ mdW k bM M' ++ ouW k oA g' ++ duW k dA gd' ++ tl') ⟨hx, hb, hml, hown, htl⟩ (c_X2_thrown l D k bM M' (m_ref M') rfl) (cwV 0 htl gL_law_X2_thrown rfl rfl rfl (by decide +kernel) ⟨(Nat.le_of_ble_eq_true rfl), (Nat.le_of_ble_eq_true rfl)⟩) hK hP hD hS hA (q0 := 26) (ci := 2) rfl rfl [26] rfl (by decide) rfl rfl rfl hl.1 rfl (Nat.le_of_ble_eq_true rfl) dL_law_264 ⟨hcl, hsl⟩ (fun H locs hP hD hS => ?_)
  refine W.eq (g2 := F0 m 267 ls [.int (m_ref M')]) rfl ?_
  refine lv_iload hx hb dL_law_267 (lv_at hl 1 rfl) ?_
  refine lv_icmp_eq (tgt := 274) hx hb dL_law_269 (by decide) (fun c1 => ?_) (fun c1 => absurd hmr c1)
  have hend : W p l e room_1 s m #[.ref b] below meth c H locs (cells + 40) (slots + 300) Z (F0 m 291 ls []) := by
    refine lv_goto (tgt := 1867) hx hb dL_law_291 (by decide) ?_
    exact kk T' N' V' Q' tl' M' g' gd' _ _ ls hI2 hT2 hP hD hS (lv_sub hl [2, 3, 4, 5, 6, 7] rfl)
  refine W.widen (k := cells + 40) (n := slots + 300) (Nat.le_refl _) (Nat.le_refl _) ?_
  refine lv_iload hx hb dL_law_274 (lv_at hl 1 rfl) ?_
  refine lv_if_ne (tgt := 291) hx hb dL_law_276 (by decide) (fun c2 => hend) (fun c2 => ?_)
  have hk9 : kc = 0 := c2
  obtain ⟨hG9, hg9⟩ := hk0 hk9
  refine lv_aload_n hx hb dL_law_279 rfl (lv_at hl 5 rfl) ?_
  refine lv_iconst (v := 0) hx hb dL_law_280 (by decide) ?_
  refine va_lald hx hb hK hP 36 4 rfl rfl (inb_vp (by decide)) dL_law_281 ?_
  refine W.eq (g2 := F0 m 282 ls [.long (g' 0)]) rfl ?_
  refine lv_iload hx hb dL_law_282 (lv_at hl 0 rfl) ?_
  refine lv_i2l hx hb dL_law_284 rfl ?_
  refine W.lcmp hx hb dL_law_285 ?_
  have e0 : lg_cmp (g' 0) (bb.toInt64) = 0 := by rw [hg9]; simp [lg_cmp]
  exact lv_if_eq (tgt := 291) hx hb dL_law_286 (by decide) (fun c3 => hend) (fun c3 => absurd e0 c3)
set_option maxRecDepth 100000 in
set_option maxHeartbeats 4000000 in
theorem law_about (C0 : LC p s m meth c l b L xs D k) (hi : 4 * nc + 4 ≤ L) (hL : L ≤ 2048) (hI : INV nc T N Q M) (hT : PoIs k cA Q tl) (hP : va_P D vwCl (LWl k cA nA tA bM oA dA T N V M g gd tl) H) (hD : va_D (fun q : Nat => s.heap.size ≤ q) (LWl k cA nA tA bM oA dA T N V M g gd tl)) (hS : va_S (fun q : Nat => s.heap.size ≤ q) s.heap H locs) (hl : lv_has ls 10 [(0, .ref b), (1, .ref (cA 0)), (2, .ref (bM 0)), (3, .ref oA), (4, .ref dA), (5, .int (nI (4 * nc)))]) (hcl : cells + 40 ≤ 620558) (hsl : slots + 300 ≤ 7234429) (kk : LK p l e s m below meth c b D k cA nA tA bM oA dA nc cells slots Z) : W p l e room_1 s m #[.ref b] below meth c H locs cells slots Z (F0 m 294 ls []) := by
  obtain ⟨⟨hx, hb, hr, hml, hown, hts, hX, hbl, hlocks, hgv⟩, hst, hK, hG, hC⟩ := id C0
  have hA : ∀ q : Nat, s.heap.size ≤ q → (fun q : Nat => s.heap.size ≤ q) q := fun _ h => h
  have hbA : ¬ (fun q : Nat => s.heap.size ≤ q) b := Nat.not_le.mpr hbl
  have htl : ∀ w ∈ wsL_law, w.before #[Value.ref b] s = true := fun w h => hts w (wsL_law_in w h)
  have hin : ∀ j, j < 4 → vp_in (nI (4 * nc + j)) L := fun j hj q => by
    rcases q with q | q
    · exact nI_pos (lt31 (by omega)) q
    · rw [nI_cl (by omega)] at q; omega
  refine lv_aload_n hx hb dL_law_294 rfl (lv_at hl 1 rfl) ?_
  refine lv_aload_n hx hb dL_law_295 rfl (lv_at hl 0 rfl) ?_
  refine lv_iload hx hb dL_law_296 (lv_at hl 5 rfl) ?_
  refine lv_iconst (v := 1) hx hb dL_law_298 (by decide) ?_
  refine lv_iadd hx hb dL_law_299 ?_
  refine W.eq (g2 := F0 m 300 ls [.int (nI (4 * nc + 1)), .ref b, .ref (cA 0)]) (by rw [show (1 : Int32) = nI 1 from rfl, nI_add]) ?_
  refine va_sld hx hb hX hbl hbA hS (hin 1 (by omega)) dL_law_300 ?_
  refine W.eq (g2 := F0 m 301 ls [.int (xs (4 * nc + 1)), .ref (cA 0)]) (by rw [nI_cl (by omega)]) ?_
  refine lv_aload_n hx hb dL_law_301 rfl (lv_at hl 3 rfl) ?_
  obtain ⟨w0, Pp, bb, M', hy, hpm, hCl, hpost⟩ := w_about (D := D) (V := V) (nA := nA) (tA := tA) hst hI (by omega) hT oA g ((xs (4 * nc + 1)))
  have hq := pq_1 (md := mdW k bM M) (du := duW k dA gd) hpm
  refine Cx_goF (wc := w0) (wx := w0) (wr := (mdW k bM M ++ duW k dA gd)) (vx_runSX (As := [.ref (cA 0), .int (xs (4 * nc + 1)), .ref oA]) (rest := []) ⟨hx, hb, hml, hown, htl⟩ (hCl _) (vx_cwSW 3 htl gL_law_L_about rfl rfl rfl (by decide +kernel) ⟨(Nat.le_of_ble_eq_true rfl), (Nat.le_of_ble_eq_true rfl)⟩) ⟨Pl_blind, Pl_at (wc := w0) hK hG hC (P_perm hq hP) (D_perm hq hD) hS hA (List.range w0.length) (rg_hi _ _) (rg_nd _)⟩ rfl rfl hl.1 rfl (Nat.le_of_ble_eq_true rfl) dL_law_302 ⟨hcl, hsl⟩) (P_perm hq hP) (D_perm hq hD) hS hA rfl (fun _ _ _ _ _ h1 => nomatch h1) ?_
  intro ov B w1 H1 locs1 h1 hB hP1 hD1 hS1
  cases h1
  obtain ⟨kc, T', N', V', Q', tl', g', rfl, hmr, hk0, hpm2, hT2, hI2⟩ := hpost ov w1 hB
  obtain ⟨gd', egd⟩ : ∃ y, y = gd := ⟨_, rfl⟩
  rw [← egd] at hP1 hD1
  have hq2 := (pq_1 (md := mdW k bM M) (du := duW k dA gd') hpm2.symm).symm
  have hP : va_P D vwCl (trW k cA nA tA T' ++ stW k nA N' ++ stW k tA V' ++ mdW k bM M ++ ouW k oA g' ++ duW k dA gd' ++ tl') H1 := P_perm hq2 hP1
  have hD : va_D (fun q : Nat => s.heap.size ≤ q) (trW k cA nA tA T' ++ stW k nA N' ++ stW k tA V' ++ mdW k bM M ++ ouW k oA g' ++ duW k dA gd' ++ tl') := D_perm hq2 hD1
  have hS := hS1
  clear hP1 hD1 hS1
  refine W.eq (g2 := F0 m 305 ls [.int kc]) rfl ?_
  refine lv_istore (lv' := [(6, .int kc), (0, .ref b), (1, .ref (cA 0)), (2, .ref (bM 0)), (3, .ref oA), (4, .ref dA), (5, .int (nI (4 * nc)))]) hx hb dL_law_305 hl (by decide) rfl (fun ls hl => ?_)
  refine lv_aload_n hx hb dL_law_307 rfl (lv_at hl 3 rfl) ?_
  refine lv_aload_n hx hb dL_law_308 rfl (lv_at hl 1 rfl) ?_
  refine lv_iload hx hb dL_law_309 (lv_at hl 6 rfl) ?_
  refine lv_iconst (v := 1) hx hb dL_law_311 (by decide) ?_
  refine lv_iadd hx hb dL_law_312 ?_
  refine W.eq (g2 := F0 m 313 ls [.int (nI (4 * nc + 1)), .ref b, .ref (bM 0)]) (by rw [show (1 : Int32) = nI 1 from rfl, nI_add]) ?_
  refine va_sld hx hb hX hbl hbA hS (hin 1 (by omega)) dL_law_313 ?_
  refine W.eq (g2 := F0 m 314 ls [.int (xs (4 * nc + 1)), .ref (bM 0)]) (by rw [nI_cl (by omega)]) ?_
  refine Ck_V (As := [.int (xs (4 * nc + 1))]) (rest := []) (wc := mdW k bM M) (wc' := mdW k bM M') (w0' := trW k cA nA tA T' ++ stW k nA N' ++ stW k tA V' ++ mdW k bM M' ++ ouW k oA g' ++ duW k dA gd' ++ tl') ⟨hx, hb, hml, hown, htl⟩ (c_X2_about l D k bM M ((xs (4 * nc + 1))) bb M' hy) (cwV 1 htl gL_law_X2_about rfl rfl rfl (by decide +kernel) ⟨(Nat.le_of_ble_eq_true rfl), (Nat.le_of_ble_eq_true rfl)⟩) hK hP hD hS hA (q0 := 26) (ci := 2) rfl rfl [26, 27, 28, 29, 30, 31, 32, 33, 34, 35] (hi_L rfl (hi_L rfl (hi_L rfl (hi_R rfl md_hi)))) (by decide) rfl (vs_L rfl (vs_L rfl (vs_L rfl (vs_R rfl md_all)))) rfl hl.1 rfl (Nat.le_of_ble_eq_true rfl) dL_law_314 ⟨hcl, hsl⟩ (fun H locs hP hD hS => ?_)
  refine W.eq (g2 := F0 m 317 ls [.int bb]) rfl ?_
  refine lv_istore (lv' := [(7, .int bb), (6, .int kc), (0, .ref b), (1, .ref (cA 0)), (2, .ref (bM 0)), (3, .ref oA), (4, .ref dA), (5, .int (nI (4 * nc)))]) hx hb dL_law_317 hl (by decide) rfl (fun ls hl => ?_)
  refine lv_aload_n hx hb dL_law_319 rfl (lv_at hl 4 rfl) ?_
  refine Ck_V (As := []) (rest := []) (wc := [mdO bM M']) (wc' := [mdO bM M']) (w0' := trW k cA nA tA T' ++ stW k nA N' ++ stW k tA V' ++ mdW k bM M' ++ ouW k oA g' ++ duW k dA gd' ++ tl') ⟨hx, hb, hml, hown, htl⟩ (c_X2_thrown l D k bM M' (m_ref M') rfl) (cwV 0 htl gL_law_X2_thrown rfl rfl rfl (by decide +kernel) ⟨(Nat.le_of_ble_eq_true rfl), (Nat.le_of_ble_eq_true rfl)⟩) hK hP hD hS hA (q0 := 26) (ci := 2) rfl rfl [26] rfl (by decide) rfl rfl rfl hl.1 rfl (Nat.le_of_ble_eq_true rfl) dL_law_320 ⟨hcl, hsl⟩ (fun H locs hP hD hS => ?_)
  refine W.eq (g2 := F0 m 323 ls [.int (m_ref M')]) rfl ?_
  refine lv_iload hx hb dL_law_323 (lv_at hl 1 rfl) ?_
  refine lv_icmp_eq (tgt := 330) hx hb dL_law_325 (by decide) (fun c1 => ?_) (fun c1 => absurd hmr c1)
  have hend : W p l e room_1 s m #[.ref b] below meth c H locs (cells + 40) (slots + 300) Z (F0 m 347 ls []) := by
    refine lv_goto (tgt := 1867) hx hb dL_law_347 (by decide) ?_
    exact kk T' N' V' Q' tl' M' g' gd' _ _ ls hI2 hT2 hP hD hS (lv_sub hl [2, 3, 4, 5, 6, 7] rfl)
  refine W.widen (k := cells + 40) (n := slots + 300) (Nat.le_refl _) (Nat.le_refl _) ?_
  refine lv_iload hx hb dL_law_330 (lv_at hl 1 rfl) ?_
  refine lv_if_ne (tgt := 347) hx hb dL_law_332 (by decide) (fun c2 => hend) (fun c2 => ?_)
  have hk9 : kc = 0 := c2
  obtain ⟨hG9, hg9⟩ := hk0 hk9
  refine lv_aload_n hx hb dL_law_335 rfl (lv_at hl 5 rfl) ?_
  refine lv_iconst (v := 0) hx hb dL_law_336 (by decide) ?_
  refine va_lald hx hb hK hP 36 4 rfl rfl (inb_vp (by decide)) dL_law_337 ?_
  refine W.eq (g2 := F0 m 338 ls [.long (g' 0)]) rfl ?_
  refine lv_iload hx hb dL_law_338 (lv_at hl 0 rfl) ?_
  refine lv_i2l hx hb dL_law_340 rfl ?_
  refine W.lcmp hx hb dL_law_341 ?_
  have e0 : lg_cmp (g' 0) (bb.toInt64) = 0 := by rw [hg9]; simp [lg_cmp]
  exact lv_if_eq (tgt := 347) hx hb dL_law_342 (by decide) (fun c3 => hend) (fun c3 => absurd e0 c3)
set_option maxRecDepth 100000 in
set_option maxHeartbeats 4000000 in
theorem law_total (C0 : LC p s m meth c l b L xs D k) (hi : 4 * nc + 4 ≤ L) (hL : L ≤ 2048) (hI : INV nc T N Q M) (hT : PoIs k cA Q tl) (hP : va_P D vwCl (LWl k cA nA tA bM oA dA T N V M g gd tl) H) (hD : va_D (fun q : Nat => s.heap.size ≤ q) (LWl k cA nA tA bM oA dA T N V M g gd tl)) (hS : va_S (fun q : Nat => s.heap.size ≤ q) s.heap H locs) (hl : lv_has ls 10 [(0, .ref b), (1, .ref (cA 0)), (2, .ref (bM 0)), (3, .ref oA), (4, .ref dA), (5, .int (nI (4 * nc)))]) (hcl : cells + 40 ≤ 620558) (hsl : slots + 300 ≤ 7234429) (kk : LK p l e s m below meth c b D k cA nA tA bM oA dA nc cells slots Z) : W p l e room_1 s m #[.ref b] below meth c H locs cells slots Z (F0 m 350 ls []) := by
  obtain ⟨⟨hx, hb, hr, hml, hown, hts, hX, hbl, hlocks, hgv⟩, hst, hK, hG, hC⟩ := id C0
  have hA : ∀ q : Nat, s.heap.size ≤ q → (fun q : Nat => s.heap.size ≤ q) q := fun _ h => h
  have hbA : ¬ (fun q : Nat => s.heap.size ≤ q) b := Nat.not_le.mpr hbl
  have htl : ∀ w ∈ wsL_law, w.before #[Value.ref b] s = true := fun w h => hts w (wsL_law_in w h)
  have hin : ∀ j, j < 4 → vp_in (nI (4 * nc + j)) L := fun j hj q => by
    rcases q with q | q
    · exact nI_pos (lt31 (by omega)) q
    · rw [nI_cl (by omega)] at q; omega
  refine lv_aload_n hx hb dL_law_350 rfl (lv_at hl 1 rfl) ?_
  refine lv_aload_n hx hb dL_law_351 rfl (lv_at hl 0 rfl) ?_
  refine lv_iload hx hb dL_law_352 (lv_at hl 5 rfl) ?_
  refine lv_iconst (v := 1) hx hb dL_law_354 (by decide) ?_
  refine lv_iadd hx hb dL_law_355 ?_
  refine W.eq (g2 := F0 m 356 ls [.int (nI (4 * nc + 1)), .ref b, .ref (cA 0)]) (by rw [show (1 : Int32) = nI 1 from rfl, nI_add]) ?_
  refine va_sld hx hb hX hbl hbA hS (hin 1 (by omega)) dL_law_356 ?_
  refine W.eq (g2 := F0 m 357 ls [.int (xs (4 * nc + 1)), .ref (cA 0)]) (by rw [nI_cl (by omega)]) ?_
  refine lv_aload_n hx hb dL_law_357 rfl (lv_at hl 3 rfl) ?_
  obtain ⟨w0, Pp, bb, M', hy, hpm, hCl, hpost⟩ := w_total (D := D) (V := V) (nA := nA) (tA := tA) hst hI (by omega) hT oA g ((xs (4 * nc + 1)))
  have hq := pq_1 (md := mdW k bM M) (du := duW k dA gd) hpm
  refine Cx_goF (wc := w0) (wx := w0) (wr := (mdW k bM M ++ duW k dA gd)) (vx_runSX (As := [.ref (cA 0), .int (xs (4 * nc + 1)), .ref oA]) (rest := []) ⟨hx, hb, hml, hown, htl⟩ (hCl _) (vx_cwSW 3 htl gL_law_L_total rfl rfl rfl (by decide +kernel) ⟨(Nat.le_of_ble_eq_true rfl), (Nat.le_of_ble_eq_true rfl)⟩) ⟨Pl_blind, Pl_at (wc := w0) hK hG hC (P_perm hq hP) (D_perm hq hD) hS hA (List.range w0.length) (rg_hi _ _) (rg_nd _)⟩ rfl rfl hl.1 rfl (Nat.le_of_ble_eq_true rfl) dL_law_358 ⟨hcl, hsl⟩) (P_perm hq hP) (D_perm hq hD) hS hA rfl (fun _ _ _ _ _ h1 => nomatch h1) ?_
  intro ov B w1 H1 locs1 h1 hB hP1 hD1 hS1
  cases h1
  obtain ⟨kc, T', N', V', Q', tl', g', rfl, hmr, hk0, hpm2, hT2, hI2⟩ := hpost ov w1 hB
  obtain ⟨gd', egd⟩ : ∃ y, y = gd := ⟨_, rfl⟩
  rw [← egd] at hP1 hD1
  have hq2 := (pq_1 (md := mdW k bM M) (du := duW k dA gd') hpm2.symm).symm
  have hP : va_P D vwCl (trW k cA nA tA T' ++ stW k nA N' ++ stW k tA V' ++ mdW k bM M ++ ouW k oA g' ++ duW k dA gd' ++ tl') H1 := P_perm hq2 hP1
  have hD : va_D (fun q : Nat => s.heap.size ≤ q) (trW k cA nA tA T' ++ stW k nA N' ++ stW k tA V' ++ mdW k bM M ++ ouW k oA g' ++ duW k dA gd' ++ tl') := D_perm hq2 hD1
  have hS := hS1
  clear hP1 hD1 hS1
  refine W.eq (g2 := F0 m 361 ls [.int kc]) rfl ?_
  refine lv_istore (lv' := [(6, .int kc), (0, .ref b), (1, .ref (cA 0)), (2, .ref (bM 0)), (3, .ref oA), (4, .ref dA), (5, .int (nI (4 * nc)))]) hx hb dL_law_361 hl (by decide) rfl (fun ls hl => ?_)
  refine lv_aload_n hx hb dL_law_363 rfl (lv_at hl 3 rfl) ?_
  refine lv_aload_n hx hb dL_law_364 rfl (lv_at hl 1 rfl) ?_
  refine lv_iload hx hb dL_law_365 (lv_at hl 6 rfl) ?_
  refine lv_iconst (v := 1) hx hb dL_law_367 (by decide) ?_
  refine lv_iadd hx hb dL_law_368 ?_
  refine W.eq (g2 := F0 m 369 ls [.int (nI (4 * nc + 1)), .ref b, .ref (bM 0)]) (by rw [show (1 : Int32) = nI 1 from rfl, nI_add]) ?_
  refine va_sld hx hb hX hbl hbA hS (hin 1 (by omega)) dL_law_369 ?_
  refine W.eq (g2 := F0 m 370 ls [.int (xs (4 * nc + 1)), .ref (bM 0)]) (by rw [nI_cl (by omega)]) ?_
  refine Ck_V (As := [.int (xs (4 * nc + 1))]) (rest := []) (wc := mdW k bM M) (wc' := mdW k bM M') (w0' := trW k cA nA tA T' ++ stW k nA N' ++ stW k tA V' ++ mdW k bM M' ++ ouW k oA g' ++ duW k dA gd' ++ tl') ⟨hx, hb, hml, hown, htl⟩ (c_X2_total l D k bM M ((xs (4 * nc + 1))) bb M' hy) (cwV 1 htl gL_law_X2_total rfl rfl rfl (by decide +kernel) ⟨(Nat.le_of_ble_eq_true rfl), (Nat.le_of_ble_eq_true rfl)⟩) hK hP hD hS hA (q0 := 26) (ci := 2) rfl rfl [26, 27, 28, 29, 30, 31, 32, 33, 34, 35] (hi_L rfl (hi_L rfl (hi_L rfl (hi_R rfl md_hi)))) (by decide) rfl (vs_L rfl (vs_L rfl (vs_L rfl (vs_R rfl md_all)))) rfl hl.1 rfl (Nat.le_of_ble_eq_true rfl) dL_law_370 ⟨hcl, hsl⟩ (fun H locs hP hD hS => ?_)
  refine W.eq (g2 := F0 m 373 ls [.int bb]) rfl ?_
  refine lv_istore (lv' := [(7, .int bb), (6, .int kc), (0, .ref b), (1, .ref (cA 0)), (2, .ref (bM 0)), (3, .ref oA), (4, .ref dA), (5, .int (nI (4 * nc)))]) hx hb dL_law_373 hl (by decide) rfl (fun ls hl => ?_)
  refine lv_aload_n hx hb dL_law_375 rfl (lv_at hl 4 rfl) ?_
  refine Ck_V (As := []) (rest := []) (wc := [mdO bM M']) (wc' := [mdO bM M']) (w0' := trW k cA nA tA T' ++ stW k nA N' ++ stW k tA V' ++ mdW k bM M' ++ ouW k oA g' ++ duW k dA gd' ++ tl') ⟨hx, hb, hml, hown, htl⟩ (c_X2_thrown l D k bM M' (m_ref M') rfl) (cwV 0 htl gL_law_X2_thrown rfl rfl rfl (by decide +kernel) ⟨(Nat.le_of_ble_eq_true rfl), (Nat.le_of_ble_eq_true rfl)⟩) hK hP hD hS hA (q0 := 26) (ci := 2) rfl rfl [26] rfl (by decide) rfl rfl rfl hl.1 rfl (Nat.le_of_ble_eq_true rfl) dL_law_376 ⟨hcl, hsl⟩ (fun H locs hP hD hS => ?_)
  refine W.eq (g2 := F0 m 379 ls [.int (m_ref M')]) rfl ?_
  refine lv_iload hx hb dL_law_379 (lv_at hl 1 rfl) ?_
  refine lv_icmp_eq (tgt := 386) hx hb dL_law_381 (by decide) (fun c1 => ?_) (fun c1 => absurd hmr c1)
  have hend : W p l e room_1 s m #[.ref b] below meth c H locs (cells + 40) (slots + 300) Z (F0 m 403 ls []) := by
    refine lv_goto (tgt := 1867) hx hb dL_law_403 (by decide) ?_
    exact kk T' N' V' Q' tl' M' g' gd' _ _ ls hI2 hT2 hP hD hS (lv_sub hl [2, 3, 4, 5, 6, 7] rfl)
  refine W.widen (k := cells + 40) (n := slots + 300) (Nat.le_refl _) (Nat.le_refl _) ?_
  refine lv_iload hx hb dL_law_386 (lv_at hl 1 rfl) ?_
  refine lv_if_ne (tgt := 403) hx hb dL_law_388 (by decide) (fun c2 => hend) (fun c2 => ?_)
  have hk9 : kc = 0 := c2
  obtain ⟨hG9, hg9⟩ := hk0 hk9
  refine lv_aload_n hx hb dL_law_391 rfl (lv_at hl 5 rfl) ?_
  refine lv_iconst (v := 0) hx hb dL_law_392 (by decide) ?_
  refine va_lald hx hb hK hP 36 4 rfl rfl (inb_vp (by decide)) dL_law_393 ?_
  refine W.eq (g2 := F0 m 394 ls [.long (g' 0)]) rfl ?_
  refine lv_iload hx hb dL_law_394 (lv_at hl 0 rfl) ?_
  refine lv_i2l hx hb dL_law_396 rfl ?_
  refine W.lcmp hx hb dL_law_397 ?_
  have e0 : lg_cmp (g' 0) (bb.toInt64) = 0 := by rw [hg9]; simp [lg_cmp]
  exact lv_if_eq (tgt := 403) hx hb dL_law_398 (by decide) (fun c3 => hend) (fun c3 => absurd e0 c3)
set_option maxRecDepth 100000 in
set_option maxHeartbeats 4000000 in
theorem law_effect (C0 : LC p s m meth c l b L xs D k) (hi : 4 * nc + 4 ≤ L) (hL : L ≤ 2048) (hI : INV nc T N Q M) (hT : PoIs k cA Q tl) (hP : va_P D vwCl (LWl k cA nA tA bM oA dA T N V M g gd tl) H) (hD : va_D (fun q : Nat => s.heap.size ≤ q) (LWl k cA nA tA bM oA dA T N V M g gd tl)) (hS : va_S (fun q : Nat => s.heap.size ≤ q) s.heap H locs) (hl : lv_has ls 10 [(0, .ref b), (1, .ref (cA 0)), (2, .ref (bM 0)), (3, .ref oA), (4, .ref dA), (5, .int (nI (4 * nc)))]) (hcl : cells + 40 ≤ 620558) (hsl : slots + 300 ≤ 7234429) (kk : LK p l e s m below meth c b D k cA nA tA bM oA dA nc cells slots Z) : W p l e room_1 s m #[.ref b] below meth c H locs cells slots Z (F0 m 406 ls []) := by
  obtain ⟨⟨hx, hb, hr, hml, hown, hts, hX, hbl, hlocks, hgv⟩, hst, hK, hG, hC⟩ := id C0
  have hA : ∀ q : Nat, s.heap.size ≤ q → (fun q : Nat => s.heap.size ≤ q) q := fun _ h => h
  have hbA : ¬ (fun q : Nat => s.heap.size ≤ q) b := Nat.not_le.mpr hbl
  have htl : ∀ w ∈ wsL_law, w.before #[Value.ref b] s = true := fun w h => hts w (wsL_law_in w h)
  have hin : ∀ j, j < 4 → vp_in (nI (4 * nc + j)) L := fun j hj q => by
    rcases q with q | q
    · exact nI_pos (lt31 (by omega)) q
    · rw [nI_cl (by omega)] at q; omega
  refine lv_aload_n hx hb dL_law_406 rfl (lv_at hl 1 rfl) ?_
  refine lv_aload_n hx hb dL_law_407 rfl (lv_at hl 0 rfl) ?_
  refine lv_iload hx hb dL_law_408 (lv_at hl 5 rfl) ?_
  refine lv_iconst (v := 1) hx hb dL_law_410 (by decide) ?_
  refine lv_iadd hx hb dL_law_411 ?_
  refine W.eq (g2 := F0 m 412 ls [.int (nI (4 * nc + 1)), .ref b, .ref (cA 0)]) (by rw [show (1 : Int32) = nI 1 from rfl, nI_add]) ?_
  refine va_sld hx hb hX hbl hbA hS (hin 1 (by omega)) dL_law_412 ?_
  refine W.eq (g2 := F0 m 413 ls [.int (xs (4 * nc + 1)), .ref (cA 0)]) (by rw [nI_cl (by omega)]) ?_
  refine lv_aload_n hx hb dL_law_413 rfl (lv_at hl 0 rfl) ?_
  refine lv_iload hx hb dL_law_414 (lv_at hl 5 rfl) ?_
  refine lv_iconst (v := 2) hx hb dL_law_416 (by decide) ?_
  refine lv_iadd hx hb dL_law_417 ?_
  refine W.eq (g2 := F0 m 418 ls [.int (nI (4 * nc + 2)), .ref b, .int (xs (4 * nc + 1)), .ref (cA 0)]) (by rw [show (2 : Int32) = nI 2 from rfl, nI_add]) ?_
  refine va_sld hx hb hX hbl hbA hS (hin 2 (by omega)) dL_law_418 ?_
  refine W.eq (g2 := F0 m 419 ls [.int (xs (4 * nc + 2)), .int (xs (4 * nc + 1)), .ref (cA 0)]) (by rw [nI_cl (by omega)]) ?_
  refine lv_aload_n hx hb dL_law_419 rfl (lv_at hl 3 rfl) ?_
  obtain ⟨w0, Pp, bb, M', hy, hpm, hCl, hpost⟩ := w_effect (D := D) (V := V) (nA := nA) (tA := tA) hst hI (by omega) hT oA g ((xs (4 * nc + 1))) ((xs (4 * nc + 2)))
  have hq := pq_1 (md := mdW k bM M) (du := duW k dA gd) hpm
  refine Cx_goF (wc := w0) (wx := w0) (wr := (mdW k bM M ++ duW k dA gd)) (vx_runSX (As := [.ref (cA 0), .int (xs (4 * nc + 1)), .int (xs (4 * nc + 2)), .ref oA]) (rest := []) ⟨hx, hb, hml, hown, htl⟩ (hCl _) (vx_cwSW 4 htl gL_law_L_effect rfl rfl rfl (by decide +kernel) ⟨(Nat.le_of_ble_eq_true rfl), (Nat.le_of_ble_eq_true rfl)⟩) ⟨Pl_blind, Pl_at (wc := w0) hK hG hC (P_perm hq hP) (D_perm hq hD) hS hA (List.range w0.length) (rg_hi _ _) (rg_nd _)⟩ rfl rfl hl.1 rfl (Nat.le_of_ble_eq_true rfl) dL_law_420 ⟨hcl, hsl⟩) (P_perm hq hP) (D_perm hq hD) hS hA rfl (fun _ _ _ _ _ h1 => nomatch h1) ?_
  intro ov B w1 H1 locs1 h1 hB hP1 hD1 hS1
  cases h1
  obtain ⟨kc, T', N', V', Q', tl', g', rfl, hmr, hk0, hpm2, hT2, hI2⟩ := hpost ov w1 hB
  obtain ⟨gd', egd⟩ : ∃ y, y = gd := ⟨_, rfl⟩
  rw [← egd] at hP1 hD1
  have hq2 := (pq_1 (md := mdW k bM M) (du := duW k dA gd') hpm2.symm).symm
  have hP : va_P D vwCl (trW k cA nA tA T' ++ stW k nA N' ++ stW k tA V' ++ mdW k bM M ++ ouW k oA g' ++ duW k dA gd' ++ tl') H1 := P_perm hq2 hP1
  have hD : va_D (fun q : Nat => s.heap.size ≤ q) (trW k cA nA tA T' ++ stW k nA N' ++ stW k tA V' ++ mdW k bM M ++ ouW k oA g' ++ duW k dA gd' ++ tl') := D_perm hq2 hD1
  have hS := hS1
  clear hP1 hD1 hS1
  refine W.eq (g2 := F0 m 423 ls [.int kc]) rfl ?_
  refine lv_istore (lv' := [(6, .int kc), (0, .ref b), (1, .ref (cA 0)), (2, .ref (bM 0)), (3, .ref oA), (4, .ref dA), (5, .int (nI (4 * nc)))]) hx hb dL_law_423 hl (by decide) rfl (fun ls hl => ?_)
  refine lv_aload_n hx hb dL_law_425 rfl (lv_at hl 3 rfl) ?_
  refine lv_aload_n hx hb dL_law_426 rfl (lv_at hl 1 rfl) ?_
  refine lv_iload hx hb dL_law_427 (lv_at hl 6 rfl) ?_
  refine lv_iconst (v := 1) hx hb dL_law_429 (by decide) ?_
  refine lv_iadd hx hb dL_law_430 ?_
  refine W.eq (g2 := F0 m 431 ls [.int (nI (4 * nc + 1)), .ref b, .ref (bM 0)]) (by rw [show (1 : Int32) = nI 1 from rfl, nI_add]) ?_
  refine va_sld hx hb hX hbl hbA hS (hin 1 (by omega)) dL_law_431 ?_
  refine W.eq (g2 := F0 m 432 ls [.int (xs (4 * nc + 1)), .ref (bM 0)]) (by rw [nI_cl (by omega)]) ?_
  refine lv_aload_n hx hb dL_law_432 rfl (lv_at hl 1 rfl) ?_
  refine lv_iload hx hb dL_law_433 (lv_at hl 6 rfl) ?_
  refine lv_iconst (v := 2) hx hb dL_law_435 (by decide) ?_
  refine lv_iadd hx hb dL_law_436 ?_
  refine W.eq (g2 := F0 m 437 ls [.int (nI (4 * nc + 2)), .ref b, .int (xs (4 * nc + 1)), .ref (bM 0)]) (by rw [show (2 : Int32) = nI 2 from rfl, nI_add]) ?_
  refine va_sld hx hb hX hbl hbA hS (hin 2 (by omega)) dL_law_437 ?_
  refine W.eq (g2 := F0 m 438 ls [.int (xs (4 * nc + 2)), .int (xs (4 * nc + 1)), .ref (bM 0)]) (by rw [nI_cl (by omega)]) ?_
  refine Ck_V (As := [.int (xs (4 * nc + 1)), .int (xs (4 * nc + 2))]) (rest := []) (wc := mdW k bM M) (wc' := mdW k bM M') (w0' := trW k cA nA tA T' ++ stW k nA N' ++ stW k tA V' ++ mdW k bM M' ++ ouW k oA g' ++ duW k dA gd' ++ tl') ⟨hx, hb, hml, hown, htl⟩ (c_X2_effect l D k bM M ((xs (4 * nc + 1))) ((xs (4 * nc + 2))) bb M' hy) (cwV 2 htl gL_law_X2_effect rfl rfl rfl (by decide +kernel) ⟨(Nat.le_of_ble_eq_true rfl), (Nat.le_of_ble_eq_true rfl)⟩) hK hP hD hS hA (q0 := 26) (ci := 2) rfl rfl [26, 27, 28, 29, 30, 31, 32, 33, 34, 35] (hi_L rfl (hi_L rfl (hi_L rfl (hi_R rfl md_hi)))) (by decide) rfl (vs_L rfl (vs_L rfl (vs_L rfl (vs_R rfl md_all)))) rfl hl.1 rfl (Nat.le_of_ble_eq_true rfl) dL_law_438 ⟨hcl, hsl⟩ (fun H locs hP hD hS => ?_)
  refine W.eq (g2 := F0 m 441 ls [.int bb]) rfl ?_
  refine lv_istore (lv' := [(7, .int bb), (6, .int kc), (0, .ref b), (1, .ref (cA 0)), (2, .ref (bM 0)), (3, .ref oA), (4, .ref dA), (5, .int (nI (4 * nc)))]) hx hb dL_law_441 hl (by decide) rfl (fun ls hl => ?_)
  refine lv_aload_n hx hb dL_law_443 rfl (lv_at hl 4 rfl) ?_
  refine Ck_V (As := []) (rest := []) (wc := [mdO bM M']) (wc' := [mdO bM M']) (w0' := trW k cA nA tA T' ++ stW k nA N' ++ stW k tA V' ++ mdW k bM M' ++ ouW k oA g' ++ duW k dA gd' ++ tl') ⟨hx, hb, hml, hown, htl⟩ (c_X2_thrown l D k bM M' (m_ref M') rfl) (cwV 0 htl gL_law_X2_thrown rfl rfl rfl (by decide +kernel) ⟨(Nat.le_of_ble_eq_true rfl), (Nat.le_of_ble_eq_true rfl)⟩) hK hP hD hS hA (q0 := 26) (ci := 2) rfl rfl [26] rfl (by decide) rfl rfl rfl hl.1 rfl (Nat.le_of_ble_eq_true rfl) dL_law_444 ⟨hcl, hsl⟩ (fun H locs hP hD hS => ?_)
  refine W.eq (g2 := F0 m 447 ls [.int (m_ref M')]) rfl ?_
  refine lv_iload hx hb dL_law_447 (lv_at hl 1 rfl) ?_
  refine lv_icmp_eq (tgt := 454) hx hb dL_law_449 (by decide) (fun c1 => ?_) (fun c1 => absurd hmr c1)
  have hend : W p l e room_1 s m #[.ref b] below meth c H locs (cells + 40) (slots + 300) Z (F0 m 471 ls []) := by
    refine lv_goto (tgt := 1867) hx hb dL_law_471 (by decide) ?_
    exact kk T' N' V' Q' tl' M' g' gd' _ _ ls hI2 hT2 hP hD hS (lv_sub hl [2, 3, 4, 5, 6, 7] rfl)
  refine W.widen (k := cells + 40) (n := slots + 300) (Nat.le_refl _) (Nat.le_refl _) ?_
  refine lv_iload hx hb dL_law_454 (lv_at hl 1 rfl) ?_
  refine lv_if_ne (tgt := 471) hx hb dL_law_456 (by decide) (fun c2 => hend) (fun c2 => ?_)
  have hk9 : kc = 0 := c2
  obtain ⟨hG9, hg9⟩ := hk0 hk9
  refine lv_aload_n hx hb dL_law_459 rfl (lv_at hl 5 rfl) ?_
  refine lv_iconst (v := 0) hx hb dL_law_460 (by decide) ?_
  refine va_lald hx hb hK hP 36 4 rfl rfl (inb_vp (by decide)) dL_law_461 ?_
  refine W.eq (g2 := F0 m 462 ls [.long (g' 0)]) rfl ?_
  refine lv_iload hx hb dL_law_462 (lv_at hl 0 rfl) ?_
  refine lv_i2l hx hb dL_law_464 rfl ?_
  refine W.lcmp hx hb dL_law_465 ?_
  have e0 : lg_cmp (g' 0) (bb.toInt64) = 0 := by rw [hg9]; simp [lg_cmp]
  exact lv_if_eq (tgt := 471) hx hb dL_law_466 (by decide) (fun c3 => hend) (fun c3 => absurd e0 c3)
end LAW
