/-! the law's loop -/
theorem and31 (x : Int32) : ∃ j : Nat, j < 32 ∧ x &&& 31 = nI j := by
  have h2 : x.toBitVec.toNat &&& 31 < 32 := Nat.lt_of_le_of_lt Nat.and_le_right (by decide)
  refine ⟨x.toBitVec.toNat &&& 31, h2, ?_⟩
  apply Int32.toBitVec_inj.mp
  apply BitVec.eq_of_toNat_eq
  rw [Int32.toBitVec_and, BitVec.toNat_and]
  show _ = (BitVec.ofNat 32 (x.toBitVec.toNat &&& 31)).toNat
  rw [BitVec.toNat_ofNat, Nat.mod_eq_of_lt (Nat.lt_trans h2 (by decide))]
  rfl
theorem go_on {nc L : Nat} (hL : L ≤ 2048) (hn : 4 * nc ≤ L) (h : ¬ nI L - 4 < nI (4 * nc)) : 4 * nc + 4 ≤ L := by
  rcases Nat.lt_or_ge L 4 with q | q
  · exfalso
    apply h
    rcases (show L = 0 ∨ L = 1 ∨ L = 2 ∨ L = 3 by omega) with r | r | r | r <;> (obtain rfl : nc = 0 := by omega) <;> subst r <;> decide +kernel
  · have e : nI L - 4 = nI (L - 4) := by
      have e1 : nI L = nI (L - 4) + nI 4 := by rw [nI_add]; congr 1; omega
      rw [e1]
      exact Int32.add_sub_cancel _ _
    rw [e, nI_ltF (by omega) (by omega)] at h
    omega

section LAW
set_option maxRecDepth 100000 in
set_option maxHeartbeats 4000000 in
theorem law_loop (hF : NaNok) (hz : okF FP.fconst0) {p : Program} {l : Launch} {e : Env} {s : State} {m : MethodId} {below : List Frame} {meth : Method} {c : Code} {b L : Nat} {xs : Nat → Int32} {D : va_G} {k : Nat → ClassId} {cA nA tA bM : Nat → Nat} {oA dA : Nat} (C0 : LC p s m meth c l b L xs D k) (hL : L ≤ 2048) (Z : State → Prop) (c9 s9 : Nat) (h9 : c9 + 40 * 513 ≤ 620558) (h8 : s9 + 300 * 513 ≤ 7234429)
    (end1 : ∀ (H : Heap) (locs : List Loc) (ls : Array Slot), va_S (fun q : Nat => s.heap.size ≤ q) s.heap H locs → W p l e room_1 s m #[.ref b] below meth c H locs 620558 7234429 Z (F0 m 1874 ls [.int 1])) :
    ∀ (n nc : Nat), L + 5 ≤ 4 * nc + 4 * n → 4 * nc ≤ L → ∀ (T : TrV) (N V : StV) (Q : PoV) (tl : va_W) (M : MdV) (g : Nat → Int64) (gd : Nat → UInt64) (H : Heap) (locs : List Loc) (ls : Array Slot), INV nc T N Q M → PoIs k cA Q tl → va_P D vwCl (LWl k cA nA tA bM oA dA T N V M g gd tl) H → va_D (fun q : Nat => s.heap.size ≤ q) (LWl k cA nA tA bM oA dA T N V M g gd tl) → va_S (fun q : Nat => s.heap.size ≤ q) s.heap H locs → lv_has ls 10 [(0, .ref b), (1, .ref (cA 0)), (2, .ref (bM 0)), (3, .ref oA), (4, .ref dA), (5, .int (nI (4 * nc)))] → W p l e room_1 s m #[.ref b] below meth c H locs (c9 + 40 * nc) (s9 + 300 * nc) Z (F0 m 28 ls []) := by
  obtain ⟨⟨hx, hb, hr, hml, hown, hts, hX, hbl, hlocks, hgv⟩, hst, hK, hG, hC⟩ := id C0
  have hbA : ¬ (fun q : Nat => s.heap.size ≤ q) b := Nat.not_le.mpr hbl
  intro n
  induction n with
  | zero =>
    intro nc h1 h2
    exact absurd h1 (by omega)
  | succ n ih =>
    intro nc h1 h2 T N V Q tl M g gd H locs ls hI hT hP hD hS hl
    refine lv_iload hx hb dL_law_28 (lv_at hl 5 rfl) ?_
    refine lv_aload_n hx hb dL_law_30 rfl (lv_at hl 0 rfl) ?_
    refine va_slen hx hb hX hbl hbA hS dL_law_31 ?_
    refine lv_iconst (v := 4) hx hb dL_law_32 (by decide) ?_
    refine lv_isub hx hb dL_law_33 ?_
    refine lv_icmp_gt (tgt := 1873) hx hb dL_law_34 (by decide) (fun c1 => ?_) (fun c1 => ?_)
    · refine lv_iconst (v := 1) hx hb dL_law_1873 (by decide) ?_
      refine W.widen (k := 620558) (n := 7234429) (by omega) (by omega) ?_
      exact end1 H locs _ hS
    · have hi : 4 * nc + 4 ≤ L := go_on hL h2 c1
      have kk : LK p l e s m below meth c b D k cA nA tA bM oA dA nc (c9 + 40 * nc) (s9 + 300 * nc) Z := by
        intro T N V Q tl M g gd H locs ls hI hT hP hD hS hl
        refine lv_iinc (v := nI (4 * (nc + 1))) (lv' := [(5, .int (nI (4 * (nc + 1)))), (0, .ref b), (1, .ref (cA 0)), (2, .ref (bM 0)), (3, .ref oA), (4, .ref dA)]) hx hb dL_law_1867 hl (k := 5) rfl (by show nI (4 * nc) + nI 4 = nI (4 * nc + 4); exact nI_add _ _) (by decide) rfl (fun ls hl => ?_)
        refine lv_goto (tgt := 28) hx hb dL_law_1870 (by decide) ?_
        refine W.widen (k := c9 + 40 * (nc + 1)) (n := s9 + 300 * (nc + 1)) (by omega) (by omega) ?_
        exact ih (nc + 1) (by omega) (by omega) T N V Q tl M g gd H locs ls hI hT hP hD hS (lv_sub hl [1, 2, 3, 4, 5, 0] rfl)
      have hcl : c9 + 40 * nc + 40 ≤ 620558 := by omega
      have hsl : s9 + 300 * nc + 300 ≤ 7234429 := by omega
      refine lv_aload_n hx hb dL_law_37 rfl (lv_at hl 0 rfl) ?_
      refine lv_iload hx hb dL_law_38 (lv_at hl 5 rfl) ?_
      refine va_sld hx hb hX hbl hbA hS (fun q => by
        rcases q with q | q
        · exact nI_pos (lt31 (by omega)) q
        · rw [nI_cl (by omega)] at q; omega) dL_law_40 ?_
      refine lv_bipush (v := 31) hx hb dL_law_41 (by decide) ?_
      refine lv_iand hx hb dL_law_43 ?_
      generalize xs (nI (4 * nc)).toNatClampNeg = y
      obtain ⟨j, hj, ej⟩ := and31 y
      have hout : 27 ≤ j → W p l e room_1 s m #[.ref b] below meth c H locs (c9 + 40 * nc) (s9 + 300 * nc) Z (F0 m 44 ls [.int (y &&& 31)]) := by
        intro h27
        refine lv_tableOut (tgt := 1867) hx hb dL_law_44 (Or.inr (by rw [ej, nI_toInt (lt31 (by omega))]; omega)) (by decide) ?_
        refine W.widen (k := c9 + 40 * nc + 40) (n := s9 + 300 * nc + 300) (by omega) (by omega) ?_
        exact kk T N V Q tl M g gd H locs ls (hI.up (by omega)) hT hP hD hS hl
      rcases Nat.lt_or_ge j 27 with hj2 | hj2
      · rcases (show j = 0 ∨ j = 1 ∨ j = 2 ∨ j = 3 ∨ j = 4 ∨ j = 5 ∨ j = 6 ∨ j = 7 ∨ j = 8 ∨ j = 9 ∨ j = 10 ∨ j = 11 ∨ j = 12 ∨ j = 13 ∨ j = 14 ∨ j = 15 ∨ j = 16 ∨ j = 17 ∨ j = 18 ∨ j = 19 ∨ j = 20 ∨ j = 21 ∨ j = 22 ∨ j = 23 ∨ j = 24 ∨ j = 25 ∨ j = 26 by omega) with rfl | rfl | rfl | rfl | rfl | rfl | rfl | rfl | rfl | rfl | rfl | rfl | rfl | rfl | rfl | rfl | rfl | rfl | rfl | rfl | rfl | rfl | rfl | rfl | rfl | rfl | rfl
        · refine W.eq (g2 := F0 m 44 ls [.int 0]) (by rw [ej] <;> rfl) ?_
          refine lv_tableIn (tgt := 168) hx hb dL_law_44 (by decide) (by decide) rfl (by decide) ?_
          exact law_append C0 hi hL hI hT hP hD hS hl hcl hsl kk
        · refine W.eq (g2 := F0 m 44 ls [.int 1]) (by rw [ej] <;> rfl) ?_
          refine lv_tableIn (tgt := 224) hx hb dL_law_44 (by decide) (by decide) rfl (by decide) ?_
          exact law_clearText C0 hi hL hI hT hP hD hS hl hcl hsl kk
        · refine W.eq (g2 := F0 m 44 ls [.int 2]) (by rw [ej] <;> rfl) ?_
          refine lv_tableIn (tgt := 237) hx hb dL_law_44 (by decide) (by decide) rfl (by decide) ?_
          exact law_errorPosition C0 hi hL hI hT hP hD hS hl hcl hsl kk
        · refine W.eq (g2 := F0 m 44 ls [.int 3]) (by rw [ej] <;> rfl) ?_
          refine lv_tableIn (tgt := 250) hx hb dL_law_44 (by decide) (by decide) rfl (by decide) ?_
          exact law_load C0 hi hL hI hT hP hD hS hl hcl hsl kk
        · refine W.eq (g2 := F0 m 44 ls [.int 4]) (by rw [ej] <;> rfl) ?_
          refine lv_tableIn (tgt := 294) hx hb dL_law_44 (by decide) (by decide) rfl (by decide) ?_
          exact law_about C0 hi hL hI hT hP hD hS hl hcl hsl kk
        · refine W.eq (g2 := F0 m 44 ls [.int 5]) (by rw [ej] <;> rfl) ?_
          refine lv_tableIn (tgt := 350) hx hb dL_law_44 (by decide) (by decide) rfl (by decide) ?_
          exact law_total C0 hi hL hI hT hP hD hS hl hcl hsl kk
        · refine W.eq (g2 := F0 m 44 ls [.int 6]) (by rw [ej] <;> rfl) ?_
          refine lv_tableIn (tgt := 406) hx hb dL_law_44 (by decide) (by decide) rfl (by decide) ?_
          exact law_effect C0 hi hL hI hT hP hD hS hl hcl hsl kk
        · refine W.eq (g2 := F0 m 44 ls [.int 7]) (by rw [ej] <;> rfl) ?_
          refine lv_tableIn (tgt := 474) hx hb dL_law_44 (by decide) (by decide) rfl (by decide) ?_
          by_cases hz9 : xs (4 * nc + 2) = 0
          · exact law_neighbor_0 C0 hi hL hI hT hP hD hS hl hcl hsl kk hz9
          · exact law_neighbor_1 C0 hi hL hI hT hP hD hS hl hcl hsl kk hz9
        · refine W.eq (g2 := F0 m 44 ls [.int 8]) (by rw [ej] <;> rfl) ?_
          refine lv_tableIn (tgt := 558) hx hb dL_law_44 (by decide) (by decide) rfl (by decide) ?_
          exact law_economy C0 hF hz hi hL hI hT hP hD hS hl hcl hsl kk
        · refine W.eq (g2 := F0 m 44 ls [.int 9]) (by rw [ej] <;> rfl) ?_
          refine lv_tableIn (tgt := 601) hx hb dL_law_44 (by decide) (by decide) rfl (by decide) ?_
          exact law_share C0 hF hz hi hL hI hT hP hD hS hl hcl hsl kk
        · refine W.eq (g2 := F0 m 44 ls [.int 10]) (by rw [ej] <;> rfl) ?_
          refine lv_tableIn (tgt := 679) hx hb dL_law_44 (by decide) (by decide) rfl (by decide) ?_
          exact law_tick C0 hi hL hI hT hP hD hS hl hcl hsl kk
        · refine W.eq (g2 := F0 m 44 ls [.int 11]) (by rw [ej] <;> rfl) ?_
          refine lv_tableIn (tgt := 735) hx hb dL_law_44 (by decide) (by decide) rfl (by decide) ?_
          exact law_set C0 hi hL hI hT hP hD hS hl hcl hsl kk
        · refine W.eq (g2 := F0 m 44 ls [.int 12]) (by rw [ej] <;> rfl) ?_
          refine lv_tableIn (tgt := 803) hx hb dL_law_44 (by decide) (by decide) rfl (by decide) ?_
          exact law_setValve C0 hi hL hI hT hP hD hS hl hcl hsl kk
        · refine W.eq (g2 := F0 m 44 ls [.int 13]) (by rw [ej] <;> rfl) ?_
          refine lv_tableIn (tgt := 871) hx hb dL_law_44 (by decide) (by decide) rfl (by decide) ?_
          exact law_setBleed C0 hi hL hI hT hP hD hS hl hcl hsl kk
        · refine W.eq (g2 := F0 m 44 ls [.int 14]) (by rw [ej] <;> rfl) ?_
          refine lv_tableIn (tgt := 939) hx hb dL_law_44 (by decide) (by decide) rfl (by decide) ?_
          exact law_wash C0 hi hL hI hT hP hD hS hl hcl hsl kk
        · refine W.eq (g2 := F0 m 44 ls [.int 15]) (by rw [ej] <;> rfl) ?_
          refine lv_tableIn (tgt := 1007) hx hb dL_law_44 (by decide) (by decide) rfl (by decide) ?_
          exact law_endWash C0 hi hL hI hT hP hD hS hl hcl hsl kk
        · refine W.eq (g2 := F0 m 44 ls [.int 16]) (by rw [ej] <;> rfl) ?_
          refine lv_tableIn (tgt := 1063) hx hb dL_law_44 (by decide) (by decide) rfl (by decide) ?_
          exact law_undo C0 hi hL hI hT hP hD hS hl hcl hsl kk
        · refine W.eq (g2 := F0 m 44 ls [.int 17]) (by rw [ej] <;> rfl) ?_
          refine lv_tableIn (tgt := 1107) hx hb dL_law_44 (by decide) (by decide) rfl (by decide) ?_
          exact law_ahead C0 hi hL hI hT hP hD hS hl hcl hsl kk
        · refine W.eq (g2 := F0 m 44 ls [.int 18]) (by rw [ej] <;> rfl) ?_
          refine lv_tableIn (tgt := 1187) hx hb dL_law_44 (by decide) (by decide) rfl (by decide) ?_
          exact law_growth C0 hi hL hI hT hP hD hS hl hcl hsl kk
        · refine W.eq (g2 := F0 m 44 ls [.int 19]) (by rw [ej] <;> rfl) ?_
          refine lv_tableIn (tgt := 1255) hx hb dL_law_44 (by decide) (by decide) rfl (by decide) ?_
          exact law_washGain C0 hi hL hI hT hP hD hS hl hcl hsl kk
        · refine W.eq (g2 := F0 m 44 ls [.int 20]) (by rw [ej] <;> rfl) ?_
          refine lv_tableIn (tgt := 1335) hx hb dL_law_44 (by decide) (by decide) rfl (by decide) ?_
          by_cases hz9 : xs (4 * nc + 2) = 0
          · exact law_bestTurns_0 C0 hi hL hI hT hP hD hS hl hcl hsl kk hz9
          · exact law_bestTurns_1 C0 hi hL hI hT hP hD hS hl hcl hsl kk hz9
        · refine W.eq (g2 := F0 m 44 ls [.int 21]) (by rw [ej] <;> rfl) ?_
          refine lv_tableIn (tgt := 1419) hx hb dL_law_44 (by decide) (by decide) rfl (by decide) ?_
          exact law_scaledAfter C0 hi hL hI hT hP hD hS hl hcl hsl kk
        · refine W.eq (g2 := F0 m 44 ls [.int 22]) (by rw [ej] <;> rfl) ?_
          refine lv_tableIn (tgt := 1487) hx hb dL_law_44 (by decide) (by decide) rfl (by decide) ?_
          exact law_steamFor C0 hi hL hI hT hP hD hS hl hcl hsl kk
        · refine W.eq (g2 := F0 m 44 ls [.int 23]) (by rw [ej] <;> rfl) ?_
          refine lv_tableIn (tgt := 1555) hx hb dL_law_44 (by decide) (by decide) rfl (by decide) ?_
          exact law_runScript C0 hi hL hI hT hP hD hS hl hcl hsl kk
        · refine W.eq (g2 := F0 m 44 ls [.int 24]) (by rw [ej] <;> rfl) ?_
          refine lv_tableIn (tgt := 1655) hx hb dL_law_44 (by decide) (by decide) rfl (by decide) ?_
          exact law_simulate C0 hi hL hI hT hP hD hS hl hcl hsl kk
        · refine W.eq (g2 := F0 m 44 ls [.int 25]) (by rw [ej] <;> rfl) ?_
          refine lv_tableIn (tgt := 1755) hx hb dL_law_44 (by decide) (by decide) rfl (by decide) ?_
          exact law_save C0 hi hL hI hT hP hD hS hl hcl hsl kk
        · refine W.eq (g2 := F0 m 44 ls [.int 26]) (by rw [ej] <;> rfl) ?_
          refine lv_tableIn (tgt := 1811) hx hb dL_law_44 (by decide) (by decide) rfl (by decide) ?_
          exact law_restore C0 hi hL hI hT hP hD hS hl hcl hsl kk
      · exact hout hj2
end LAW
