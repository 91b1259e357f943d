def f_X1_remember (T : TrV) (N : StV) (V : PoV) : Option (String ⊕ (TrV × PoV)) := if 14 ≤ ((tr_nws T) + 1) then (nm (tu_nws T 0) fun q_2 => gb (inb (tr_nws q_2) 14) <| bd (f_X0_copyFrom (sq V (3 + (tr_nws q_2).toNatClampNeg)) N) fun q_6 => if 14 ≤ (tr_rcn q_2) then (some (.inr (q_2, uq V (3 + (tr_nws q_2).toNatClampNeg) q_6))) else (nm ((tr_rcn q_2) + 1) fun v_9 => nm (tu_rcn q_2 v_9) fun q_10 => some (.inr (q_10, uq V (3 + (tr_nws q_2).toNatClampNeg) q_6)))) else (nm ((tr_nws T) + 1) fun v_11 => nm (tu_nws T v_11) fun q_12 => gb (inb (tr_nws q_12) 14) <| bd (f_X0_copyFrom (sq V (3 + (tr_nws q_12).toNatClampNeg)) N) fun q_16 => if 14 ≤ (tr_rcn q_12) then (some (.inr (q_12, uq V (3 + (tr_nws q_12).toNatClampNeg) q_16))) else (nm ((tr_rcn q_12) + 1) fun v_19 => nm (tu_rcn q_12 v_19) fun q_20 => some (.inr (q_20, uq V (3 + (tr_nws q_12).toNatClampNeg) q_16))))
set_option maxRecDepth 100000 in
set_option maxHeartbeats 4000000 in
theorem c_X1_remember (l : Launch) (hst : l.stackTraces = false) (D : va_G) (k : Nat → ClassId) (cA : Nat → Nat) (nA : Nat → Nat) (tA : Nat → Nat) (T : TrV) (N : StV) (V : PoV) (tl : va_W) (hT : PoIs k cA V tl) (o : String ⊕ (TrV × PoV)) (h : f_X1_remember T N V = some o) : Cx l D (tyK k) yX1_remember wsX1_remember ({ frames := 3, cells := 11, slots := 75, locals := 81 } : Room) [.ref (cA 0)] (trW k cA nA tA T ++ stW k nA N ++ tl) (trW k cA nA tA T ++ stW k nA N ++ tl) (Sum.map id (fun r : TrV × PoV => fun (ov : Option Value) (w : va_W) => ov = (none : Option Value) ∧ ∃ tl9 : va_W, PoIs k cA r.2 tl9 ∧ w = trW k cA nA tA r.1 ++ stW k nA N ++ tl9) o) := by
  obtain ⟨O, hO⟩ : ∃ O : Oc, O = Sum.map id (fun r : TrV × PoV => fun (ov : Option Value) (w : va_W) => ov = (none : Option Value) ∧ ∃ tl9 : va_W, PoIs k cA r.2 tl9 ∧ w = trW k cA nA tA r.1 ++ stW k nA N ++ tl9) o := ⟨_, rfl⟩
  rw [← hO]
  refine Cx_of (cc := cX1_remember) (maxL := 1) (ret := none) (by decide) rfl (Nat.le_of_ble_eq_true rfl) ?_
  intro p e s m args below meth c A ls hx hb hr hml hts hown hlocks hnm htab hK hG hA hP hD hS hl
  have hl : lv_has ls 1 [(0, .ref (cA 0))] := hl
  have hP : va_P D vwCl (trW k cA nA tA T ++ stW k nA N ++ tl) s.heap := hP
  have w_0 := hts (.fieldLink RX1 38 "EffectTrain" "newest" "I") (by decide +kernel)
  have w_1 : ∀ w ∈ wsX10, w ∈ wsX1_remember := by decide +kernel
  have w_2 := hts (.fieldLink RX1 35 "EffectTrain" "remembered" "[LEffectTrain$State;") (by decide +kernel)
  have w_3 := hts (.fieldLink RX1 24 "EffectTrain" "now" "LEffectTrain$State;") (by decide +kernel)
  have w_4 : va_Nw (.methodLinkNest RX1 155 yX0_copyFrom "EffectTrain") s := hG.2.2.2.2.2 (155, yX0_copyFrom, "EffectTrain") (by decide +kernel)
  have w_5 := hts (.initialized RX0) (by decide +kernel)
  have w_6 := hts (.instanceMethod yX0_copyFrom) (by decide +kernel)
  have w_7 := hts (.selects RX0 yX0_copyFrom yX0_copyFrom) (by decide +kernel)
  have w_8 := hts (.fieldLink RX1 41 "EffectTrain" "rememberedCount" "I") (by decide +kernel)
  unfold f_X1_remember at h
  refine lv_aload_n hx hb dX1_remember_0 rfl (lv_at hl 0 rfl) ?_
  refine lv_aload_n hx hb dX1_remember_1 rfl (lv_at hl 0 rfl) ?_
  refine va_get (D := D) (ci := 1) (v := .int (tr_nws T)) (C := RX1) (T := TX1) (N := 11) hx hb hts w_1 hown hK hP 0 rfl rfl 7 (by decide) w_0 (fun _ h9 => h9) rfl dX1_remember_2 ?_
  refine lv_iconst (v := 1) hx hb dX1_remember_5 (by decide) ?_
  refine lv_iadd hx hb dX1_remember_6 ?_
  refine lv_bipush (v := 14) hx hb dX1_remember_7 (by decide) ?_
  refine lv_icmp_ge (tgt := 21) hx hb dX1_remember_9 (by decide) (fun c_1 => ?_) (fun c_1 => ?_)
  · have h := it_l c_1 h
    refine lv_iconst (v := 0) hx hb dX1_remember_21 (by decide) ?_
    refine va_put (D := D) (ci := 1) (v := .int 0) (ty := .int) (C := RX1) (T := TX1) (N := 11) hx hb hts w_1 tyX1 tyX1_ok nmX1 hown hK hP hD hS 0 rfl rfl 7 (by decide) w_0 (fun _ h9 => h9) rfl (by decide +kernel) rfl rfl (Nat.le_of_ble_eq_true rfl) dX1_remember_22 (fun H locs hP hD hS => ?_)
    obtain ⟨q_2, eq_2⟩ : ∃ y : TrV, y = tu_nws T 0 := ⟨_, rfl⟩
    have hP : va_P D vwCl (trW k cA nA tA q_2 ++ stW k nA N ++ tl) H := by rw [eq_2, ← tr_set_nws k cA nA tA T _, ← set_appL1 (Nat.le_of_ble_eq_true rfl), ← set_appL1 (Nat.le_of_ble_eq_true rfl)]; exact hP
    have hD : va_D A (trW k cA nA tA q_2 ++ stW k nA N ++ tl) := by rw [eq_2, ← tr_set_nws k cA nA tA T _, ← set_appL1 (Nat.le_of_ble_eq_true rfl), ← set_appL1 (Nat.le_of_ble_eq_true rfl)]; exact hD
    have h := nm_l h eq_2
    refine lv_aload_n hx hb dX1_remember_25 rfl (lv_at hl 0 rfl) ?_
    refine va_get (D := D) (ci := 1) (v := .ref (cA 4)) (C := RX1) (T := TX1) (N := 11) hx hb hts w_1 hown hK hP 0 rfl rfl 6 (by decide) w_2 (fun _ h9 => h9) rfl dX1_remember_26 ?_
    refine lv_aload_n hx hb dX1_remember_29 rfl (lv_at hl 0 rfl) ?_
    refine va_get (D := D) (ci := 1) (v := .int (tr_nws q_2)) (C := RX1) (T := TX1) (N := 11) hx hb hts w_1 hown hK hP 0 rfl rfl 7 (by decide) w_0 (fun _ h9 => h9) rfl dX1_remember_30 ?_
    have g_3 := inb_vp (gb_l h)
    have h := gb_r h
    refine st_callI 4 3 14 hst ⟨hx, hb, hml, hown, hts⟩ (va_cwS 2 hts gX1_remember_X1_stateAt rfl rfl rfl (by decide +kernel) ⟨Nat.le_of_ble_eq_true rfl, Nat.le_of_ble_eq_true rfl⟩) hK hG hP hD hS hA hT (by decide) g_3 hl.1 (Nat.le_of_ble_eq_true rfl) dX1_remember_33 ⟨Nat.le_of_ble_eq_true rfl, Nat.le_of_ble_eq_true rfl⟩ (fun b_4 tl_5 H locs hT hP hD hS => ?_)
    refine W.eq (g2 := F0 m 36 ls [.ref (b_4 0)]) rfl ?_
    refine lv_aload_n hx hb dX1_remember_36 rfl (lv_at hl 0 rfl) ?_
    refine va_get (D := D) (ci := 1) (v := .ref (nA 0)) (C := RX1) (T := TX1) (N := 11) hx hb hts w_1 hown hK hP 0 rfl rfl 3 (by decide) w_3 (fun _ h9 => h9) rfl dX1_remember_37 ?_
    obtain ⟨q_6, hv_7, h⟩ := bd_l h
    refine Ck_VN (As := [.ref (nA 0)]) (rest := []) (wc := stW k b_4 (sq V (3 + (tr_nws q_2).toNatClampNeg)) ++ stW k nA N) (wc' := stW k b_4 q_6 ++ stW k nA N) (w0' := trW k cA nA tA q_2 ++ stW k nA N ++ stW k b_4 q_6 ++ tl_5) ⟨hx, hb, hml, hown, hts⟩ (c_X0_copyFrom l D k b_4 nA (sq V (3 + (tr_nws q_2).toNatClampNeg)) N q_6 hv_7) ⟨va_cnB 1 hts gX1_remember_X0_copyFrom_n155 rfl rfl rfl w_4 w_5 (by decide +kernel) ⟨Nat.le_of_ble_eq_true rfl, Nat.le_of_ble_eq_true rfl⟩, w_6, w_7⟩ hK hP hD hS hA (q0 := 15) (ci := 0) rfl rfl ([15, 16, 17, 18, 19, 20, 21, 22, 23, 24, 25] ++ [4, 5, 6, 7, 8, 9, 10, 11, 12, 13, 14]) (hi_2 (hi_L rfl (hi_R rfl st_hi)) (hi_L rfl (hi_L rfl (hi_R rfl st_hi)))) (by decide) rfl (vs_2 rfl (vs_L rfl (vs_R rfl st_all)) (vs_L rfl (vs_L rfl (vs_R rfl st_all)))) rfl hl.1 rfl (Nat.le_of_ble_eq_true rfl) dX1_remember_40 ⟨Nat.le_of_ble_eq_true rfl, Nat.le_of_ble_eq_true rfl⟩ (fun H locs hP hD hS => ?_)
    refine W.eq (g2 := F0 m 43 ls []) rfl ?_
    refine lv_aload_n hx hb dX1_remember_43 rfl (lv_at hl 0 rfl) ?_
    refine va_get (D := D) (ci := 1) (v := .int (tr_rcn q_2)) (C := RX1) (T := TX1) (N := 11) hx hb hts w_1 hown hK hP 0 rfl rfl 8 (by decide) w_8 (fun _ h9 => h9) rfl dX1_remember_44 ?_
    refine lv_bipush (v := 14) hx hb dX1_remember_47 (by decide) ?_
    refine lv_icmp_ge (tgt := 62) hx hb dX1_remember_49 (by decide) (fun c_8 => ?_) (fun c_8 => ?_)
    · have h := it_l c_8 h
      cases h
      exact Cx_vret hO ⟨rfl, _, hT _, List.append_assoc _ _ _⟩ (Nat.le_of_ble_eq_true rfl) (Nat.le_of_ble_eq_true rfl) hx hb hr hP hD hS dX1_remember_62 hlocks
    · have h := it_r c_8 h
      refine lv_aload_n hx hb dX1_remember_52 rfl (lv_at hl 0 rfl) ?_
      refine lv_dup hx hb dX1_remember_53 rfl ?_
      refine va_get (D := D) (ci := 1) (v := .int (tr_rcn q_2)) (C := RX1) (T := TX1) (N := 11) hx hb hts w_1 hown hK hP 0 rfl rfl 8 (by decide) w_8 (fun _ h9 => h9) rfl dX1_remember_54 ?_
      refine lv_iconst (v := 1) hx hb dX1_remember_57 (by decide) ?_
      refine lv_iadd hx hb dX1_remember_58 ?_
      refine lv_topi (fun v_9 ev_9 => ?_)
      have h := nm_l h ev_9
      refine va_put (D := D) (ci := 1) (v := .int v_9) (ty := .int) (C := RX1) (T := TX1) (N := 11) hx hb hts w_1 tyX1 tyX1_ok nmX1 hown hK hP hD hS 0 rfl rfl 8 (by decide) w_8 (fun _ h9 => h9) rfl (by decide +kernel) rfl rfl (Nat.le_of_ble_eq_true rfl) dX1_remember_59 (fun H locs hP hD hS => ?_)
      obtain ⟨q_10, eq_10⟩ : ∃ y : TrV, y = tu_rcn q_2 v_9 := ⟨_, rfl⟩
      have hP : va_P D vwCl (trW k cA nA tA q_10 ++ stW k nA N ++ stW k b_4 q_6 ++ tl_5) H := by rw [eq_10, ← tr_set_rcn k cA nA tA q_2 _, ← set_appL1 (Nat.le_of_ble_eq_true rfl), ← set_appL1 (Nat.le_of_ble_eq_true rfl), ← set_appL1 (Nat.le_of_ble_eq_true rfl)]; exact hP
      have hD : va_D A (trW k cA nA tA q_10 ++ stW k nA N ++ stW k b_4 q_6 ++ tl_5) := by rw [eq_10, ← tr_set_rcn k cA nA tA q_2 _, ← set_appL1 (Nat.le_of_ble_eq_true rfl), ← set_appL1 (Nat.le_of_ble_eq_true rfl), ← set_appL1 (Nat.le_of_ble_eq_true rfl)]; exact hD
      have h := nm_l h eq_10
      cases h
      exact Cx_vret hO ⟨rfl, _, hT _, List.append_assoc _ _ _⟩ (Nat.le_of_ble_eq_true rfl) (Nat.le_of_ble_eq_true rfl) hx hb hr hP hD hS dX1_remember_62 hlocks
  · have h := it_r c_1 h
    refine lv_aload_n hx hb dX1_remember_12 rfl (lv_at hl 0 rfl) ?_
    refine va_get (D := D) (ci := 1) (v := .int (tr_nws T)) (C := RX1) (T := TX1) (N := 11) hx hb hts w_1 hown hK hP 0 rfl rfl 7 (by decide) w_0 (fun _ h9 => h9) rfl dX1_remember_13 ?_
    refine lv_iconst (v := 1) hx hb dX1_remember_16 (by decide) ?_
    refine lv_iadd hx hb dX1_remember_17 ?_
    refine lv_goto (tgt := 22) hx hb dX1_remember_18 (by decide) ?_
    refine lv_topi (fun v_11 ev_11 => ?_)
    have h := nm_l h ev_11
    refine va_put (D := D) (ci := 1) (v := .int v_11) (ty := .int) (C := RX1) (T := TX1) (N := 11) hx hb hts w_1 tyX1 tyX1_ok nmX1 hown hK hP hD hS 0 rfl rfl 7 (by decide) w_0 (fun _ h9 => h9) rfl (by decide +kernel) rfl rfl (Nat.le_of_ble_eq_true rfl) dX1_remember_22 (fun H locs hP hD hS => ?_)
    obtain ⟨q_12, eq_12⟩ : ∃ y : TrV, y = tu_nws T v_11 := ⟨_, rfl⟩
    have hP : va_P D vwCl (trW k cA nA tA q_12 ++ stW k nA N ++ tl) H := by rw [eq_12, ← tr_set_nws k cA nA tA T _, ← set_appL1 (Nat.le_of_ble_eq_true rfl), ← set_appL1 (Nat.le_of_ble_eq_true rfl)]; exact hP
    have hD : va_D A (trW k cA nA tA q_12 ++ stW k nA N ++ tl) := by rw [eq_12, ← tr_set_nws k cA nA tA T _, ← set_appL1 (Nat.le_of_ble_eq_true rfl), ← set_appL1 (Nat.le_of_ble_eq_true rfl)]; exact hD
    have h := nm_l h eq_12
    refine lv_aload_n hx hb dX1_remember_25 rfl (lv_at hl 0 rfl) ?_
    refine va_get (D := D) (ci := 1) (v := .ref (cA 4)) (C := RX1) (T := TX1) (N := 11) hx hb hts w_1 hown hK hP 0 rfl rfl 6 (by decide) w_2 (fun _ h9 => h9) rfl dX1_remember_26 ?_
    refine lv_aload_n hx hb dX1_remember_29 rfl (lv_at hl 0 rfl) ?_
    refine va_get (D := D) (ci := 1) (v := .int (tr_nws q_12)) (C := RX1) (T := TX1) (N := 11) hx hb hts w_1 hown hK hP 0 rfl rfl 7 (by decide) w_0 (fun _ h9 => h9) rfl dX1_remember_30 ?_
    have g_13 := inb_vp (gb_l h)
    have h := gb_r h
    refine st_callI 4 3 14 hst ⟨hx, hb, hml, hown, hts⟩ (va_cwS 2 hts gX1_remember_X1_stateAt rfl rfl rfl (by decide +kernel) ⟨Nat.le_of_ble_eq_true rfl, Nat.le_of_ble_eq_true rfl⟩) hK hG hP hD hS hA hT (by decide) g_13 hl.1 (Nat.le_of_ble_eq_true rfl) dX1_remember_33 ⟨Nat.le_of_ble_eq_true rfl, Nat.le_of_ble_eq_true rfl⟩ (fun b_14 tl_15 H locs hT hP hD hS => ?_)
    refine W.eq (g2 := F0 m 36 ls [.ref (b_14 0)]) rfl ?_
    refine lv_aload_n hx hb dX1_remember_36 rfl (lv_at hl 0 rfl) ?_
    refine va_get (D := D) (ci := 1) (v := .ref (nA 0)) (C := RX1) (T := TX1) (N := 11) hx hb hts w_1 hown hK hP 0 rfl rfl 3 (by decide) w_3 (fun _ h9 => h9) rfl dX1_remember_37 ?_
    obtain ⟨q_16, hv_17, h⟩ := bd_l h
    refine Ck_VN (As := [.ref (nA 0)]) (rest := []) (wc := stW k b_14 (sq V (3 + (tr_nws q_12).toNatClampNeg)) ++ stW k nA N) (wc' := stW k b_14 q_16 ++ stW k nA N) (w0' := trW k cA nA tA q_12 ++ stW k nA N ++ stW k b_14 q_16 ++ tl_15) ⟨hx, hb, hml, hown, hts⟩ (c_X0_copyFrom l D k b_14 nA (sq V (3 + (tr_nws q_12).toNatClampNeg)) N q_16 hv_17) ⟨va_cnB 1 hts gX1_remember_X0_copyFrom_n155 rfl rfl rfl w_4 w_5 (by decide +kernel) ⟨Nat.le_of_ble_eq_true rfl, Nat.le_of_ble_eq_true rfl⟩, w_6, w_7⟩ hK hP hD hS hA (q0 := 15) (ci := 0) rfl rfl ([15, 16, 17, 18, 19, 20, 21, 22, 23, 24, 25] ++ [4, 5, 6, 7, 8, 9, 10, 11, 12, 13, 14]) (hi_2 (hi_L rfl (hi_R rfl st_hi)) (hi_L rfl (hi_L rfl (hi_R rfl st_hi)))) (by decide) rfl (vs_2 rfl (vs_L rfl (vs_R rfl st_all)) (vs_L rfl (vs_L rfl (vs_R rfl st_all)))) rfl hl.1 rfl (Nat.le_of_ble_eq_true rfl) dX1_remember_40 ⟨Nat.le_of_ble_eq_true rfl, Nat.le_of_ble_eq_true rfl⟩ (fun H locs hP hD hS => ?_)
    refine W.eq (g2 := F0 m 43 ls []) rfl ?_
    refine lv_aload_n hx hb dX1_remember_43 rfl (lv_at hl 0 rfl) ?_
    refine va_get (D := D) (ci := 1) (v := .int (tr_rcn q_12)) (C := RX1) (T := TX1) (N := 11) hx hb hts w_1 hown hK hP 0 rfl rfl 8 (by decide) w_8 (fun _ h9 => h9) rfl dX1_remember_44 ?_
    refine lv_bipush (v := 14) hx hb dX1_remember_47 (by decide) ?_
    refine lv_icmp_ge (tgt := 62) hx hb dX1_remember_49 (by decide) (fun c_18 => ?_) (fun c_18 => ?_)
    · have h := it_l c_18 h
      cases h
      exact Cx_vret hO ⟨rfl, _, hT _, List.append_assoc _ _ _⟩ (Nat.le_of_ble_eq_true rfl) (Nat.le_of_ble_eq_true rfl) hx hb hr hP hD hS dX1_remember_62 hlocks
    · have h := it_r c_18 h
      refine lv_aload_n hx hb dX1_remember_52 rfl (lv_at hl 0 rfl) ?_
      refine lv_dup hx hb dX1_remember_53 rfl ?_
      refine va_get (D := D) (ci := 1) (v := .int (tr_rcn q_12)) (C := RX1) (T := TX1) (N := 11) hx hb hts w_1 hown hK hP 0 rfl rfl 8 (by decide) w_8 (fun _ h9 => h9) rfl dX1_remember_54 ?_
      refine lv_iconst (v := 1) hx hb dX1_remember_57 (by decide) ?_
      refine lv_iadd hx hb dX1_remember_58 ?_
      refine lv_topi (fun v_19 ev_19 => ?_)
      have h := nm_l h ev_19
      refine va_put (D := D) (ci := 1) (v := .int v_19) (ty := .int) (C := RX1) (T := TX1) (N := 11) hx hb hts w_1 tyX1 tyX1_ok nmX1 hown hK hP hD hS 0 rfl rfl 8 (by decide) w_8 (fun _ h9 => h9) rfl (by decide +kernel) rfl rfl (Nat.le_of_ble_eq_true rfl) dX1_remember_59 (fun H locs hP hD hS => ?_)
      obtain ⟨q_20, eq_20⟩ : ∃ y : TrV, y = tu_rcn q_12 v_19 := ⟨_, rfl⟩
      have hP : va_P D vwCl (trW k cA nA tA q_20 ++ stW k nA N ++ stW k b_14 q_16 ++ tl_15) H := by rw [eq_20, ← tr_set_rcn k cA nA tA q_12 _, ← set_appL1 (Nat.le_of_ble_eq_true rfl), ← set_appL1 (Nat.le_of_ble_eq_true rfl), ← set_appL1 (Nat.le_of_ble_eq_true rfl)]; exact hP
      have hD : va_D A (trW k cA nA tA q_20 ++ stW k nA N ++ stW k b_14 q_16 ++ tl_15) := by rw [eq_20, ← tr_set_rcn k cA nA tA q_12 _, ← set_appL1 (Nat.le_of_ble_eq_true rfl), ← set_appL1 (Nat.le_of_ble_eq_true rfl), ← set_appL1 (Nat.le_of_ble_eq_true rfl)]; exact hD
      have h := nm_l h eq_20
      cases h
      exact Cx_vret hO ⟨rfl, _, hT _, List.append_assoc _ _ _⟩ (Nat.le_of_ble_eq_true rfl) (Nat.le_of_ble_eq_true rfl) hx hb hr hP hD hS dX1_remember_62 hlocks
def f_X1_tick (T : TrV) (N : StV) (V : PoV) (p1 : Int32) : Option (String ⊕ (Int32 × TrV × StV × PoV)) := bx (f_X1_checkRange p1 1 99) fun ⟨⟩ => bn (f_X1_remember T N V) fun ⟨q_4, q_5⟩ => bd (f_X0_pass N p1) fun ⟨v_8, q_9⟩ => some (.inr (v_8, q_4, q_9, q_5))
set_option maxRecDepth 100000 in
set_option maxHeartbeats 4000000 in
theorem c_X1_tick (l : Launch) (hst : l.stackTraces = false) (D : va_G) (k : Nat → ClassId) (cA : Nat → Nat) (nA : Nat → Nat) (tA : Nat → Nat) (T : TrV) (N : StV) (V : PoV) (p1 : Int32) (tl : va_W) (hT : PoIs k cA V tl) (o : String ⊕ (Int32 × TrV × StV × PoV)) (h : f_X1_tick T N V p1 = some o) : Cx l D (tyK k) yX1_tick wsX1_tick ({ frames := 7, cells := 12, slots := 81, locals := 104 } : Room) [.ref (cA 0), .int p1] (trW k cA nA tA T ++ stW k nA N ++ tl) (trW k cA nA tA T ++ stW k nA N ++ tl) (Sum.map id (fun r : Int32 × TrV × StV × PoV => fun (ov : Option Value) (w : va_W) => ov = (some (.int r.1) : Option Value) ∧ ∃ tl9 : va_W, PoIs k cA r.2.2.2 tl9 ∧ w = trW k cA nA tA r.2.1 ++ stW k nA r.2.2.1 ++ tl9) o) := by
  obtain ⟨O, hO⟩ : ∃ O : Oc, O = Sum.map id (fun r : Int32 × TrV × StV × PoV => fun (ov : Option Value) (w : va_W) => ov = (some (.int r.1) : Option Value) ∧ ∃ tl9 : va_W, PoIs k cA r.2.2.2 tl9 ∧ w = trW k cA nA tA r.2.1 ++ stW k nA r.2.2.1 ++ tl9) o := ⟨_, rfl⟩
  rw [← hO]
  refine Cx_of (cc := cX1_tick) (maxL := 2) (ret := (some .int)) (by decide) rfl (Nat.le_of_ble_eq_true rfl) ?_
  intro p e s m args below meth c A ls hx hb hr hml hts hown hlocks hnm htab hK hG hA hP hD hS hl
  have hl : lv_has ls 2 [(0, .ref (cA 0)), (1, .int p1)] := hl
  have hP : va_P D vwCl (trW k cA nA tA T ++ stW k nA N ++ tl) s.heap := hP
  have w_0 := hts (.fieldLink RX1 24 "EffectTrain" "now" "LEffectTrain$State;") (by decide +kernel)
  have w_1 : ∀ w ∈ wsX10, w ∈ wsX1_tick := by decide +kernel
  have w_2 : va_Nw (.methodLinkNest RX1 132 yX0_pass "EffectTrain") s := hG.2.2.2.2.2 (132, yX0_pass, "EffectTrain") (by decide +kernel)
  have w_3 := hts (.initialized RX0) (by decide +kernel)
  have w_4 := hts (.instanceMethod yX0_pass) (by decide +kernel)
  have w_5 := hts (.selects RX0 yX0_pass yX0_pass) (by decide +kernel)
  unfold f_X1_tick at h
  refine lv_iload_n hx hb dX1_tick_0 rfl (lv_at hl 1 rfl) ?_
  refine lv_iconst (v := 1) hx hb dX1_tick_1 (by decide) ?_
  refine lv_bipush (v := 99) hx hb dX1_tick_2 (by decide) ?_
  rcases bx_l h with ⟨E_2, hv_1, ho_3⟩ | ⟨⟨⟩, hv_1, h⟩
  · subst ho_3
    exact Cx_thru (w0 := trW k cA nA tA T ++ stW k nA N ++ tl) hO rfl (vx_runS (As := [.int p1, .int 1, .int 99]) (rest := []) ⟨hx, hb, hml, hown, hts⟩ (c_X1_checkRange l hst D k  p1 1 99 (.inl E_2) hv_1 _) (va_cwS 3 hts gX1_tick_X1_checkRange rfl rfl rfl (by decide +kernel) ⟨Nat.le_of_ble_eq_true rfl, Nat.le_of_ble_eq_true rfl⟩) ⟨Px_blind, Px_at (wc := ([] : va_W)) hK hG hP hD hS hA [] rfl (by decide)⟩ rfl rfl hl.1 rfl (Nat.le_of_ble_eq_true rfl) dX1_tick_4 ⟨Nat.le_of_ble_eq_true rfl, Nat.le_of_ble_eq_true rfl⟩) hP hD hS hA [] rfl htab hlocks (Nat.le_of_ble_eq_true rfl) (Nat.le_of_ble_eq_true rfl)
  refine Cx_in (w0' := trW k cA nA tA T ++ stW k nA N ++ tl) (wc' := ([] : va_W)) rfl (vx_runS (As := [.int p1, .int 1, .int 99]) (rest := []) ⟨hx, hb, hml, hown, hts⟩ (c_X1_checkRange l hst D k  p1 1 99 (.inr ()) hv_1 _) (va_cwS 3 hts gX1_tick_X1_checkRange rfl rfl rfl (by decide +kernel) ⟨Nat.le_of_ble_eq_true rfl, Nat.le_of_ble_eq_true rfl⟩) ⟨Px_blind, Px_at (wc := ([] : va_W)) hK hG hP hD hS hA [] rfl (by decide)⟩ rfl rfl hl.1 rfl (Nat.le_of_ble_eq_true rfl) dX1_tick_4 ⟨Nat.le_of_ble_eq_true rfl, Nat.le_of_ble_eq_true rfl⟩) hP hD hS hA [] rfl rfl rfl (fun H locs hP hD hS => ?_)
  refine W.eq (g2 := F0 m 7 ls []) rfl ?_
  refine lv_aload_n hx hb dX1_tick_7 rfl (lv_at hl 0 rfl) ?_
  obtain ⟨⟨q_4, q_5⟩, hv_6, h⟩ := bn_l h
  refine Cx_go (vx_runV (As := []) (rest := []) ⟨hx, hb, hml, hown, hts⟩ (c_X1_remember l hst D k cA nA tA T N V tl hT (.inr (q_4, q_5)) hv_6 _) (cwV 0 hts gX1_tick_X1_remember rfl rfl rfl (by decide +kernel) ⟨Nat.le_of_ble_eq_true rfl, Nat.le_of_ble_eq_true rfl⟩) ⟨Px_blind, va_recv (q0 := 0) (ci := 1) hK hP rfl rfl, Px_at (wc := trW k cA nA tA T ++ stW k nA N ++ tl) hK hG hP hD hS hA (List.range (trW k cA nA tA T ++ stW k nA N ++ tl).length) (rg_hi0 _) (rg_nd _)⟩ rfl rfl hl.1 rfl (Nat.le_of_ble_eq_true rfl) dX1_tick_8 ⟨Nat.le_of_ble_eq_true rfl, Nat.le_of_ble_eq_true rfl⟩) hP hD hS hA (List.range (trW k cA nA tA T ++ stW k nA N ++ tl).length) (rg_hi0 _) (fun _ _ _ _ _ h1 => by have h1 : (Sum.inr _ : Oc) = Sum.inl _ := h1; cases h1) ?_
  intro ov B wc1 H1 locs1 h1 hB hP1 hD1 hk1 hF1 hS1
  have h1 := Sum.inr.inj (show (Sum.inr _ : Oc) = Sum.inr B from h1)
  subst h1
  clear hT
  obtain ⟨rfl, tl_7, hT, rfl⟩ := hB
  have hD9 := hD1.weaken (fun _ q _ h => hF1 q.1 h)
  clear hP hD hS hD1 hk1 hF1
  generalize H1 = H at hP1 hS1 ⊢
  generalize locs1 = locs at hS1 ⊢
  have hP : va_P D vwCl (trW k cA nA tA q_4 ++ stW k nA N ++ tl_7) H := hP1
  have hD : va_D A (trW k cA nA tA q_4 ++ stW k nA N ++ tl_7) := hD9
  have hS := hS1
  clear hP1 hD9 hS1
  refine W.eq (g2 := F0 m 11 ls []) rfl ?_
  refine lv_aload_n hx hb dX1_tick_11 rfl (lv_at hl 0 rfl) ?_
  refine va_get (D := D) (ci := 1) (v := .ref (nA 0)) (C := RX1) (T := TX1) (N := 11) hx hb hts w_1 hown hK hP 0 rfl rfl 3 (by decide) w_0 (fun _ h9 => h9) rfl dX1_tick_12 ?_
  refine lv_iload_n hx hb dX1_tick_15 rfl (lv_at hl 1 rfl) ?_
  obtain ⟨⟨v_8, q_9⟩, hv_10, h⟩ := bd_l h
  refine Ck_VN (As := [.int p1]) (rest := []) (wc := stW k nA N) (wc' := stW k nA q_9) (w0' := trW k cA nA tA q_4 ++ stW k nA q_9 ++ tl_7) ⟨hx, hb, hml, hown, hts⟩ (c_X0_pass l D k nA N p1 v_8 q_9 hv_10) ⟨va_cnB 1 hts gX1_tick_X0_pass_n132 rfl rfl rfl w_2 w_3 (by decide +kernel) ⟨Nat.le_of_ble_eq_true rfl, Nat.le_of_ble_eq_true rfl⟩, w_4, w_5⟩ hK hP hD hS hA (q0 := 4) (ci := 0) rfl rfl ([4, 5, 6, 7, 8, 9, 10, 11, 12, 13, 14]) (hi_L rfl (hi_R rfl st_hi)) (by decide) rfl (vs_L rfl (vs_R rfl st_all)) rfl hl.1 rfl (Nat.le_of_ble_eq_true rfl) dX1_tick_16 ⟨Nat.le_of_ble_eq_true rfl, Nat.le_of_ble_eq_true rfl⟩ (fun H locs hP hD hS => ?_)
  refine W.eq (g2 := F0 m 19 ls [.int v_8]) rfl ?_
  cases h
  exact Cx_iret hO ⟨rfl, _, hT, rfl⟩ (Nat.le_of_ble_eq_true rfl) (Nat.le_of_ble_eq_true rfl) hx hb hr hP hD hS dX1_tick_19 hlocks
def f_X1_set (T : TrV) (N : StV) (V : PoV) (p1 : Int32) (p2 : Int32) : Option (String ⊕ (Int32 × TrV × StV × PoV)) := bx (f_X1_checkRange p1 0 4) fun ⟨⟩ => gb (inb (1 + p1) 12) <| gb (inb (1 + p1) 12) <| bx (f_X1_checkRange p2 (tL (1 + p1).toNatClampNeg) (tG (1 + p1).toNatClampNeg)) fun ⟨⟩ => bn (f_X1_remember T N V) fun ⟨q_9, q_10⟩ => gb (inb p1 5) <| nm ((s_set N) p1.toNatClampNeg) fun v_14 => gb (inb p1 5) <| nm (su_set N (upd (s_set N) p1.toNatClampNeg p2)) fun q_16 => some (.inr (v_14, q_9, q_16, q_10))
set_option maxRecDepth 100000 in
set_option maxHeartbeats 4000000 in
theorem c_X1_set (l : Launch) (hst : l.stackTraces = false) (D : va_G) (k : Nat → ClassId) (cA : Nat → Nat) (nA : Nat → Nat) (tA : Nat → Nat) (T : TrV) (N : StV) (V : PoV) (p1 : Int32) (p2 : Int32) (tl : va_W) (hT : PoIs k cA V tl) (o : String ⊕ (Int32 × TrV × StV × PoV)) (h : f_X1_set T N V p1 p2 = some o) : Cx l D (tyK k) yX1_set wsX1_set ({ frames := 7, cells := 13, slots := 87, locals := 104 } : Room) [.ref (cA 0), .int p1, .int p2] (trW k cA nA tA T ++ stW k nA N ++ tl) (trW k cA nA tA T ++ stW k nA N ++ tl) (Sum.map id (fun r : Int32 × TrV × StV × PoV => fun (ov : Option Value) (w : va_W) => ov = (some (.int r.1) : Option Value) ∧ ∃ tl9 : va_W, PoIs k cA r.2.2.2 tl9 ∧ w = trW k cA nA tA r.2.1 ++ stW k nA r.2.2.1 ++ tl9) o) := by
  obtain ⟨O, hO⟩ : ∃ O : Oc, O = Sum.map id (fun r : Int32 × TrV × StV × PoV => fun (ov : Option Value) (w : va_W) => ov = (some (.int r.1) : Option Value) ∧ ∃ tl9 : va_W, PoIs k cA r.2.2.2 tl9 ∧ w = trW k cA nA tA r.2.1 ++ stW k nA r.2.2.1 ++ tl9) o := ⟨_, rfl⟩
  rw [← hO]
  refine Cx_of (cc := cX1_set) (maxL := 4) (ret := (some .int)) (by decide) rfl (Nat.le_of_ble_eq_true rfl) ?_
  intro p e s m args below meth c A ls hx hb hr hml hts hown hlocks hnm htab hK hG hA hP hD hS hl
  obtain ⟨t1, t2, t3, ⟨z1, b1⟩, ⟨z2, b2⟩, z3, b3⟩ := id hG.1
  have hl : lv_has ls 4 [(0, .ref (cA 0)), (1, .int p1), (2, .int p2)] := hl
  have hP : va_P D vwCl (trW k cA nA tA T ++ stW k nA N ++ tl) s.heap := hP
  have w_0 := hts (.fieldLink RX1 91 "EffectTrain" "LEAST" "[I") (by decide +kernel)
  have w_1 := hts (.fieldLink RX1 88 "EffectTrain" "GREATEST" "[I") (by decide +kernel)
  have w_2 := hts (.fieldLink RX1 24 "EffectTrain" "now" "LEffectTrain$State;") (by decide +kernel)
  have w_3 : ∀ w ∈ wsX10, w ∈ wsX1_set := by decide +kernel
  have w_4 : (Cond.fieldLinkNest RX1 103 "EffectTrain$State" "settings" "[I" "EffectTrain").before args s = true := va_Nw.use rfl (hG.2.2.2.2.1 (103, "EffectTrain$State", "settings", "[I", "EffectTrain") (by decide +kernel))
  have w_5 : ∀ w ∈ wsX00, w ∈ wsX1_set := by decide +kernel
  unfold f_X1_set at h
  refine lv_iload_n hx hb dX1_set_0 rfl (lv_at hl 1 rfl) ?_
  refine lv_iconst (v := 0) hx hb dX1_set_1 (by decide) ?_
  refine lv_iconst (v := 4) hx hb dX1_set_2 (by decide) ?_
  rcases bx_l h with ⟨E_2, hv_1, ho_3⟩ | ⟨⟨⟩, hv_1, h⟩
  · subst ho_3
    exact Cx_thru (w0 := trW k cA nA tA T ++ stW k nA N ++ tl) hO rfl (vx_runS (As := [.int p1, .int 0, .int 4]) (rest := []) ⟨hx, hb, hml, hown, hts⟩ (c_X1_checkRange l hst D k  p1 0 4 (.inl E_2) hv_1 _) (va_cwS 3 hts gX1_set_X1_checkRange rfl rfl rfl (by decide +kernel) ⟨Nat.le_of_ble_eq_true rfl, Nat.le_of_ble_eq_true rfl⟩) ⟨Px_blind, Px_at (wc := ([] : va_W)) hK hG hP hD hS hA [] rfl (by decide)⟩ rfl rfl hl.1 rfl (Nat.le_of_ble_eq_true rfl) dX1_set_3 ⟨Nat.le_of_ble_eq_true rfl, Nat.le_of_ble_eq_true rfl⟩) hP hD hS hA [] rfl htab hlocks (Nat.le_of_ble_eq_true rfl) (Nat.le_of_ble_eq_true rfl)
  refine Cx_in (w0' := trW k cA nA tA T ++ stW k nA N ++ tl) (wc' := ([] : va_W)) rfl (vx_runS (As := [.int p1, .int 0, .int 4]) (rest := []) ⟨hx, hb, hml, hown, hts⟩ (c_X1_checkRange l hst D k  p1 0 4 (.inr ()) hv_1 _) (va_cwS 3 hts gX1_set_X1_checkRange rfl rfl rfl (by decide +kernel) ⟨Nat.le_of_ble_eq_true rfl, Nat.le_of_ble_eq_true rfl⟩) ⟨Px_blind, Px_at (wc := ([] : va_W)) hK hG hP hD hS hA [] rfl (by decide)⟩ rfl rfl hl.1 rfl (Nat.le_of_ble_eq_true rfl) dX1_set_3 ⟨Nat.le_of_ble_eq_true rfl, Nat.le_of_ble_eq_true rfl⟩) hP hD hS hA [] rfl rfl rfl (fun H locs hP hD hS => ?_)
  refine W.eq (g2 := F0 m 6 ls []) rfl ?_
  refine lv_iload_n hx hb dX1_set_6 rfl (lv_at hl 2 rfl) ?_
  refine va_gets hx hb z2 hS hown w_0 (fun _ h9 => h9) dX1_set_7 ?_
  refine lv_iconst (v := 1) hx hb dX1_set_10 (by decide) ?_
  refine lv_iload_n hx hb dX1_set_11 rfl (lv_at hl 1 rfl) ?_
  refine lv_iadd hx hb dX1_set_12 ?_
  have g_4 := inb_vp (gb_l h)
  have h := gb_r h
  refine va_ti hx hb b2 hS g_4 rfl dX1_set_13 ?_
  refine va_gets hx hb z3 hS hown w_1 (fun _ h9 => h9) dX1_set_14 ?_
  refine lv_iconst (v := 1) hx hb dX1_set_17 (by decide) ?_
  refine lv_iload_n hx hb dX1_set_18 rfl (lv_at hl 1 rfl) ?_
  refine lv_iadd hx hb dX1_set_19 ?_
  have g_5 := inb_vp (gb_l h)
  have h := gb_r h
  refine va_ti hx hb b3 hS g_5 rfl dX1_set_20 ?_
  rcases bx_l h with ⟨E_7, hv_6, ho_8⟩ | ⟨⟨⟩, hv_6, h⟩
  · subst ho_8
    exact Cx_thru (w0 := trW k cA nA tA T ++ stW k nA N ++ tl) hO rfl (vx_runS (As := [.int p2, .int (tL (1 + p1).toNatClampNeg), .int (tG (1 + p1).toNatClampNeg)]) (rest := []) ⟨hx, hb, hml, hown, hts⟩ (c_X1_checkRange l hst D k  p2 (tL (1 + p1).toNatClampNeg) (tG (1 + p1).toNatClampNeg) (.inl E_7) hv_6 _) (va_cwS 3 hts gX1_set_X1_checkRange rfl rfl rfl (by decide +kernel) ⟨Nat.le_of_ble_eq_true rfl, Nat.le_of_ble_eq_true rfl⟩) ⟨Px_blind, Px_at (wc := ([] : va_W)) hK hG hP hD hS hA [] rfl (by decide)⟩ rfl rfl hl.1 rfl (Nat.le_of_ble_eq_true rfl) dX1_set_21 ⟨Nat.le_of_ble_eq_true rfl, Nat.le_of_ble_eq_true rfl⟩) hP hD hS hA [] rfl htab hlocks (Nat.le_of_ble_eq_true rfl) (Nat.le_of_ble_eq_true rfl)
  refine Cx_in (w0' := trW k cA nA tA T ++ stW k nA N ++ tl) (wc' := ([] : va_W)) rfl (vx_runS (As := [.int p2, .int (tL (1 + p1).toNatClampNeg), .int (tG (1 + p1).toNatClampNeg)]) (rest := []) ⟨hx, hb, hml, hown, hts⟩ (c_X1_checkRange l hst D k  p2 (tL (1 + p1).toNatClampNeg) (tG (1 + p1).toNatClampNeg) (.inr ()) hv_6 _) (va_cwS 3 hts gX1_set_X1_checkRange rfl rfl rfl (by decide +kernel) ⟨Nat.le_of_ble_eq_true rfl, Nat.le_of_ble_eq_true rfl⟩) ⟨Px_blind, Px_at (wc := ([] : va_W)) hK hG hP hD hS hA [] rfl (by decide)⟩ rfl rfl hl.1 rfl (Nat.le_of_ble_eq_true rfl) dX1_set_21 ⟨Nat.le_of_ble_eq_true rfl, Nat.le_of_ble_eq_true rfl⟩) hP hD hS hA [] rfl rfl rfl (fun H locs hP hD hS => ?_)
  refine W.eq (g2 := F0 m 24 ls []) rfl ?_
  refine lv_aload_n hx hb dX1_set_24 rfl (lv_at hl 0 rfl) ?_
  obtain ⟨⟨q_9, q_10⟩, hv_11, h⟩ := bn_l h
  refine Cx_go (vx_runV (As := []) (rest := []) ⟨hx, hb, hml, hown, hts⟩ (c_X1_remember l hst D k cA nA tA T N V tl hT (.inr (q_9, q_10)) hv_11 _) (cwV 0 hts gX1_set_X1_remember rfl rfl rfl (by decide +kernel) ⟨Nat.le_of_ble_eq_true rfl, Nat.le_of_ble_eq_true rfl⟩) ⟨Px_blind, va_recv (q0 := 0) (ci := 1) hK hP rfl rfl, Px_at (wc := trW k cA nA tA T ++ stW k nA N ++ tl) hK hG hP hD hS hA (List.range (trW k cA nA tA T ++ stW k nA N ++ tl).length) (rg_hi0 _) (rg_nd _)⟩ rfl rfl hl.1 rfl (Nat.le_of_ble_eq_true rfl) dX1_set_25 ⟨Nat.le_of_ble_eq_true rfl, Nat.le_of_ble_eq_true rfl⟩) hP hD hS hA (List.range (trW k cA nA tA T ++ stW k nA N ++ tl).length) (rg_hi0 _) (fun _ _ _ _ _ h1 => by have h1 : (Sum.inr _ : Oc) = Sum.inl _ := h1; cases h1) ?_
  intro ov B wc1 H1 locs1 h1 hB hP1 hD1 hk1 hF1 hS1
  have h1 := Sum.inr.inj (show (Sum.inr _ : Oc) = Sum.inr B from h1)
  subst h1
  clear hT
  obtain ⟨rfl, tl_12, hT, rfl⟩ := hB
  have hD9 := hD1.weaken (fun _ q _ h => hF1 q.1 h)
  clear hP hD hS hD1 hk1 hF1
  generalize H1 = H at hP1 hS1 ⊢
  generalize locs1 = locs at hS1 ⊢
  have hP : va_P D vwCl (trW k cA nA tA q_9 ++ stW k nA N ++ tl_12) H := hP1
  have hD : va_D A (trW k cA nA tA q_9 ++ stW k nA N ++ tl_12) := hD9
  have hS := hS1
  clear hP1 hD9 hS1
  refine W.eq (g2 := F0 m 28 ls []) rfl ?_
  refine lv_aload_n hx hb dX1_set_28 rfl (lv_at hl 0 rfl) ?_
  refine va_get (D := D) (ci := 1) (v := .ref (nA 0)) (C := RX1) (T := TX1) (N := 11) hx hb hts w_3 hown hK hP 0 rfl rfl 3 (by decide) w_2 (fun _ h9 => h9) rfl dX1_set_29 ?_
  refine va_getN (D := D) (ci := 0) (v := .ref (nA 1)) (C := RX0) (T := TX0) (N := 12) hx hb hts w_5 hown hK hP 4 rfl rfl 1 (by decide) w_4 (fun _ h9 => h9) rfl dX1_set_32 ?_
  refine lv_iload_n hx hb dX1_set_35 rfl (lv_at hl 1 rfl) ?_
  have g_13 := inb_vp (gb_l h)
  have h := gb_r h
  refine va_iald hx hb hK hP 5 0 rfl rfl g_13 dX1_set_36 ?_
  refine lv_topi (fun v_14 ev_14 => ?_)
  have h := nm_l h ev_14
  refine lv_istore_n (lv' := [(3, .int v_14), (0, .ref (cA 0)), (1, .int p1), (2, .int p2)]) hx hb dX1_set_37 rfl hl (by decide) rfl (fun ls hl => ?_)
  refine lv_aload_n hx hb dX1_set_38 rfl (lv_at hl 1 rfl) ?_
  refine va_get (D := D) (ci := 1) (v := .ref (nA 0)) (C := RX1) (T := TX1) (N := 11) hx hb hts w_3 hown hK hP 0 rfl rfl 3 (by decide) w_2 (fun _ h9 => h9) rfl dX1_set_39 ?_
  refine va_getN (D := D) (ci := 0) (v := .ref (nA 1)) (C := RX0) (T := TX0) (N := 12) hx hb hts w_5 hown hK hP 4 rfl rfl 1 (by decide) w_4 (fun _ h9 => h9) rfl dX1_set_42 ?_
  refine lv_iload_n hx hb dX1_set_45 rfl (lv_at hl 2 rfl) ?_
  refine lv_iload_n hx hb dX1_set_46 rfl (lv_at hl 3 rfl) ?_
  have g_15 := inb_vp (gb_l h)
  have h := gb_r h
  refine va_iast hx hb hK hP hD hS 5 0 rfl rfl g_15 dX1_set_47 (fun H locs hP hD hS => ?_)
  obtain ⟨q_16, eq_16⟩ : ∃ y : StV, y = su_set N (upd (s_set N) p1.toNatClampNeg p2) := ⟨_, rfl⟩
  have hP : va_P D vwCl (trW k cA nA tA q_9 ++ stW k nA q_16 ++ tl_12) H := by rw [eq_16, ← st_set_set k nA N _, ← set_appR3 (A := trW k cA nA tA q_9) (q := 5) (q' := 1) rfl, ← set_appL1 (Nat.le_of_ble_eq_true rfl)]; exact hP
  have hD : va_D A (trW k cA nA tA q_9 ++ stW k nA q_16 ++ tl_12) := by rw [eq_16, ← st_set_set k nA N _, ← set_appR3 (A := trW k cA nA tA q_9) (q := 5) (q' := 1) rfl, ← set_appL1 (Nat.le_of_ble_eq_true rfl)]; exact hD
  have h := nm_l h eq_16
  refine lv_iload_n hx hb dX1_set_48 rfl (lv_at hl 0 rfl) ?_
  cases h
  exact Cx_iret hO ⟨rfl, _, hT, rfl⟩ (Nat.le_of_ble_eq_true rfl) (Nat.le_of_ble_eq_true rfl) hx hb hr hP hD hS dX1_set_49 hlocks
def f_X1_setValve (T : TrV) (N : StV) (V : PoV) (p1 : Int32) (p2 : Int32) : Option (String ⊕ (Int32 × TrV × StV × PoV)) := bx (f_X1_checkEffect T N p1) fun ⟨⟩ => bx (f_X1_checkRange p2 0 999) fun ⟨⟩ => bn (f_X1_remember T N V) fun ⟨q_7, q_8⟩ => gb (inb p1 6) <| nm ((s_val N) p1.toNatClampNeg) fun v_12 => gb (inb p1 6) <| nm (su_val N (upd (s_val N) p1.toNatClampNeg p2)) fun q_14 => some (.inr (v_12, q_7, q_14, q_8))
set_option maxRecDepth 100000 in
set_option maxHeartbeats 4000000 in
theorem c_X1_setValve (l : Launch) (hst : l.stackTraces = false) (D : va_G) (k : Nat → ClassId) (cA : Nat → Nat) (nA : Nat → Nat) (tA : Nat → Nat) (T : TrV) (N : StV) (V : PoV) (p1 : Int32) (p2 : Int32) (tl : va_W) (hT : PoIs k cA V tl) (o : String ⊕ (Int32 × TrV × StV × PoV)) (h : f_X1_setValve T N V p1 p2 = some o) : Cx l D (tyK k) yX1_setValve wsX1_setValve ({ frames := 7, cells := 13, slots := 87, locals := 104 } : Room) [.ref (cA 0), .int p1, .int p2] (trW k cA nA tA T ++ stW k nA N ++ tl) (trW k cA nA tA T ++ stW k nA N ++ tl) (Sum.map id (fun r : Int32 × TrV × StV × PoV => fun (ov : Option Value) (w : va_W) => ov = (some (.int r.1) : Option Value) ∧ ∃ tl9 : va_W, PoIs k cA r.2.2.2 tl9 ∧ w = trW k cA nA tA r.2.1 ++ stW k nA r.2.2.1 ++ tl9) o) := by
  obtain ⟨O, hO⟩ : ∃ O : Oc, O = Sum.map id (fun r : Int32 × TrV × StV × PoV => fun (ov : Option Value) (w : va_W) => ov = (some (.int r.1) : Option Value) ∧ ∃ tl9 : va_W, PoIs k cA r.2.2.2 tl9 ∧ w = trW k cA nA tA r.2.1 ++ stW k nA r.2.2.1 ++ tl9) o := ⟨_, rfl⟩
  rw [← hO]
  refine Cx_of (cc := cX1_setValve) (maxL := 4) (ret := (some .int)) (by decide) rfl (Nat.le_of_ble_eq_true rfl) ?_
  intro p e s m args below meth c A ls hx hb hr hml hts hown hlocks hnm htab hK hG hA hP hD hS hl
  have hl : lv_has ls 4 [(0, .ref (cA 0)), (1, .int p1), (2, .int p2)] := hl
  have hP : va_P D vwCl (trW k cA nA tA T ++ stW k nA N ++ tl) s.heap := hP
  have w_0 := hts (.fieldLink RX1 24 "EffectTrain" "now" "LEffectTrain$State;") (by decide +kernel)
  have w_1 : ∀ w ∈ wsX10, w ∈ wsX1_setValve := by decide +kernel
  have w_2 : (Cond.fieldLinkNest RX1 135 "EffectTrain$State" "valve" "[I" "EffectTrain").before args s = true := va_Nw.use rfl (hG.2.2.2.2.1 (135, "EffectTrain$State", "valve", "[I", "EffectTrain") (by decide +kernel))
  have w_3 : ∀ w ∈ wsX00, w ∈ wsX1_setValve := by decide +kernel
  unfold f_X1_setValve at h
  refine lv_aload_n hx hb dX1_setValve_0 rfl (lv_at hl 0 rfl) ?_
  refine lv_iload_n hx hb dX1_setValve_1 rfl (lv_at hl 1 rfl) ?_
  rcases bx_l h with ⟨E_2, hv_1, ho_3⟩ | ⟨⟨⟩, hv_1, h⟩
  · subst ho_3
    exact Cx_thru (w0 := trW k cA nA tA T ++ stW k nA N ++ tl) hO rfl (vx_runV (As := [.int p1]) (rest := []) ⟨hx, hb, hml, hown, hts⟩ (c_X1_checkEffect l hst D k cA nA tA T N p1 (.inl E_2) hv_1 _) (cwV 1 hts gX1_setValve_X1_checkEffect rfl rfl rfl (by decide +kernel) ⟨Nat.le_of_ble_eq_true rfl, Nat.le_of_ble_eq_true rfl⟩) ⟨Px_blind, va_recv (q0 := 0) (ci := 1) hK hP rfl rfl, Px_at (wc := trW k cA nA tA T ++ stW k nA N) hK hG hP hD hS hA ([0, 1, 2, 3] ++ [4, 5, 6, 7, 8, 9, 10, 11, 12, 13, 14]) (hi_2 (hi_L rfl (hi_L rfl tr_hi)) (hi_L rfl (hi_R rfl st_hi))) (by decide)⟩ rfl rfl hl.1 rfl (Nat.le_of_ble_eq_true rfl) dX1_setValve_2 ⟨Nat.le_of_ble_eq_true rfl, Nat.le_of_ble_eq_true rfl⟩) hP hD hS hA ([0, 1, 2, 3] ++ [4, 5, 6, 7, 8, 9, 10, 11, 12, 13, 14]) (hi_2 (hi_L rfl (hi_L rfl tr_hi)) (hi_L rfl (hi_R rfl st_hi))) htab hlocks (Nat.le_of_ble_eq_true rfl) (Nat.le_of_ble_eq_true rfl)
  refine Cx_in (w0' := trW k cA nA tA T ++ stW k nA N ++ tl) (wc' := trW k cA nA tA T ++ stW k nA N) rfl (vx_runV (As := [.int p1]) (rest := []) ⟨hx, hb, hml, hown, hts⟩ (c_X1_checkEffect l hst D k cA nA tA T N p1 (.inr ()) hv_1 _) (cwV 1 hts gX1_setValve_X1_checkEffect rfl rfl rfl (by decide +kernel) ⟨Nat.le_of_ble_eq_true rfl, Nat.le_of_ble_eq_true rfl⟩) ⟨Px_blind, va_recv (q0 := 0) (ci := 1) hK hP rfl rfl, Px_at (wc := trW k cA nA tA T ++ stW k nA N) hK hG hP hD hS hA ([0, 1, 2, 3] ++ [4, 5, 6, 7, 8, 9, 10, 11, 12, 13, 14]) (hi_2 (hi_L rfl (hi_L rfl tr_hi)) (hi_L rfl (hi_R rfl st_hi))) (by decide)⟩ rfl rfl hl.1 rfl (Nat.le_of_ble_eq_true rfl) dX1_setValve_2 ⟨Nat.le_of_ble_eq_true rfl, Nat.le_of_ble_eq_true rfl⟩) hP hD hS hA ([0, 1, 2, 3] ++ [4, 5, 6, 7, 8, 9, 10, 11, 12, 13, 14]) (hi_2 (hi_L rfl (hi_L rfl tr_hi)) (hi_L rfl (hi_R rfl st_hi))) rfl (vs_2 rfl (vs_L rfl (vs_L rfl tr_all)) (vs_L rfl (vs_R rfl st_all))) (fun H locs hP hD hS => ?_)
  refine W.eq (g2 := F0 m 5 ls []) rfl ?_
  refine lv_iload_n hx hb dX1_setValve_5 rfl (lv_at hl 2 rfl) ?_
  refine lv_iconst (v := 0) hx hb dX1_setValve_6 (by decide) ?_
  refine lv_sipush (v := 999) hx hb dX1_setValve_7 (by decide) ?_
  rcases bx_l h with ⟨E_5, hv_4, ho_6⟩ | ⟨⟨⟩, hv_4, h⟩
  · subst ho_6
    exact Cx_thru (w0 := trW k cA nA tA T ++ stW k nA N ++ tl) hO rfl (vx_runS (As := [.int p2, .int 0, .int 999]) (rest := []) ⟨hx, hb, hml, hown, hts⟩ (c_X1_checkRange l hst D k  p2 0 999 (.inl E_5) hv_4 _) (va_cwS 3 hts gX1_setValve_X1_checkRange rfl rfl rfl (by decide +kernel) ⟨Nat.le_of_ble_eq_true rfl, Nat.le_of_ble_eq_true rfl⟩) ⟨Px_blind, Px_at (wc := ([] : va_W)) hK hG hP hD hS hA [] rfl (by decide)⟩ rfl rfl hl.1 rfl (Nat.le_of_ble_eq_true rfl) dX1_setValve_10 ⟨Nat.le_of_ble_eq_true rfl, Nat.le_of_ble_eq_true rfl⟩) hP hD hS hA [] rfl htab hlocks (Nat.le_of_ble_eq_true rfl) (Nat.le_of_ble_eq_true rfl)
  refine Cx_in (w0' := trW k cA nA tA T ++ stW k nA N ++ tl) (wc' := ([] : va_W)) rfl (vx_runS (As := [.int p2, .int 0, .int 999]) (rest := []) ⟨hx, hb, hml, hown, hts⟩ (c_X1_checkRange l hst D k  p2 0 999 (.inr ()) hv_4 _) (va_cwS 3 hts gX1_setValve_X1_checkRange rfl rfl rfl (by decide +kernel) ⟨Nat.le_of_ble_eq_true rfl, Nat.le_of_ble_eq_true rfl⟩) ⟨Px_blind, Px_at (wc := ([] : va_W)) hK hG hP hD hS hA [] rfl (by decide)⟩ rfl rfl hl.1 rfl (Nat.le_of_ble_eq_true rfl) dX1_setValve_10 ⟨Nat.le_of_ble_eq_true rfl, Nat.le_of_ble_eq_true rfl⟩) hP hD hS hA [] rfl rfl rfl (fun H locs hP hD hS => ?_)
  refine W.eq (g2 := F0 m 13 ls []) rfl ?_
  refine lv_aload_n hx hb dX1_setValve_13 rfl (lv_at hl 0 rfl) ?_
  obtain ⟨⟨q_7, q_8⟩, hv_9, h⟩ := bn_l h
  refine Cx_go (vx_runV (As := []) (rest := []) ⟨hx, hb, hml, hown, hts⟩ (c_X1_remember l hst D k cA nA tA T N V tl hT (.inr (q_7, q_8)) hv_9 _) (cwV 0 hts gX1_setValve_X1_remember rfl rfl rfl (by decide +kernel) ⟨Nat.le_of_ble_eq_true rfl, Nat.le_of_ble_eq_true rfl⟩) ⟨Px_blind, va_recv (q0 := 0) (ci := 1) hK hP rfl rfl, Px_at (wc := trW k cA nA tA T ++ stW k nA N ++ tl) hK hG hP hD hS hA (List.range (trW k cA nA tA T ++ stW k nA N ++ tl).length) (rg_hi0 _) (rg_nd _)⟩ rfl rfl hl.1 rfl (Nat.le_of_ble_eq_true rfl) dX1_setValve_14 ⟨Nat.le_of_ble_eq_true rfl, Nat.le_of_ble_eq_true rfl⟩) hP hD hS hA (List.range (trW k cA nA tA T ++ stW k nA N ++ tl).length) (rg_hi0 _) (fun _ _ _ _ _ h1 => by have h1 : (Sum.inr _ : Oc) = Sum.inl _ := h1; cases h1) ?_
  intro ov B wc1 H1 locs1 h1 hB hP1 hD1 hk1 hF1 hS1
  have h1 := Sum.inr.inj (show (Sum.inr _ : Oc) = Sum.inr B from h1)
  subst h1
  clear hT
  obtain ⟨rfl, tl_10, hT, rfl⟩ := hB
  have hD9 := hD1.weaken (fun _ q _ h => hF1 q.1 h)
  clear hP hD hS hD1 hk1 hF1
  generalize H1 = H at hP1 hS1 ⊢
  generalize locs1 = locs at hS1 ⊢
  have hP : va_P D vwCl (trW k cA nA tA q_7 ++ stW k nA N ++ tl_10) H := hP1
  have hD : va_D A (trW k cA nA tA q_7 ++ stW k nA N ++ tl_10) := hD9
  have hS := hS1
  clear hP1 hD9 hS1
  refine W.eq (g2 := F0 m 17 ls []) rfl ?_
  refine lv_aload_n hx hb dX1_setValve_17 rfl (lv_at hl 0 rfl) ?_
  refine va_get (D := D) (ci := 1) (v := .ref (nA 0)) (C := RX1) (T := TX1) (N := 11) hx hb hts w_1 hown hK hP 0 rfl rfl 3 (by decide) w_0 (fun _ h9 => h9) rfl dX1_setValve_18 ?_
  refine va_getN (D := D) (ci := 0) (v := .ref (nA 6)) (C := RX0) (T := TX0) (N := 12) hx hb hts w_3 hown hK hP 4 rfl rfl 7 (by decide) w_2 (fun _ h9 => h9) rfl dX1_setValve_21 ?_
  refine lv_iload_n hx hb dX1_setValve_24 rfl (lv_at hl 1 rfl) ?_
  have g_11 := inb_vp (gb_l h)
  have h := gb_r h
  refine va_iald hx hb hK hP 10 0 rfl rfl g_11 dX1_setValve_25 ?_
  refine lv_topi (fun v_12 ev_12 => ?_)
  have h := nm_l h ev_12
  refine lv_istore_n (lv' := [(3, .int v_12), (0, .ref (cA 0)), (1, .int p1), (2, .int p2)]) hx hb dX1_setValve_26 rfl hl (by decide) rfl (fun ls hl => ?_)
  refine lv_aload_n hx hb dX1_setValve_27 rfl (lv_at hl 1 rfl) ?_
  refine va_get (D := D) (ci := 1) (v := .ref (nA 0)) (C := RX1) (T := TX1) (N := 11) hx hb hts w_1 hown hK hP 0 rfl rfl 3 (by decide) w_0 (fun _ h9 => h9) rfl dX1_setValve_28 ?_
  refine va_getN (D := D) (ci := 0) (v := .ref (nA 6)) (C := RX0) (T := TX0) (N := 12) hx hb hts w_3 hown hK hP 4 rfl rfl 7 (by decide) w_2 (fun _ h9 => h9) rfl dX1_setValve_31 ?_
  refine lv_iload_n hx hb dX1_setValve_34 rfl (lv_at hl 2 rfl) ?_
  refine lv_iload_n hx hb dX1_setValve_35 rfl (lv_at hl 3 rfl) ?_
  have g_13 := inb_vp (gb_l h)
  have h := gb_r h
  refine va_iast hx hb hK hP hD hS 10 0 rfl rfl g_13 dX1_setValve_36 (fun H locs hP hD hS => ?_)
  obtain ⟨q_14, eq_14⟩ : ∃ y : StV, y = su_val N (upd (s_val N) p1.toNatClampNeg p2) := ⟨_, rfl⟩
  have hP : va_P D vwCl (trW k cA nA tA q_7 ++ stW k nA q_14 ++ tl_10) H := by rw [eq_14, ← st_set_val k nA N _, ← set_appR3 (A := trW k cA nA tA q_7) (q := 10) (q' := 6) rfl, ← set_appL1 (Nat.le_of_ble_eq_true rfl)]; exact hP
  have hD : va_D A (trW k cA nA tA q_7 ++ stW k nA q_14 ++ tl_10) := by rw [eq_14, ← st_set_val k nA N _, ← set_appR3 (A := trW k cA nA tA q_7) (q := 10) (q' := 6) rfl, ← set_appL1 (Nat.le_of_ble_eq_true rfl)]; exact hD
  have h := nm_l h eq_14
  refine lv_iload_n hx hb dX1_setValve_37 rfl (lv_at hl 0 rfl) ?_
  cases h
  exact Cx_iret hO ⟨rfl, _, hT, rfl⟩ (Nat.le_of_ble_eq_true rfl) (Nat.le_of_ble_eq_true rfl) hx hb hr hP hD hS dX1_setValve_38 hlocks
def f_X1_setBleed (T : TrV) (N : StV) (V : PoV) (p1 : Int32) (p2 : Int32) : Option (String ⊕ (Int32 × TrV × StV × PoV)) := bx (f_X1_checkEffect T N p1) fun ⟨⟩ => bx (f_X1_checkRange p2 0 90) fun ⟨⟩ => bn (f_X1_remember T N V) fun ⟨q_7, q_8⟩ => gb (inb p1 6) <| nm ((s_ble N) p1.toNatClampNeg) fun v_12 => gb (inb p1 6) <| nm (su_ble N (upd (s_ble N) p1.toNatClampNeg p2)) fun q_14 => some (.inr (v_12, q_7, q_14, q_8))
set_option maxRecDepth 100000 in
set_option maxHeartbeats 4000000 in
theorem c_X1_setBleed (l : Launch) (hst : l.stackTraces = false) (D : va_G) (k : Nat → ClassId) (cA : Nat → Nat) (nA : Nat → Nat) (tA : Nat → Nat) (T : TrV) (N : StV) (V : PoV) (p1 : Int32) (p2 : Int32) (tl : va_W) (hT : PoIs k cA V tl) (o : String ⊕ (Int32 × TrV × StV × PoV)) (h : f_X1_setBleed T N V p1 p2 = some o) : Cx l D (tyK k) yX1_setBleed wsX1_setBleed ({ frames := 7, cells := 13, slots := 87, locals := 104 } : Room) [.ref (cA 0), .int p1, .int p2] (trW k cA nA tA T ++ stW k nA N ++ tl) (trW k cA nA tA T ++ stW k nA N ++ tl) (Sum.map id (fun r : Int32 × TrV × StV × PoV => fun (ov : Option Value) (w : va_W) => ov = (some (.int r.1) : Option Value) ∧ ∃ tl9 : va_W, PoIs k cA r.2.2.2 tl9 ∧ w = trW k cA nA tA r.2.1 ++ stW k nA r.2.2.1 ++ tl9) o) := by
  obtain ⟨O, hO⟩ : ∃ O : Oc, O = Sum.map id (fun r : Int32 × TrV × StV × PoV => fun (ov : Option Value) (w : va_W) => ov = (some (.int r.1) : Option Value) ∧ ∃ tl9 : va_W, PoIs k cA r.2.2.2 tl9 ∧ w = trW k cA nA tA r.2.1 ++ stW k nA r.2.2.1 ++ tl9) o := ⟨_, rfl⟩
  rw [← hO]
  refine Cx_of (cc := cX1_setBleed) (maxL := 4) (ret := (some .int)) (by decide) rfl (Nat.le_of_ble_eq_true rfl) ?_
  intro p e s m args below meth c A ls hx hb hr hml hts hown hlocks hnm htab hK hG hA hP hD hS hl
  have hl : lv_has ls 4 [(0, .ref (cA 0)), (1, .int p1), (2, .int p2)] := hl
  have hP : va_P D vwCl (trW k cA nA tA T ++ stW k nA N ++ tl) s.heap := hP
  have w_0 := hts (.fieldLink RX1 24 "EffectTrain" "now" "LEffectTrain$State;") (by decide +kernel)
  have w_1 : ∀ w ∈ wsX10, w ∈ wsX1_setBleed := by decide +kernel
  have w_2 : (Cond.fieldLinkNest RX1 138 "EffectTrain$State" "bleed" "[I" "EffectTrain").before args s = true := va_Nw.use rfl (hG.2.2.2.2.1 (138, "EffectTrain$State", "bleed", "[I", "EffectTrain") (by decide +kernel))
  have w_3 : ∀ w ∈ wsX00, w ∈ wsX1_setBleed := by decide +kernel
  unfold f_X1_setBleed at h
  refine lv_aload_n hx hb dX1_setBleed_0 rfl (lv_at hl 0 rfl) ?_
  refine lv_iload_n hx hb dX1_setBleed_1 rfl (lv_at hl 1 rfl) ?_
  rcases bx_l h with ⟨E_2, hv_1, ho_3⟩ | ⟨⟨⟩, hv_1, h⟩
  · subst ho_3
    exact Cx_thru (w0 := trW k cA nA tA T ++ stW k nA N ++ tl) hO rfl (vx_runV (As := [.int p1]) (rest := []) ⟨hx, hb, hml, hown, hts⟩ (c_X1_checkEffect l hst D k cA nA tA T N p1 (.inl E_2) hv_1 _) (cwV 1 hts gX1_setBleed_X1_checkEffect rfl rfl rfl (by decide +kernel) ⟨Nat.le_of_ble_eq_true rfl, Nat.le_of_ble_eq_true rfl⟩) ⟨Px_blind, va_recv (q0 := 0) (ci := 1) hK hP rfl rfl, Px_at (wc := trW k cA nA tA T ++ stW k nA N) hK hG hP hD hS hA ([0, 1, 2, 3] ++ [4, 5, 6, 7, 8, 9, 10, 11, 12, 13, 14]) (hi_2 (hi_L rfl (hi_L rfl tr_hi)) (hi_L rfl (hi_R rfl st_hi))) (by decide)⟩ rfl rfl hl.1 rfl (Nat.le_of_ble_eq_true rfl) dX1_setBleed_2 ⟨Nat.le_of_ble_eq_true rfl, Nat.le_of_ble_eq_true rfl⟩) hP hD hS hA ([0, 1, 2, 3] ++ [4, 5, 6, 7, 8, 9, 10, 11, 12, 13, 14]) (hi_2 (hi_L rfl (hi_L rfl tr_hi)) (hi_L rfl (hi_R rfl st_hi))) htab hlocks (Nat.le_of_ble_eq_true rfl) (Nat.le_of_ble_eq_true rfl)
  refine Cx_in (w0' := trW k cA nA tA T ++ stW k nA N ++ tl) (wc' := trW k cA nA tA T ++ stW k nA N) rfl (vx_runV (As := [.int p1]) (rest := []) ⟨hx, hb, hml, hown, hts⟩ (c_X1_checkEffect l hst D k cA nA tA T N p1 (.inr ()) hv_1 _) (cwV 1 hts gX1_setBleed_X1_checkEffect rfl rfl rfl (by decide +kernel) ⟨Nat.le_of_ble_eq_true rfl, Nat.le_of_ble_eq_true rfl⟩) ⟨Px_blind, va_recv (q0 := 0) (ci := 1) hK hP rfl rfl, Px_at (wc := trW k cA nA tA T ++ stW k nA N) hK hG hP hD hS hA ([0, 1, 2, 3] ++ [4, 5, 6, 7, 8, 9, 10, 11, 12, 13, 14]) (hi_2 (hi_L rfl (hi_L rfl tr_hi)) (hi_L rfl (hi_R rfl st_hi))) (by decide)⟩ rfl rfl hl.1 rfl (Nat.le_of_ble_eq_true rfl) dX1_setBleed_2 ⟨Nat.le_of_ble_eq_true rfl, Nat.le_of_ble_eq_true rfl⟩) hP hD hS hA ([0, 1, 2, 3] ++ [4, 5, 6, 7, 8, 9, 10, 11, 12, 13, 14]) (hi_2 (hi_L rfl (hi_L rfl tr_hi)) (hi_L rfl (hi_R rfl st_hi))) rfl (vs_2 rfl (vs_L rfl (vs_L rfl tr_all)) (vs_L rfl (vs_R rfl st_all))) (fun H locs hP hD hS => ?_)
  refine W.eq (g2 := F0 m 5 ls []) rfl ?_
  refine lv_iload_n hx hb dX1_setBleed_5 rfl (lv_at hl 2 rfl) ?_
  refine lv_iconst (v := 0) hx hb dX1_setBleed_6 (by decide) ?_
  refine lv_bipush (v := 90) hx hb dX1_setBleed_7 (by decide) ?_
  rcases bx_l h with ⟨E_5, hv_4, ho_6⟩ | ⟨⟨⟩, hv_4, h⟩
  · subst ho_6
    exact Cx_thru (w0 := trW k cA nA tA T ++ stW k nA N ++ tl) hO rfl (vx_runS (As := [.int p2, .int 0, .int 90]) (rest := []) ⟨hx, hb, hml, hown, hts⟩ (c_X1_checkRange l hst D k  p2 0 90 (.inl E_5) hv_4 _) (va_cwS 3 hts gX1_setBleed_X1_checkRange rfl rfl rfl (by decide +kernel) ⟨Nat.le_of_ble_eq_true rfl, Nat.le_of_ble_eq_true rfl⟩) ⟨Px_blind, Px_at (wc := ([] : va_W)) hK hG hP hD hS hA [] rfl (by decide)⟩ rfl rfl hl.1 rfl (Nat.le_of_ble_eq_true rfl) dX1_setBleed_9 ⟨Nat.le_of_ble_eq_true rfl, Nat.le_of_ble_eq_true rfl⟩) hP hD hS hA [] rfl htab hlocks (Nat.le_of_ble_eq_true rfl) (Nat.le_of_ble_eq_true rfl)
  refine Cx_in (w0' := trW k cA nA tA T ++ stW k nA N ++ tl) (wc' := ([] : va_W)) rfl (vx_runS (As := [.int p2, .int 0, .int 90]) (rest := []) ⟨hx, hb, hml, hown, hts⟩ (c_X1_checkRange l hst D k  p2 0 90 (.inr ()) hv_4 _) (va_cwS 3 hts gX1_setBleed_X1_checkRange rfl rfl rfl (by decide +kernel) ⟨Nat.le_of_ble_eq_true rfl, Nat.le_of_ble_eq_true rfl⟩) ⟨Px_blind, Px_at (wc := ([] : va_W)) hK hG hP hD hS hA [] rfl (by decide)⟩ rfl rfl hl.1 rfl (Nat.le_of_ble_eq_true rfl) dX1_setBleed_9 ⟨Nat.le_of_ble_eq_true rfl, Nat.le_of_ble_eq_true rfl⟩) hP hD hS hA [] rfl rfl rfl (fun H locs hP hD hS => ?_)
  refine W.eq (g2 := F0 m 12 ls []) rfl ?_
  refine lv_aload_n hx hb dX1_setBleed_12 rfl (lv_at hl 0 rfl) ?_
  obtain ⟨⟨q_7, q_8⟩, hv_9, h⟩ := bn_l h
  refine Cx_go (vx_runV (As := []) (rest := []) ⟨hx, hb, hml, hown, hts⟩ (c_X1_remember l hst D k cA nA tA T N V tl hT (.inr (q_7, q_8)) hv_9 _) (cwV 0 hts gX1_setBleed_X1_remember rfl rfl rfl (by decide +kernel) ⟨Nat.le_of_ble_eq_true rfl, Nat.le_of_ble_eq_true rfl⟩) ⟨Px_blind, va_recv (q0 := 0) (ci := 1) hK hP rfl rfl, Px_at (wc := trW k cA nA tA T ++ stW k nA N ++ tl) hK hG hP hD hS hA (List.range (trW k cA nA tA T ++ stW k nA N ++ tl).length) (rg_hi0 _) (rg_nd _)⟩ rfl rfl hl.1 rfl (Nat.le_of_ble_eq_true rfl) dX1_setBleed_13 ⟨Nat.le_of_ble_eq_true rfl, Nat.le_of_ble_eq_true rfl⟩) hP hD hS hA (List.range (trW k cA nA tA T ++ stW k nA N ++ tl).length) (rg_hi0 _) (fun _ _ _ _ _ h1 => by have h1 : (Sum.inr _ : Oc) = Sum.inl _ := h1; cases h1) ?_
  intro ov B wc1 H1 locs1 h1 hB hP1 hD1 hk1 hF1 hS1
  have h1 := Sum.inr.inj (show (Sum.inr _ : Oc) = Sum.inr B from h1)
  subst h1
  clear hT
  obtain ⟨rfl, tl_10, hT, rfl⟩ := hB
  have hD9 := hD1.weaken (fun _ q _ h => hF1 q.1 h)
  clear hP hD hS hD1 hk1 hF1
  generalize H1 = H at hP1 hS1 ⊢
  generalize locs1 = locs at hS1 ⊢
  have hP : va_P D vwCl (trW k cA nA tA q_7 ++ stW k nA N ++ tl_10) H := hP1
  have hD : va_D A (trW k cA nA tA q_7 ++ stW k nA N ++ tl_10) := hD9
  have hS := hS1
  clear hP1 hD9 hS1
  refine W.eq (g2 := F0 m 16 ls []) rfl ?_
  refine lv_aload_n hx hb dX1_setBleed_16 rfl (lv_at hl 0 rfl) ?_
  refine va_get (D := D) (ci := 1) (v := .ref (nA 0)) (C := RX1) (T := TX1) (N := 11) hx hb hts w_1 hown hK hP 0 rfl rfl 3 (by decide) w_0 (fun _ h9 => h9) rfl dX1_setBleed_17 ?_
  refine va_getN (D := D) (ci := 0) (v := .ref (nA 7)) (C := RX0) (T := TX0) (N := 12) hx hb hts w_3 hown hK hP 4 rfl rfl 8 (by decide) w_2 (fun _ h9 => h9) rfl dX1_setBleed_20 ?_
  refine lv_iload_n hx hb dX1_setBleed_23 rfl (lv_at hl 1 rfl) ?_
  have g_11 := inb_vp (gb_l h)
  have h := gb_r h
  refine va_iald hx hb hK hP 11 0 rfl rfl g_11 dX1_setBleed_24 ?_
  refine lv_topi (fun v_12 ev_12 => ?_)
  have h := nm_l h ev_12
  refine lv_istore_n (lv' := [(3, .int v_12), (0, .ref (cA 0)), (1, .int p1), (2, .int p2)]) hx hb dX1_setBleed_25 rfl hl (by decide) rfl (fun ls hl => ?_)
  refine lv_aload_n hx hb dX1_setBleed_26 rfl (lv_at hl 1 rfl) ?_
  refine va_get (D := D) (ci := 1) (v := .ref (nA 0)) (C := RX1) (T := TX1) (N := 11) hx hb hts w_1 hown hK hP 0 rfl rfl 3 (by decide) w_0 (fun _ h9 => h9) rfl dX1_setBleed_27 ?_
  refine va_getN (D := D) (ci := 0) (v := .ref (nA 7)) (C := RX0) (T := TX0) (N := 12) hx hb hts w_3 hown hK hP 4 rfl rfl 8 (by decide) w_2 (fun _ h9 => h9) rfl dX1_setBleed_30 ?_
  refine lv_iload_n hx hb dX1_setBleed_33 rfl (lv_at hl 2 rfl) ?_
  refine lv_iload_n hx hb dX1_setBleed_34 rfl (lv_at hl 3 rfl) ?_
  have g_13 := inb_vp (gb_l h)
  have h := gb_r h
  refine va_iast hx hb hK hP hD hS 11 0 rfl rfl g_13 dX1_setBleed_35 (fun H locs hP hD hS => ?_)
  obtain ⟨q_14, eq_14⟩ : ∃ y : StV, y = su_ble N (upd (s_ble N) p1.toNatClampNeg p2) := ⟨_, rfl⟩
  have hP : va_P D vwCl (trW k cA nA tA q_7 ++ stW k nA q_14 ++ tl_10) H := by rw [eq_14, ← st_set_ble k nA N _, ← set_appR3 (A := trW k cA nA tA q_7) (q := 11) (q' := 7) rfl, ← set_appL1 (Nat.le_of_ble_eq_true rfl)]; exact hP
  have hD : va_D A (trW k cA nA tA q_7 ++ stW k nA q_14 ++ tl_10) := by rw [eq_14, ← st_set_ble k nA N _, ← set_appR3 (A := trW k cA nA tA q_7) (q := 11) (q' := 7) rfl, ← set_appL1 (Nat.le_of_ble_eq_true rfl)]; exact hD
  have h := nm_l h eq_14
  refine lv_iload_n hx hb dX1_setBleed_36 rfl (lv_at hl 0 rfl) ?_
  cases h
  exact Cx_iret hO ⟨rfl, _, hT, rfl⟩ (Nat.le_of_ble_eq_true rfl) (Nat.le_of_ble_eq_true rfl) hx hb hr hP hD hS dX1_setBleed_37 hlocks
def f_X1_wash (T : TrV) (N : StV) (V : PoV) (p1 : Int32) (p2 : Int32) : Option (String ⊕ (Int32 × TrV × StV × PoV)) := bx (f_X1_checkEffect T N p1) fun ⟨⟩ => bx (f_X1_checkRange p2 1 20) fun ⟨⟩ => bx (f_X1_checkWorks T N p1) fun ⟨⟩ => bn (f_X1_remember T N V) fun ⟨q_10, q_11⟩ => gb (inb p1 6) <| nm (su_lef N (upd (s_lef N) p1.toNatClampNeg p2)) fun q_15 => bd (f_X0_washedEffects q_15) fun v_16 => some (.inr (v_16, q_10, q_15, q_11))
set_option maxRecDepth 100000 in
set_option maxHeartbeats 4000000 in
theorem c_X1_wash (l : Launch) (hst : l.stackTraces = false) (D : va_G) (k : Nat → ClassId) (cA : Nat → Nat) (nA : Nat → Nat) (tA : Nat → Nat) (T : TrV) (N : StV) (V : PoV) (p1 : Int32) (p2 : Int32) (tl : va_W) (hT : PoIs k cA V tl) (o : String ⊕ (Int32 × TrV × StV × PoV)) (h : f_X1_wash T N V p1 p2 = some o) : Cx l D (tyK k) yX1_wash wsX1_wash ({ frames := 7, cells := 14, slots := 93, locals := 104 } : Room) [.ref (cA 0), .int p1, .int p2] (trW k cA nA tA T ++ stW k nA N ++ tl) (trW k cA nA tA T ++ stW k nA N ++ tl) (Sum.map id (fun r : Int32 × TrV × StV × PoV => fun (ov : Option Value) (w : va_W) => ov = (some (.int r.1) : Option Value) ∧ ∃ tl9 : va_W, PoIs k cA r.2.2.2 tl9 ∧ w = trW k cA nA tA r.2.1 ++ stW k nA r.2.2.1 ++ tl9) o) := by
  obtain ⟨O, hO⟩ : ∃ O : Oc, O = Sum.map id (fun r : Int32 × TrV × StV × PoV => fun (ov : Option Value) (w : va_W) => ov = (some (.int r.1) : Option Value) ∧ ∃ tl9 : va_W, PoIs k cA r.2.2.2 tl9 ∧ w = trW k cA nA tA r.2.1 ++ stW k nA r.2.2.1 ++ tl9) o := ⟨_, rfl⟩
  rw [← hO]
  refine Cx_of (cc := cX1_wash) (maxL := 3) (ret := (some .int)) (by decide) rfl (Nat.le_of_ble_eq_true rfl) ?_
  intro p e s m args below meth c A ls hx hb hr hml hts hown hlocks hnm htab hK hG hA hP hD hS hl
  have hl : lv_has ls 3 [(0, .ref (cA 0)), (1, .int p1), (2, .int p2)] := hl
  have hP : va_P D vwCl (trW k cA nA tA T ++ stW k nA N ++ tl) s.heap := hP
  have w_0 := hts (.fieldLink RX1 24 "EffectTrain" "now" "LEffectTrain$State;") (by decide +kernel)
  have w_1 : ∀ w ∈ wsX10, w ∈ wsX1_wash := by decide +kernel
  have w_2 : (Cond.fieldLinkNest RX1 144 "EffectTrain$State" "left" "[I" "EffectTrain").before args s = true := va_Nw.use rfl (hG.2.2.2.2.1 (144, "EffectTrain$State", "left", "[I", "EffectTrain") (by decide +kernel))
  have w_3 : ∀ w ∈ wsX00, w ∈ wsX1_wash := by decide +kernel
  have w_4 : va_Nw (.methodLinkNest RX1 100 yX0_washedEffects "EffectTrain") s := hG.2.2.2.2.2 (100, yX0_washedEffects, "EffectTrain") (by decide +kernel)
  have w_5 := hts (.initialized RX0) (by decide +kernel)
  have w_6 := hts (.instanceMethod yX0_washedEffects) (by decide +kernel)
  have w_7 := hts (.selects RX0 yX0_washedEffects yX0_washedEffects) (by decide +kernel)
  unfold f_X1_wash at h
  refine lv_aload_n hx hb dX1_wash_0 rfl (lv_at hl 0 rfl) ?_
  refine lv_iload_n hx hb dX1_wash_1 rfl (lv_at hl 1 rfl) ?_
  rcases bx_l h with ⟨E_2, hv_1, ho_3⟩ | ⟨⟨⟩, hv_1, h⟩
  · subst ho_3
    exact Cx_thru (w0 := trW k cA nA tA T ++ stW k nA N ++ tl) hO rfl (vx_runV (As := [.int p1]) (rest := []) ⟨hx, hb, hml, hown, hts⟩ (c_X1_checkEffect l hst D k cA nA tA T N p1 (.inl E_2) hv_1 _) (cwV 1 hts gX1_wash_X1_checkEffect rfl rfl rfl (by decide +kernel) ⟨Nat.le_of_ble_eq_true rfl, Nat.le_of_ble_eq_true rfl⟩) ⟨Px_blind, va_recv (q0 := 0) (ci := 1) hK hP rfl rfl, Px_at (wc := trW k cA nA tA T ++ stW k nA N) hK hG hP hD hS hA ([0, 1, 2, 3] ++ [4, 5, 6, 7, 8, 9, 10, 11, 12, 13, 14]) (hi_2 (hi_L rfl (hi_L rfl tr_hi)) (hi_L rfl (hi_R rfl st_hi))) (by decide)⟩ rfl rfl hl.1 rfl (Nat.le_of_ble_eq_true rfl) dX1_wash_2 ⟨Nat.le_of_ble_eq_true rfl, Nat.le_of_ble_eq_true rfl⟩) hP hD hS hA ([0, 1, 2, 3] ++ [4, 5, 6, 7, 8, 9, 10, 11, 12, 13, 14]) (hi_2 (hi_L rfl (hi_L rfl tr_hi)) (hi_L rfl (hi_R rfl st_hi))) htab hlocks (Nat.le_of_ble_eq_true rfl) (Nat.le_of_ble_eq_true rfl)
  refine Cx_in (w0' := trW k cA nA tA T ++ stW k nA N ++ tl) (wc' := trW k cA nA tA T ++ stW k nA N) rfl (vx_runV (As := [.int p1]) (rest := []) ⟨hx, hb, hml, hown, hts⟩ (c_X1_checkEffect l hst D k cA nA tA T N p1 (.inr ()) hv_1 _) (cwV 1 hts gX1_wash_X1_checkEffect rfl rfl rfl (by decide +kernel) ⟨Nat.le_of_ble_eq_true rfl, Nat.le_of_ble_eq_true rfl⟩) ⟨Px_blind, va_recv (q0 := 0) (ci := 1) hK hP rfl rfl, Px_at (wc := trW k cA nA tA T ++ stW k nA N) hK hG hP hD hS hA ([0, 1, 2, 3] ++ [4, 5, 6, 7, 8, 9, 10, 11, 12, 13, 14]) (hi_2 (hi_L rfl (hi_L rfl tr_hi)) (hi_L rfl (hi_R rfl st_hi))) (by decide)⟩ rfl rfl hl.1 rfl (Nat.le_of_ble_eq_true rfl) dX1_wash_2 ⟨Nat.le_of_ble_eq_true rfl, Nat.le_of_ble_eq_true rfl⟩) hP hD hS hA ([0, 1, 2, 3] ++ [4, 5, 6, 7, 8, 9, 10, 11, 12, 13, 14]) (hi_2 (hi_L rfl (hi_L rfl tr_hi)) (hi_L rfl (hi_R rfl st_hi))) rfl (vs_2 rfl (vs_L rfl (vs_L rfl tr_all)) (vs_L rfl (vs_R rfl st_all))) (fun H locs hP hD hS => ?_)
  refine W.eq (g2 := F0 m 5 ls []) rfl ?_
  refine lv_iload_n hx hb dX1_wash_5 rfl (lv_at hl 2 rfl) ?_
  refine lv_iconst (v := 1) hx hb dX1_wash_6 (by decide) ?_
  refine lv_bipush (v := 20) hx hb dX1_wash_7 (by decide) ?_
  rcases bx_l h with ⟨E_5, hv_4, ho_6⟩ | ⟨⟨⟩, hv_4, h⟩
  · subst ho_6
    exact Cx_thru (w0 := trW k cA nA tA T ++ stW k nA N ++ tl) hO rfl (vx_runS (As := [.int p2, .int 1, .int 20]) (rest := []) ⟨hx, hb, hml, hown, hts⟩ (c_X1_checkRange l hst D k  p2 1 20 (.inl E_5) hv_4 _) (va_cwS 3 hts gX1_wash_X1_checkRange rfl rfl rfl (by decide +kernel) ⟨Nat.le_of_ble_eq_true rfl, Nat.le_of_ble_eq_true rfl⟩) ⟨Px_blind, Px_at (wc := ([] : va_W)) hK hG hP hD hS hA [] rfl (by decide)⟩ rfl rfl hl.1 rfl (Nat.le_of_ble_eq_true rfl) dX1_wash_9 ⟨Nat.le_of_ble_eq_true rfl, Nat.le_of_ble_eq_true rfl⟩) hP hD hS hA [] rfl htab hlocks (Nat.le_of_ble_eq_true rfl) (Nat.le_of_ble_eq_true rfl)
  refine Cx_in (w0' := trW k cA nA tA T ++ stW k nA N ++ tl) (wc' := ([] : va_W)) rfl (vx_runS (As := [.int p2, .int 1, .int 20]) (rest := []) ⟨hx, hb, hml, hown, hts⟩ (c_X1_checkRange l hst D k  p2 1 20 (.inr ()) hv_4 _) (va_cwS 3 hts gX1_wash_X1_checkRange rfl rfl rfl (by decide +kernel) ⟨Nat.le_of_ble_eq_true rfl, Nat.le_of_ble_eq_true rfl⟩) ⟨Px_blind, Px_at (wc := ([] : va_W)) hK hG hP hD hS hA [] rfl (by decide)⟩ rfl rfl hl.1 rfl (Nat.le_of_ble_eq_true rfl) dX1_wash_9 ⟨Nat.le_of_ble_eq_true rfl, Nat.le_of_ble_eq_true rfl⟩) hP hD hS hA [] rfl rfl rfl (fun H locs hP hD hS => ?_)
  refine W.eq (g2 := F0 m 12 ls []) rfl ?_
  refine lv_aload_n hx hb dX1_wash_12 rfl (lv_at hl 0 rfl) ?_
  refine lv_iload_n hx hb dX1_wash_13 rfl (lv_at hl 1 rfl) ?_
  rcases bx_l h with ⟨E_8, hv_7, ho_9⟩ | ⟨⟨⟩, hv_7, h⟩
  · subst ho_9
    exact Cx_thru (w0 := trW k cA nA tA T ++ stW k nA N ++ tl) hO rfl (vx_runV (As := [.int p1]) (rest := []) ⟨hx, hb, hml, hown, hts⟩ (c_X1_checkWorks l hst D k cA nA tA T N p1 (.inl E_8) hv_7 _) (cwV 1 hts gX1_wash_X1_checkWorks rfl rfl rfl (by decide +kernel) ⟨Nat.le_of_ble_eq_true rfl, Nat.le_of_ble_eq_true rfl⟩) ⟨Px_blind, va_recv (q0 := 0) (ci := 1) hK hP rfl rfl, Px_at (wc := trW k cA nA tA T ++ stW k nA N) hK hG hP hD hS hA ([0, 1, 2, 3] ++ [4, 5, 6, 7, 8, 9, 10, 11, 12, 13, 14]) (hi_2 (hi_L rfl (hi_L rfl tr_hi)) (hi_L rfl (hi_R rfl st_hi))) (by decide)⟩ rfl rfl hl.1 rfl (Nat.le_of_ble_eq_true rfl) dX1_wash_14 ⟨Nat.le_of_ble_eq_true rfl, Nat.le_of_ble_eq_true rfl⟩) hP hD hS hA ([0, 1, 2, 3] ++ [4, 5, 6, 7, 8, 9, 10, 11, 12, 13, 14]) (hi_2 (hi_L rfl (hi_L rfl tr_hi)) (hi_L rfl (hi_R rfl st_hi))) htab hlocks (Nat.le_of_ble_eq_true rfl) (Nat.le_of_ble_eq_true rfl)
  refine Cx_in (w0' := trW k cA nA tA T ++ stW k nA N ++ tl) (wc' := trW k cA nA tA T ++ stW k nA N) rfl (vx_runV (As := [.int p1]) (rest := []) ⟨hx, hb, hml, hown, hts⟩ (c_X1_checkWorks l hst D k cA nA tA T N p1 (.inr ()) hv_7 _) (cwV 1 hts gX1_wash_X1_checkWorks rfl rfl rfl (by decide +kernel) ⟨Nat.le_of_ble_eq_true rfl, Nat.le_of_ble_eq_true rfl⟩) ⟨Px_blind, va_recv (q0 := 0) (ci := 1) hK hP rfl rfl, Px_at (wc := trW k cA nA tA T ++ stW k nA N) hK hG hP hD hS hA ([0, 1, 2, 3] ++ [4, 5, 6, 7, 8, 9, 10, 11, 12, 13, 14]) (hi_2 (hi_L rfl (hi_L rfl tr_hi)) (hi_L rfl (hi_R rfl st_hi))) (by decide)⟩ rfl rfl hl.1 rfl (Nat.le_of_ble_eq_true rfl) dX1_wash_14 ⟨Nat.le_of_ble_eq_true rfl, Nat.le_of_ble_eq_true rfl⟩) hP hD hS hA ([0, 1, 2, 3] ++ [4, 5, 6, 7, 8, 9, 10, 11, 12, 13, 14]) (hi_2 (hi_L rfl (hi_L rfl tr_hi)) (hi_L rfl (hi_R rfl st_hi))) rfl (vs_2 rfl (vs_L rfl (vs_L rfl tr_all)) (vs_L rfl (vs_R rfl st_all))) (fun H locs hP hD hS => ?_)
  refine W.eq (g2 := F0 m 17 ls []) rfl ?_
  refine lv_aload_n hx hb dX1_wash_17 rfl (lv_at hl 0 rfl) ?_
  obtain ⟨⟨q_10, q_11⟩, hv_12, h⟩ := bn_l h
  refine Cx_go (vx_runV (As := []) (rest := []) ⟨hx, hb, hml, hown, hts⟩ (c_X1_remember l hst D k cA nA tA T N V tl hT (.inr (q_10, q_11)) hv_12 _) (cwV 0 hts gX1_wash_X1_remember rfl rfl rfl (by decide +kernel) ⟨Nat.le_of_ble_eq_true rfl, Nat.le_of_ble_eq_true rfl⟩) ⟨Px_blind, va_recv (q0 := 0) (ci := 1) hK hP rfl rfl, Px_at (wc := trW k cA nA tA T ++ stW k nA N ++ tl) hK hG hP hD hS hA (List.range (trW k cA nA tA T ++ stW k nA N ++ tl).length) (rg_hi0 _) (rg_nd _)⟩ rfl rfl hl.1 rfl (Nat.le_of_ble_eq_true rfl) dX1_wash_18 ⟨Nat.le_of_ble_eq_true rfl, Nat.le_of_ble_eq_true rfl⟩) hP hD hS hA (List.range (trW k cA nA tA T ++ stW k nA N ++ tl).length) (rg_hi0 _) (fun _ _ _ _ _ h1 => by have h1 : (Sum.inr _ : Oc) = Sum.inl _ := h1; cases h1) ?_
  intro ov B wc1 H1 locs1 h1 hB hP1 hD1 hk1 hF1 hS1
  have h1 := Sum.inr.inj (show (Sum.inr _ : Oc) = Sum.inr B from h1)
  subst h1
  clear hT
  obtain ⟨rfl, tl_13, hT, rfl⟩ := hB
  have hD9 := hD1.weaken (fun _ q _ h => hF1 q.1 h)
  clear hP hD hS hD1 hk1 hF1
  generalize H1 = H at hP1 hS1 ⊢
  generalize locs1 = locs at hS1 ⊢
  have hP : va_P D vwCl (trW k cA nA tA q_10 ++ stW k nA N ++ tl_13) H := hP1
  have hD : va_D A (trW k cA nA tA q_10 ++ stW k nA N ++ tl_13) := hD9
  have hS := hS1
  clear hP1 hD9 hS1
  refine W.eq (g2 := F0 m 21 ls []) rfl ?_
  refine lv_aload_n hx hb dX1_wash_21 rfl (lv_at hl 0 rfl) ?_
  refine va_get (D := D) (ci := 1) (v := .ref (nA 0)) (C := RX1) (T := TX1) (N := 11) hx hb hts w_1 hown hK hP 0 rfl rfl 3 (by decide) w_0 (fun _ h9 => h9) rfl dX1_wash_22 ?_
  refine va_getN (D := D) (ci := 0) (v := .ref (nA 10)) (C := RX0) (T := TX0) (N := 12) hx hb hts w_3 hown hK hP 4 rfl rfl 11 (by decide) w_2 (fun _ h9 => h9) rfl dX1_wash_25 ?_
  refine lv_iload_n hx hb dX1_wash_28 rfl (lv_at hl 1 rfl) ?_
  refine lv_iload_n hx hb dX1_wash_29 rfl (lv_at hl 2 rfl) ?_
  have g_14 := inb_vp (gb_l h)
  have h := gb_r h
  refine va_iast hx hb hK hP hD hS 14 0 rfl rfl g_14 dX1_wash_30 (fun H locs hP hD hS => ?_)
  obtain ⟨q_15, eq_15⟩ : ∃ y : StV, y = su_lef N (upd (s_lef N) p1.toNatClampNeg p2) := ⟨_, rfl⟩
  have hP : va_P D vwCl (trW k cA nA tA q_10 ++ stW k nA q_15 ++ tl_13) H := by rw [eq_15, ← st_set_lef k nA N _, ← set_appR3 (A := trW k cA nA tA q_10) (q := 14) (q' := 10) rfl, ← set_appL1 (Nat.le_of_ble_eq_true rfl)]; exact hP
  have hD : va_D A (trW k cA nA tA q_10 ++ stW k nA q_15 ++ tl_13) := by rw [eq_15, ← st_set_lef k nA N _, ← set_appR3 (A := trW k cA nA tA q_10) (q := 14) (q' := 10) rfl, ← set_appL1 (Nat.le_of_ble_eq_true rfl)]; exact hD
  have h := nm_l h eq_15
  refine lv_aload_n hx hb dX1_wash_31 rfl (lv_at hl 0 rfl) ?_
  refine va_get (D := D) (ci := 1) (v := .ref (nA 0)) (C := RX1) (T := TX1) (N := 11) hx hb hts w_1 hown hK hP 0 rfl rfl 3 (by decide) w_0 (fun _ h9 => h9) rfl dX1_wash_32 ?_
  obtain ⟨v_16, hv_17, h⟩ := bd_l h
  refine Ck_VN (As := []) (rest := []) (wc := stW k nA q_15) (wc' := stW k nA q_15) (w0' := trW k cA nA tA q_10 ++ stW k nA q_15 ++ tl_13) ⟨hx, hb, hml, hown, hts⟩ (c_X0_washedEffects l D k nA q_15 v_16 hv_17) ⟨va_cnB 0 hts gX1_wash_X0_washedEffects_n100 rfl rfl rfl w_4 w_5 (by decide +kernel) ⟨Nat.le_of_ble_eq_true rfl, Nat.le_of_ble_eq_true rfl⟩, w_6, w_7⟩ hK hP hD hS hA (q0 := 4) (ci := 0) rfl rfl ([4, 5, 6, 7, 8, 9, 10, 11, 12, 13, 14]) (hi_L rfl (hi_R rfl st_hi)) (by decide) rfl (vs_L rfl (vs_R rfl st_all)) rfl hl.1 rfl (Nat.le_of_ble_eq_true rfl) dX1_wash_35 ⟨Nat.le_of_ble_eq_true rfl, Nat.le_of_ble_eq_true rfl⟩ (fun H locs hP hD hS => ?_)
  refine W.eq (g2 := F0 m 38 ls [.int v_16]) rfl ?_
  cases h
  exact Cx_iret hO ⟨rfl, _, hT, rfl⟩ (Nat.le_of_ble_eq_true rfl) (Nat.le_of_ble_eq_true rfl) hx hb hr hP hD hS dX1_wash_38 hlocks
def f_X1_endWash (T : TrV) (N : StV) (V : PoV) (p1 : Int32) : Option (String ⊕ (Int32 × TrV × StV × PoV)) := bx (f_X1_checkEffect T N p1) fun ⟨⟩ => gb (inb p1 6) <| nm ((s_lef N) p1.toNatClampNeg) fun v_5 => if v_5 = 0 then (some (.inl "java/lang/IllegalStateException")) else (bn (f_X1_remember T N V) fun ⟨q_7, q_8⟩ => gb (inb p1 6) <| nm (su_lef N (upd (s_lef N) p1.toNatClampNeg 0)) fun q_12 => some (.inr (v_5, q_7, q_12, q_8)))
set_option maxRecDepth 100000 in
set_option maxHeartbeats 4000000 in
theorem c_X1_endWash (l : Launch) (hst : l.stackTraces = false) (D : va_G) (k : Nat → ClassId) (cA : Nat → Nat) (nA : Nat → Nat) (tA : Nat → Nat) (T : TrV) (N : StV) (V : PoV) (p1 : Int32) (tl : va_W) (hT : PoIs k cA V tl) (o : String ⊕ (Int32 × TrV × StV × PoV)) (h : f_X1_endWash T N V p1 = some o) : Cx l D (tyK k) yX1_endWash wsX1_endWash ({ frames := 7, cells := 12, slots := 81, locals := 103 } : Room) [.ref (cA 0), .int p1] (trW k cA nA tA T ++ stW k nA N ++ tl) (trW k cA nA tA T ++ stW k nA N ++ tl) (Sum.map id (fun r : Int32 × TrV × StV × PoV => fun (ov : Option Value) (w : va_W) => ov = (some (.int r.1) : Option Value) ∧ ∃ tl9 : va_W, PoIs k cA r.2.2.2 tl9 ∧ w = trW k cA nA tA r.2.1 ++ stW k nA r.2.2.1 ++ tl9) o) := by
  obtain ⟨O, hO⟩ : ∃ O : Oc, O = Sum.map id (fun r : Int32 × TrV × StV × PoV => fun (ov : Option Value) (w : va_W) => ov = (some (.int r.1) : Option Value) ∧ ∃ tl9 : va_W, PoIs k cA r.2.2.2 tl9 ∧ w = trW k cA nA tA r.2.1 ++ stW k nA r.2.2.1 ++ tl9) o := ⟨_, rfl⟩
  rw [← hO]
  refine Cx_of (cc := cX1_endWash) (maxL := 3) (ret := (some .int)) (by decide) rfl (Nat.le_of_ble_eq_true rfl) ?_
  intro p e s m args below meth c A ls hx hb hr hml hts hown hlocks hnm htab hK hG hA hP hD hS hl
  have hl : lv_has ls 3 [(0, .ref (cA 0)), (1, .int p1)] := hl
  have hP : va_P D vwCl (trW k cA nA tA T ++ stW k nA N ++ tl) s.heap := hP
  have w_0 := hts (.fieldLink RX1 24 "EffectTrain" "now" "LEffectTrain$State;") (by decide +kernel)
  have w_1 : ∀ w ∈ wsX10, w ∈ wsX1_endWash := by decide +kernel
  have w_2 : (Cond.fieldLinkNest RX1 144 "EffectTrain$State" "left" "[I" "EffectTrain").before args s = true := va_Nw.use rfl (hG.2.2.2.2.1 (144, "EffectTrain$State", "left", "[I", "EffectTrain") (by decide +kernel))
  have w_3 : ∀ w ∈ wsX00, w ∈ wsX1_endWash := by decide +kernel
  have w_4 := hts (.classLink RX1 55 "java/lang/IllegalStateException") (by decide +kernel)
  have w_5 := hts (.initialized "java/lang/IllegalStateException") (by decide +kernel)
  have w_6 : ∃ sa : Nat, vk_R RX1 147 "the effect works" sa s := hG.2.2.2.1 (147, "the effect works") (by decide +kernel)
  have w_7 := vx_hat (L := vx_atS RX1 59 "java/lang/IllegalStateException" ["java/lang/RuntimeException", "java/lang/Exception"]) (fun w hw => hts w (by revert w; decide +kernel)) (B := [Cond.castable "java/lang/IllegalStateException" "java/lang/IllegalStateException", Cond.declares (Bundle.initS "java/lang/RuntimeException"), Cond.declares (Bundle.initS "java/lang/Exception"), Cond.declares (Bundle.initS "java/lang/Throwable")]) (by decide +kernel) (vx_c (va_Nw.use rfl (hG.2.2.1.2.1 "java/lang/IllegalStateException" (by decide +kernel))) <| vx_c (va_Nw.use rfl (hG.2.2.1.2.2 "java/lang/RuntimeException" (by decide +kernel))) <| vx_c (va_Nw.use rfl (hG.2.2.1.2.2 "java/lang/Exception" (by decide +kernel))) <| vx_c (va_Nw.use rfl (hG.2.2.1.2.2 "java/lang/Throwable" (by decide +kernel))) vx_n)
  unfold f_X1_endWash at h
  refine lv_aload_n hx hb dX1_endWash_0 rfl (lv_at hl 0 rfl) ?_
  refine lv_iload_n hx hb dX1_endWash_1 rfl (lv_at hl 1 rfl) ?_
  rcases bx_l h with ⟨E_2, hv_1, ho_3⟩ | ⟨⟨⟩, hv_1, h⟩
  · subst ho_3
    exact Cx_thru (w0 := trW k cA nA tA T ++ stW k nA N ++ tl) hO rfl (vx_runV (As := [.int p1]) (rest := []) ⟨hx, hb, hml, hown, hts⟩ (c_X1_checkEffect l hst D k cA nA tA T N p1 (.inl E_2) hv_1 _) (cwV 1 hts gX1_endWash_X1_checkEffect rfl rfl rfl (by decide +kernel) ⟨Nat.le_of_ble_eq_true rfl, Nat.le_of_ble_eq_true rfl⟩) ⟨Px_blind, va_recv (q0 := 0) (ci := 1) hK hP rfl rfl, Px_at (wc := trW k cA nA tA T ++ stW k nA N) hK hG hP hD hS hA ([0, 1, 2, 3] ++ [4, 5, 6, 7, 8, 9, 10, 11, 12, 13, 14]) (hi_2 (hi_L rfl (hi_L rfl tr_hi)) (hi_L rfl (hi_R rfl st_hi))) (by decide)⟩ rfl rfl hl.1 rfl (Nat.le_of_ble_eq_true rfl) dX1_endWash_2 ⟨Nat.le_of_ble_eq_true rfl, Nat.le_of_ble_eq_true rfl⟩) hP hD hS hA ([0, 1, 2, 3] ++ [4, 5, 6, 7, 8, 9, 10, 11, 12, 13, 14]) (hi_2 (hi_L rfl (hi_L rfl tr_hi)) (hi_L rfl (hi_R rfl st_hi))) htab hlocks (Nat.le_of_ble_eq_true rfl) (Nat.le_of_ble_eq_true rfl)
  refine Cx_in (w0' := trW k cA nA tA T ++ stW k nA N ++ tl) (wc' := trW k cA nA tA T ++ stW k nA N) rfl (vx_runV (As := [.int p1]) (rest := []) ⟨hx, hb, hml, hown, hts⟩ (c_X1_checkEffect l hst D k cA nA tA T N p1 (.inr ()) hv_1 _) (cwV 1 hts gX1_endWash_X1_checkEffect rfl rfl rfl (by decide +kernel) ⟨Nat.le_of_ble_eq_true rfl, Nat.le_of_ble_eq_true rfl⟩) ⟨Px_blind, va_recv (q0 := 0) (ci := 1) hK hP rfl rfl, Px_at (wc := trW k cA nA tA T ++ stW k nA N) hK hG hP hD hS hA ([0, 1, 2, 3] ++ [4, 5, 6, 7, 8, 9, 10, 11, 12, 13, 14]) (hi_2 (hi_L rfl (hi_L rfl tr_hi)) (hi_L rfl (hi_R rfl st_hi))) (by decide)⟩ rfl rfl hl.1 rfl (Nat.le_of_ble_eq_true rfl) dX1_endWash_2 ⟨Nat.le_of_ble_eq_true rfl, Nat.le_of_ble_eq_true rfl⟩) hP hD hS hA ([0, 1, 2, 3] ++ [4, 5, 6, 7, 8, 9, 10, 11, 12, 13, 14]) (hi_2 (hi_L rfl (hi_L rfl tr_hi)) (hi_L rfl (hi_R rfl st_hi))) rfl (vs_2 rfl (vs_L rfl (vs_L rfl tr_all)) (vs_L rfl (vs_R rfl st_all))) (fun H locs hP hD hS => ?_)
  refine W.eq (g2 := F0 m 5 ls []) rfl ?_
  refine lv_aload_n hx hb dX1_endWash_5 rfl (lv_at hl 0 rfl) ?_
  refine va_get (D := D) (ci := 1) (v := .ref (nA 0)) (C := RX1) (T := TX1) (N := 11) hx hb hts w_1 hown hK hP 0 rfl rfl 3 (by decide) w_0 (fun _ h9 => h9) rfl dX1_endWash_6 ?_
  refine va_getN (D := D) (ci := 0) (v := .ref (nA 10)) (C := RX0) (T := TX0) (N := 12) hx hb hts w_3 hown hK hP 4 rfl rfl 11 (by decide) w_2 (fun _ h9 => h9) rfl dX1_endWash_9 ?_
  refine lv_iload_n hx hb dX1_endWash_12 rfl (lv_at hl 1 rfl) ?_
  have g_4 := inb_vp (gb_l h)
  have h := gb_r h
  refine va_iald hx hb hK hP 14 0 rfl rfl g_4 dX1_endWash_13 ?_
  refine lv_topi (fun v_5 ev_5 => ?_)
  have h := nm_l h ev_5
  refine lv_istore_n (lv' := [(2, .int v_5), (0, .ref (cA 0)), (1, .int p1)]) hx hb dX1_endWash_14 rfl hl (by decide) rfl (fun ls hl => ?_)
  refine lv_iload_n hx hb dX1_endWash_15 rfl (lv_at hl 0 rfl) ?_
  refine lv_if_ne (tgt := 29) hx hb dX1_endWash_16 (by decide) (fun c_6 => ?_) (fun c_6 => ?_)
  · have h := it_r c_6 h
    refine lv_aload_n hx hb dX1_endWash_29 rfl (lv_at hl 1 rfl) ?_
    obtain ⟨⟨q_7, q_8⟩, hv_9, h⟩ := bn_l h
    refine Cx_go (vx_runV (As := []) (rest := []) ⟨hx, hb, hml, hown, hts⟩ (c_X1_remember l hst D k cA nA tA T N V tl hT (.inr (q_7, q_8)) hv_9 _) (cwV 0 hts gX1_endWash_X1_remember rfl rfl rfl (by decide +kernel) ⟨Nat.le_of_ble_eq_true rfl, Nat.le_of_ble_eq_true rfl⟩) ⟨Px_blind, va_recv (q0 := 0) (ci := 1) hK hP rfl rfl, Px_at (wc := trW k cA nA tA T ++ stW k nA N ++ tl) hK hG hP hD hS hA (List.range (trW k cA nA tA T ++ stW k nA N ++ tl).length) (rg_hi0 _) (rg_nd _)⟩ rfl rfl hl.1 rfl (Nat.le_of_ble_eq_true rfl) dX1_endWash_30 ⟨Nat.le_of_ble_eq_true rfl, Nat.le_of_ble_eq_true rfl⟩) hP hD hS hA (List.range (trW k cA nA tA T ++ stW k nA N ++ tl).length) (rg_hi0 _) (fun _ _ _ _ _ h1 => by have h1 : (Sum.inr _ : Oc) = Sum.inl _ := h1; cases h1) ?_
    intro ov B wc1 H1 locs1 h1 hB hP1 hD1 hk1 hF1 hS1
    have h1 := Sum.inr.inj (show (Sum.inr _ : Oc) = Sum.inr B from h1)
    subst h1
    clear hT
    obtain ⟨rfl, tl_10, hT, rfl⟩ := hB
    have hD9 := hD1.weaken (fun _ q _ h => hF1 q.1 h)
    clear hP hD hS hD1 hk1 hF1
    generalize H1 = H at hP1 hS1 ⊢
    generalize locs1 = locs at hS1 ⊢
    have hP : va_P D vwCl (trW k cA nA tA q_7 ++ stW k nA N ++ tl_10) H := hP1
    have hD : va_D A (trW k cA nA tA q_7 ++ stW k nA N ++ tl_10) := hD9
    have hS := hS1
    clear hP1 hD9 hS1
    refine W.eq (g2 := F0 m 33 ls []) rfl ?_
    refine lv_aload_n hx hb dX1_endWash_33 rfl (lv_at hl 1 rfl) ?_
    refine va_get (D := D) (ci := 1) (v := .ref (nA 0)) (C := RX1) (T := TX1) (N := 11) hx hb hts w_1 hown hK hP 0 rfl rfl 3 (by decide) w_0 (fun _ h9 => h9) rfl dX1_endWash_34 ?_
    refine va_getN (D := D) (ci := 0) (v := .ref (nA 10)) (C := RX0) (T := TX0) (N := 12) hx hb hts w_3 hown hK hP 4 rfl rfl 11 (by decide) w_2 (fun _ h9 => h9) rfl dX1_endWash_37 ?_
    refine lv_iload_n hx hb dX1_endWash_40 rfl (lv_at hl 2 rfl) ?_
    refine lv_iconst (v := 0) hx hb dX1_endWash_41 (by decide) ?_
    have g_11 := inb_vp (gb_l h)
    have h := gb_r h
    refine va_iast hx hb hK hP hD hS 14 0 rfl rfl g_11 dX1_endWash_42 (fun H locs hP hD hS => ?_)
    obtain ⟨q_12, eq_12⟩ : ∃ y : StV, y = su_lef N (upd (s_lef N) p1.toNatClampNeg 0) := ⟨_, rfl⟩
    have hP : va_P D vwCl (trW k cA nA tA q_7 ++ stW k nA q_12 ++ tl_10) H := by rw [eq_12, ← st_set_lef k nA N _, ← set_appR3 (A := trW k cA nA tA q_7) (q := 14) (q' := 10) rfl, ← set_appL1 (Nat.le_of_ble_eq_true rfl)]; exact hP
    have hD : va_D A (trW k cA nA tA q_7 ++ stW k nA q_12 ++ tl_10) := by rw [eq_12, ← st_set_lef k nA N _, ← set_appR3 (A := trW k cA nA tA q_7) (q := 14) (q' := 10) rfl, ← set_appL1 (Nat.le_of_ble_eq_true rfl)]; exact hD
    have h := nm_l h eq_12
    refine lv_iload_n hx hb dX1_endWash_43 rfl (lv_at hl 0 rfl) ?_
    cases h
    exact Cx_iret hO ⟨rfl, _, hT, rfl⟩ (Nat.le_of_ble_eq_true rfl) (Nat.le_of_ble_eq_true rfl) hx hb hr hP hD hS dX1_endWash_44 hlocks
  · have h := it_l c_6 h
    cases h
    exact Cx_throw (names := ["java/lang/RuntimeException", "java/lang/Exception"]) (show O = Sum.inl "java/lang/IllegalStateException" from hO) hx hb hst hown rfl (by decide) w_4 w_5 w_6 w_7 (by decide +kernel) hG hP hS (hl.1.trans hml.symm) dX1_endWash_19 dX1_endWash_22 dX1_endWash_23 dX1_endWash_25 dX1_endWash_28 htab (Nat.le_of_ble_eq_true rfl) (Nat.le_of_ble_eq_true rfl) (Nat.le_of_ble_eq_true rfl) (Nat.le_of_ble_eq_true rfl) hlocks (Nat.le_of_ble_eq_true rfl) (Nat.le_of_ble_eq_true rfl)
def f_X1_undo (T : TrV) (N : StV) (V : PoV) : Option (String ⊕ (Int32 × TrV × StV × PoV)) := if (tr_rcn T) = 0 then (some (.inl "java/lang/IllegalStateException")) else (gb (inb (tr_nws T) 14) <| bd (f_X0_copyFrom N (sq V (3 + (tr_nws T).toNatClampNeg))) fun q_5 => if (tr_nws T) ≤ 0 then (nm (tu_nws T 13) fun q_8 => nm ((tr_rcn q_8) - 1) fun v_9 => nm (tu_rcn q_8 v_9) fun q_10 => some (.inr ((tr_rcn q_10), q_10, q_5, uq V (3 + (tr_nws T).toNatClampNeg) (sq V (3 + (tr_nws T).toNatClampNeg))))) else (nm ((tr_nws T) - 1) fun v_11 => nm (tu_nws T v_11) fun q_12 => nm ((tr_rcn q_12) - 1) fun v_13 => nm (tu_rcn q_12 v_13) fun q_14 => some (.inr ((tr_rcn q_14), q_14, q_5, uq V (3 + (tr_nws T).toNatClampNeg) (sq V (3 + (tr_nws T).toNatClampNeg))))))
set_option maxRecDepth 100000 in
set_option maxHeartbeats 4000000 in
theorem c_X1_undo (l : Launch) (hst : l.stackTraces = false) (D : va_G) (k : Nat → ClassId) (cA : Nat → Nat) (nA : Nat → Nat) (tA : Nat → Nat) (T : TrV) (N : StV) (V : PoV) (tl : va_W) (hT : PoIs k cA V tl) (o : String ⊕ (Int32 × TrV × StV × PoV)) (h : f_X1_undo T N V = some o) : Cx l D (tyK k) yX1_undo wsX1_undo ({ frames := 6, cells := 11, slots := 75, locals := 82 } : Room) [.ref (cA 0)] (trW k cA nA tA T ++ stW k nA N ++ tl) (trW k cA nA tA T ++ stW k nA N ++ tl) (Sum.map id (fun r : Int32 × TrV × StV × PoV => fun (ov : Option Value) (w : va_W) => ov = (some (.int r.1) : Option Value) ∧ ∃ tl9 : va_W, PoIs k cA r.2.2.2 tl9 ∧ w = trW k cA nA tA r.2.1 ++ stW k nA r.2.2.1 ++ tl9) o) := by
  obtain ⟨O, hO⟩ : ∃ O : Oc, O = Sum.map id (fun r : Int32 × TrV × StV × PoV => fun (ov : Option Value) (w : va_W) => ov = (some (.int r.1) : Option Value) ∧ ∃ tl9 : va_W, PoIs k cA r.2.2.2 tl9 ∧ w = trW k cA nA tA r.2.1 ++ stW k nA r.2.2.1 ++ tl9) o := ⟨_, rfl⟩
  rw [← hO]
  refine Cx_of (cc := cX1_undo) (maxL := 1) (ret := (some .int)) (by decide) rfl (Nat.le_of_ble_eq_true rfl) ?_
  intro p e s m args below meth c A ls hx hb hr hml hts hown hlocks hnm htab hK hG hA hP hD hS hl
  have hl : lv_has ls 1 [(0, .ref (cA 0))] := hl
  have hP : va_P D vwCl (trW k cA nA tA T ++ stW k nA N ++ tl) s.heap := hP
  have w_0 := hts (.fieldLink RX1 41 "EffectTrain" "rememberedCount" "I") (by decide +kernel)
  have w_1 : ∀ w ∈ wsX10, w ∈ wsX1_undo := by decide +kernel
  have w_2 := hts (.fieldLink RX1 24 "EffectTrain" "now" "LEffectTrain$State;") (by decide +kernel)
  have w_3 := hts (.fieldLink RX1 35 "EffectTrain" "remembered" "[LEffectTrain$State;") (by decide +kernel)
  have w_4 := hts (.fieldLink RX1 38 "EffectTrain" "newest" "I") (by decide +kernel)
  have w_5 : va_Nw (.methodLinkNest RX1 155 yX0_copyFrom "EffectTrain") s := hG.2.2.2.2.2 (155, yX0_copyFrom, "EffectTrain") (by decide +kernel)
  have w_6 := hts (.initialized RX0) (by decide +kernel)
  have w_7 := hts (.instanceMethod yX0_copyFrom) (by decide +kernel)
  have w_8 := hts (.selects RX0 yX0_copyFrom yX0_copyFrom) (by decide +kernel)
  have w_9 := hts (.classLink RX1 55 "java/lang/IllegalStateException") (by decide +kernel)
  have w_10 := hts (.initialized "java/lang/IllegalStateException") (by decide +kernel)
  have w_11 : ∃ sa : Nat, vk_R RX1 149 "no state is remembered" sa s := hG.2.2.2.1 (149, "no state is remembered") (by decide +kernel)
  have w_12 := vx_hat (L := vx_atS RX1 59 "java/lang/IllegalStateException" ["java/lang/RuntimeException", "java/lang/Exception"]) (fun w hw => hts w (by revert w; decide +kernel)) (B := [Cond.castable "java/lang/IllegalStateException" "java/lang/IllegalStateException", Cond.declares (Bundle.initS "java/lang/RuntimeException"), Cond.declares (Bundle.initS "java/lang/Exception"), Cond.declares (Bundle.initS "java/lang/Throwable")]) (by decide +kernel) (vx_c (va_Nw.use rfl (hG.2.2.1.2.1 "java/lang/IllegalStateException" (by decide +kernel))) <| vx_c (va_Nw.use rfl (hG.2.2.1.2.2 "java/lang/RuntimeException" (by decide +kernel))) <| vx_c (va_Nw.use rfl (hG.2.2.1.2.2 "java/lang/Exception" (by decide +kernel))) <| vx_c (va_Nw.use rfl (hG.2.2.1.2.2 "java/lang/Throwable" (by decide +kernel))) vx_n)
  unfold f_X1_undo at h
  refine lv_aload_n hx hb dX1_undo_0 rfl (lv_at hl 0 rfl) ?_
  refine va_get (D := D) (ci := 1) (v := .int (tr_rcn T)) (C := RX1) (T := TX1) (N := 11) hx hb hts w_1 hown hK hP 0 rfl rfl 8 (by decide) w_0 (fun _ h9 => h9) rfl dX1_undo_1 ?_
  refine lv_if_ne (tgt := 17) hx hb dX1_undo_4 (by decide) (fun c_1 => ?_) (fun c_1 => ?_)
  · have h := it_r c_1 h
    refine lv_aload_n hx hb dX1_undo_17 rfl (lv_at hl 0 rfl) ?_
    refine va_get (D := D) (ci := 1) (v := .ref (nA 0)) (C := RX1) (T := TX1) (N := 11) hx hb hts w_1 hown hK hP 0 rfl rfl 3 (by decide) w_2 (fun _ h9 => h9) rfl dX1_undo_18 ?_
    refine lv_aload_n hx hb dX1_undo_21 rfl (lv_at hl 0 rfl) ?_
    refine va_get (D := D) (ci := 1) (v := .ref (cA 4)) (C := RX1) (T := TX1) (N := 11) hx hb hts w_1 hown hK hP 0 rfl rfl 6 (by decide) w_3 (fun _ h9 => h9) rfl dX1_undo_22 ?_
    refine lv_aload_n hx hb dX1_undo_25 rfl (lv_at hl 0 rfl) ?_
    refine va_get (D := D) (ci := 1) (v := .int (tr_nws T)) (C := RX1) (T := TX1) (N := 11) hx hb hts w_1 hown hK hP 0 rfl rfl 7 (by decide) w_4 (fun _ h9 => h9) rfl dX1_undo_26 ?_
    have g_2 := inb_vp (gb_l h)
    have h := gb_r h
    refine st_callI 4 3 14 hst ⟨hx, hb, hml, hown, hts⟩ (va_cwS 2 hts gX1_undo_X1_stateAt rfl rfl rfl (by decide +kernel) ⟨Nat.le_of_ble_eq_true rfl, Nat.le_of_ble_eq_true rfl⟩) hK hG hP hD hS hA hT (by decide) g_2 hl.1 (Nat.le_of_ble_eq_true rfl) dX1_undo_29 ⟨Nat.le_of_ble_eq_true rfl, Nat.le_of_ble_eq_true rfl⟩ (fun b_3 tl_4 H locs hT hP hD hS => ?_)
    refine W.eq (g2 := F0 m 32 ls [.ref (b_3 0), .ref (nA 0)]) rfl ?_
    obtain ⟨q_5, hv_6, h⟩ := bd_l h
    refine Ck_VN (As := [.ref (b_3 0)]) (rest := []) (wc := stW k nA N ++ stW k b_3 (sq V (3 + (tr_nws T).toNatClampNeg))) (wc' := stW k nA q_5 ++ stW k b_3 (sq V (3 + (tr_nws T).toNatClampNeg))) (w0' := trW k cA nA tA T ++ stW k nA q_5 ++ stW k b_3 (sq V (3 + (tr_nws T).toNatClampNeg)) ++ tl_4) ⟨hx, hb, hml, hown, hts⟩ (c_X0_copyFrom l D k nA b_3 N (sq V (3 + (tr_nws T).toNatClampNeg)) q_5 hv_6) ⟨va_cnB 1 hts gX1_undo_X0_copyFrom_n155 rfl rfl rfl w_5 w_6 (by decide +kernel) ⟨Nat.le_of_ble_eq_true rfl, Nat.le_of_ble_eq_true rfl⟩, w_7, w_8⟩ hK hP hD hS hA (q0 := 4) (ci := 0) rfl rfl ([4, 5, 6, 7, 8, 9, 10, 11, 12, 13, 14] ++ [15, 16, 17, 18, 19, 20, 21, 22, 23, 24, 25]) (hi_2 (hi_L rfl (hi_L rfl (hi_R rfl st_hi))) (hi_L rfl (hi_R rfl st_hi))) (by decide) rfl (vs_2 rfl (vs_L rfl (vs_L rfl (vs_R rfl st_all))) (vs_L rfl (vs_R rfl st_all))) rfl hl.1 rfl (Nat.le_of_ble_eq_true rfl) dX1_undo_32 ⟨Nat.le_of_ble_eq_true rfl, Nat.le_of_ble_eq_true rfl⟩ (fun H locs hP hD hS => ?_)
    refine W.eq (g2 := F0 m 35 ls []) rfl ?_
    refine lv_aload_n hx hb dX1_undo_35 rfl (lv_at hl 0 rfl) ?_
    refine lv_aload_n hx hb dX1_undo_36 rfl (lv_at hl 0 rfl) ?_
    refine va_get (D := D) (ci := 1) (v := .int (tr_nws T)) (C := RX1) (T := TX1) (N := 11) hx hb hts w_1 hown hK hP 0 rfl rfl 7 (by decide) w_4 (fun _ h9 => h9) rfl dX1_undo_37 ?_
    refine lv_if_le (tgt := 52) hx hb dX1_undo_40 (by decide) (fun c_7 => ?_) (fun c_7 => ?_)
    · have h := it_l c_7 h
      refine lv_bipush (v := 13) hx hb dX1_undo_52 (by decide) ?_
      refine va_put (D := D) (ci := 1) (v := .int 13) (ty := .int) (C := RX1) (T := TX1) (N := 11) hx hb hts w_1 tyX1 tyX1_ok nmX1 hown hK hP hD hS 0 rfl rfl 7 (by decide) w_4 (fun _ h9 => h9) rfl (by decide +kernel) rfl rfl (Nat.le_of_ble_eq_true rfl) dX1_undo_54 (fun H locs hP hD hS => ?_)
      obtain ⟨q_8, eq_8⟩ : ∃ y : TrV, y = tu_nws T 13 := ⟨_, rfl⟩
      have hP : va_P D vwCl (trW k cA nA tA q_8 ++ stW k nA q_5 ++ stW k b_3 (sq V (3 + (tr_nws T).toNatClampNeg)) ++ tl_4) H := by rw [eq_8, ← tr_set_nws k cA nA tA T _, ← set_appL1 (Nat.le_of_ble_eq_true rfl), ← set_appL1 (Nat.le_of_ble_eq_true rfl), ← set_appL1 (Nat.le_of_ble_eq_true rfl)]; exact hP
      have hD : va_D A (trW k cA nA tA q_8 ++ stW k nA q_5 ++ stW k b_3 (sq V (3 + (tr_nws T).toNatClampNeg)) ++ tl_4) := by rw [eq_8, ← tr_set_nws k cA nA tA T _, ← set_appL1 (Nat.le_of_ble_eq_true rfl), ← set_appL1 (Nat.le_of_ble_eq_true rfl), ← set_appL1 (Nat.le_of_ble_eq_true rfl)]; exact hD
      have h := nm_l h eq_8
      refine lv_aload_n hx hb dX1_undo_57 rfl (lv_at hl 0 rfl) ?_
      refine lv_dup hx hb dX1_undo_58 rfl ?_
      refine va_get (D := D) (ci := 1) (v := .int (tr_rcn q_8)) (C := RX1) (T := TX1) (N := 11) hx hb hts w_1 hown hK hP 0 rfl rfl 8 (by decide) w_0 (fun _ h9 => h9) rfl dX1_undo_59 ?_
      refine lv_iconst (v := 1) hx hb dX1_undo_62 (by decide) ?_
      refine lv_isub hx hb dX1_undo_63 ?_
      refine lv_topi (fun v_9 ev_9 => ?_)
      have h := nm_l h ev_9
      refine va_put (D := D) (ci := 1) (v := .int v_9) (ty := .int) (C := RX1) (T := TX1) (N := 11) hx hb hts w_1 tyX1 tyX1_ok nmX1 hown hK hP hD hS 0 rfl rfl 8 (by decide) w_0 (fun _ h9 => h9) rfl (by decide +kernel) rfl rfl (Nat.le_of_ble_eq_true rfl) dX1_undo_64 (fun H locs hP hD hS => ?_)
      obtain ⟨q_10, eq_10⟩ : ∃ y : TrV, y = tu_rcn q_8 v_9 := ⟨_, rfl⟩
      have hP : va_P D vwCl (trW k cA nA tA q_10 ++ stW k nA q_5 ++ stW k b_3 (sq V (3 + (tr_nws T).toNatClampNeg)) ++ tl_4) H := by rw [eq_10, ← tr_set_rcn k cA nA tA q_8 _, ← set_appL1 (Nat.le_of_ble_eq_true rfl), ← set_appL1 (Nat.le_of_ble_eq_true rfl), ← set_appL1 (Nat.le_of_ble_eq_true rfl)]; exact hP
      have hD : va_D A (trW k cA nA tA q_10 ++ stW k nA q_5 ++ stW k b_3 (sq V (3 + (tr_nws T).toNatClampNeg)) ++ tl_4) := by rw [eq_10, ← tr_set_rcn k cA nA tA q_8 _, ← set_appL1 (Nat.le_of_ble_eq_true rfl), ← set_appL1 (Nat.le_of_ble_eq_true rfl), ← set_appL1 (Nat.le_of_ble_eq_true rfl)]; exact hD
      have h := nm_l h eq_10
      refine lv_aload_n hx hb dX1_undo_67 rfl (lv_at hl 0 rfl) ?_
      refine va_get (D := D) (ci := 1) (v := .int (tr_rcn q_10)) (C := RX1) (T := TX1) (N := 11) hx hb hts w_1 hown hK hP 0 rfl rfl 8 (by decide) w_0 (fun _ h9 => h9) rfl dX1_undo_68 ?_
      cases h
      exact Cx_iret hO ⟨rfl, _, hT _, List.append_assoc _ _ _⟩ (Nat.le_of_ble_eq_true rfl) (Nat.le_of_ble_eq_true rfl) hx hb hr hP hD hS dX1_undo_71 hlocks
    · have h := it_r c_7 h
      refine lv_aload_n hx hb dX1_undo_43 rfl (lv_at hl 0 rfl) ?_
      refine va_get (D := D) (ci := 1) (v := .int (tr_nws T)) (C := RX1) (T := TX1) (N := 11) hx hb hts w_1 hown hK hP 0 rfl rfl 7 (by decide) w_4 (fun _ h9 => h9) rfl dX1_undo_44 ?_
      refine lv_iconst (v := 1) hx hb dX1_undo_47 (by decide) ?_
      refine lv_isub hx hb dX1_undo_48 ?_
      refine lv_goto (tgt := 54) hx hb dX1_undo_49 (by decide) ?_
      refine lv_topi (fun v_11 ev_11 => ?_)
      have h := nm_l h ev_11
      refine va_put (D := D) (ci := 1) (v := .int v_11) (ty := .int) (C := RX1) (T := TX1) (N := 11) hx hb hts w_1 tyX1 tyX1_ok nmX1 hown hK hP hD hS 0 rfl rfl 7 (by decide) w_4 (fun _ h9 => h9) rfl (by decide +kernel) rfl rfl (Nat.le_of_ble_eq_true rfl) dX1_undo_54 (fun H locs hP hD hS => ?_)
      obtain ⟨q_12, eq_12⟩ : ∃ y : TrV, y = tu_nws T v_11 := ⟨_, rfl⟩
      have hP : va_P D vwCl (trW k cA nA tA q_12 ++ stW k nA q_5 ++ stW k b_3 (sq V (3 + (tr_nws T).toNatClampNeg)) ++ tl_4) H := by rw [eq_12, ← tr_set_nws k cA nA tA T _, ← set_appL1 (Nat.le_of_ble_eq_true rfl), ← set_appL1 (Nat.le_of_ble_eq_true rfl), ← set_appL1 (Nat.le_of_ble_eq_true rfl)]; exact hP
      have hD : va_D A (trW k cA nA tA q_12 ++ stW k nA q_5 ++ stW k b_3 (sq V (3 + (tr_nws T).toNatClampNeg)) ++ tl_4) := by rw [eq_12, ← tr_set_nws k cA nA tA T _, ← set_appL1 (Nat.le_of_ble_eq_true rfl), ← set_appL1 (Nat.le_of_ble_eq_true rfl), ← set_appL1 (Nat.le_of_ble_eq_true rfl)]; exact hD
      have h := nm_l h eq_12
      refine lv_aload_n hx hb dX1_undo_57 rfl (lv_at hl 0 rfl) ?_
      refine lv_dup hx hb dX1_undo_58 rfl ?_
      refine va_get (D := D) (ci := 1) (v := .int (tr_rcn q_12)) (C := RX1) (T := TX1) (N := 11) hx hb hts w_1 hown hK hP 0 rfl rfl 8 (by decide) w_0 (fun _ h9 => h9) rfl dX1_undo_59 ?_
      refine lv_iconst (v := 1) hx hb dX1_undo_62 (by decide) ?_
      refine lv_isub hx hb dX1_undo_63 ?_
      refine lv_topi (fun v_13 ev_13 => ?_)
      have h := nm_l h ev_13
      refine va_put (D := D) (ci := 1) (v := .int v_13) (ty := .int) (C := RX1) (T := TX1) (N := 11) hx hb hts w_1 tyX1 tyX1_ok nmX1 hown hK hP hD hS 0 rfl rfl 8 (by decide) w_0 (fun _ h9 => h9) rfl (by decide +kernel) rfl rfl (Nat.le_of_ble_eq_true rfl) dX1_undo_64 (fun H locs hP hD hS => ?_)
      obtain ⟨q_14, eq_14⟩ : ∃ y : TrV, y = tu_rcn q_12 v_13 := ⟨_, rfl⟩
      have hP : va_P D vwCl (trW k cA nA tA q_14 ++ stW k nA q_5 ++ stW k b_3 (sq V (3 + (tr_nws T).toNatClampNeg)) ++ tl_4) H := by rw [eq_14, ← tr_set_rcn k cA nA tA q_12 _, ← set_appL1 (Nat.le_of_ble_eq_true rfl), ← set_appL1 (Nat.le_of_ble_eq_true rfl), ← set_appL1 (Nat.le_of_ble_eq_true rfl)]; exact hP
      have hD : va_D A (trW k cA nA tA q_14 ++ stW k nA q_5 ++ stW k b_3 (sq V (3 + (tr_nws T).toNatClampNeg)) ++ tl_4) := by rw [eq_14, ← tr_set_rcn k cA nA tA q_12 _, ← set_appL1 (Nat.le_of_ble_eq_true rfl), ← set_appL1 (Nat.le_of_ble_eq_true rfl), ← set_appL1 (Nat.le_of_ble_eq_true rfl)]; exact hD
      have h := nm_l h eq_14
      refine lv_aload_n hx hb dX1_undo_67 rfl (lv_at hl 0 rfl) ?_
      refine va_get (D := D) (ci := 1) (v := .int (tr_rcn q_14)) (C := RX1) (T := TX1) (N := 11) hx hb hts w_1 hown hK hP 0 rfl rfl 8 (by decide) w_0 (fun _ h9 => h9) rfl dX1_undo_68 ?_
      cases h
      exact Cx_iret hO ⟨rfl, _, hT _, List.append_assoc _ _ _⟩ (Nat.le_of_ble_eq_true rfl) (Nat.le_of_ble_eq_true rfl) hx hb hr hP hD hS dX1_undo_71 hlocks
  · have h := it_l c_1 h
    cases h
    exact Cx_throw (names := ["java/lang/RuntimeException", "java/lang/Exception"]) (show O = Sum.inl "java/lang/IllegalStateException" from hO) hx hb hst hown rfl (by decide) w_9 w_10 w_11 w_12 (by decide +kernel) hG hP hS (hl.1.trans hml.symm) dX1_undo_7 dX1_undo_10 dX1_undo_11 dX1_undo_13 dX1_undo_16 htab (Nat.le_of_ble_eq_true rfl) (Nat.le_of_ble_eq_true rfl) (Nat.le_of_ble_eq_true rfl) (Nat.le_of_ble_eq_true rfl) hlocks (Nat.le_of_ble_eq_true rfl) (Nat.le_of_ble_eq_true rfl)
def f_X1_save (T : TrV) (N : StV) (V : PoV) (p1 : Int32) : Option (String ⊕ (Int32 × TrV × PoV)) := bx (f_X1_checkSlot p1) fun ⟨⟩ => gb (inb p1 2) <| bd (f_X0_copyFrom (sq V (17 + p1.toNatClampNeg)) N) fun q_7 => gb (inb p1 2) <| nm (tu_fil T (upd (tr_fil T) p1.toNatClampNeg (vp_nar .boolean 1))) fun q_10 => some (.inr ((s_clk N), q_10, uq V (17 + p1.toNatClampNeg) q_7))
set_option maxRecDepth 100000 in
set_option maxHeartbeats 4000000 in
theorem c_X1_save (l : Launch) (hst : l.stackTraces = false) (D : va_G) (k : Nat → ClassId) (cA : Nat → Nat) (nA : Nat → Nat) (tA : Nat → Nat) (T : TrV) (N : StV) (V : PoV) (p1 : Int32) (tl : va_W) (hT : PoIs k cA V tl) (o : String ⊕ (Int32 × TrV × PoV)) (h : f_X1_save T N V p1 = some o) : Cx l D (tyK k) yX1_save wsX1_save ({ frames := 7, cells := 12, slots := 81, locals := 102 } : Room) [.ref (cA 0), .int p1] (trW k cA nA tA T ++ stW k nA N ++ tl) (trW k cA nA tA T ++ stW k nA N ++ tl) (Sum.map id (fun r : Int32 × TrV × PoV => fun (ov : Option Value) (w : va_W) => ov = (some (.int r.1) : Option Value) ∧ ∃ tl9 : va_W, PoIs k cA r.2.2 tl9 ∧ w = trW k cA nA tA r.2.1 ++ stW k nA N ++ tl9) o) := by
  obtain ⟨O, hO⟩ : ∃ O : Oc, O = Sum.map id (fun r : Int32 × TrV × PoV => fun (ov : Option Value) (w : va_W) => ov = (some (.int r.1) : Option Value) ∧ ∃ tl9 : va_W, PoIs k cA r.2.2 tl9 ∧ w = trW k cA nA tA r.2.1 ++ stW k nA N ++ tl9) o := ⟨_, rfl⟩
  rw [← hO]
  refine Cx_of (cc := cX1_save) (maxL := 2) (ret := (some .int)) (by decide) rfl (Nat.le_of_ble_eq_true rfl) ?_
  intro p e s m args below meth c A ls hx hb hr hml hts hown hlocks hnm htab hK hG hA hP hD hS hl
  have hl : lv_has ls 2 [(0, .ref (cA 0)), (1, .int p1)] := hl
  have hP : va_P D vwCl (trW k cA nA tA T ++ stW k nA N ++ tl) s.heap := hP
  have w_0 := hts (.fieldLink RX1 44 "EffectTrain" "slots" "[LEffectTrain$State;") (by decide +kernel)
  have w_1 : ∀ w ∈ wsX10, w ∈ wsX1_save := by decide +kernel
  have w_2 := hts (.fieldLink RX1 24 "EffectTrain" "now" "LEffectTrain$State;") (by decide +kernel)
  have w_3 : va_Nw (.methodLinkNest RX1 155 yX0_copyFrom "EffectTrain") s := hG.2.2.2.2.2 (155, yX0_copyFrom, "EffectTrain") (by decide +kernel)
  have w_4 := hts (.initialized RX0) (by decide +kernel)
  have w_5 := hts (.instanceMethod yX0_copyFrom) (by decide +kernel)
  have w_6 := hts (.selects RX0 yX0_copyFrom yX0_copyFrom) (by decide +kernel)
  have w_7 := hts (.fieldLink RX1 47 "EffectTrain" "slotFilled" "[Z") (by decide +kernel)
  have w_8 : (Cond.fieldLinkNest RX1 97 "EffectTrain$State" "clock" "I" "EffectTrain").before args s = true := va_Nw.use rfl (hG.2.2.2.2.1 (97, "EffectTrain$State", "clock", "I", "EffectTrain") (by decide +kernel))
  have w_9 : ∀ w ∈ wsX00, w ∈ wsX1_save := by decide +kernel
  unfold f_X1_save at h
  refine lv_iload_n hx hb dX1_save_0 rfl (lv_at hl 1 rfl) ?_
  rcases bx_l h with ⟨E_2, hv_1, ho_3⟩ | ⟨⟨⟩, hv_1, h⟩
  · subst ho_3
    exact Cx_thru (w0 := trW k cA nA tA T ++ stW k nA N ++ tl) hO rfl (vx_runS (As := [.int p1]) (rest := []) ⟨hx, hb, hml, hown, hts⟩ (c_X1_checkSlot l hst D k  p1 (.inl E_2) hv_1 _) (va_cwS 1 hts gX1_save_X1_checkSlot rfl rfl rfl (by decide +kernel) ⟨Nat.le_of_ble_eq_true rfl, Nat.le_of_ble_eq_true rfl⟩) ⟨Px_blind, Px_at (wc := ([] : va_W)) hK hG hP hD hS hA [] rfl (by decide)⟩ rfl rfl hl.1 rfl (Nat.le_of_ble_eq_true rfl) dX1_save_1 ⟨Nat.le_of_ble_eq_true rfl, Nat.le_of_ble_eq_true rfl⟩) hP hD hS hA [] rfl htab hlocks (Nat.le_of_ble_eq_true rfl) (Nat.le_of_ble_eq_true rfl)
  refine Cx_in (w0' := trW k cA nA tA T ++ stW k nA N ++ tl) (wc' := ([] : va_W)) rfl (vx_runS (As := [.int p1]) (rest := []) ⟨hx, hb, hml, hown, hts⟩ (c_X1_checkSlot l hst D k  p1 (.inr ()) hv_1 _) (va_cwS 1 hts gX1_save_X1_checkSlot rfl rfl rfl (by decide +kernel) ⟨Nat.le_of_ble_eq_true rfl, Nat.le_of_ble_eq_true rfl⟩) ⟨Px_blind, Px_at (wc := ([] : va_W)) hK hG hP hD hS hA [] rfl (by decide)⟩ rfl rfl hl.1 rfl (Nat.le_of_ble_eq_true rfl) dX1_save_1 ⟨Nat.le_of_ble_eq_true rfl, Nat.le_of_ble_eq_true rfl⟩) hP hD hS hA [] rfl rfl rfl (fun H locs hP hD hS => ?_)
  refine W.eq (g2 := F0 m 4 ls []) rfl ?_
  refine lv_aload_n hx hb dX1_save_4 rfl (lv_at hl 0 rfl) ?_
  refine va_get (D := D) (ci := 1) (v := .ref (cA 5)) (C := RX1) (T := TX1) (N := 11) hx hb hts w_1 hown hK hP 0 rfl rfl 9 (by decide) w_0 (fun _ h9 => h9) rfl dX1_save_5 ?_
  refine lv_iload_n hx hb dX1_save_8 rfl (lv_at hl 1 rfl) ?_
  have g_4 := inb_vp (gb_l h)
  have h := gb_r h
  refine st_callI 5 17 2 hst ⟨hx, hb, hml, hown, hts⟩ (va_cwS 2 hts gX1_save_X1_stateAt rfl rfl rfl (by decide +kernel) ⟨Nat.le_of_ble_eq_true rfl, Nat.le_of_ble_eq_true rfl⟩) hK hG hP hD hS hA hT (by decide) g_4 hl.1 (Nat.le_of_ble_eq_true rfl) dX1_save_9 ⟨Nat.le_of_ble_eq_true rfl, Nat.le_of_ble_eq_true rfl⟩ (fun b_5 tl_6 H locs hT hP hD hS => ?_)
  refine W.eq (g2 := F0 m 12 ls [.ref (b_5 0)]) rfl ?_
  refine lv_aload_n hx hb dX1_save_12 rfl (lv_at hl 0 rfl) ?_
  refine va_get (D := D) (ci := 1) (v := .ref (nA 0)) (C := RX1) (T := TX1) (N := 11) hx hb hts w_1 hown hK hP 0 rfl rfl 3 (by decide) w_2 (fun _ h9 => h9) rfl dX1_save_13 ?_
  obtain ⟨q_7, hv_8, h⟩ := bd_l h
  refine Ck_VN (As := [.ref (nA 0)]) (rest := []) (wc := stW k b_5 (sq V (17 + p1.toNatClampNeg)) ++ stW k nA N) (wc' := stW k b_5 q_7 ++ stW k nA N) (w0' := trW k cA nA tA T ++ stW k nA N ++ stW k b_5 q_7 ++ tl_6) ⟨hx, hb, hml, hown, hts⟩ (c_X0_copyFrom l D k b_5 nA (sq V (17 + p1.toNatClampNeg)) N q_7 hv_8) ⟨va_cnB 1 hts gX1_save_X0_copyFrom_n155 rfl rfl rfl w_3 w_4 (by decide +kernel) ⟨Nat.le_of_ble_eq_true rfl, Nat.le_of_ble_eq_true rfl⟩, w_5, w_6⟩ hK hP hD hS hA (q0 := 15) (ci := 0) rfl rfl ([15, 16, 17, 18, 19, 20, 21, 22, 23, 24, 25] ++ [4, 5, 6, 7, 8, 9, 10, 11, 12, 13, 14]) (hi_2 (hi_L rfl (hi_R rfl st_hi)) (hi_L rfl (hi_L rfl (hi_R rfl st_hi)))) (by decide) rfl (vs_2 rfl (vs_L rfl (vs_R rfl st_all)) (vs_L rfl (vs_L rfl (vs_R rfl st_all)))) rfl hl.1 rfl (Nat.le_of_ble_eq_true rfl) dX1_save_16 ⟨Nat.le_of_ble_eq_true rfl, Nat.le_of_ble_eq_true rfl⟩ (fun H locs hP hD hS => ?_)
  refine W.eq (g2 := F0 m 19 ls []) rfl ?_
  refine lv_aload_n hx hb dX1_save_19 rfl (lv_at hl 0 rfl) ?_
  refine va_get (D := D) (ci := 1) (v := .ref (cA 6)) (C := RX1) (T := TX1) (N := 11) hx hb hts w_1 hown hK hP 0 rfl rfl 10 (by decide) w_7 (fun _ h9 => h9) rfl dX1_save_20 ?_
  refine lv_iload_n hx hb dX1_save_23 rfl (lv_at hl 1 rfl) ?_
  refine lv_iconst (v := 1) hx hb dX1_save_24 (by decide) ?_
  have g_9 := inb_vp (gb_l h)
  have h := gb_r h
  refine va_zast hx hb hK hP hD hS 3 2 rfl rfl g_9 dX1_save_25 (fun H locs hP hD hS => ?_)
  obtain ⟨q_10, eq_10⟩ : ∃ y : TrV, y = tu_fil T (upd (tr_fil T) p1.toNatClampNeg (vp_nar .boolean 1)) := ⟨_, rfl⟩
  have hP : va_P D vwCl (trW k cA nA tA q_10 ++ stW k nA N ++ stW k b_5 q_7 ++ tl_6) H := by rw [eq_10, ← tr_set_fil k cA nA tA T _, ← set_appL1 (Nat.le_of_ble_eq_true rfl), ← set_appL1 (Nat.le_of_ble_eq_true rfl), ← set_appL1 (Nat.le_of_ble_eq_true rfl)]; exact hP
  have hD : va_D A (trW k cA nA tA q_10 ++ stW k nA N ++ stW k b_5 q_7 ++ tl_6) := by rw [eq_10, ← tr_set_fil k cA nA tA T _, ← set_appL1 (Nat.le_of_ble_eq_true rfl), ← set_appL1 (Nat.le_of_ble_eq_true rfl), ← set_appL1 (Nat.le_of_ble_eq_true rfl)]; exact hD
  have h := nm_l h eq_10
  refine lv_aload_n hx hb dX1_save_26 rfl (lv_at hl 0 rfl) ?_
  refine va_get (D := D) (ci := 1) (v := .ref (nA 0)) (C := RX1) (T := TX1) (N := 11) hx hb hts w_1 hown hK hP 0 rfl rfl 3 (by decide) w_2 (fun _ h9 => h9) rfl dX1_save_27 ?_
  refine va_getN (D := D) (ci := 0) (v := .int (s_clk N)) (C := RX0) (T := TX0) (N := 12) hx hb hts w_9 hown hK hP 4 rfl rfl 2 (by decide) w_8 (fun _ h9 => h9) rfl dX1_save_30 ?_
  cases h
  exact Cx_iret hO ⟨rfl, _, hT _, List.append_assoc _ _ _⟩ (Nat.le_of_ble_eq_true rfl) (Nat.le_of_ble_eq_true rfl) hx hb hr hP hD hS dX1_save_33 hlocks
def f_X1_restore (T : TrV) (N : StV) (V : PoV) (p1 : Int32) : Option (String ⊕ (Int32 × TrV × StV × PoV)) := bx (f_X1_checkSlot p1) fun ⟨⟩ => gb (inb p1 2) <| if ((tr_fil T) p1.toNatClampNeg) = 0 then (some (.inl "java/lang/IllegalStateException")) else (gb (inb p1 2) <| bd (f_X0_copyFrom N (sq V (17 + p1.toNatClampNeg))) fun q_9 => nm (tu_rcn T 0) fun q_11 => some (.inr ((s_clk q_9), q_11, q_9, uq V (17 + p1.toNatClampNeg) (sq V (17 + p1.toNatClampNeg)))))
set_option maxRecDepth 100000 in
set_option maxHeartbeats 4000000 in
theorem c_X1_restore (l : Launch) (hst : l.stackTraces = false) (D : va_G) (k : Nat → ClassId) (cA : Nat → Nat) (nA : Nat → Nat) (tA : Nat → Nat) (T : TrV) (N : StV) (V : PoV) (p1 : Int32) (tl : va_W) (hT : PoIs k cA V tl) (o : String ⊕ (Int32 × TrV × StV × PoV)) (h : f_X1_restore T N V p1 = some o) : Cx l D (tyK k) yX1_restore wsX1_restore ({ frames := 7, cells := 12, slots := 81, locals := 102 } : Room) [.ref (cA 0), .int p1] (trW k cA nA tA T ++ stW k nA N ++ tl) (trW k cA nA tA T ++ stW k nA N ++ tl) (Sum.map id (fun r : Int32 × TrV × StV × PoV => fun (ov : Option Value) (w : va_W) => ov = (some (.int r.1) : Option Value) ∧ ∃ tl9 : va_W, PoIs k cA r.2.2.2 tl9 ∧ w = trW k cA nA tA r.2.1 ++ stW k nA r.2.2.1 ++ tl9) o) := by
  obtain ⟨O, hO⟩ : ∃ O : Oc, O = Sum.map id (fun r : Int32 × TrV × StV × PoV => fun (ov : Option Value) (w : va_W) => ov = (some (.int r.1) : Option Value) ∧ ∃ tl9 : va_W, PoIs k cA r.2.2.2 tl9 ∧ w = trW k cA nA tA r.2.1 ++ stW k nA r.2.2.1 ++ tl9) o := ⟨_, rfl⟩
  rw [← hO]
  refine Cx_of (cc := cX1_restore) (maxL := 2) (ret := (some .int)) (by decide) rfl (Nat.le_of_ble_eq_true rfl) ?_
  intro p e s m args below meth c A ls hx hb hr hml hts hown hlocks hnm htab hK hG hA hP hD hS hl
  have hl : lv_has ls 2 [(0, .ref (cA 0)), (1, .int p1)] := hl
  have hP : va_P D vwCl (trW k cA nA tA T ++ stW k nA N ++ tl) s.heap := hP
  have w_0 := hts (.fieldLink RX1 47 "EffectTrain" "slotFilled" "[Z") (by decide +kernel)
  have w_1 : ∀ w ∈ wsX10, w ∈ wsX1_restore := by decide +kernel
  have w_2 := hts (.fieldLink RX1 24 "EffectTrain" "now" "LEffectTrain$State;") (by decide +kernel)
  have w_3 := hts (.fieldLink RX1 44 "EffectTrain" "slots" "[LEffectTrain$State;") (by decide +kernel)
  have w_4 : va_Nw (.methodLinkNest RX1 155 yX0_copyFrom "EffectTrain") s := hG.2.2.2.2.2 (155, yX0_copyFrom, "EffectTrain") (by decide +kernel)
  have w_5 := hts (.initialized RX0) (by decide +kernel)
  have w_6 := hts (.instanceMethod yX0_copyFrom) (by decide +kernel)
  have w_7 := hts (.selects RX0 yX0_copyFrom yX0_copyFrom) (by decide +kernel)
  have w_8 := hts (.fieldLink RX1 41 "EffectTrain" "rememberedCount" "I") (by decide +kernel)
  have w_9 : (Cond.fieldLinkNest RX1 97 "EffectTrain$State" "clock" "I" "EffectTrain").before args s = true := va_Nw.use rfl (hG.2.2.2.2.1 (97, "EffectTrain$State", "clock", "I", "EffectTrain") (by decide +kernel))
  have w_10 : ∀ w ∈ wsX00, w ∈ wsX1_restore := by decide +kernel
  have w_11 := hts (.classLink RX1 55 "java/lang/IllegalStateException") (by decide +kernel)
  have w_12 := hts (.initialized "java/lang/IllegalStateException") (by decide +kernel)
  have w_13 : ∃ sa : Nat, vk_R RX1 207 "nothing has been saved in the slot" sa s := hG.2.2.2.1 (207, "nothing has been saved in the slot") (by decide +kernel)
  have w_14 := vx_hat (L := vx_atS RX1 59 "java/lang/IllegalStateException" ["java/lang/RuntimeException", "java/lang/Exception"]) (fun w hw => hts w (by revert w; decide +kernel)) (B := [Cond.castable "java/lang/IllegalStateException" "java/lang/IllegalStateException", Cond.declares (Bundle.initS "java/lang/RuntimeException"), Cond.declares (Bundle.initS "java/lang/Exception"), Cond.declares (Bundle.initS "java/lang/Throwable")]) (by decide +kernel) (vx_c (va_Nw.use rfl (hG.2.2.1.2.1 "java/lang/IllegalStateException" (by decide +kernel))) <| vx_c (va_Nw.use rfl (hG.2.2.1.2.2 "java/lang/RuntimeException" (by decide +kernel))) <| vx_c (va_Nw.use rfl (hG.2.2.1.2.2 "java/lang/Exception" (by decide +kernel))) <| vx_c (va_Nw.use rfl (hG.2.2.1.2.2 "java/lang/Throwable" (by decide +kernel))) vx_n)
  unfold f_X1_restore at h
  refine lv_iload_n hx hb dX1_restore_0 rfl (lv_at hl 1 rfl) ?_
  rcases bx_l h with ⟨E_2, hv_1, ho_3⟩ | ⟨⟨⟩, hv_1, h⟩
  · subst ho_3
    exact Cx_thru (w0 := trW k cA nA tA T ++ stW k nA N ++ tl) hO rfl (vx_runS (As := [.int p1]) (rest := []) ⟨hx, hb, hml, hown, hts⟩ (c_X1_checkSlot l hst D k  p1 (.inl E_2) hv_1 _) (va_cwS 1 hts gX1_restore_X1_checkSlot rfl rfl rfl (by decide +kernel) ⟨Nat.le_of_ble_eq_true rfl, Nat.le_of_ble_eq_true rfl⟩) ⟨Px_blind, Px_at (wc := ([] : va_W)) hK hG hP hD hS hA [] rfl (by decide)⟩ rfl rfl hl.1 rfl (Nat.le_of_ble_eq_true rfl) dX1_restore_1 ⟨Nat.le_of_ble_eq_true rfl, Nat.le_of_ble_eq_true rfl⟩) hP hD hS hA [] rfl htab hlocks (Nat.le_of_ble_eq_true rfl) (Nat.le_of_ble_eq_true rfl)
  refine Cx_in (w0' := trW k cA nA tA T ++ stW k nA N ++ tl) (wc' := ([] : va_W)) rfl (vx_runS (As := [.int p1]) (rest := []) ⟨hx, hb, hml, hown, hts⟩ (c_X1_checkSlot l hst D k  p1 (.inr ()) hv_1 _) (va_cwS 1 hts gX1_restore_X1_checkSlot rfl rfl rfl (by decide +kernel) ⟨Nat.le_of_ble_eq_true rfl, Nat.le_of_ble_eq_true rfl⟩) ⟨Px_blind, Px_at (wc := ([] : va_W)) hK hG hP hD hS hA [] rfl (by decide)⟩ rfl rfl hl.1 rfl (Nat.le_of_ble_eq_true rfl) dX1_restore_1 ⟨Nat.le_of_ble_eq_true rfl, Nat.le_of_ble_eq_true rfl⟩) hP hD hS hA [] rfl rfl rfl (fun H locs hP hD hS => ?_)
  refine W.eq (g2 := F0 m 4 ls []) rfl ?_
  refine lv_aload_n hx hb dX1_restore_4 rfl (lv_at hl 0 rfl) ?_
  refine va_get (D := D) (ci := 1) (v := .ref (cA 6)) (C := RX1) (T := TX1) (N := 11) hx hb hts w_1 hown hK hP 0 rfl rfl 10 (by decide) w_0 (fun _ h9 => h9) rfl dX1_restore_5 ?_
  refine lv_iload_n hx hb dX1_restore_8 rfl (lv_at hl 1 rfl) ?_
  have g_4 := inb_vp (gb_l h)
  have h := gb_r h
  refine va_zald hx hb hK hP 3 2 rfl rfl g_4 dX1_restore_9 ?_
  refine lv_if_ne (tgt := 23) hx hb dX1_restore_10 (by decide) (fun c_5 => ?_) (fun c_5 => ?_)
  · have h := it_r c_5 h
    refine lv_aload_n hx hb dX1_restore_23 rfl (lv_at hl 0 rfl) ?_
    refine va_get (D := D) (ci := 1) (v := .ref (nA 0)) (C := RX1) (T := TX1) (N := 11) hx hb hts w_1 hown hK hP 0 rfl rfl 3 (by decide) w_2 (fun _ h9 => h9) rfl dX1_restore_24 ?_
    refine lv_aload_n hx hb dX1_restore_27 rfl (lv_at hl 0 rfl) ?_
    refine va_get (D := D) (ci := 1) (v := .ref (cA 5)) (C := RX1) (T := TX1) (N := 11) hx hb hts w_1 hown hK hP 0 rfl rfl 9 (by decide) w_3 (fun _ h9 => h9) rfl dX1_restore_28 ?_
    refine lv_iload_n hx hb dX1_restore_31 rfl (lv_at hl 1 rfl) ?_
    have g_6 := inb_vp (gb_l h)
    have h := gb_r h
    refine st_callI 5 17 2 hst ⟨hx, hb, hml, hown, hts⟩ (va_cwS 2 hts gX1_restore_X1_stateAt rfl rfl rfl (by decide +kernel) ⟨Nat.le_of_ble_eq_true rfl, Nat.le_of_ble_eq_true rfl⟩) hK hG hP hD hS hA hT (by decide) g_6 hl.1 (Nat.le_of_ble_eq_true rfl) dX1_restore_32 ⟨Nat.le_of_ble_eq_true rfl, Nat.le_of_ble_eq_true rfl⟩ (fun b_7 tl_8 H locs hT hP hD hS => ?_)
    refine W.eq (g2 := F0 m 35 ls [.ref (b_7 0), .ref (nA 0)]) rfl ?_
    obtain ⟨q_9, hv_10, h⟩ := bd_l h
    refine Ck_VN (As := [.ref (b_7 0)]) (rest := []) (wc := stW k nA N ++ stW k b_7 (sq V (17 + p1.toNatClampNeg))) (wc' := stW k nA q_9 ++ stW k b_7 (sq V (17 + p1.toNatClampNeg))) (w0' := trW k cA nA tA T ++ stW k nA q_9 ++ stW k b_7 (sq V (17 + p1.toNatClampNeg)) ++ tl_8) ⟨hx, hb, hml, hown, hts⟩ (c_X0_copyFrom l D k nA b_7 N (sq V (17 + p1.toNatClampNeg)) q_9 hv_10) ⟨va_cnB 1 hts gX1_restore_X0_copyFrom_n155 rfl rfl rfl w_4 w_5 (by decide +kernel) ⟨Nat.le_of_ble_eq_true rfl, Nat.le_of_ble_eq_true rfl⟩, w_6, w_7⟩ hK hP hD hS hA (q0 := 4) (ci := 0) rfl rfl ([4, 5, 6, 7, 8, 9, 10, 11, 12, 13, 14] ++ [15, 16, 17, 18, 19, 20, 21, 22, 23, 24, 25]) (hi_2 (hi_L rfl (hi_L rfl (hi_R rfl st_hi))) (hi_L rfl (hi_R rfl st_hi))) (by decide) rfl (vs_2 rfl (vs_L rfl (vs_L rfl (vs_R rfl st_all))) (vs_L rfl (vs_R rfl st_all))) rfl hl.1 rfl (Nat.le_of_ble_eq_true rfl) dX1_restore_35 ⟨Nat.le_of_ble_eq_true rfl, Nat.le_of_ble_eq_true rfl⟩ (fun H locs hP hD hS => ?_)
    refine W.eq (g2 := F0 m 38 ls []) rfl ?_
    refine lv_aload_n hx hb dX1_restore_38 rfl (lv_at hl 0 rfl) ?_
    refine lv_iconst (v := 0) hx hb dX1_restore_39 (by decide) ?_
    refine va_put (D := D) (ci := 1) (v := .int 0) (ty := .int) (C := RX1) (T := TX1) (N := 11) hx hb hts w_1 tyX1 tyX1_ok nmX1 hown hK hP hD hS 0 rfl rfl 8 (by decide) w_8 (fun _ h9 => h9) rfl (by decide +kernel) rfl rfl (Nat.le_of_ble_eq_true rfl) dX1_restore_40 (fun H locs hP hD hS => ?_)
    obtain ⟨q_11, eq_11⟩ : ∃ y : TrV, y = tu_rcn T 0 := ⟨_, rfl⟩
    have hP : va_P D vwCl (trW k cA nA tA q_11 ++ stW k nA q_9 ++ stW k b_7 (sq V (17 + p1.toNatClampNeg)) ++ tl_8) H := by rw [eq_11, ← tr_set_rcn k cA nA tA T _, ← set_appL1 (Nat.le_of_ble_eq_true rfl), ← set_appL1 (Nat.le_of_ble_eq_true rfl), ← set_appL1 (Nat.le_of_ble_eq_true rfl)]; exact hP
    have hD : va_D A (trW k cA nA tA q_11 ++ stW k nA q_9 ++ stW k b_7 (sq V (17 + p1.toNatClampNeg)) ++ tl_8) := by rw [eq_11, ← tr_set_rcn k cA nA tA T _, ← set_appL1 (Nat.le_of_ble_eq_true rfl), ← set_appL1 (Nat.le_of_ble_eq_true rfl), ← set_appL1 (Nat.le_of_ble_eq_true rfl)]; exact hD
    have h := nm_l h eq_11
    refine lv_aload_n hx hb dX1_restore_43 rfl (lv_at hl 0 rfl) ?_
    refine va_get (D := D) (ci := 1) (v := .ref (nA 0)) (C := RX1) (T := TX1) (N := 11) hx hb hts w_1 hown hK hP 0 rfl rfl 3 (by decide) w_2 (fun _ h9 => h9) rfl dX1_restore_44 ?_
    refine va_getN (D := D) (ci := 0) (v := .int (s_clk q_9)) (C := RX0) (T := TX0) (N := 12) hx hb hts w_10 hown hK hP 4 rfl rfl 2 (by decide) w_9 (fun _ h9 => h9) rfl dX1_restore_47 ?_
    cases h
    exact Cx_iret hO ⟨rfl, _, hT _, List.append_assoc _ _ _⟩ (Nat.le_of_ble_eq_true rfl) (Nat.le_of_ble_eq_true rfl) hx hb hr hP hD hS dX1_restore_50 hlocks
  · have h := it_l c_5 h
    cases h
    exact Cx_throw (names := ["java/lang/RuntimeException", "java/lang/Exception"]) (show O = Sum.inl "java/lang/IllegalStateException" from hO) hx hb hst hown rfl (by decide) w_11 w_12 w_13 w_14 (by decide +kernel) hG hP hS (hl.1.trans hml.symm) dX1_restore_13 dX1_restore_16 dX1_restore_17 dX1_restore_19 dX1_restore_22 htab (Nat.le_of_ble_eq_true rfl) (Nat.le_of_ble_eq_true rfl) (Nat.le_of_ble_eq_true rfl) (Nat.le_of_ble_eq_true rfl) hlocks (Nat.le_of_ble_eq_true rfl) (Nat.le_of_ble_eq_true rfl)
