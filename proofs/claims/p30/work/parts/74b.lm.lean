noncomputable def f_L_alike_339 (X : XV) (Y : XV) (p1 : Int32) (x4_339 : Int32) (x6_339 : Int64) : Option (Int32) := bd (o_script X 2 x6_339) fun v_2 => bd (o_script Y 2 x6_339) fun v_5 => if (lg_cmp v_2 v_5) = 0 then (bd (o_simulate X (p1.toInt64) x4_339) fun v_9 => bd (o_simulate Y (p1.toInt64) x4_339) fun v_12 => if (lg_cmp v_9 v_12) = 0 then (some (1)) else (some (0))) else (some (0))
noncomputable def f_L_alike_260 (X : XV) (Y : XV) (p1 : Int32) (x4_260 : Int32) (t0_260 : Int32) : Option (Int32) := nm ((100000 * (((10000 * (1 + (p1 - p1 / 8 * 8))) + ((p1 / 8) - (p1 / 8) / 10000 * 10000)).toInt64)) + ((p1 - p1 / 100000 * 100000).toInt64)) fun v_15 => if t0_260 = 0 then (some (0)) else (if 0 < (p1 - p1 / 4 * 4) then (f_L_alike_339 X Y p1 x4_260 v_15) else (bd (o_steamFor X (p1 - p1 / 2000 * 2000) (1 + (p1 - p1 / 9 * 9))) fun v_19 => bd (o_steamFor Y (p1 - p1 / 2000 * 2000) (1 + (p1 - p1 / 9 * 9))) fun v_22 => if (lg_cmp v_19 v_22) = 0 then (f_L_alike_339 X Y p1 x4_260 v_15) else (some (0))))
noncomputable def f_L_alike_259 (X : XV) (Y : XV) (p1 : Int32) (x4_259 : Int32) : Option (Int32) := f_L_alike_260 X Y p1 x4_259 0
noncomputable def f_L_alike_94 (X : XV) (Y : XV) (p1 : Int32) (x3_94 : Int32) (x4_94 : Int32) (t0_94 : Int32) (t1_94 : Int32) (t2_94 : Int64) : Option (Int32) := bd (o_neighbor Y t1_94 t0_94) fun v_26 => if (lg_cmp t2_94 v_26) = 0 then (bd (o_ahead X x3_94 x4_94 (p1 - p1 / 10 * 10)) fun v_30 => bd (o_ahead Y x3_94 x4_94 (p1 - p1 / 10 * 10)) fun v_33 => if (lg_cmp v_30 v_33) = 0 then (bd (o_growth X x4_94 (p1 - p1 / 10 * 10)) fun v_37 => bd (o_growth Y x4_94 (p1 - p1 / 10 * 10)) fun v_40 => if (lg_cmp v_37 v_40) = 0 then (bd (o_washGain X x3_94 (1 + (p1 - p1 / 20 * 20)) x4_94) fun v_44 => bd (o_washGain Y x3_94 (1 + (p1 - p1 / 20 * 20)) x4_94) fun v_47 => if (lg_cmp v_44 v_47) = 0 then (bd (o_scaledAfter X x3_94 (1 + (p1 - p1 / 99 * 99))) fun v_51 => bd (o_scaledAfter Y x3_94 (1 + (p1 - p1 / 99 * 99))) fun v_54 => if (lg_cmp v_51 v_54) = 0 then (bd (o_bestTurns X (1 + (p1 - p1 / 2 * 2)) 1) fun v_58 => bd (o_bestTurns Y (1 + (p1 - p1 / 2 * 2)) 1) fun v_61 => if (lg_cmp v_58 v_61) = 0 then (bd (o_bestTurns X (1 + (p1 - p1 / 2 * 2)) 0) fun v_65 => bd (o_bestTurns Y (1 + (p1 - p1 / 2 * 2)) 0) fun v_68 => if (lg_cmp v_65 v_68) = 0 then (f_L_alike_260 X Y p1 x4_94 1) else (f_L_alike_259 X Y p1 x4_94)) else (f_L_alike_259 X Y p1 x4_94)) else (f_L_alike_259 X Y p1 x4_94)) else (f_L_alike_259 X Y p1 x4_94)) else (f_L_alike_259 X Y p1 x4_94)) else (f_L_alike_259 X Y p1 x4_94)) else (f_L_alike_259 X Y p1 x4_94)
noncomputable def f_L_alike_78 (X : XV) (Y : XV) (p1 : Int32) (x3_78 : Int32) (x4_78 : Int32) (t0_78 : Int32) (t1_78 : Int32) : Option (Int32) := bd (o_neighbor X t1_78 t0_78) fun v_72 => if (p1 - p1 / 2 * 2) = 0 then (f_L_alike_94 X Y p1 x3_78 x4_78 1 x3_78 v_72) else (f_L_alike_94 X Y p1 x3_78 x4_78 0 x3_78 v_72)
noncomputable def f_L_alike (X : XV) (Y : XV) (p1 : Int32) : Option (Int32) := nm (p1 - p1 / 6 * 6) fun v_75 => nm (1 + ((p1 / 6) - (p1 / 6) / 40 * 40)) fun v_76 => bd (f_L_now X) fun v_78 => bd (f_L_now Y) fun v_81 => if (lg_cmp v_78 v_81) = 0 then (bd (o_errorPosition X) fun v_85 => bd (o_errorPosition Y) fun v_88 => if v_85 = v_88 then (bd (o_economy X) fun v_92 => bd (o_economy Y) fun v_95 => if (Op.cmpValue (FP.fcmp v_92 v_95) .l) = 0 then (bd (o_share X v_75) fun v_99 => bd (o_share Y v_75) fun v_102 => if (Op.cmpValue (FP.fcmp v_99 v_102) .l) = 0 then (if (p1 - p1 / 2 * 2) = 0 then (f_L_alike_78 X Y p1 v_75 v_76 1 v_75) else (f_L_alike_78 X Y p1 v_75 v_76 0 v_75)) else (f_L_alike_259 X Y p1 v_76)) else (f_L_alike_259 X Y p1 v_76)) else (f_L_alike_259 X Y p1 v_76)) else (f_L_alike_259 X Y p1 v_76)
set_option maxRecDepth 100000 in
set_option maxHeartbeats 4000000 in
theorem c_L_alike (l : Launch) (hst : l.stackTraces = false) (D : va_G) (k : Nat → ClassId) (cA nA tA : Nat → Nat) (X : XV) (w : va_W) (hw : Ob k cA nA tA X w) (cB nB tB : Nat → Nat) (Y : XV) (u : va_W) (hu : Ob k cB nB tB Y u) (p1 : Int32) (o : Int32) (h : f_L_alike X Y p1 = some o) : CO l D k yL_alike wsL_alike ({ frames := 14, cells := 662, slots := 4080, locals := 749 } : Room) [.ref (cA 0), .ref (cB 0), .int p1] (w ++ u) (fun (ov : Option Value) (w' : va_W) => ov = some (.int o) ∧ ∃ w1 u1 : va_W, List.Perm w' (w1 ++ u1) ∧ Ob k cA nA tA X w1 ∧ Ob k cB nB tB Y u1) := by
  obtain ⟨B9, hB9⟩ : ∃ B : Option Value → va_W → Prop, B = fun (ov : Option Value) (w' : va_W) => ov = some (.int o) ∧ ∃ w1 u1 : va_W, List.Perm w' (w1 ++ u1) ∧ Ob k cA nA tA X w1 ∧ Ob k cB nB tB Y u1 := ⟨_, rfl⟩
  refine CO.of (P := B9) ?_ (fun ov w' h9 => by rw [hB9] at h9; exact h9)
  refine Cl_of0 (cc := cL_alike) (maxL := 8) (ret := (some .boolean)) (by decide) rfl (Nat.le_of_ble_eq_true rfl) ?_
  intro p e s m args below meth c A ls hx hb hr hml hts hown hlocks hK hG hC hA hP hD hS hl
  have hl : lv_has ls 8 [(0, .ref (cA 0)), (1, .ref (cB 0)), (2, .int p1)] := hl
  have w_0 := hts (.constantLong RL 154 (100000)) (by decide +kernel)
  have w_1 := hts (.constant RL 156 (100000)) (by decide +kernel)
  unfold f_L_alike at h
  have hC_339 : ∀ (x4_339 : Int32) (x6_339 : Int64) (w_339 : va_W) (u_339 : va_W) (H : Heap) (locs : List Loc) (ls : Array Slot), Ob k cA nA tA X w_339 → Ob k cB nB tB Y u_339 → va_P D vwCl (w_339 ++ u_339) H → va_D A (w_339 ++ u_339) → va_S A s.heap H locs → lv_has ls 8 [(0, .ref (cA 0)), (1, .ref (cB 0)), (2, .int p1), (4, .int x4_339), (6, .long x6_339)] → f_L_alike_339 X Y p1 x4_339 x6_339 = some o → W p l e ({ frames := 14, cells := 662, slots := 4080, locals := 749 } : Room) s m args below meth c H locs (634) (3912) (vx_MQ below (Qx D A (.inr B9)) (Xx D A (w ++ u) (.inr B9)) args s 662 4080 A) (F0 m 339 ls []) := by
    intro x4_339 x6_339 w_339 u_339 H locs ls hw_339 hu_339 hP hD hS hl h
    unfold f_L_alike_339 at h
    refine lv_aload_n hx hb dL_alike_339 rfl (lv_at hl 0 rfl) ?_
    refine lv_iconst (v := 2) hx hb dL_alike_340 (by decide) ?_
    refine lv_lload hx hb dL_alike_341 (lv_at hl 4 rfl) ?_
    obtain ⟨v_2, hv_1, h⟩ := bd_l h
    refine Lo_T (As := [.ref (cA 0), .int 2, .long x6_339]) (rest := []) (wA := w_339) (wr := u_339) 7 42 (641) (3954) 662 4080 (co_script l hst D k cA nA tA X w_339 hw_339 2 x6_339 v_2 hv_1) ⟨hx, hb, hml, hown, hts⟩ (vx_cwSW 3 hts gL_alike_L_script rfl rfl rfl (by decide +kernel) ⟨Nat.le_of_ble_eq_true rfl, Nat.le_of_ble_eq_true rfl⟩) hK hG hC hP hD hS hA (List.Perm.refl _) rfl hl.1 rfl (Nat.le_of_ble_eq_true rfl) dL_alike_343 ⟨rfl, rfl⟩ ⟨rfl, rfl⟩ (by omega) (by omega) (fun ov w_3 H locs hQ hP hD hS => ?_)
    obtain ⟨rfl, hw_3⟩ := hQ
    refine W.eq (g2 := F0 m 346 ls [.long v_2]) rfl ?_
    refine lv_aload_n hx hb dL_alike_346 rfl (lv_at hl 1 rfl) ?_
    refine lv_iconst (v := 2) hx hb dL_alike_347 (by decide) ?_
    refine lv_lload hx hb dL_alike_348 (lv_at hl 4 rfl) ?_
    obtain ⟨v_5, hv_4, h⟩ := bd_l h
    refine Lo_T (As := [.ref (cB 0), .int 2, .long x6_339]) (rest := [.long v_2]) (wA := u_339) (wr := w_3) 7 42 (648) (3996) 662 4080 (co_script l hst D k cB nB tB Y u_339 hu_339 2 x6_339 v_5 hv_4) ⟨hx, hb, hml, hown, hts⟩ (vx_cwSW 3 hts gL_alike_L_script rfl rfl rfl (by decide +kernel) ⟨Nat.le_of_ble_eq_true rfl, Nat.le_of_ble_eq_true rfl⟩) hK hG hC hP hD hS hA (List.perm_append_comm) rfl hl.1 rfl (Nat.le_of_ble_eq_true rfl) dL_alike_350 ⟨rfl, rfl⟩ ⟨rfl, rfl⟩ (by omega) (by omega) (fun ov u_6 H locs hQ hP hD hS => ?_)
    obtain ⟨rfl, hu_6⟩ := hQ
    refine W.eq (g2 := F0 m 353 ls [.long v_5, .long v_2]) rfl ?_
    refine W.lcmp hx hb dL_alike_353 ?_
    refine lv_if_ne (tgt := 381) hx hb dL_alike_354 (by decide) (fun c_7 => ?_) (fun c_7 => ?_)
    · have h := it_r c_7 h
      refine lv_iconst (v := 0) hx hb dL_alike_381 (by decide) ?_
      cases h
      exact Cx_zret (B := B9) rfl (by rw [hB9]; exact ⟨rfl, w_3, u_6, List.perm_append_comm, hw_3, hu_6⟩) (by show 648 ≤ 662; omega) (by show 3996 ≤ 4080; omega) hx hb hr (by decide) hP hD hS dL_alike_382 hlocks
    · have h := it_l c_7 h
      refine lv_aload_n hx hb dL_alike_357 rfl (lv_at hl 0 rfl) ?_
      refine lv_iload_n hx hb dL_alike_358 rfl (lv_at hl 2 rfl) ?_
      refine lv_i2l hx hb dL_alike_359 rfl ?_
      refine lv_iload hx hb dL_alike_360 (lv_at hl 3 rfl) ?_
      obtain ⟨v_9, hv_8, h⟩ := bd_l h
      refine Lo_T (As := [.ref (cA 0), .long (p1.toInt64), .int x4_339]) (rest := []) (wA := w_3) (wr := u_6) 7 42 (655) (4038) 662 4080 (co_simulate l hst D k cA nA tA X w_3 hw_3 (p1.toInt64) x4_339 v_9 hv_8) ⟨hx, hb, hml, hown, hts⟩ (vx_cwSW 3 hts gL_alike_L_simulate rfl rfl rfl (by decide +kernel) ⟨Nat.le_of_ble_eq_true rfl, Nat.le_of_ble_eq_true rfl⟩) hK hG hC hP hD hS hA (List.perm_append_comm) rfl hl.1 rfl (Nat.le_of_ble_eq_true rfl) dL_alike_362 ⟨rfl, rfl⟩ ⟨rfl, rfl⟩ (by omega) (by omega) (fun ov w_10 H locs hQ hP hD hS => ?_)
      obtain ⟨rfl, hw_10⟩ := hQ
      refine W.eq (g2 := F0 m 365 ls [.long v_9]) rfl ?_
      refine lv_aload_n hx hb dL_alike_365 rfl (lv_at hl 1 rfl) ?_
      refine lv_iload_n hx hb dL_alike_366 rfl (lv_at hl 2 rfl) ?_
      refine lv_i2l hx hb dL_alike_367 rfl ?_
      refine lv_iload hx hb dL_alike_368 (lv_at hl 3 rfl) ?_
      obtain ⟨v_12, hv_11, h⟩ := bd_l h
      refine Lo_T (As := [.ref (cB 0), .long (p1.toInt64), .int x4_339]) (rest := [.long v_9]) (wA := u_6) (wr := w_10) 7 42 (662) (4080) 662 4080 (co_simulate l hst D k cB nB tB Y u_6 hu_6 (p1.toInt64) x4_339 v_12 hv_11) ⟨hx, hb, hml, hown, hts⟩ (vx_cwSW 3 hts gL_alike_L_simulate rfl rfl rfl (by decide +kernel) ⟨Nat.le_of_ble_eq_true rfl, Nat.le_of_ble_eq_true rfl⟩) hK hG hC hP hD hS hA (List.perm_append_comm) rfl hl.1 rfl (Nat.le_of_ble_eq_true rfl) dL_alike_370 ⟨rfl, rfl⟩ ⟨rfl, rfl⟩ (by omega) (by omega) (fun ov u_13 H locs hQ hP hD hS => ?_)
      obtain ⟨rfl, hu_13⟩ := hQ
      refine W.eq (g2 := F0 m 373 ls [.long v_12, .long v_9]) rfl ?_
      refine W.lcmp hx hb dL_alike_373 ?_
      refine lv_if_ne (tgt := 381) hx hb dL_alike_374 (by decide) (fun c_14 => ?_) (fun c_14 => ?_)
      · have h := it_r c_14 h
        refine lv_iconst (v := 0) hx hb dL_alike_381 (by decide) ?_
        cases h
        exact Cx_zret (B := B9) rfl (by rw [hB9]; exact ⟨rfl, w_10, u_13, List.perm_append_comm, hw_10, hu_13⟩) (by show 662 ≤ 662; omega) (by show 4080 ≤ 4080; omega) hx hb hr (by decide) hP hD hS dL_alike_382 hlocks
      · have h := it_l c_14 h
        refine lv_iconst (v := 1) hx hb dL_alike_377 (by decide) ?_
        refine lv_goto (tgt := 382) hx hb dL_alike_378 (by decide) ?_
        cases h
        exact Cx_zret (B := B9) rfl (by rw [hB9]; exact ⟨rfl, w_10, u_13, List.perm_append_comm, hw_10, hu_13⟩) (by show 662 ≤ 662; omega) (by show 4080 ≤ 4080; omega) hx hb hr (by decide) hP hD hS dL_alike_382 hlocks
  have hC_260 : ∀ (x4_260 : Int32) (t0_260 : Int32) (w_260 : va_W) (u_260 : va_W) (H : Heap) (locs : List Loc) (ls : Array Slot), Ob k cA nA tA X w_260 → Ob k cB nB tB Y u_260 → va_P D vwCl (w_260 ++ u_260) H → va_D A (w_260 ++ u_260) → va_S A s.heap H locs → lv_has ls 8 [(0, .ref (cA 0)), (1, .ref (cB 0)), (2, .int p1), (4, .int x4_260)] → f_L_alike_260 X Y p1 x4_260 t0_260 = some o → W p l e ({ frames := 14, cells := 662, slots := 4080, locals := 749 } : Room) s m args below meth c H locs (620) (3828) (vx_MQ below (Qx D A (.inr B9)) (Xx D A (w ++ u) (.inr B9)) args s 662 4080 A) (F0 m 260 ls [.int t0_260]) := by
    intro x4_260 t0_260 w_260 u_260 H locs ls hw_260 hu_260 hP hD hS hl h
    unfold f_L_alike_260 at h
    refine lv_istore (lv' := [(5, .int t0_260), (0, .ref (cA 0)), (1, .ref (cB 0)), (2, .int p1), (4, .int x4_260)]) hx hb dL_alike_260 hl (by decide) rfl (fun ls hl => ?_)
    refine lv_ldc2 (v := 100000) hx hb hown w_0 dL_alike_262 ?_
    refine lv_sipush (v := 10000) hx hb dL_alike_265 (by decide) ?_
    refine lv_iconst (v := 1) hx hb dL_alike_268 (by decide) ?_
    refine lv_iload_n hx hb dL_alike_269 rfl (lv_at hl 3 rfl) ?_
    refine lv_bipush (v := 8) hx hb dL_alike_270 (by decide) ?_
    refine lv_irem hx hb dL_alike_272 (by decide) ?_
    refine lv_iadd hx hb dL_alike_273 ?_
    refine lv_imul hx hb dL_alike_274 ?_
    refine lv_iload_n hx hb dL_alike_275 rfl (lv_at hl 3 rfl) ?_
    refine lv_bipush (v := 8) hx hb dL_alike_276 (by decide) ?_
    refine lv_idiv hx hb dL_alike_278 (by decide) ?_
    refine lv_sipush (v := 10000) hx hb dL_alike_279 (by decide) ?_
    refine lv_irem hx hb dL_alike_282 (by decide) ?_
    refine lv_iadd hx hb dL_alike_283 ?_
    refine lv_i2l hx hb dL_alike_284 rfl ?_
    refine lv_lmul hx hb dL_alike_285 ?_
    refine lv_iload_n hx hb dL_alike_286 rfl (lv_at hl 3 rfl) ?_
    refine lv_ldc (v := 100000) hx hb hown w_1 dL_alike_287 ?_
    refine lv_irem hx hb dL_alike_289 (by decide) ?_
    refine lv_i2l hx hb dL_alike_290 rfl ?_
    refine lv_ladd hx hb dL_alike_291 ?_
    refine lv_topl (fun v_15 ev_15 => ?_)
    have h := nm_l h ev_15
    refine lv_lstore (lv' := [(6, .long v_15), (5, .int t0_260), (0, .ref (cA 0)), (1, .ref (cB 0)), (2, .int p1), (4, .int x4_260)]) hx hb dL_alike_292 hl (by decide) rfl (fun ls hl => ?_)
    refine lv_iload hx hb dL_alike_294 (lv_at hl 1 rfl) ?_
    refine lv_if_eq (tgt := 381) hx hb dL_alike_296 (by decide) (fun c_16 => ?_) (fun c_16 => ?_)
    · have h := it_l c_16 h
      refine lv_iconst (v := 0) hx hb dL_alike_381 (by decide) ?_
      cases h
      exact Cx_zret (B := B9) rfl (by rw [hB9]; exact ⟨rfl, w_260, u_260, List.Perm.refl _, hw_260, hu_260⟩) (by show 620 ≤ 662; omega) (by show 3828 ≤ 4080; omega) hx hb hr (by decide) hP hD hS dL_alike_382 hlocks
    · have h := it_r c_16 h
      refine lv_iload_n hx hb dL_alike_299 rfl (lv_at hl 4 rfl) ?_
      refine lv_iconst (v := 4) hx hb dL_alike_300 (by decide) ?_
      refine lv_irem hx hb dL_alike_301 (by decide) ?_
      refine lv_if_gt (tgt := 339) hx hb dL_alike_302 (by decide) (fun c_17 => ?_) (fun c_17 => ?_)
      · have h := it_l c_17 h
        refine W.widen (k := 634) (n := 3912) (by omega) (by omega) ?_
        exact hC_339 x4_260 v_15 w_260 u_260 _ _ _ hw_260 hu_260 hP hD hS (lv_sub hl [2, 3, 4, 5, 0] rfl) h
      · have h := it_r c_17 h
        refine lv_aload_n hx hb dL_alike_305 rfl (lv_at hl 2 rfl) ?_
        refine lv_iload_n hx hb dL_alike_306 rfl (lv_at hl 4 rfl) ?_
        refine lv_sipush (v := 2000) hx hb dL_alike_307 (by decide) ?_
        refine lv_irem hx hb dL_alike_310 (by decide) ?_
        refine lv_iconst (v := 1) hx hb dL_alike_311 (by decide) ?_
        refine lv_iload_n hx hb dL_alike_312 rfl (lv_at hl 4 rfl) ?_
        refine lv_bipush (v := 9) hx hb dL_alike_313 (by decide) ?_
        refine lv_irem hx hb dL_alike_315 (by decide) ?_
        refine lv_iadd hx hb dL_alike_316 ?_
        obtain ⟨v_19, hv_18, h⟩ := bd_l h
        refine Lo_T (As := [.ref (cA 0), .int (p1 - p1 / 2000 * 2000), .int (1 + (p1 - p1 / 9 * 9))]) (rest := []) (wA := w_260) (wr := u_260) 7 42 (627) (3870) 662 4080 (co_steamFor l hst D k cA nA tA X w_260 hw_260 (p1 - p1 / 2000 * 2000) (1 + (p1 - p1 / 9 * 9)) v_19 hv_18) ⟨hx, hb, hml, hown, hts⟩ (vx_cwSW 3 hts gL_alike_L_steamFor rfl rfl rfl (by decide +kernel) ⟨Nat.le_of_ble_eq_true rfl, Nat.le_of_ble_eq_true rfl⟩) hK hG hC hP hD hS hA (List.Perm.refl _) rfl hl.1 rfl (Nat.le_of_ble_eq_true rfl) dL_alike_317 ⟨rfl, rfl⟩ ⟨rfl, rfl⟩ (by omega) (by omega) (fun ov w_20 H locs hQ hP hD hS => ?_)
        obtain ⟨rfl, hw_20⟩ := hQ
        refine W.eq (g2 := F0 m 320 ls [.long v_19]) rfl ?_
        refine lv_aload_n hx hb dL_alike_320 rfl (lv_at hl 3 rfl) ?_
        refine lv_iload_n hx hb dL_alike_321 rfl (lv_at hl 4 rfl) ?_
        refine lv_sipush (v := 2000) hx hb dL_alike_322 (by decide) ?_
        refine lv_irem hx hb dL_alike_325 (by decide) ?_
        refine lv_iconst (v := 1) hx hb dL_alike_326 (by decide) ?_
        refine lv_iload_n hx hb dL_alike_327 rfl (lv_at hl 4 rfl) ?_
        refine lv_bipush (v := 9) hx hb dL_alike_328 (by decide) ?_
        refine lv_irem hx hb dL_alike_330 (by decide) ?_
        refine lv_iadd hx hb dL_alike_331 ?_
        obtain ⟨v_22, hv_21, h⟩ := bd_l h
        refine Lo_T (As := [.ref (cB 0), .int (p1 - p1 / 2000 * 2000), .int (1 + (p1 - p1 / 9 * 9))]) (rest := [.long v_19]) (wA := u_260) (wr := w_20) 7 42 (634) (3912) 662 4080 (co_steamFor l hst D k cB nB tB Y u_260 hu_260 (p1 - p1 / 2000 * 2000) (1 + (p1 - p1 / 9 * 9)) v_22 hv_21) ⟨hx, hb, hml, hown, hts⟩ (vx_cwSW 3 hts gL_alike_L_steamFor rfl rfl rfl (by decide +kernel) ⟨Nat.le_of_ble_eq_true rfl, Nat.le_of_ble_eq_true rfl⟩) hK hG hC hP hD hS hA (List.perm_append_comm) rfl hl.1 rfl (Nat.le_of_ble_eq_true rfl) dL_alike_332 ⟨rfl, rfl⟩ ⟨rfl, rfl⟩ (by omega) (by omega) (fun ov u_23 H locs hQ hP hD hS => ?_)
        obtain ⟨rfl, hu_23⟩ := hQ
        refine W.eq (g2 := F0 m 335 ls [.long v_22, .long v_19]) rfl ?_
        refine W.lcmp hx hb dL_alike_335 ?_
        refine lv_if_ne (tgt := 381) hx hb dL_alike_336 (by decide) (fun c_24 => ?_) (fun c_24 => ?_)
        · have h := it_r c_24 h
          refine lv_iconst (v := 0) hx hb dL_alike_381 (by decide) ?_
          cases h
          exact Cx_zret (B := B9) rfl (by rw [hB9]; exact ⟨rfl, w_20, u_23, List.perm_append_comm, hw_20, hu_23⟩) (by show 634 ≤ 662; omega) (by show 3912 ≤ 4080; omega) hx hb hr (by decide) hP hD hS dL_alike_382 hlocks
        · have h := it_l c_24 h
          have hP : va_P D vwCl (w_20 ++ u_23) H := P_perm List.perm_append_comm hP
          have hD : va_D A (w_20 ++ u_23) := D_perm List.perm_append_comm hD
          refine W.widen (k := 634) (n := 3912) (by omega) (by omega) ?_
          exact hC_339 x4_260 v_15 w_20 u_23 _ _ _ hw_20 hu_23 hP hD hS (lv_sub hl [2, 3, 4, 5, 0] rfl) h
  have hC_259 : ∀ (x4_259 : Int32) (w_259 : va_W) (u_259 : va_W) (H : Heap) (locs : List Loc) (ls : Array Slot), Ob k cA nA tA X w_259 → Ob k cB nB tB Y u_259 → va_P D vwCl (w_259 ++ u_259) H → va_D A (w_259 ++ u_259) → va_S A s.heap H locs → lv_has ls 8 [(0, .ref (cA 0)), (1, .ref (cB 0)), (2, .int p1), (4, .int x4_259)] → f_L_alike_259 X Y p1 x4_259 = some o → W p l e ({ frames := 14, cells := 662, slots := 4080, locals := 749 } : Room) s m args below meth c H locs (620) (3828) (vx_MQ below (Qx D A (.inr B9)) (Xx D A (w ++ u) (.inr B9)) args s 662 4080 A) (F0 m 259 ls []) := by
    intro x4_259 w_259 u_259 H locs ls hw_259 hu_259 hP hD hS hl h
    unfold f_L_alike_259 at h
    refine lv_iconst (v := 0) hx hb dL_alike_259 (by decide) ?_
    refine W.widen (k := 620) (n := 3828) (by omega) (by omega) ?_
    exact hC_260 x4_259 0 w_259 u_259 _ _ _ hw_259 hu_259 hP hD hS (lv_sub hl [0, 1, 2, 3] rfl) h
  have hC_94 : ∀ (x3_94 : Int32) (x4_94 : Int32) (t0_94 : Int32) (t1_94 : Int32) (t2_94 : Int64) (w_94 : va_W) (u_94 : va_W) (H : Heap) (locs : List Loc) (ls : Array Slot), Ob k cA nA tA X w_94 → Ob k cB nB tB Y u_94 → va_P D vwCl (w_94 ++ u_94) H → va_D A (w_94 ++ u_94) → va_S A s.heap H locs → lv_has ls 8 [(0, .ref (cA 0)), (1, .ref (cB 0)), (2, .int p1), (3, .int x3_94), (4, .int x4_94)] → f_L_alike_94 X Y p1 x3_94 x4_94 t0_94 t1_94 t2_94 = some o → W p l e ({ frames := 14, cells := 662, slots := 4080, locals := 749 } : Room) s m args below meth c H locs (451) (2706) (vx_MQ below (Qx D A (.inr B9)) (Xx D A (w ++ u) (.inr B9)) args s 662 4080 A) (F0 m 94 ls [.int t0_94, .int t1_94, .ref (cB 0), .long t2_94]) := by
    intro x3_94 x4_94 t0_94 t1_94 t2_94 w_94 u_94 H locs ls hw_94 hu_94 hP hD hS hl h
    unfold f_L_alike_94 at h
    obtain ⟨v_26, hv_25, h⟩ := bd_l h
    refine Lo_T (As := [.ref (cB 0), .int t1_94, .int t0_94]) (rest := [.long t2_94]) (wA := u_94) (wr := w_94) 1 6 (452) (2712) 662 4080 (co_neighbor l hst D k cB nB tB Y u_94 hu_94 t1_94 t0_94 v_26 hv_25) ⟨hx, hb, hml, hown, hts⟩ (vx_cwSW 3 hts gL_alike_L_neighbor rfl rfl rfl (by decide +kernel) ⟨Nat.le_of_ble_eq_true rfl, Nat.le_of_ble_eq_true rfl⟩) hK hG hC hP hD hS hA (List.perm_append_comm) rfl hl.1 rfl (Nat.le_of_ble_eq_true rfl) dL_alike_94 ⟨rfl, rfl⟩ ⟨rfl, rfl⟩ (by omega) (by omega) (fun ov u_27 H locs hQ hP hD hS => ?_)
    obtain ⟨rfl, hu_27⟩ := hQ
    refine W.eq (g2 := F0 m 97 ls [.long v_26, .long t2_94]) rfl ?_
    refine W.lcmp hx hb dL_alike_97 ?_
    refine lv_if_ne (tgt := 259) hx hb dL_alike_98 (by decide) (fun c_28 => ?_) (fun c_28 => ?_)
    · have h := it_r c_28 h
      have hP : va_P D vwCl (w_94 ++ u_27) H := P_perm List.perm_append_comm hP
      have hD : va_D A (w_94 ++ u_27) := D_perm List.perm_append_comm hD
      refine W.widen (k := 620) (n := 3828) (by omega) (by omega) ?_
      exact hC_259 x4_94 w_94 u_27 _ _ _ hw_94 hu_27 hP hD hS (lv_sub hl [0, 1, 2, 4] rfl) h
    · have h := it_l c_28 h
      refine lv_aload_n hx hb dL_alike_101 rfl (lv_at hl 0 rfl) ?_
      refine lv_iload_n hx hb dL_alike_102 rfl (lv_at hl 3 rfl) ?_
      refine lv_iload hx hb dL_alike_103 (lv_at hl 4 rfl) ?_
      refine lv_iload_n hx hb dL_alike_105 rfl (lv_at hl 2 rfl) ?_
      refine lv_bipush (v := 10) hx hb dL_alike_106 (by decide) ?_
      refine lv_irem hx hb dL_alike_108 (by decide) ?_
      obtain ⟨v_30, hv_29, h⟩ := bd_l h
      refine Lo_T (As := [.ref (cA 0), .int x3_94, .int x4_94, .int (p1 - p1 / 10 * 10)]) (rest := []) (wA := w_94) (wr := u_27) 3 18 (455) (2730) 662 4080 (co_ahead l hst D k cA nA tA X w_94 hw_94 x3_94 x4_94 (p1 - p1 / 10 * 10) v_30 hv_29) ⟨hx, hb, hml, hown, hts⟩ (vx_cwSW 4 hts gL_alike_L_ahead rfl rfl rfl (by decide +kernel) ⟨Nat.le_of_ble_eq_true rfl, Nat.le_of_ble_eq_true rfl⟩) hK hG hC hP hD hS hA (List.perm_append_comm) rfl hl.1 rfl (Nat.le_of_ble_eq_true rfl) dL_alike_109 ⟨rfl, rfl⟩ ⟨rfl, rfl⟩ (by omega) (by omega) (fun ov w_31 H locs hQ hP hD hS => ?_)
      obtain ⟨rfl, hw_31⟩ := hQ
      refine W.eq (g2 := F0 m 112 ls [.long v_30]) rfl ?_
      refine lv_aload_n hx hb dL_alike_112 rfl (lv_at hl 1 rfl) ?_
      refine lv_iload_n hx hb dL_alike_113 rfl (lv_at hl 3 rfl) ?_
      refine lv_iload hx hb dL_alike_114 (lv_at hl 4 rfl) ?_
      refine lv_iload_n hx hb dL_alike_116 rfl (lv_at hl 2 rfl) ?_
      refine lv_bipush (v := 10) hx hb dL_alike_117 (by decide) ?_
      refine lv_irem hx hb dL_alike_119 (by decide) ?_
      obtain ⟨v_33, hv_32, h⟩ := bd_l h
      refine Lo_T (As := [.ref (cB 0), .int x3_94, .int x4_94, .int (p1 - p1 / 10 * 10)]) (rest := [.long v_30]) (wA := u_27) (wr := w_31) 3 18 (458) (2748) 662 4080 (co_ahead l hst D k cB nB tB Y u_27 hu_27 x3_94 x4_94 (p1 - p1 / 10 * 10) v_33 hv_32) ⟨hx, hb, hml, hown, hts⟩ (vx_cwSW 4 hts gL_alike_L_ahead rfl rfl rfl (by decide +kernel) ⟨Nat.le_of_ble_eq_true rfl, Nat.le_of_ble_eq_true rfl⟩) hK hG hC hP hD hS hA (List.perm_append_comm) rfl hl.1 rfl (Nat.le_of_ble_eq_true rfl) dL_alike_120 ⟨rfl, rfl⟩ ⟨rfl, rfl⟩ (by omega) (by omega) (fun ov u_34 H locs hQ hP hD hS => ?_)
      obtain ⟨rfl, hu_34⟩ := hQ
      refine W.eq (g2 := F0 m 123 ls [.long v_33, .long v_30]) rfl ?_
      refine W.lcmp hx hb dL_alike_123 ?_
      refine lv_if_ne (tgt := 259) hx hb dL_alike_124 (by decide) (fun c_35 => ?_) (fun c_35 => ?_)
      · have h := it_r c_35 h
        have hP : va_P D vwCl (w_31 ++ u_34) H := P_perm List.perm_append_comm hP
        have hD : va_D A (w_31 ++ u_34) := D_perm List.perm_append_comm hD
        refine W.widen (k := 620) (n := 3828) (by omega) (by omega) ?_
        exact hC_259 x4_94 w_31 u_34 _ _ _ hw_31 hu_34 hP hD hS (lv_sub hl [0, 1, 2, 4] rfl) h
      · have h := it_l c_35 h
        refine lv_aload_n hx hb dL_alike_127 rfl (lv_at hl 0 rfl) ?_
        refine lv_iload hx hb dL_alike_128 (lv_at hl 4 rfl) ?_
        refine lv_iload_n hx hb dL_alike_130 rfl (lv_at hl 2 rfl) ?_
        refine lv_bipush (v := 10) hx hb dL_alike_131 (by decide) ?_
        refine lv_irem hx hb dL_alike_133 (by decide) ?_
        obtain ⟨v_37, hv_36, h⟩ := bd_l h
        refine Lo_T (As := [.ref (cA 0), .int x4_94, .int (p1 - p1 / 10 * 10)]) (rest := []) (wA := w_31) (wr := u_34) 2 12 (460) (2760) 662 4080 (co_growth l hst D k cA nA tA X w_31 hw_31 x4_94 (p1 - p1 / 10 * 10) v_37 hv_36) ⟨hx, hb, hml, hown, hts⟩ (vx_cwSW 3 hts gL_alike_L_growth rfl rfl rfl (by decide +kernel) ⟨Nat.le_of_ble_eq_true rfl, Nat.le_of_ble_eq_true rfl⟩) hK hG hC hP hD hS hA (List.perm_append_comm) rfl hl.1 rfl (Nat.le_of_ble_eq_true rfl) dL_alike_134 ⟨rfl, rfl⟩ ⟨rfl, rfl⟩ (by omega) (by omega) (fun ov w_38 H locs hQ hP hD hS => ?_)
        obtain ⟨rfl, hw_38⟩ := hQ
        refine W.eq (g2 := F0 m 137 ls [.long v_37]) rfl ?_
        refine lv_aload_n hx hb dL_alike_137 rfl (lv_at hl 1 rfl) ?_
        refine lv_iload hx hb dL_alike_138 (lv_at hl 4 rfl) ?_
        refine lv_iload_n hx hb dL_alike_140 rfl (lv_at hl 2 rfl) ?_
        refine lv_bipush (v := 10) hx hb dL_alike_141 (by decide) ?_
        refine lv_irem hx hb dL_alike_143 (by decide) ?_
        obtain ⟨v_40, hv_39, h⟩ := bd_l h
        refine Lo_T (As := [.ref (cB 0), .int x4_94, .int (p1 - p1 / 10 * 10)]) (rest := [.long v_37]) (wA := u_34) (wr := w_38) 2 12 (462) (2772) 662 4080 (co_growth l hst D k cB nB tB Y u_34 hu_34 x4_94 (p1 - p1 / 10 * 10) v_40 hv_39) ⟨hx, hb, hml, hown, hts⟩ (vx_cwSW 3 hts gL_alike_L_growth rfl rfl rfl (by decide +kernel) ⟨Nat.le_of_ble_eq_true rfl, Nat.le_of_ble_eq_true rfl⟩) hK hG hC hP hD hS hA (List.perm_append_comm) rfl hl.1 rfl (Nat.le_of_ble_eq_true rfl) dL_alike_144 ⟨rfl, rfl⟩ ⟨rfl, rfl⟩ (by omega) (by omega) (fun ov u_41 H locs hQ hP hD hS => ?_)
        obtain ⟨rfl, hu_41⟩ := hQ
        refine W.eq (g2 := F0 m 147 ls [.long v_40, .long v_37]) rfl ?_
        refine W.lcmp hx hb dL_alike_147 ?_
        refine lv_if_ne (tgt := 259) hx hb dL_alike_148 (by decide) (fun c_42 => ?_) (fun c_42 => ?_)
        · have h := it_r c_42 h
          have hP : va_P D vwCl (w_38 ++ u_41) H := P_perm List.perm_append_comm hP
          have hD : va_D A (w_38 ++ u_41) := D_perm List.perm_append_comm hD
          refine W.widen (k := 620) (n := 3828) (by omega) (by omega) ?_
          exact hC_259 x4_94 w_38 u_41 _ _ _ hw_38 hu_41 hP hD hS (lv_sub hl [0, 1, 2, 4] rfl) h
        · have h := it_l c_42 h
          refine lv_aload_n hx hb dL_alike_151 rfl (lv_at hl 0 rfl) ?_
          refine lv_iload_n hx hb dL_alike_152 rfl (lv_at hl 3 rfl) ?_
          refine lv_iconst (v := 1) hx hb dL_alike_153 (by decide) ?_
          refine lv_iload_n hx hb dL_alike_154 rfl (lv_at hl 2 rfl) ?_
          refine lv_bipush (v := 20) hx hb dL_alike_155 (by decide) ?_
          refine lv_irem hx hb dL_alike_157 (by decide) ?_
          refine lv_iadd hx hb dL_alike_158 ?_
          refine lv_iload hx hb dL_alike_159 (lv_at hl 4 rfl) ?_
          obtain ⟨v_44, hv_43, h⟩ := bd_l h
          refine Lo_T (As := [.ref (cA 0), .int x3_94, .int (1 + (p1 - p1 / 20 * 20)), .int x4_94]) (rest := []) (wA := w_38) (wr := u_41) 4 24 (466) (2796) 662 4080 (co_washGain l hst D k cA nA tA X w_38 hw_38 x3_94 (1 + (p1 - p1 / 20 * 20)) x4_94 v_44 hv_43) ⟨hx, hb, hml, hown, hts⟩ (vx_cwSW 4 hts gL_alike_L_washGain rfl rfl rfl (by decide +kernel) ⟨Nat.le_of_ble_eq_true rfl, Nat.le_of_ble_eq_true rfl⟩) hK hG hC hP hD hS hA (List.perm_append_comm) rfl hl.1 rfl (Nat.le_of_ble_eq_true rfl) dL_alike_161 ⟨rfl, rfl⟩ ⟨rfl, rfl⟩ (by omega) (by omega) (fun ov w_45 H locs hQ hP hD hS => ?_)
          obtain ⟨rfl, hw_45⟩ := hQ
          refine W.eq (g2 := F0 m 164 ls [.long v_44]) rfl ?_
          refine lv_aload_n hx hb dL_alike_164 rfl (lv_at hl 1 rfl) ?_
          refine lv_iload_n hx hb dL_alike_165 rfl (lv_at hl 3 rfl) ?_
          refine lv_iconst (v := 1) hx hb dL_alike_166 (by decide) ?_
          refine lv_iload_n hx hb dL_alike_167 rfl (lv_at hl 2 rfl) ?_
          refine lv_bipush (v := 20) hx hb dL_alike_168 (by decide) ?_
          refine lv_irem hx hb dL_alike_170 (by decide) ?_
          refine lv_iadd hx hb dL_alike_171 ?_
          refine lv_iload hx hb dL_alike_172 (lv_at hl 4 rfl) ?_
          obtain ⟨v_47, hv_46, h⟩ := bd_l h
          refine Lo_T (As := [.ref (cB 0), .int x3_94, .int (1 + (p1 - p1 / 20 * 20)), .int x4_94]) (rest := [.long v_44]) (wA := u_41) (wr := w_45) 4 24 (470) (2820) 662 4080 (co_washGain l hst D k cB nB tB Y u_41 hu_41 x3_94 (1 + (p1 - p1 / 20 * 20)) x4_94 v_47 hv_46) ⟨hx, hb, hml, hown, hts⟩ (vx_cwSW 4 hts gL_alike_L_washGain rfl rfl rfl (by decide +kernel) ⟨Nat.le_of_ble_eq_true rfl, Nat.le_of_ble_eq_true rfl⟩) hK hG hC hP hD hS hA (List.perm_append_comm) rfl hl.1 rfl (Nat.le_of_ble_eq_true rfl) dL_alike_174 ⟨rfl, rfl⟩ ⟨rfl, rfl⟩ (by omega) (by omega) (fun ov u_48 H locs hQ hP hD hS => ?_)
          obtain ⟨rfl, hu_48⟩ := hQ
          refine W.eq (g2 := F0 m 177 ls [.long v_47, .long v_44]) rfl ?_
          refine W.lcmp hx hb dL_alike_177 ?_
          refine lv_if_ne (tgt := 259) hx hb dL_alike_178 (by decide) (fun c_49 => ?_) (fun c_49 => ?_)
          · have h := it_r c_49 h
            have hP : va_P D vwCl (w_45 ++ u_48) H := P_perm List.perm_append_comm hP
            have hD : va_D A (w_45 ++ u_48) := D_perm List.perm_append_comm hD
            refine W.widen (k := 620) (n := 3828) (by omega) (by omega) ?_
            exact hC_259 x4_94 w_45 u_48 _ _ _ hw_45 hu_48 hP hD hS (lv_sub hl [0, 1, 2, 4] rfl) h
          · have h := it_l c_49 h
            refine lv_aload_n hx hb dL_alike_181 rfl (lv_at hl 0 rfl) ?_
            refine lv_iload_n hx hb dL_alike_182 rfl (lv_at hl 3 rfl) ?_
            refine lv_iconst (v := 1) hx hb dL_alike_183 (by decide) ?_
            refine lv_iload_n hx hb dL_alike_184 rfl (lv_at hl 2 rfl) ?_
            refine lv_bipush (v := 99) hx hb dL_alike_185 (by decide) ?_
            refine lv_irem hx hb dL_alike_187 (by decide) ?_
            refine lv_iadd hx hb dL_alike_188 ?_
            obtain ⟨v_51, hv_50, h⟩ := bd_l h
            refine Lo_T (As := [.ref (cA 0), .int x3_94, .int (1 + (p1 - p1 / 99 * 99))]) (rest := []) (wA := w_45) (wr := u_48) 7 42 (477) (2862) 662 4080 (co_scaledAfter l hst D k cA nA tA X w_45 hw_45 x3_94 (1 + (p1 - p1 / 99 * 99)) v_51 hv_50) ⟨hx, hb, hml, hown, hts⟩ (vx_cwSW 3 hts gL_alike_L_scaledAfter rfl rfl rfl (by decide +kernel) ⟨Nat.le_of_ble_eq_true rfl, Nat.le_of_ble_eq_true rfl⟩) hK hG hC hP hD hS hA (List.perm_append_comm) rfl hl.1 rfl (Nat.le_of_ble_eq_true rfl) dL_alike_189 ⟨rfl, rfl⟩ ⟨rfl, rfl⟩ (by omega) (by omega) (fun ov w_52 H locs hQ hP hD hS => ?_)
            obtain ⟨rfl, hw_52⟩ := hQ
            refine W.eq (g2 := F0 m 192 ls [.long v_51]) rfl ?_
            refine lv_aload_n hx hb dL_alike_192 rfl (lv_at hl 1 rfl) ?_
            refine lv_iload_n hx hb dL_alike_193 rfl (lv_at hl 3 rfl) ?_
            refine lv_iconst (v := 1) hx hb dL_alike_194 (by decide) ?_
            refine lv_iload_n hx hb dL_alike_195 rfl (lv_at hl 2 rfl) ?_
            refine lv_bipush (v := 99) hx hb dL_alike_196 (by decide) ?_
            refine lv_irem hx hb dL_alike_198 (by decide) ?_
            refine lv_iadd hx hb dL_alike_199 ?_
            obtain ⟨v_54, hv_53, h⟩ := bd_l h
            refine Lo_T (As := [.ref (cB 0), .int x3_94, .int (1 + (p1 - p1 / 99 * 99))]) (rest := [.long v_51]) (wA := u_48) (wr := w_52) 7 42 (484) (2904) 662 4080 (co_scaledAfter l hst D k cB nB tB Y u_48 hu_48 x3_94 (1 + (p1 - p1 / 99 * 99)) v_54 hv_53) ⟨hx, hb, hml, hown, hts⟩ (vx_cwSW 3 hts gL_alike_L_scaledAfter rfl rfl rfl (by decide +kernel) ⟨Nat.le_of_ble_eq_true rfl, Nat.le_of_ble_eq_true rfl⟩) hK hG hC hP hD hS hA (List.perm_append_comm) rfl hl.1 rfl (Nat.le_of_ble_eq_true rfl) dL_alike_200 ⟨rfl, rfl⟩ ⟨rfl, rfl⟩ (by omega) (by omega) (fun ov u_55 H locs hQ hP hD hS => ?_)
            obtain ⟨rfl, hu_55⟩ := hQ
            refine W.eq (g2 := F0 m 203 ls [.long v_54, .long v_51]) rfl ?_
            refine W.lcmp hx hb dL_alike_203 ?_
            refine lv_if_ne (tgt := 259) hx hb dL_alike_204 (by decide) (fun c_56 => ?_) (fun c_56 => ?_)
            · have h := it_r c_56 h
              have hP : va_P D vwCl (w_52 ++ u_55) H := P_perm List.perm_append_comm hP
              have hD : va_D A (w_52 ++ u_55) := D_perm List.perm_append_comm hD
              refine W.widen (k := 620) (n := 3828) (by omega) (by omega) ?_
              exact hC_259 x4_94 w_52 u_55 _ _ _ hw_52 hu_55 hP hD hS (lv_sub hl [0, 1, 2, 4] rfl) h
            · have h := it_l c_56 h
              refine lv_aload_n hx hb dL_alike_207 rfl (lv_at hl 0 rfl) ?_
              refine lv_iconst (v := 1) hx hb dL_alike_208 (by decide) ?_
              refine lv_iload_n hx hb dL_alike_209 rfl (lv_at hl 2 rfl) ?_
              refine lv_iconst (v := 2) hx hb dL_alike_210 (by decide) ?_
              refine lv_irem hx hb dL_alike_211 (by decide) ?_
              refine lv_iadd hx hb dL_alike_212 ?_
              refine lv_iconst (v := 1) hx hb dL_alike_213 (by decide) ?_
              obtain ⟨v_58, hv_57, h⟩ := bd_l h
              refine Lo_T (As := [.ref (cA 0), .int (1 + (p1 - p1 / 2 * 2)), .int 1]) (rest := []) (wA := w_52) (wr := u_55) 34 231 (518) (3135) 662 4080 (co_bestTurns l hst D k cA nA tA X w_52 hw_52 (1 + (p1 - p1 / 2 * 2)) 1 v_58 hv_57) ⟨hx, hb, hml, hown, hts⟩ (vx_cwSW 3 hts gL_alike_L_bestTurns rfl rfl rfl (by decide +kernel) ⟨Nat.le_of_ble_eq_true rfl, Nat.le_of_ble_eq_true rfl⟩) hK hG hC hP hD hS hA (List.perm_append_comm) rfl hl.1 rfl (Nat.le_of_ble_eq_true rfl) dL_alike_214 ⟨rfl, rfl⟩ ⟨rfl, rfl⟩ (by omega) (by omega) (fun ov w_59 H locs hQ hP hD hS => ?_)
              obtain ⟨rfl, hw_59⟩ := hQ
              refine W.eq (g2 := F0 m 217 ls [.long v_58]) rfl ?_
              refine lv_aload_n hx hb dL_alike_217 rfl (lv_at hl 1 rfl) ?_
              refine lv_iconst (v := 1) hx hb dL_alike_218 (by decide) ?_
              refine lv_iload_n hx hb dL_alike_219 rfl (lv_at hl 2 rfl) ?_
              refine lv_iconst (v := 2) hx hb dL_alike_220 (by decide) ?_
              refine lv_irem hx hb dL_alike_221 (by decide) ?_
              refine lv_iadd hx hb dL_alike_222 ?_
              refine lv_iconst (v := 1) hx hb dL_alike_223 (by decide) ?_
              obtain ⟨v_61, hv_60, h⟩ := bd_l h
              refine Lo_T (As := [.ref (cB 0), .int (1 + (p1 - p1 / 2 * 2)), .int 1]) (rest := [.long v_58]) (wA := u_55) (wr := w_59) 34 231 (552) (3366) 662 4080 (co_bestTurns l hst D k cB nB tB Y u_55 hu_55 (1 + (p1 - p1 / 2 * 2)) 1 v_61 hv_60) ⟨hx, hb, hml, hown, hts⟩ (vx_cwSW 3 hts gL_alike_L_bestTurns rfl rfl rfl (by decide +kernel) ⟨Nat.le_of_ble_eq_true rfl, Nat.le_of_ble_eq_true rfl⟩) hK hG hC hP hD hS hA (List.perm_append_comm) rfl hl.1 rfl (Nat.le_of_ble_eq_true rfl) dL_alike_224 ⟨rfl, rfl⟩ ⟨rfl, rfl⟩ (by omega) (by omega) (fun ov u_62 H locs hQ hP hD hS => ?_)
              obtain ⟨rfl, hu_62⟩ := hQ
              refine W.eq (g2 := F0 m 227 ls [.long v_61, .long v_58]) rfl ?_
              refine W.lcmp hx hb dL_alike_227 ?_
              refine lv_if_ne (tgt := 259) hx hb dL_alike_228 (by decide) (fun c_63 => ?_) (fun c_63 => ?_)
              · have h := it_r c_63 h
                have hP : va_P D vwCl (w_59 ++ u_62) H := P_perm List.perm_append_comm hP
                have hD : va_D A (w_59 ++ u_62) := D_perm List.perm_append_comm hD
                refine W.widen (k := 620) (n := 3828) (by omega) (by omega) ?_
                exact hC_259 x4_94 w_59 u_62 _ _ _ hw_59 hu_62 hP hD hS (lv_sub hl [0, 1, 2, 4] rfl) h
              · have h := it_l c_63 h
                refine lv_aload_n hx hb dL_alike_231 rfl (lv_at hl 0 rfl) ?_
                refine lv_iconst (v := 1) hx hb dL_alike_232 (by decide) ?_
                refine lv_iload_n hx hb dL_alike_233 rfl (lv_at hl 2 rfl) ?_
                refine lv_iconst (v := 2) hx hb dL_alike_234 (by decide) ?_
                refine lv_irem hx hb dL_alike_235 (by decide) ?_
                refine lv_iadd hx hb dL_alike_236 ?_
                refine lv_iconst (v := 0) hx hb dL_alike_237 (by decide) ?_
                obtain ⟨v_65, hv_64, h⟩ := bd_l h
                refine Lo_T (As := [.ref (cA 0), .int (1 + (p1 - p1 / 2 * 2)), .int 0]) (rest := []) (wA := w_59) (wr := u_62) 34 231 (586) (3597) 662 4080 (co_bestTurns l hst D k cA nA tA X w_59 hw_59 (1 + (p1 - p1 / 2 * 2)) 0 v_65 hv_64) ⟨hx, hb, hml, hown, hts⟩ (vx_cwSW 3 hts gL_alike_L_bestTurns rfl rfl rfl (by decide +kernel) ⟨Nat.le_of_ble_eq_true rfl, Nat.le_of_ble_eq_true rfl⟩) hK hG hC hP hD hS hA (List.perm_append_comm) rfl hl.1 rfl (Nat.le_of_ble_eq_true rfl) dL_alike_238 ⟨rfl, rfl⟩ ⟨rfl, rfl⟩ (by omega) (by omega) (fun ov w_66 H locs hQ hP hD hS => ?_)
                obtain ⟨rfl, hw_66⟩ := hQ
                refine W.eq (g2 := F0 m 241 ls [.long v_65]) rfl ?_
                refine lv_aload_n hx hb dL_alike_241 rfl (lv_at hl 1 rfl) ?_
                refine lv_iconst (v := 1) hx hb dL_alike_242 (by decide) ?_
                refine lv_iload_n hx hb dL_alike_243 rfl (lv_at hl 2 rfl) ?_
                refine lv_iconst (v := 2) hx hb dL_alike_244 (by decide) ?_
                refine lv_irem hx hb dL_alike_245 (by decide) ?_
                refine lv_iadd hx hb dL_alike_246 ?_
                refine lv_iconst (v := 0) hx hb dL_alike_247 (by decide) ?_
                obtain ⟨v_68, hv_67, h⟩ := bd_l h
                refine Lo_T (As := [.ref (cB 0), .int (1 + (p1 - p1 / 2 * 2)), .int 0]) (rest := [.long v_65]) (wA := u_62) (wr := w_66) 34 231 (620) (3828) 662 4080 (co_bestTurns l hst D k cB nB tB Y u_62 hu_62 (1 + (p1 - p1 / 2 * 2)) 0 v_68 hv_67) ⟨hx, hb, hml, hown, hts⟩ (vx_cwSW 3 hts gL_alike_L_bestTurns rfl rfl rfl (by decide +kernel) ⟨Nat.le_of_ble_eq_true rfl, Nat.le_of_ble_eq_true rfl⟩) hK hG hC hP hD hS hA (List.perm_append_comm) rfl hl.1 rfl (Nat.le_of_ble_eq_true rfl) dL_alike_248 ⟨rfl, rfl⟩ ⟨rfl, rfl⟩ (by omega) (by omega) (fun ov u_69 H locs hQ hP hD hS => ?_)
                obtain ⟨rfl, hu_69⟩ := hQ
                refine W.eq (g2 := F0 m 251 ls [.long v_68, .long v_65]) rfl ?_
                refine W.lcmp hx hb dL_alike_251 ?_
                refine lv_if_ne (tgt := 259) hx hb dL_alike_252 (by decide) (fun c_70 => ?_) (fun c_70 => ?_)
                · have h := it_r c_70 h
                  have hP : va_P D vwCl (w_66 ++ u_69) H := P_perm List.perm_append_comm hP
                  have hD : va_D A (w_66 ++ u_69) := D_perm List.perm_append_comm hD
                  refine W.widen (k := 620) (n := 3828) (by omega) (by omega) ?_
                  exact hC_259 x4_94 w_66 u_69 _ _ _ hw_66 hu_69 hP hD hS (lv_sub hl [0, 1, 2, 4] rfl) h
                · have h := it_l c_70 h
                  refine lv_iconst (v := 1) hx hb dL_alike_255 (by decide) ?_
                  refine lv_goto (tgt := 260) hx hb dL_alike_256 (by decide) ?_
                  have hP : va_P D vwCl (w_66 ++ u_69) H := P_perm List.perm_append_comm hP
                  have hD : va_D A (w_66 ++ u_69) := D_perm List.perm_append_comm hD
                  refine W.widen (k := 620) (n := 3828) (by omega) (by omega) ?_
                  exact hC_260 x4_94 1 w_66 u_69 _ _ _ hw_66 hu_69 hP hD hS (lv_sub hl [0, 1, 2, 4] rfl) h
  have hC_78 : ∀ (x3_78 : Int32) (x4_78 : Int32) (t0_78 : Int32) (t1_78 : Int32) (w_78 : va_W) (u_78 : va_W) (H : Heap) (locs : List Loc) (ls : Array Slot), Ob k cA nA tA X w_78 → Ob k cB nB tB Y u_78 → va_P D vwCl (w_78 ++ u_78) H → va_D A (w_78 ++ u_78) → va_S A s.heap H locs → lv_has ls 8 [(0, .ref (cA 0)), (1, .ref (cB 0)), (2, .int p1), (3, .int x3_78), (4, .int x4_78)] → f_L_alike_78 X Y p1 x3_78 x4_78 t0_78 t1_78 = some o → W p l e ({ frames := 14, cells := 662, slots := 4080, locals := 749 } : Room) s m args below meth c H locs (450) (2700) (vx_MQ below (Qx D A (.inr B9)) (Xx D A (w ++ u) (.inr B9)) args s 662 4080 A) (F0 m 78 ls [.int t0_78, .int t1_78, .ref (cA 0)]) := by
    intro x3_78 x4_78 t0_78 t1_78 w_78 u_78 H locs ls hw_78 hu_78 hP hD hS hl h
    unfold f_L_alike_78 at h
    obtain ⟨v_72, hv_71, h⟩ := bd_l h
    refine Lo_T (As := [.ref (cA 0), .int t1_78, .int t0_78]) (rest := []) (wA := w_78) (wr := u_78) 1 6 (451) (2706) 662 4080 (co_neighbor l hst D k cA nA tA X w_78 hw_78 t1_78 t0_78 v_72 hv_71) ⟨hx, hb, hml, hown, hts⟩ (vx_cwSW 3 hts gL_alike_L_neighbor rfl rfl rfl (by decide +kernel) ⟨Nat.le_of_ble_eq_true rfl, Nat.le_of_ble_eq_true rfl⟩) hK hG hC hP hD hS hA (List.Perm.refl _) rfl hl.1 rfl (Nat.le_of_ble_eq_true rfl) dL_alike_78 ⟨rfl, rfl⟩ ⟨rfl, rfl⟩ (by omega) (by omega) (fun ov w_73 H locs hQ hP hD hS => ?_)
    obtain ⟨rfl, hw_73⟩ := hQ
    refine W.eq (g2 := F0 m 81 ls [.long v_72]) rfl ?_
    refine lv_aload_n hx hb dL_alike_81 rfl (lv_at hl 1 rfl) ?_
    refine lv_iload_n hx hb dL_alike_82 rfl (lv_at hl 3 rfl) ?_
    refine lv_iload_n hx hb dL_alike_83 rfl (lv_at hl 2 rfl) ?_
    refine lv_iconst (v := 2) hx hb dL_alike_84 (by decide) ?_
    refine lv_irem hx hb dL_alike_85 (by decide) ?_
    refine lv_if_ne (tgt := 93) hx hb dL_alike_86 (by decide) (fun c_74 => ?_) (fun c_74 => ?_)
    · have h := it_r c_74 h
      refine lv_iconst (v := 0) hx hb dL_alike_93 (by decide) ?_
      refine W.widen (k := 451) (n := 2706) (by omega) (by omega) ?_
      exact hC_94 x3_78 x4_78 0 x3_78 v_72 w_73 u_78 _ _ _ hw_73 hu_78 hP hD hS (lv_sub hl [0, 1, 2, 3, 4] rfl) h
    · have h := it_l c_74 h
      refine lv_iconst (v := 1) hx hb dL_alike_89 (by decide) ?_
      refine lv_goto (tgt := 94) hx hb dL_alike_90 (by decide) ?_
      refine W.widen (k := 451) (n := 2706) (by omega) (by omega) ?_
      exact hC_94 x3_78 x4_78 1 x3_78 v_72 w_73 u_78 _ _ _ hw_73 hu_78 hP hD hS (lv_sub hl [0, 1, 2, 3, 4] rfl) h
  refine lv_iload_n hx hb dL_alike_0 rfl (lv_at hl 2 rfl) ?_
  refine lv_bipush (v := 6) hx hb dL_alike_1 (by decide) ?_
  refine lv_irem hx hb dL_alike_3 (by decide) ?_
  refine lv_topi (fun v_75 ev_75 => ?_)
  have h := nm_l h ev_75
  refine lv_istore_n (lv' := [(3, .int v_75), (0, .ref (cA 0)), (1, .ref (cB 0)), (2, .int p1)]) hx hb dL_alike_4 rfl hl (by decide) rfl (fun ls hl => ?_)
  refine lv_iconst (v := 1) hx hb dL_alike_5 (by decide) ?_
  refine lv_iload_n hx hb dL_alike_6 rfl (lv_at hl 3 rfl) ?_
  refine lv_bipush (v := 6) hx hb dL_alike_7 (by decide) ?_
  refine lv_idiv hx hb dL_alike_9 (by decide) ?_
  refine lv_bipush (v := 40) hx hb dL_alike_10 (by decide) ?_
  refine lv_irem hx hb dL_alike_12 (by decide) ?_
  refine lv_iadd hx hb dL_alike_13 ?_
  refine lv_topi (fun v_76 ev_76 => ?_)
  have h := nm_l h ev_76
  refine lv_istore (lv' := [(4, .int v_76), (3, .int v_75), (0, .ref (cA 0)), (1, .ref (cB 0)), (2, .int p1)]) hx hb dL_alike_14 hl (by decide) rfl (fun ls hl => ?_)
  refine lv_aload_n hx hb dL_alike_16 rfl (lv_at hl 2 rfl) ?_
  obtain ⟨v_78, hv_77, h⟩ := bd_l h
  refine Lo_S (As := [.ref (cA 0)]) (rest := []) (wA := w) (wr := u) 224 1344 (224) (1344) 662 4080 (c_L_now l hst D k cA nA tA X w hw v_78 hv_77) ⟨hx, hb, hml, hown, hts⟩ (va_cwS 1 hts gL_alike_L_now rfl rfl rfl (by decide +kernel) ⟨Nat.le_of_ble_eq_true rfl, Nat.le_of_ble_eq_true rfl⟩) hK hG hC hP hD hS hA (List.Perm.refl _) rfl hl.1 rfl (Nat.le_of_ble_eq_true rfl) dL_alike_17 ⟨rfl, rfl⟩ ⟨rfl, rfl⟩ (by omega) (by omega) (fun ov w_79 H locs hQ hP hD hS => ?_)
  obtain ⟨rfl, hw_79⟩ := hQ
  refine W.eq (g2 := F0 m 20 ls [.long v_78]) rfl ?_
  refine lv_aload_n hx hb dL_alike_20 rfl (lv_at hl 3 rfl) ?_
  obtain ⟨v_81, hv_80, h⟩ := bd_l h
  refine Lo_S (As := [.ref (cB 0)]) (rest := [.long v_78]) (wA := u) (wr := w_79) 224 1344 (448) (2688) 662 4080 (c_L_now l hst D k cB nB tB Y u hu v_81 hv_80) ⟨hx, hb, hml, hown, hts⟩ (va_cwS 1 hts gL_alike_L_now rfl rfl rfl (by decide +kernel) ⟨Nat.le_of_ble_eq_true rfl, Nat.le_of_ble_eq_true rfl⟩) hK hG hC hP hD hS hA (List.perm_append_comm) rfl hl.1 rfl (Nat.le_of_ble_eq_true rfl) dL_alike_21 ⟨rfl, rfl⟩ ⟨rfl, rfl⟩ (by omega) (by omega) (fun ov u_82 H locs hQ hP hD hS => ?_)
  obtain ⟨rfl, hu_82⟩ := hQ
  refine W.eq (g2 := F0 m 24 ls [.long v_81, .long v_78]) rfl ?_
  refine W.lcmp hx hb dL_alike_24 ?_
  refine lv_if_ne (tgt := 259) hx hb dL_alike_25 (by decide) (fun c_83 => ?_) (fun c_83 => ?_)
  · have h := it_r c_83 h
    have hP : va_P D vwCl (w_79 ++ u_82) H := P_perm List.perm_append_comm hP
    have hD : va_D A (w_79 ++ u_82) := D_perm List.perm_append_comm hD
    refine W.widen (k := 620) (n := 3828) (by omega) (by omega) ?_
    exact hC_259 v_76 w_79 u_82 _ _ _ hw_79 hu_82 hP hD hS (lv_sub hl [2, 3, 4, 0] rfl) h
  · have h := it_l c_83 h
    refine lv_aload_n hx hb dL_alike_28 rfl (lv_at hl 2 rfl) ?_
    obtain ⟨v_85, hv_84, h⟩ := bd_l h
    refine Lo_V (As := []) (rest := []) (wA := w_79) (wr := u_82) 0 0 (448) (2688) 662 4080 (co_errorPosition l hst D k cA nA tA X w_79 hw_79 v_85 hv_84) ⟨hx, hb, hml, hown, hts⟩ (cwV 0 hts gL_alike_X1_errorPosition rfl rfl rfl (by decide +kernel) ⟨Nat.le_of_ble_eq_true rfl, Nat.le_of_ble_eq_true rfl⟩) hK hG hP hD hS hA (List.perm_append_comm) rfl hl.1 rfl (Nat.le_of_ble_eq_true rfl) dL_alike_29 ⟨rfl, rfl⟩ ⟨rfl, rfl⟩ (by omega) (by omega) (fun ov w_86 H locs hQ hP hD hS => ?_)
    obtain ⟨rfl, hw_86⟩ := hQ
    refine W.eq (g2 := F0 m 32 ls [.int v_85]) rfl ?_
    refine lv_aload_n hx hb dL_alike_32 rfl (lv_at hl 3 rfl) ?_
    obtain ⟨v_88, hv_87, h⟩ := bd_l h
    refine Lo_V (As := []) (rest := [.int v_85]) (wA := u_82) (wr := w_86) 0 0 (448) (2688) 662 4080 (co_errorPosition l hst D k cB nB tB Y u_82 hu_82 v_88 hv_87) ⟨hx, hb, hml, hown, hts⟩ (cwV 0 hts gL_alike_X1_errorPosition rfl rfl rfl (by decide +kernel) ⟨Nat.le_of_ble_eq_true rfl, Nat.le_of_ble_eq_true rfl⟩) hK hG hP hD hS hA (List.perm_append_comm) rfl hl.1 rfl (Nat.le_of_ble_eq_true rfl) dL_alike_33 ⟨rfl, rfl⟩ ⟨rfl, rfl⟩ (by omega) (by omega) (fun ov u_89 H locs hQ hP hD hS => ?_)
    obtain ⟨rfl, hu_89⟩ := hQ
    refine W.eq (g2 := F0 m 36 ls [.int v_88, .int v_85]) rfl ?_
    refine lv_icmp_ne (tgt := 259) hx hb dL_alike_36 (by decide) (fun c_90 => ?_) (fun c_90 => ?_)
    · have h := it_r c_90 h
      have hP : va_P D vwCl (w_86 ++ u_89) H := P_perm List.perm_append_comm hP
      have hD : va_D A (w_86 ++ u_89) := D_perm List.perm_append_comm hD
      refine W.widen (k := 620) (n := 3828) (by omega) (by omega) ?_
      exact hC_259 v_76 w_86 u_89 _ _ _ hw_86 hu_89 hP hD hS (lv_sub hl [2, 3, 4, 0] rfl) h
    · have h := it_l c_90 h
      refine lv_aload_n hx hb dL_alike_39 rfl (lv_at hl 2 rfl) ?_
      obtain ⟨v_92, hv_91, h⟩ := bd_l h
      refine Lo_V (As := []) (rest := []) (wA := w_86) (wr := u_89) 0 0 (448) (2688) 662 4080 (co_economy l hst D k cA nA tA X w_86 hw_86 v_92 hv_91) ⟨hx, hb, hml, hown, hts⟩ (cwV 0 hts gL_alike_X1_economy rfl rfl rfl (by decide +kernel) ⟨Nat.le_of_ble_eq_true rfl, Nat.le_of_ble_eq_true rfl⟩) hK hG hP hD hS hA (List.perm_append_comm) rfl hl.1 rfl (Nat.le_of_ble_eq_true rfl) dL_alike_40 ⟨rfl, rfl⟩ ⟨rfl, rfl⟩ (by omega) (by omega) (fun ov w_93 H locs hQ hP hD hS => ?_)
      obtain ⟨rfl, hw_93⟩ := hQ
      refine W.eq (g2 := F0 m 43 ls [.float v_92]) rfl ?_
      refine lv_aload_n hx hb dL_alike_43 rfl (lv_at hl 3 rfl) ?_
      obtain ⟨v_95, hv_94, h⟩ := bd_l h
      refine Lo_V (As := []) (rest := [.float v_92]) (wA := u_89) (wr := w_93) 0 0 (448) (2688) 662 4080 (co_economy l hst D k cB nB tB Y u_89 hu_89 v_95 hv_94) ⟨hx, hb, hml, hown, hts⟩ (cwV 0 hts gL_alike_X1_economy rfl rfl rfl (by decide +kernel) ⟨Nat.le_of_ble_eq_true rfl, Nat.le_of_ble_eq_true rfl⟩) hK hG hP hD hS hA (List.perm_append_comm) rfl hl.1 rfl (Nat.le_of_ble_eq_true rfl) dL_alike_44 ⟨rfl, rfl⟩ ⟨rfl, rfl⟩ (by omega) (by omega) (fun ov u_96 H locs hQ hP hD hS => ?_)
      obtain ⟨rfl, hu_96⟩ := hQ
      refine W.eq (g2 := F0 m 47 ls [.float v_95, .float v_92]) rfl ?_
      refine lv_fcmp hx hb dL_alike_47 ?_
      refine lv_if_ne (tgt := 259) hx hb dL_alike_48 (by decide) (fun c_97 => ?_) (fun c_97 => ?_)
      · have h := it_r c_97 h
        have hP : va_P D vwCl (w_93 ++ u_96) H := P_perm List.perm_append_comm hP
        have hD : va_D A (w_93 ++ u_96) := D_perm List.perm_append_comm hD
        refine W.widen (k := 620) (n := 3828) (by omega) (by omega) ?_
        exact hC_259 v_76 w_93 u_96 _ _ _ hw_93 hu_96 hP hD hS (lv_sub hl [2, 3, 4, 0] rfl) h
      · have h := it_l c_97 h
        refine lv_aload_n hx hb dL_alike_51 rfl (lv_at hl 2 rfl) ?_
        refine lv_iload_n hx hb dL_alike_52 rfl (lv_at hl 1 rfl) ?_
        obtain ⟨v_99, hv_98, h⟩ := bd_l h
        refine Lo_T (As := [.ref (cA 0), .int v_75]) (rest := []) (wA := w_93) (wr := u_96) 1 6 (449) (2694) 662 4080 (co_share l hst D k cA nA tA X w_93 hw_93 v_75 v_99 hv_98) ⟨hx, hb, hml, hown, hts⟩ (vx_cwSW 2 hts gL_alike_L_share rfl rfl rfl (by decide +kernel) ⟨Nat.le_of_ble_eq_true rfl, Nat.le_of_ble_eq_true rfl⟩) hK hG hC hP hD hS hA (List.perm_append_comm) rfl hl.1 rfl (Nat.le_of_ble_eq_true rfl) dL_alike_53 ⟨rfl, rfl⟩ ⟨rfl, rfl⟩ (by omega) (by omega) (fun ov w_100 H locs hQ hP hD hS => ?_)
        obtain ⟨rfl, hw_100⟩ := hQ
        refine W.eq (g2 := F0 m 56 ls [.float v_99]) rfl ?_
        refine lv_aload_n hx hb dL_alike_56 rfl (lv_at hl 3 rfl) ?_
        refine lv_iload_n hx hb dL_alike_57 rfl (lv_at hl 1 rfl) ?_
        obtain ⟨v_102, hv_101, h⟩ := bd_l h
        refine Lo_T (As := [.ref (cB 0), .int v_75]) (rest := [.float v_99]) (wA := u_96) (wr := w_100) 1 6 (450) (2700) 662 4080 (co_share l hst D k cB nB tB Y u_96 hu_96 v_75 v_102 hv_101) ⟨hx, hb, hml, hown, hts⟩ (vx_cwSW 2 hts gL_alike_L_share rfl rfl rfl (by decide +kernel) ⟨Nat.le_of_ble_eq_true rfl, Nat.le_of_ble_eq_true rfl⟩) hK hG hC hP hD hS hA (List.perm_append_comm) rfl hl.1 rfl (Nat.le_of_ble_eq_true rfl) dL_alike_58 ⟨rfl, rfl⟩ ⟨rfl, rfl⟩ (by omega) (by omega) (fun ov u_103 H locs hQ hP hD hS => ?_)
        obtain ⟨rfl, hu_103⟩ := hQ
        refine W.eq (g2 := F0 m 61 ls [.float v_102, .float v_99]) rfl ?_
        refine lv_fcmp hx hb dL_alike_61 ?_
        refine lv_if_ne (tgt := 259) hx hb dL_alike_62 (by decide) (fun c_104 => ?_) (fun c_104 => ?_)
        · have h := it_r c_104 h
          have hP : va_P D vwCl (w_100 ++ u_103) H := P_perm List.perm_append_comm hP
          have hD : va_D A (w_100 ++ u_103) := D_perm List.perm_append_comm hD
          refine W.widen (k := 620) (n := 3828) (by omega) (by omega) ?_
          exact hC_259 v_76 w_100 u_103 _ _ _ hw_100 hu_103 hP hD hS (lv_sub hl [2, 3, 4, 0] rfl) h
        · have h := it_l c_104 h
          refine lv_aload_n hx hb dL_alike_65 rfl (lv_at hl 2 rfl) ?_
          refine lv_iload_n hx hb dL_alike_66 rfl (lv_at hl 1 rfl) ?_
          refine lv_iload_n hx hb dL_alike_67 rfl (lv_at hl 4 rfl) ?_
          refine lv_iconst (v := 2) hx hb dL_alike_68 (by decide) ?_
          refine lv_irem hx hb dL_alike_69 (by decide) ?_
          refine lv_if_ne (tgt := 77) hx hb dL_alike_70 (by decide) (fun c_105 => ?_) (fun c_105 => ?_)
          · have h := it_r c_105 h
            refine lv_iconst (v := 0) hx hb dL_alike_77 (by decide) ?_
            have hP : va_P D vwCl (w_100 ++ u_103) H := P_perm List.perm_append_comm hP
            have hD : va_D A (w_100 ++ u_103) := D_perm List.perm_append_comm hD
            refine W.widen (k := 450) (n := 2700) (by omega) (by omega) ?_
            exact hC_78 v_75 v_76 0 v_75 w_100 u_103 _ _ _ hw_100 hu_103 hP hD hS (lv_sub hl [2, 3, 4, 1, 0] rfl) h
          · have h := it_l c_105 h
            refine lv_iconst (v := 1) hx hb dL_alike_73 (by decide) ?_
            refine lv_goto (tgt := 78) hx hb dL_alike_74 (by decide) ?_
            have hP : va_P D vwCl (w_100 ++ u_103) H := P_perm List.perm_append_comm hP
            have hD : va_D A (w_100 ++ u_103) := D_perm List.perm_append_comm hD
            refine W.widen (k := 450) (n := 2700) (by omega) (by omega) ?_
            exact hC_78 v_75 v_76 1 v_75 w_100 u_103 _ _ _ hw_100 hu_103 hP hD hS (lv_sub hl [2, 3, 4, 1, 0] rfl) h
noncomputable def f_L_errors_444 (x1_444 : Int64) (x3_444 : Int32) (x4_444 : Int32) (X_444 : XV) : Option (Int32 × XV) := if x4_444 = 0 then (some (0, X_444)) else (bd (o_ahead X_444 x3_444 1 99) fun v_3 => if (lg_cmp v_3 (-9000000000000000001)) = 0 then (bd (o_ahead X_444 0 100 0) fun v_7 => if (lg_cmp v_7 (-9000000000000000002)) = 0 then (bd (o_ahead X_444 0 0 10) fun v_11 => if (lg_cmp v_11 (-9000000000000000002)) = 0 then (bd (o_growth X_444 0 0) fun v_15 => if (lg_cmp v_15 (-9000000000000000002)) = 0 then (bd (o_growth X_444 1 10) fun v_19 => if (lg_cmp v_19 (-9000000000000000002)) = 0 then (bd (o_washGain X_444 x3_444 0 0) fun v_23 => if (lg_cmp v_23 (-9000000000000000001)) = 0 then (bd (o_washGain X_444 0 1 100) fun v_27 => if (lg_cmp v_27 (-9000000000000000002)) = 0 then (bd (o_bestTurns X_444 0 1) fun v_31 => if (lg_cmp v_31 (-9000000000000000002)) = 0 then (bd (o_bestTurns X_444 4 0) fun v_35 => if (lg_cmp v_35 (-9000000000000000002)) = 0 then (bd (o_scaledAfter X_444 x3_444 0) fun v_39 => if (lg_cmp v_39 (-9000000000000000001)) = 0 then (bd (o_scaledAfter X_444 0 100) fun v_43 => if (lg_cmp v_43 (-9000000000000000002)) = 0 then (bd (o_steamFor X_444 10000 1) fun v_47 => if (lg_cmp v_47 (-9000000000000000002)) = 0 then (bd (o_steamFor X_444 1 21) fun v_51 => if (lg_cmp v_51 (-9000000000000000002)) = 0 then (bd (o_script X_444 4 0) fun v_55 => if (lg_cmp v_55 (-9000000000000000002)) = 0 then (bd (o_script X_444 1 100000) fun v_59 => if (lg_cmp v_59 (-9000000000000000002)) = 0 then (bd (o_script X_444 1 90000) fun v_63 => if (lg_cmp v_63 0) = 0 then (bd (o_simulate X_444 1 100) fun v_67 => if (lg_cmp v_67 (-9000000000000000002)) = 0 then (bd (o_save X_444 2) fun ⟨v_71, X_73⟩ => if (lg_cmp v_71 (-9000000000000000001)) = 0 then (bd (o_restore X_73 (-1)) fun ⟨v_76, X_78⟩ => if (lg_cmp v_76 (-9000000000000000001)) = 0 then (bd (f_L_now X_78) fun v_81 => if (lg_cmp v_81 x1_444) = 0 then (some (1, X_78)) else (some (0, X_78))) else (some (0, X_78))) else (some (0, X_73))) else (some (0, X_444))) else (some (0, X_444))) else (some (0, X_444))) else (some (0, X_444))) else (some (0, X_444))) else (some (0, X_444))) else (some (0, X_444))) else (some (0, X_444))) else (some (0, X_444))) else (some (0, X_444))) else (some (0, X_444))) else (some (0, X_444))) else (some (0, X_444))) else (some (0, X_444))) else (some (0, X_444))) else (some (0, X_444))) else (some (0, X_444)))
noncomputable def f_L_errors_342 : Nat → Int64 → Int32 → Int32 → Int32 → XV → Option (Int32 × XV)
  | 0, _, _, _, _, _ => none
  | fu + 1, x1_342, x3_342, x4_342, x5_342, X_342 => if x3_342 ≤ x5_342 then (f_L_errors_444 x1_342 x3_342 x4_342 X_342) else (if x4_342 = 0 then (f_L_errors_444 x1_342 x3_342 x4_342 X_342) else (bd (o_effect X_342 x5_342 7) fun v_87 => if (lg_cmp v_87 0) ≤ 0 then (bd (o_endWash X_342 x5_342) fun ⟨v_91, X_93⟩ => if (lg_cmp v_91 (-9000000000000000003)) = 0 then (bd (o_washGain X_93 x5_342 0 5) fun v_96 => if (lg_cmp v_96 (-9000000000000000002)) = 0 then ((f_L_errors_342 fu) x1_342 x3_342 1 (x5_342 + 1) X_93) else ((f_L_errors_342 fu) x1_342 x3_342 0 (x5_342 + 1) X_93)) else ((f_L_errors_342 fu) x1_342 x3_342 0 (x5_342 + 1) X_93)) else (bd (o_wash X_342 x5_342 5) fun ⟨v_100, X_102⟩ => if (lg_cmp v_100 (-9000000000000000003)) = 0 then (bd (o_washGain X_102 x5_342 5 5) fun v_105 => if (lg_cmp v_105 (-9000000000000000003)) = 0 then ((f_L_errors_342 fu) x1_342 x3_342 1 (x5_342 + 1) X_102) else ((f_L_errors_342 fu) x1_342 x3_342 0 (x5_342 + 1) X_102)) else ((f_L_errors_342 fu) x1_342 x3_342 0 (x5_342 + 1) X_102))))
noncomputable def f_L_errors (X : XV) : Option (Int32 × XV) := bd (f_L_now X) fun v_109 => bd (f_L_effects X) fun v_112 => bd (o_append X (-1)) fun ⟨v_115, X_117⟩ => if (lg_cmp v_115 (-9000000000000000002)) = 0 then (bd (o_append X_117 256) fun ⟨v_120, X_122⟩ => if (lg_cmp v_120 (-9000000000000000002)) = 0 then (bd (o_about X_122 10) fun v_125 => if (lg_cmp v_125 (-9000000000000000002)) = 0 then (bd (o_total X_122 10) fun v_129 => if (lg_cmp v_129 (-9000000000000000002)) = 0 then (bd (o_effect X_122 v_112 99) fun v_133 => if (lg_cmp v_133 (-9000000000000000001)) = 0 then (bd (o_effect X_122 0 10) fun v_137 => if (lg_cmp v_137 (-9000000000000000002)) = 0 then (bd (o_neighbor X_122 v_112 1) fun v_141 => if (lg_cmp v_141 (-9000000000000000001)) = 0 then (bd (o_share X_122 (-1)) fun v_145 => if (Op.cmpValue (FP.fcmp v_145 3239051264) .l) = 0 then (bd (o_tick X_122 0) fun ⟨v_149, X_151⟩ => if (lg_cmp v_149 (-9000000000000000002)) = 0 then (bd (o_tick X_151 100) fun ⟨v_154, X_156⟩ => if (lg_cmp v_154 (-9000000000000000002)) = 0 then (bd (o_set X_156 5 1) fun ⟨v_159, X_161⟩ => if (lg_cmp v_159 (-9000000000000000002)) = 0 then (bd (o_set X_161 0 1000) fun ⟨v_164, X_166⟩ => if (lg_cmp v_164 (-9000000000000000002)) = 0 then (bd (o_set X_166 1 (-1)) fun ⟨v_169, X_171⟩ => if (lg_cmp v_169 (-9000000000000000002)) = 0 then (bd (o_set X_171 2 100) fun ⟨v_174, X_176⟩ => if (lg_cmp v_174 (-9000000000000000002)) = 0 then (bd (o_set X_176 3 100) fun ⟨v_179, X_181⟩ => if (lg_cmp v_179 (-9000000000000000002)) = 0 then (bd (o_set X_181 4 0) fun ⟨v_184, X_186⟩ => if (lg_cmp v_184 (-9000000000000000002)) = 0 then (bd (o_set X_186 4 21) fun ⟨v_189, X_191⟩ => if (lg_cmp v_189 (-9000000000000000002)) = 0 then (bd (o_setValve X_191 v_112 1000) fun ⟨v_194, X_196⟩ => if (lg_cmp v_194 (-9000000000000000001)) = 0 then (bd (o_setValve X_196 0 1000) fun ⟨v_199, X_201⟩ => if (lg_cmp v_199 (-9000000000000000002)) = 0 then (bd (o_setBleed X_201 (-1) 91) fun ⟨v_204, X_206⟩ => if (lg_cmp v_204 (-9000000000000000001)) = 0 then (bd (o_setBleed X_206 0 91) fun ⟨v_209, X_211⟩ => if (lg_cmp v_209 (-9000000000000000002)) = 0 then (bd (o_wash X_211 v_112 0) fun ⟨v_214, X_216⟩ => if (lg_cmp v_214 (-9000000000000000001)) = 0 then (bd (o_wash X_216 0 21) fun ⟨v_219, X_221⟩ => if (lg_cmp v_219 (-9000000000000000002)) = 0 then (bd (o_endWash X_221 v_112) fun ⟨v_224, X_226⟩ => if (lg_cmp v_224 (-9000000000000000001)) = 0 then (f_L_errors_342 7 v_109 v_112 1 0 X_226) else (f_L_errors_342 7 v_109 v_112 0 0 X_226)) else (f_L_errors_342 7 v_109 v_112 0 0 X_221)) else (f_L_errors_342 7 v_109 v_112 0 0 X_216)) else (f_L_errors_342 7 v_109 v_112 0 0 X_211)) else (f_L_errors_342 7 v_109 v_112 0 0 X_206)) else (f_L_errors_342 7 v_109 v_112 0 0 X_201)) else (f_L_errors_342 7 v_109 v_112 0 0 X_196)) else (f_L_errors_342 7 v_109 v_112 0 0 X_191)) else (f_L_errors_342 7 v_109 v_112 0 0 X_186)) else (f_L_errors_342 7 v_109 v_112 0 0 X_181)) else (f_L_errors_342 7 v_109 v_112 0 0 X_176)) else (f_L_errors_342 7 v_109 v_112 0 0 X_171)) else (f_L_errors_342 7 v_109 v_112 0 0 X_166)) else (f_L_errors_342 7 v_109 v_112 0 0 X_161)) else (f_L_errors_342 7 v_109 v_112 0 0 X_156)) else (f_L_errors_342 7 v_109 v_112 0 0 X_151)) else (f_L_errors_342 7 v_109 v_112 0 0 X_122)) else (f_L_errors_342 7 v_109 v_112 0 0 X_122)) else (f_L_errors_342 7 v_109 v_112 0 0 X_122)) else (f_L_errors_342 7 v_109 v_112 0 0 X_122)) else (f_L_errors_342 7 v_109 v_112 0 0 X_122)) else (f_L_errors_342 7 v_109 v_112 0 0 X_122)) else (f_L_errors_342 7 v_109 v_112 0 0 X_122)) else (f_L_errors_342 7 v_109 v_112 0 0 X_117)
set_option maxRecDepth 100000 in
set_option maxHeartbeats 4000000 in
theorem c_L_errors (l : Launch) (hst : l.stackTraces = false) (D : va_G) (k : Nat → ClassId) (cA nA tA : Nat → Nat) (X : XV) (w : va_W) (hw : Ob k cA nA tA X w) (o : Int32 × XV) (h : f_L_errors X = some o) : CO l D k yL_errors wsL_errors ({ frames := 14, cells := 997, slots := 6270, locals := 749 } : Room) [.ref (cA 0)] (w) (fun (ov : Option Value) (w' : va_W) => ov = some (.int o.1) ∧ Ob k cA nA tA o.2 w') := by
  obtain ⟨B9, hB9⟩ : ∃ B : Option Value → va_W → Prop, B = fun (ov : Option Value) (w' : va_W) => ov = some (.int o.1) ∧ Ob k cA nA tA o.2 w' := ⟨_, rfl⟩
  refine CO.of (P := B9) ?_ (fun ov w' h9 => by rw [hB9] at h9; exact h9)
  refine Cl_of0 (cc := cL_errors) (maxL := 6) (ret := (some .boolean)) (by decide) rfl (Nat.le_of_ble_eq_true rfl) ?_
  intro p e s m args below meth c A ls hx hb hr hml hts hown hlocks hK hG hC hA hP hD hS hl
  have hl : lv_has ls 6 [(0, .ref (cA 0))] := hl
  have hP := P_n hP
  have hD := D_n hD
  have w_0 := hts (.constantLong RL 39 (-9000000000000000001)) (by decide +kernel)
  have w_1 := hts (.constantLong RL 17 (-9000000000000000002)) (by decide +kernel)
  have w_2 := hts (.constantLong RL 154 (100000)) (by decide +kernel)
  have w_3 := hts (.constantLong RL 180 (90000)) (by decide +kernel)
  have w_4 := hts (.constantLong RL 21 (-9000000000000000003)) (by decide +kernel)
  have w_5 := hts (.constantFloat RL 103 3239051264) (by decide +kernel)
  unfold f_L_errors at h
  have hC_444 : ∀ (x1_444 : Int64) (x3_444 : Int32) (x4_444 : Int32) (X_444 : XV) (w_444 : va_W) (H : Heap) (locs : List Loc) (ls : Array Slot), Ob k cA nA tA X_444 w_444 → va_P D vwCl (w_444 ++ []) H → va_D A (w_444 ++ []) → va_S A s.heap H locs → lv_has ls 6 [(0, .ref (cA 0)), (1, .long x1_444), (3, .int x3_444), (4, .int x4_444)] → f_L_errors_444 x1_444 x3_444 x4_444 X_444 = some o → W p l e ({ frames := 14, cells := 997, slots := 6270, locals := 749 } : Room) s m args below meth c H locs (604) (3840) (vx_MQ below (Qx D A (.inr B9)) (Xx D A (w) (.inr B9)) args s 997 6270 A) (F0 m 444 ls []) := by
    intro x1_444 x3_444 x4_444 X_444 w_444 H locs ls hw_444 hP hD hS hl h
    unfold f_L_errors_444 at h
    refine lv_iload hx hb dL_errors_444 (lv_at hl 3 rfl) ?_
    refine lv_if_eq (tgt := 724) hx hb dL_errors_446 (by decide) (fun c_1 => ?_) (fun c_1 => ?_)
    · have h := it_l c_1 h
      refine lv_iconst (v := 0) hx hb dL_errors_724 (by decide) ?_
      cases h
      exact Cx_zret (B := B9) rfl (by rw [hB9]; exact ⟨rfl, hw_444⟩) (by show 604 ≤ 997; omega) (by show 3840 ≤ 6270; omega) hx hb hr (by decide) (P_l hP) (D_l hD) hS dL_errors_725 hlocks
    · have h := it_r c_1 h
      refine lv_aload_n hx hb dL_errors_449 rfl (lv_at hl 0 rfl) ?_
      refine lv_iload_n hx hb dL_errors_450 rfl (lv_at hl 2 rfl) ?_
      refine lv_iconst (v := 1) hx hb dL_errors_451 (by decide) ?_
      refine lv_bipush (v := 99) hx hb dL_errors_452 (by decide) ?_
      obtain ⟨v_3, hv_2, h⟩ := bd_l h
      refine Lo_T (As := [.ref (cA 0), .int x3_444, .int 1, .int 99]) (rest := []) (wA := w_444) (wr := []) 3 18 (607) (3858) 997 6270 (co_ahead l hst D k cA nA tA X_444 w_444 hw_444 x3_444 1 99 v_3 hv_2) ⟨hx, hb, hml, hown, hts⟩ (vx_cwSW 4 hts gL_errors_L_ahead rfl rfl rfl (by decide +kernel) ⟨Nat.le_of_ble_eq_true rfl, Nat.le_of_ble_eq_true rfl⟩) hK hG hC hP hD hS hA (List.Perm.refl _) rfl hl.1 rfl (Nat.le_of_ble_eq_true rfl) dL_errors_454 ⟨rfl, rfl⟩ ⟨rfl, rfl⟩ (by omega) (by omega) (fun ov w_4 H locs hQ hP hD hS => ?_)
      obtain ⟨rfl, hw_4⟩ := hQ
      refine W.eq (g2 := F0 m 457 ls [.long v_3]) rfl ?_
      refine lv_ldc2 (v := -9000000000000000001) hx hb hown w_0 dL_errors_457 ?_
      refine W.lcmp hx hb dL_errors_460 ?_
      refine lv_if_ne (tgt := 724) hx hb dL_errors_461 (by decide) (fun c_5 => ?_) (fun c_5 => ?_)
      · have h := it_r c_5 h
        refine lv_iconst (v := 0) hx hb dL_errors_724 (by decide) ?_
        cases h
        exact Cx_zret (B := B9) rfl (by rw [hB9]; exact ⟨rfl, hw_4⟩) (by show 607 ≤ 997; omega) (by show 3858 ≤ 6270; omega) hx hb hr (by decide) (P_l hP) (D_l hD) hS dL_errors_725 hlocks
      · have h := it_l c_5 h
        refine lv_aload_n hx hb dL_errors_464 rfl (lv_at hl 0 rfl) ?_
        refine lv_iconst (v := 0) hx hb dL_errors_465 (by decide) ?_
        refine lv_bipush (v := 100) hx hb dL_errors_466 (by decide) ?_
        refine lv_iconst (v := 0) hx hb dL_errors_468 (by decide) ?_
        obtain ⟨v_7, hv_6, h⟩ := bd_l h
        refine Lo_T (As := [.ref (cA 0), .int 0, .int 100, .int 0]) (rest := []) (wA := w_4) (wr := []) 3 18 (610) (3876) 997 6270 (co_ahead l hst D k cA nA tA X_444 w_4 hw_4 0 100 0 v_7 hv_6) ⟨hx, hb, hml, hown, hts⟩ (vx_cwSW 4 hts gL_errors_L_ahead rfl rfl rfl (by decide +kernel) ⟨Nat.le_of_ble_eq_true rfl, Nat.le_of_ble_eq_true rfl⟩) hK hG hC hP hD hS hA (List.Perm.refl _) rfl hl.1 rfl (Nat.le_of_ble_eq_true rfl) dL_errors_469 ⟨rfl, rfl⟩ ⟨rfl, rfl⟩ (by omega) (by omega) (fun ov w_8 H locs hQ hP hD hS => ?_)
        obtain ⟨rfl, hw_8⟩ := hQ
        refine W.eq (g2 := F0 m 472 ls [.long v_7]) rfl ?_
        refine lv_ldc2 (v := -9000000000000000002) hx hb hown w_1 dL_errors_472 ?_
        refine W.lcmp hx hb dL_errors_475 ?_
        refine lv_if_ne (tgt := 724) hx hb dL_errors_476 (by decide) (fun c_9 => ?_) (fun c_9 => ?_)
        · have h := it_r c_9 h
          refine lv_iconst (v := 0) hx hb dL_errors_724 (by decide) ?_
          cases h
          exact Cx_zret (B := B9) rfl (by rw [hB9]; exact ⟨rfl, hw_8⟩) (by show 610 ≤ 997; omega) (by show 3876 ≤ 6270; omega) hx hb hr (by decide) (P_l hP) (D_l hD) hS dL_errors_725 hlocks
        · have h := it_l c_9 h
          refine lv_aload_n hx hb dL_errors_479 rfl (lv_at hl 0 rfl) ?_
          refine lv_iconst (v := 0) hx hb dL_errors_480 (by decide) ?_
          refine lv_iconst (v := 0) hx hb dL_errors_481 (by decide) ?_
          refine lv_bipush (v := 10) hx hb dL_errors_482 (by decide) ?_
          obtain ⟨v_11, hv_10, h⟩ := bd_l h
          refine Lo_T (As := [.ref (cA 0), .int 0, .int 0, .int 10]) (rest := []) (wA := w_8) (wr := []) 3 18 (613) (3894) 997 6270 (co_ahead l hst D k cA nA tA X_444 w_8 hw_8 0 0 10 v_11 hv_10) ⟨hx, hb, hml, hown, hts⟩ (vx_cwSW 4 hts gL_errors_L_ahead rfl rfl rfl (by decide +kernel) ⟨Nat.le_of_ble_eq_true rfl, Nat.le_of_ble_eq_true rfl⟩) hK hG hC hP hD hS hA (List.Perm.refl _) rfl hl.1 rfl (Nat.le_of_ble_eq_true rfl) dL_errors_484 ⟨rfl, rfl⟩ ⟨rfl, rfl⟩ (by omega) (by omega) (fun ov w_12 H locs hQ hP hD hS => ?_)
          obtain ⟨rfl, hw_12⟩ := hQ
          refine W.eq (g2 := F0 m 487 ls [.long v_11]) rfl ?_
          refine lv_ldc2 (v := -9000000000000000002) hx hb hown w_1 dL_errors_487 ?_
          refine W.lcmp hx hb dL_errors_490 ?_
          refine lv_if_ne (tgt := 724) hx hb dL_errors_491 (by decide) (fun c_13 => ?_) (fun c_13 => ?_)
          · have h := it_r c_13 h
            refine lv_iconst (v := 0) hx hb dL_errors_724 (by decide) ?_
            cases h
            exact Cx_zret (B := B9) rfl (by rw [hB9]; exact ⟨rfl, hw_12⟩) (by show 613 ≤ 997; omega) (by show 3894 ≤ 6270; omega) hx hb hr (by decide) (P_l hP) (D_l hD) hS dL_errors_725 hlocks
          · have h := it_l c_13 h
            refine lv_aload_n hx hb dL_errors_494 rfl (lv_at hl 0 rfl) ?_
            refine lv_iconst (v := 0) hx hb dL_errors_495 (by decide) ?_
            refine lv_iconst (v := 0) hx hb dL_errors_496 (by decide) ?_
            obtain ⟨v_15, hv_14, h⟩ := bd_l h
            refine Lo_T (As := [.ref (cA 0), .int 0, .int 0]) (rest := []) (wA := w_12) (wr := []) 2 12 (615) (3906) 997 6270 (co_growth l hst D k cA nA tA X_444 w_12 hw_12 0 0 v_15 hv_14) ⟨hx, hb, hml, hown, hts⟩ (vx_cwSW 3 hts gL_errors_L_growth rfl rfl rfl (by decide +kernel) ⟨Nat.le_of_ble_eq_true rfl, Nat.le_of_ble_eq_true rfl⟩) hK hG hC hP hD hS hA (List.Perm.refl _) rfl hl.1 rfl (Nat.le_of_ble_eq_true rfl) dL_errors_497 ⟨rfl, rfl⟩ ⟨rfl, rfl⟩ (by omega) (by omega) (fun ov w_16 H locs hQ hP hD hS => ?_)
            obtain ⟨rfl, hw_16⟩ := hQ
            refine W.eq (g2 := F0 m 500 ls [.long v_15]) rfl ?_
            refine lv_ldc2 (v := -9000000000000000002) hx hb hown w_1 dL_errors_500 ?_
            refine W.lcmp hx hb dL_errors_503 ?_
            refine lv_if_ne (tgt := 724) hx hb dL_errors_504 (by decide) (fun c_17 => ?_) (fun c_17 => ?_)
            · have h := it_r c_17 h
              refine lv_iconst (v := 0) hx hb dL_errors_724 (by decide) ?_
              cases h
              exact Cx_zret (B := B9) rfl (by rw [hB9]; exact ⟨rfl, hw_16⟩) (by show 615 ≤ 997; omega) (by show 3906 ≤ 6270; omega) hx hb hr (by decide) (P_l hP) (D_l hD) hS dL_errors_725 hlocks
            · have h := it_l c_17 h
              refine lv_aload_n hx hb dL_errors_507 rfl (lv_at hl 0 rfl) ?_
              refine lv_iconst (v := 1) hx hb dL_errors_508 (by decide) ?_
              refine lv_bipush (v := 10) hx hb dL_errors_509 (by decide) ?_
              obtain ⟨v_19, hv_18, h⟩ := bd_l h
              refine Lo_T (As := [.ref (cA 0), .int 1, .int 10]) (rest := []) (wA := w_16) (wr := []) 2 12 (617) (3918) 997 6270 (co_growth l hst D k cA nA tA X_444 w_16 hw_16 1 10 v_19 hv_18) ⟨hx, hb, hml, hown, hts⟩ (vx_cwSW 3 hts gL_errors_L_growth rfl rfl rfl (by decide +kernel) ⟨Nat.le_of_ble_eq_true rfl, Nat.le_of_ble_eq_true rfl⟩) hK hG hC hP hD hS hA (List.Perm.refl _) rfl hl.1 rfl (Nat.le_of_ble_eq_true rfl) dL_errors_511 ⟨rfl, rfl⟩ ⟨rfl, rfl⟩ (by omega) (by omega) (fun ov w_20 H locs hQ hP hD hS => ?_)
              obtain ⟨rfl, hw_20⟩ := hQ
              refine W.eq (g2 := F0 m 514 ls [.long v_19]) rfl ?_
              refine lv_ldc2 (v := -9000000000000000002) hx hb hown w_1 dL_errors_514 ?_
              refine W.lcmp hx hb dL_errors_517 ?_
              refine lv_if_ne (tgt := 724) hx hb dL_errors_518 (by decide) (fun c_21 => ?_) (fun c_21 => ?_)
              · have h := it_r c_21 h
                refine lv_iconst (v := 0) hx hb dL_errors_724 (by decide) ?_
                cases h
                exact Cx_zret (B := B9) rfl (by rw [hB9]; exact ⟨rfl, hw_20⟩) (by show 617 ≤ 997; omega) (by show 3918 ≤ 6270; omega) hx hb hr (by decide) (P_l hP) (D_l hD) hS dL_errors_725 hlocks
              · have h := it_l c_21 h
                refine lv_aload_n hx hb dL_errors_521 rfl (lv_at hl 0 rfl) ?_
                refine lv_iload_n hx hb dL_errors_522 rfl (lv_at hl 2 rfl) ?_
                refine lv_iconst (v := 0) hx hb dL_errors_523 (by decide) ?_
                refine lv_iconst (v := 0) hx hb dL_errors_524 (by decide) ?_
                obtain ⟨v_23, hv_22, h⟩ := bd_l h
                refine Lo_T (As := [.ref (cA 0), .int x3_444, .int 0, .int 0]) (rest := []) (wA := w_20) (wr := []) 4 24 (621) (3942) 997 6270 (co_washGain l hst D k cA nA tA X_444 w_20 hw_20 x3_444 0 0 v_23 hv_22) ⟨hx, hb, hml, hown, hts⟩ (vx_cwSW 4 hts gL_errors_L_washGain rfl rfl rfl (by decide +kernel) ⟨Nat.le_of_ble_eq_true rfl, Nat.le_of_ble_eq_true rfl⟩) hK hG hC hP hD hS hA (List.Perm.refl _) rfl hl.1 rfl (Nat.le_of_ble_eq_true rfl) dL_errors_525 ⟨rfl, rfl⟩ ⟨rfl, rfl⟩ (by omega) (by omega) (fun ov w_24 H locs hQ hP hD hS => ?_)
                obtain ⟨rfl, hw_24⟩ := hQ
                refine W.eq (g2 := F0 m 528 ls [.long v_23]) rfl ?_
                refine lv_ldc2 (v := -9000000000000000001) hx hb hown w_0 dL_errors_528 ?_
                refine W.lcmp hx hb dL_errors_531 ?_
                refine lv_if_ne (tgt := 724) hx hb dL_errors_532 (by decide) (fun c_25 => ?_) (fun c_25 => ?_)
                · have h := it_r c_25 h
                  refine lv_iconst (v := 0) hx hb dL_errors_724 (by decide) ?_
                  cases h
                  exact Cx_zret (B := B9) rfl (by rw [hB9]; exact ⟨rfl, hw_24⟩) (by show 621 ≤ 997; omega) (by show 3942 ≤ 6270; omega) hx hb hr (by decide) (P_l hP) (D_l hD) hS dL_errors_725 hlocks
                · have h := it_l c_25 h
                  refine lv_aload_n hx hb dL_errors_535 rfl (lv_at hl 0 rfl) ?_
                  refine lv_iconst (v := 0) hx hb dL_errors_536 (by decide) ?_
                  refine lv_iconst (v := 1) hx hb dL_errors_537 (by decide) ?_
                  refine lv_bipush (v := 100) hx hb dL_errors_538 (by decide) ?_
                  obtain ⟨v_27, hv_26, h⟩ := bd_l h
                  refine Lo_T (As := [.ref (cA 0), .int 0, .int 1, .int 100]) (rest := []) (wA := w_24) (wr := []) 4 24 (625) (3966) 997 6270 (co_washGain l hst D k cA nA tA X_444 w_24 hw_24 0 1 100 v_27 hv_26) ⟨hx, hb, hml, hown, hts⟩ (vx_cwSW 4 hts gL_errors_L_washGain rfl rfl rfl (by decide +kernel) ⟨Nat.le_of_ble_eq_true rfl, Nat.le_of_ble_eq_true rfl⟩) hK hG hC hP hD hS hA (List.Perm.refl _) rfl hl.1 rfl (Nat.le_of_ble_eq_true rfl) dL_errors_540 ⟨rfl, rfl⟩ ⟨rfl, rfl⟩ (by omega) (by omega) (fun ov w_28 H locs hQ hP hD hS => ?_)
                  obtain ⟨rfl, hw_28⟩ := hQ
                  refine W.eq (g2 := F0 m 543 ls [.long v_27]) rfl ?_
                  refine lv_ldc2 (v := -9000000000000000002) hx hb hown w_1 dL_errors_543 ?_
                  refine W.lcmp hx hb dL_errors_546 ?_
                  refine lv_if_ne (tgt := 724) hx hb dL_errors_547 (by decide) (fun c_29 => ?_) (fun c_29 => ?_)
                  · have h := it_r c_29 h
                    refine lv_iconst (v := 0) hx hb dL_errors_724 (by decide) ?_
                    cases h
                    exact Cx_zret (B := B9) rfl (by rw [hB9]; exact ⟨rfl, hw_28⟩) (by show 625 ≤ 997; omega) (by show 3966 ≤ 6270; omega) hx hb hr (by decide) (P_l hP) (D_l hD) hS dL_errors_725 hlocks
                  · have h := it_l c_29 h
                    refine lv_aload_n hx hb dL_errors_550 rfl (lv_at hl 0 rfl) ?_
                    refine lv_iconst (v := 0) hx hb dL_errors_551 (by decide) ?_
                    refine lv_iconst (v := 1) hx hb dL_errors_552 (by decide) ?_
                    obtain ⟨v_31, hv_30, h⟩ := bd_l h
                    refine Lo_T (As := [.ref (cA 0), .int 0, .int 1]) (rest := []) (wA := w_28) (wr := []) 34 231 (659) (4197) 997 6270 (co_bestTurns l hst D k cA nA tA X_444 w_28 hw_28 0 1 v_31 hv_30) ⟨hx, hb, hml, hown, hts⟩ (vx_cwSW 3 hts gL_errors_L_bestTurns rfl rfl rfl (by decide +kernel) ⟨Nat.le_of_ble_eq_true rfl, Nat.le_of_ble_eq_true rfl⟩) hK hG hC hP hD hS hA (List.Perm.refl _) rfl hl.1 rfl (Nat.le_of_ble_eq_true rfl) dL_errors_553 ⟨rfl, rfl⟩ ⟨rfl, rfl⟩ (by omega) (by omega) (fun ov w_32 H locs hQ hP hD hS => ?_)
                    obtain ⟨rfl, hw_32⟩ := hQ
                    refine W.eq (g2 := F0 m 556 ls [.long v_31]) rfl ?_
                    refine lv_ldc2 (v := -9000000000000000002) hx hb hown w_1 dL_errors_556 ?_
                    refine W.lcmp hx hb dL_errors_559 ?_
                    refine lv_if_ne (tgt := 724) hx hb dL_errors_560 (by decide) (fun c_33 => ?_) (fun c_33 => ?_)
                    · have h := it_r c_33 h
                      refine lv_iconst (v := 0) hx hb dL_errors_724 (by decide) ?_
                      cases h
                      exact Cx_zret (B := B9) rfl (by rw [hB9]; exact ⟨rfl, hw_32⟩) (by show 659 ≤ 997; omega) (by show 4197 ≤ 6270; omega) hx hb hr (by decide) (P_l hP) (D_l hD) hS dL_errors_725 hlocks
                    · have h := it_l c_33 h
                      refine lv_aload_n hx hb dL_errors_563 rfl (lv_at hl 0 rfl) ?_
                      refine lv_iconst (v := 4) hx hb dL_errors_564 (by decide) ?_
                      refine lv_iconst (v := 0) hx hb dL_errors_565 (by decide) ?_
                      obtain ⟨v_35, hv_34, h⟩ := bd_l h
                      refine Lo_T (As := [.ref (cA 0), .int 4, .int 0]) (rest := []) (wA := w_32) (wr := []) 34 231 (693) (4428) 997 6270 (co_bestTurns l hst D k cA nA tA X_444 w_32 hw_32 4 0 v_35 hv_34) ⟨hx, hb, hml, hown, hts⟩ (vx_cwSW 3 hts gL_errors_L_bestTurns rfl rfl rfl (by decide +kernel) ⟨Nat.le_of_ble_eq_true rfl, Nat.le_of_ble_eq_true rfl⟩) hK hG hC hP hD hS hA (List.Perm.refl _) rfl hl.1 rfl (Nat.le_of_ble_eq_true rfl) dL_errors_566 ⟨rfl, rfl⟩ ⟨rfl, rfl⟩ (by omega) (by omega) (fun ov w_36 H locs hQ hP hD hS => ?_)
                      obtain ⟨rfl, hw_36⟩ := hQ
                      refine W.eq (g2 := F0 m 569 ls [.long v_35]) rfl ?_
                      refine lv_ldc2 (v := -9000000000000000002) hx hb hown w_1 dL_errors_569 ?_
                      refine W.lcmp hx hb dL_errors_572 ?_
                      refine lv_if_ne (tgt := 724) hx hb dL_errors_573 (by decide) (fun c_37 => ?_) (fun c_37 => ?_)
                      · have h := it_r c_37 h
                        refine lv_iconst (v := 0) hx hb dL_errors_724 (by decide) ?_
                        cases h
                        exact Cx_zret (B := B9) rfl (by rw [hB9]; exact ⟨rfl, hw_36⟩) (by show 693 ≤ 997; omega) (by show 4428 ≤ 6270; omega) hx hb hr (by decide) (P_l hP) (D_l hD) hS dL_errors_725 hlocks
                      · have h := it_l c_37 h
                        refine lv_aload_n hx hb dL_errors_576 rfl (lv_at hl 0 rfl) ?_
                        refine lv_iload_n hx hb dL_errors_577 rfl (lv_at hl 2 rfl) ?_
                        refine lv_iconst (v := 0) hx hb dL_errors_578 (by decide) ?_
                        obtain ⟨v_39, hv_38, h⟩ := bd_l h
                        refine Lo_T (As := [.ref (cA 0), .int x3_444, .int 0]) (rest := []) (wA := w_36) (wr := []) 7 42 (700) (4470) 997 6270 (co_scaledAfter l hst D k cA nA tA X_444 w_36 hw_36 x3_444 0 v_39 hv_38) ⟨hx, hb, hml, hown, hts⟩ (vx_cwSW 3 hts gL_errors_L_scaledAfter rfl rfl rfl (by decide +kernel) ⟨Nat.le_of_ble_eq_true rfl, Nat.le_of_ble_eq_true rfl⟩) hK hG hC hP hD hS hA (List.Perm.refl _) rfl hl.1 rfl (Nat.le_of_ble_eq_true rfl) dL_errors_579 ⟨rfl, rfl⟩ ⟨rfl, rfl⟩ (by omega) (by omega) (fun ov w_40 H locs hQ hP hD hS => ?_)
                        obtain ⟨rfl, hw_40⟩ := hQ
                        refine W.eq (g2 := F0 m 582 ls [.long v_39]) rfl ?_
                        refine lv_ldc2 (v := -9000000000000000001) hx hb hown w_0 dL_errors_582 ?_
                        refine W.lcmp hx hb dL_errors_585 ?_
                        refine lv_if_ne (tgt := 724) hx hb dL_errors_586 (by decide) (fun c_41 => ?_) (fun c_41 => ?_)
                        · have h := it_r c_41 h
                          refine lv_iconst (v := 0) hx hb dL_errors_724 (by decide) ?_
                          cases h
                          exact Cx_zret (B := B9) rfl (by rw [hB9]; exact ⟨rfl, hw_40⟩) (by show 700 ≤ 997; omega) (by show 4470 ≤ 6270; omega) hx hb hr (by decide) (P_l hP) (D_l hD) hS dL_errors_725 hlocks
                        · have h := it_l c_41 h
                          refine lv_aload_n hx hb dL_errors_589 rfl (lv_at hl 0 rfl) ?_
                          refine lv_iconst (v := 0) hx hb dL_errors_590 (by decide) ?_
                          refine lv_bipush (v := 100) hx hb dL_errors_591 (by decide) ?_
                          obtain ⟨v_43, hv_42, h⟩ := bd_l h
                          refine Lo_T (As := [.ref (cA 0), .int 0, .int 100]) (rest := []) (wA := w_40) (wr := []) 7 42 (707) (4512) 997 6270 (co_scaledAfter l hst D k cA nA tA X_444 w_40 hw_40 0 100 v_43 hv_42) ⟨hx, hb, hml, hown, hts⟩ (vx_cwSW 3 hts gL_errors_L_scaledAfter rfl rfl rfl (by decide +kernel) ⟨Nat.le_of_ble_eq_true rfl, Nat.le_of_ble_eq_true rfl⟩) hK hG hC hP hD hS hA (List.Perm.refl _) rfl hl.1 rfl (Nat.le_of_ble_eq_true rfl) dL_errors_593 ⟨rfl, rfl⟩ ⟨rfl, rfl⟩ (by omega) (by omega) (fun ov w_44 H locs hQ hP hD hS => ?_)
                          obtain ⟨rfl, hw_44⟩ := hQ
                          refine W.eq (g2 := F0 m 596 ls [.long v_43]) rfl ?_
                          refine lv_ldc2 (v := -9000000000000000002) hx hb hown w_1 dL_errors_596 ?_
                          refine W.lcmp hx hb dL_errors_599 ?_
                          refine lv_if_ne (tgt := 724) hx hb dL_errors_600 (by decide) (fun c_45 => ?_) (fun c_45 => ?_)
                          · have h := it_r c_45 h
                            refine lv_iconst (v := 0) hx hb dL_errors_724 (by decide) ?_
                            cases h
                            exact Cx_zret (B := B9) rfl (by rw [hB9]; exact ⟨rfl, hw_44⟩) (by show 707 ≤ 997; omega) (by show 4512 ≤ 6270; omega) hx hb hr (by decide) (P_l hP) (D_l hD) hS dL_errors_725 hlocks
                          · have h := it_l c_45 h
                            refine lv_aload_n hx hb dL_errors_603 rfl (lv_at hl 0 rfl) ?_
                            refine lv_sipush (v := 10000) hx hb dL_errors_604 (by decide) ?_
                            refine lv_iconst (v := 1) hx hb dL_errors_607 (by decide) ?_
                            obtain ⟨v_47, hv_46, h⟩ := bd_l h
                            refine Lo_T (As := [.ref (cA 0), .int 10000, .int 1]) (rest := []) (wA := w_44) (wr := []) 7 42 (714) (4554) 997 6270 (co_steamFor l hst D k cA nA tA X_444 w_44 hw_44 10000 1 v_47 hv_46) ⟨hx, hb, hml, hown, hts⟩ (vx_cwSW 3 hts gL_errors_L_steamFor rfl rfl rfl (by decide +kernel) ⟨Nat.le_of_ble_eq_true rfl, Nat.le_of_ble_eq_true rfl⟩) hK hG hC hP hD hS hA (List.Perm.refl _) rfl hl.1 rfl (Nat.le_of_ble_eq_true rfl) dL_errors_608 ⟨rfl, rfl⟩ ⟨rfl, rfl⟩ (by omega) (by omega) (fun ov w_48 H locs hQ hP hD hS => ?_)
                            obtain ⟨rfl, hw_48⟩ := hQ
                            refine W.eq (g2 := F0 m 611 ls [.long v_47]) rfl ?_
                            refine lv_ldc2 (v := -9000000000000000002) hx hb hown w_1 dL_errors_611 ?_
                            refine W.lcmp hx hb dL_errors_614 ?_
                            refine lv_if_ne (tgt := 724) hx hb dL_errors_615 (by decide) (fun c_49 => ?_) (fun c_49 => ?_)
                            · have h := it_r c_49 h
                              refine lv_iconst (v := 0) hx hb dL_errors_724 (by decide) ?_
                              cases h
                              exact Cx_zret (B := B9) rfl (by rw [hB9]; exact ⟨rfl, hw_48⟩) (by show 714 ≤ 997; omega) (by show 4554 ≤ 6270; omega) hx hb hr (by decide) (P_l hP) (D_l hD) hS dL_errors_725 hlocks
                            · have h := it_l c_49 h
                              refine lv_aload_n hx hb dL_errors_618 rfl (lv_at hl 0 rfl) ?_
                              refine lv_iconst (v := 1) hx hb dL_errors_619 (by decide) ?_
                              refine lv_bipush (v := 21) hx hb dL_errors_620 (by decide) ?_
                              obtain ⟨v_51, hv_50, h⟩ := bd_l h
                              refine Lo_T (As := [.ref (cA 0), .int 1, .int 21]) (rest := []) (wA := w_48) (wr := []) 7 42 (721) (4596) 997 6270 (co_steamFor l hst D k cA nA tA X_444 w_48 hw_48 1 21 v_51 hv_50) ⟨hx, hb, hml, hown, hts⟩ (vx_cwSW 3 hts gL_errors_L_steamFor rfl rfl rfl (by decide +kernel) ⟨Nat.le_of_ble_eq_true rfl, Nat.le_of_ble_eq_true rfl⟩) hK hG hC hP hD hS hA (List.Perm.refl _) rfl hl.1 rfl (Nat.le_of_ble_eq_true rfl) dL_errors_622 ⟨rfl, rfl⟩ ⟨rfl, rfl⟩ (by omega) (by omega) (fun ov w_52 H locs hQ hP hD hS => ?_)
                              obtain ⟨rfl, hw_52⟩ := hQ
                              refine W.eq (g2 := F0 m 625 ls [.long v_51]) rfl ?_
                              refine lv_ldc2 (v := -9000000000000000002) hx hb hown w_1 dL_errors_625 ?_
                              refine W.lcmp hx hb dL_errors_628 ?_
                              refine lv_if_ne (tgt := 724) hx hb dL_errors_629 (by decide) (fun c_53 => ?_) (fun c_53 => ?_)
                              · have h := it_r c_53 h
                                refine lv_iconst (v := 0) hx hb dL_errors_724 (by decide) ?_
                                cases h
                                exact Cx_zret (B := B9) rfl (by rw [hB9]; exact ⟨rfl, hw_52⟩) (by show 721 ≤ 997; omega) (by show 4596 ≤ 6270; omega) hx hb hr (by decide) (P_l hP) (D_l hD) hS dL_errors_725 hlocks
                              · have h := it_l c_53 h
                                refine lv_aload_n hx hb dL_errors_632 rfl (lv_at hl 0 rfl) ?_
                                refine lv_iconst (v := 4) hx hb dL_errors_633 (by decide) ?_
                                refine lv_lconst (v := 0) hx hb dL_errors_634 (by decide) ?_
                                obtain ⟨v_55, hv_54, h⟩ := bd_l h
                                refine Lo_T (As := [.ref (cA 0), .int 4, .long 0]) (rest := []) (wA := w_52) (wr := []) 7 42 (728) (4638) 997 6270 (co_script l hst D k cA nA tA X_444 w_52 hw_52 4 0 v_55 hv_54) ⟨hx, hb, hml, hown, hts⟩ (vx_cwSW 3 hts gL_errors_L_script rfl rfl rfl (by decide +kernel) ⟨Nat.le_of_ble_eq_true rfl, Nat.le_of_ble_eq_true rfl⟩) hK hG hC hP hD hS hA (List.Perm.refl _) rfl hl.1 rfl (Nat.le_of_ble_eq_true rfl) dL_errors_635 ⟨rfl, rfl⟩ ⟨rfl, rfl⟩ (by omega) (by omega) (fun ov w_56 H locs hQ hP hD hS => ?_)
                                obtain ⟨rfl, hw_56⟩ := hQ
                                refine W.eq (g2 := F0 m 638 ls [.long v_55]) rfl ?_
                                refine lv_ldc2 (v := -9000000000000000002) hx hb hown w_1 dL_errors_638 ?_
                                refine W.lcmp hx hb dL_errors_641 ?_
                                refine lv_if_ne (tgt := 724) hx hb dL_errors_642 (by decide) (fun c_57 => ?_) (fun c_57 => ?_)
                                · have h := it_r c_57 h
                                  refine lv_iconst (v := 0) hx hb dL_errors_724 (by decide) ?_
                                  cases h
                                  exact Cx_zret (B := B9) rfl (by rw [hB9]; exact ⟨rfl, hw_56⟩) (by show 728 ≤ 997; omega) (by show 4638 ≤ 6270; omega) hx hb hr (by decide) (P_l hP) (D_l hD) hS dL_errors_725 hlocks
                                · have h := it_l c_57 h
                                  refine lv_aload_n hx hb dL_errors_645 rfl (lv_at hl 0 rfl) ?_
                                  refine lv_iconst (v := 1) hx hb dL_errors_646 (by decide) ?_
                                  refine lv_ldc2 (v := 100000) hx hb hown w_2 dL_errors_647 ?_
                                  obtain ⟨v_59, hv_58, h⟩ := bd_l h
                                  refine Lo_T (As := [.ref (cA 0), .int 1, .long 100000]) (rest := []) (wA := w_56) (wr := []) 7 42 (735) (4680) 997 6270 (co_script l hst D k cA nA tA X_444 w_56 hw_56 1 100000 v_59 hv_58) ⟨hx, hb, hml, hown, hts⟩ (vx_cwSW 3 hts gL_errors_L_script rfl rfl rfl (by decide +kernel) ⟨Nat.le_of_ble_eq_true rfl, Nat.le_of_ble_eq_true rfl⟩) hK hG hC hP hD hS hA (List.Perm.refl _) rfl hl.1 rfl (Nat.le_of_ble_eq_true rfl) dL_errors_650 ⟨rfl, rfl⟩ ⟨rfl, rfl⟩ (by omega) (by omega) (fun ov w_60 H locs hQ hP hD hS => ?_)
                                  obtain ⟨rfl, hw_60⟩ := hQ
                                  refine W.eq (g2 := F0 m 653 ls [.long v_59]) rfl ?_
                                  refine lv_ldc2 (v := -9000000000000000002) hx hb hown w_1 dL_errors_653 ?_
                                  refine W.lcmp hx hb dL_errors_656 ?_
                                  refine lv_if_ne (tgt := 724) hx hb dL_errors_657 (by decide) (fun c_61 => ?_) (fun c_61 => ?_)
                                  · have h := it_r c_61 h
                                    refine lv_iconst (v := 0) hx hb dL_errors_724 (by decide) ?_
                                    cases h
                                    exact Cx_zret (B := B9) rfl (by rw [hB9]; exact ⟨rfl, hw_60⟩) (by show 735 ≤ 997; omega) (by show 4680 ≤ 6270; omega) hx hb hr (by decide) (P_l hP) (D_l hD) hS dL_errors_725 hlocks
                                  · have h := it_l c_61 h
                                    refine lv_aload_n hx hb dL_errors_660 rfl (lv_at hl 0 rfl) ?_
                                    refine lv_iconst (v := 1) hx hb dL_errors_661 (by decide) ?_
                                    refine lv_ldc2 (v := 90000) hx hb hown w_3 dL_errors_662 ?_
                                    obtain ⟨v_63, hv_62, h⟩ := bd_l h
                                    refine Lo_T (As := [.ref (cA 0), .int 1, .long 90000]) (rest := []) (wA := w_60) (wr := []) 7 42 (742) (4722) 997 6270 (co_script l hst D k cA nA tA X_444 w_60 hw_60 1 90000 v_63 hv_62) ⟨hx, hb, hml, hown, hts⟩ (vx_cwSW 3 hts gL_errors_L_script rfl rfl rfl (by decide +kernel) ⟨Nat.le_of_ble_eq_true rfl, Nat.le_of_ble_eq_true rfl⟩) hK hG hC hP hD hS hA (List.Perm.refl _) rfl hl.1 rfl (Nat.le_of_ble_eq_true rfl) dL_errors_665 ⟨rfl, rfl⟩ ⟨rfl, rfl⟩ (by omega) (by omega) (fun ov w_64 H locs hQ hP hD hS => ?_)
                                    obtain ⟨rfl, hw_64⟩ := hQ
                                    refine W.eq (g2 := F0 m 668 ls [.long v_63]) rfl ?_
                                    refine lv_lconst (v := 0) hx hb dL_errors_668 (by decide) ?_
                                    refine W.lcmp hx hb dL_errors_669 ?_
                                    refine lv_if_ne (tgt := 724) hx hb dL_errors_670 (by decide) (fun c_65 => ?_) (fun c_65 => ?_)
                                    · have h := it_r c_65 h
                                      refine lv_iconst (v := 0) hx hb dL_errors_724 (by decide) ?_
                                      cases h
                                      exact Cx_zret (B := B9) rfl (by rw [hB9]; exact ⟨rfl, hw_64⟩) (by show 742 ≤ 997; omega) (by show 4722 ≤ 6270; omega) hx hb hr (by decide) (P_l hP) (D_l hD) hS dL_errors_725 hlocks
                                    · have h := it_l c_65 h
                                      refine lv_aload_n hx hb dL_errors_673 rfl (lv_at hl 0 rfl) ?_
                                      refine lv_lconst (v := 1) hx hb dL_errors_674 (by decide) ?_
                                      refine lv_bipush (v := 100) hx hb dL_errors_675 (by decide) ?_
                                      obtain ⟨v_67, hv_66, h⟩ := bd_l h
                                      refine Lo_T (As := [.ref (cA 0), .long 1, .int 100]) (rest := []) (wA := w_64) (wr := []) 7 42 (749) (4764) 997 6270 (co_simulate l hst D k cA nA tA X_444 w_64 hw_64 1 100 v_67 hv_66) ⟨hx, hb, hml, hown, hts⟩ (vx_cwSW 3 hts gL_errors_L_simulate rfl rfl rfl (by decide +kernel) ⟨Nat.le_of_ble_eq_true rfl, Nat.le_of_ble_eq_true rfl⟩) hK hG hC hP hD hS hA (List.Perm.refl _) rfl hl.1 rfl (Nat.le_of_ble_eq_true rfl) dL_errors_677 ⟨rfl, rfl⟩ ⟨rfl, rfl⟩ (by omega) (by omega) (fun ov w_68 H locs hQ hP hD hS => ?_)
                                      obtain ⟨rfl, hw_68⟩ := hQ
                                      refine W.eq (g2 := F0 m 680 ls [.long v_67]) rfl ?_
                                      refine lv_ldc2 (v := -9000000000000000002) hx hb hown w_1 dL_errors_680 ?_
                                      refine W.lcmp hx hb dL_errors_683 ?_
                                      refine lv_if_ne (tgt := 724) hx hb dL_errors_684 (by decide) (fun c_69 => ?_) (fun c_69 => ?_)
                                      · have h := it_r c_69 h
                                        refine lv_iconst (v := 0) hx hb dL_errors_724 (by decide) ?_
                                        cases h
                                        exact Cx_zret (B := B9) rfl (by rw [hB9]; exact ⟨rfl, hw_68⟩) (by show 749 ≤ 997; omega) (by show 4764 ≤ 6270; omega) hx hb hr (by decide) (P_l hP) (D_l hD) hS dL_errors_725 hlocks
                                      · have h := it_l c_69 h
                                        refine lv_aload_n hx hb dL_errors_687 rfl (lv_at hl 0 rfl) ?_
                                        refine lv_iconst (v := 2) hx hb dL_errors_688 (by decide) ?_
                                        obtain ⟨⟨v_71, X_73⟩, hv_70, h⟩ := bd_l h
                                        refine Lo_T (As := [.ref (cA 0), .int 2]) (rest := []) (wA := w_68) (wr := []) 12 81 (761) (4845) 997 6270 (co_save l hst D k cA nA tA X_444 w_68 hw_68 2 (v_71, X_73) hv_70) ⟨hx, hb, hml, hown, hts⟩ (vx_cwSW 2 hts gL_errors_L_save rfl rfl rfl (by decide +kernel) ⟨Nat.le_of_ble_eq_true rfl, Nat.le_of_ble_eq_true rfl⟩) hK hG hC hP hD hS hA (List.Perm.refl _) rfl hl.1 rfl (Nat.le_of_ble_eq_true rfl) dL_errors_689 ⟨rfl, rfl⟩ ⟨rfl, rfl⟩ (by omega) (by omega) (fun ov w_72 H locs hQ hP hD hS => ?_)
                                        obtain ⟨rfl, hw_72⟩ := hQ
                                        refine W.eq (g2 := F0 m 692 ls [.long v_71]) rfl ?_
                                        refine lv_ldc2 (v := -9000000000000000001) hx hb hown w_0 dL_errors_692 ?_
                                        refine W.lcmp hx hb dL_errors_695 ?_
                                        refine lv_if_ne (tgt := 724) hx hb dL_errors_696 (by decide) (fun c_74 => ?_) (fun c_74 => ?_)
                                        · have h := it_r c_74 h
                                          refine lv_iconst (v := 0) hx hb dL_errors_724 (by decide) ?_
                                          cases h
                                          exact Cx_zret (B := B9) rfl (by rw [hB9]; exact ⟨rfl, hw_72⟩) (by show 761 ≤ 997; omega) (by show 4845 ≤ 6270; omega) hx hb hr (by decide) (P_l hP) (D_l hD) hS dL_errors_725 hlocks
                                        · have h := it_l c_74 h
                                          refine lv_aload_n hx hb dL_errors_699 rfl (lv_at hl 0 rfl) ?_
                                          refine lv_iconst (v := (-1)) hx hb dL_errors_700 (by decide) ?_
                                          obtain ⟨⟨v_76, X_78⟩, hv_75, h⟩ := bd_l h
                                          refine Lo_T (As := [.ref (cA 0), .int (-1)]) (rest := []) (wA := w_72) (wr := []) 12 81 (773) (4926) 997 6270 (co_restore l hst D k cA nA tA X_73 w_72 hw_72 (-1) (v_76, X_78) hv_75) ⟨hx, hb, hml, hown, hts⟩ (vx_cwSW 2 hts gL_errors_L_restore rfl rfl rfl (by decide +kernel) ⟨Nat.le_of_ble_eq_true rfl, Nat.le_of_ble_eq_true rfl⟩) hK hG hC hP hD hS hA (List.Perm.refl _) rfl hl.1 rfl (Nat.le_of_ble_eq_true rfl) dL_errors_701 ⟨rfl, rfl⟩ ⟨rfl, rfl⟩ (by omega) (by omega) (fun ov w_77 H locs hQ hP hD hS => ?_)
                                          obtain ⟨rfl, hw_77⟩ := hQ
                                          refine W.eq (g2 := F0 m 704 ls [.long v_76]) rfl ?_
                                          refine lv_ldc2 (v := -9000000000000000001) hx hb hown w_0 dL_errors_704 ?_
                                          refine W.lcmp hx hb dL_errors_707 ?_
                                          refine lv_if_ne (tgt := 724) hx hb dL_errors_708 (by decide) (fun c_79 => ?_) (fun c_79 => ?_)
                                          · have h := it_r c_79 h
                                            refine lv_iconst (v := 0) hx hb dL_errors_724 (by decide) ?_
                                            cases h
                                            exact Cx_zret (B := B9) rfl (by rw [hB9]; exact ⟨rfl, hw_77⟩) (by show 773 ≤ 997; omega) (by show 4926 ≤ 6270; omega) hx hb hr (by decide) (P_l hP) (D_l hD) hS dL_errors_725 hlocks
                                          · have h := it_l c_79 h
                                            refine lv_aload_n hx hb dL_errors_711 rfl (lv_at hl 0 rfl) ?_
                                            obtain ⟨v_81, hv_80, h⟩ := bd_l h
                                            refine Lo_S (As := [.ref (cA 0)]) (rest := []) (wA := w_77) (wr := []) 224 1344 (997) (6270) 997 6270 (c_L_now l hst D k cA nA tA X_78 w_77 hw_77 v_81 hv_80) ⟨hx, hb, hml, hown, hts⟩ (va_cwS 1 hts gL_errors_L_now rfl rfl rfl (by decide +kernel) ⟨Nat.le_of_ble_eq_true rfl, Nat.le_of_ble_eq_true rfl⟩) hK hG hC hP hD hS hA (List.Perm.refl _) rfl hl.1 rfl (Nat.le_of_ble_eq_true rfl) dL_errors_712 ⟨rfl, rfl⟩ ⟨rfl, rfl⟩ (by omega) (by omega) (fun ov w_82 H locs hQ hP hD hS => ?_)
                                            obtain ⟨rfl, hw_82⟩ := hQ
                                            refine W.eq (g2 := F0 m 715 ls [.long v_81]) rfl ?_
                                            refine lv_lload_n hx hb dL_errors_715 rfl (lv_at hl 1 rfl) ?_
                                            refine W.lcmp hx hb dL_errors_716 ?_
                                            refine lv_if_ne (tgt := 724) hx hb dL_errors_717 (by decide) (fun c_83 => ?_) (fun c_83 => ?_)
                                            · have h := it_r c_83 h
                                              refine lv_iconst (v := 0) hx hb dL_errors_724 (by decide) ?_
                                              cases h
                                              exact Cx_zret (B := B9) rfl (by rw [hB9]; exact ⟨rfl, hw_82⟩) (by show 997 ≤ 997; omega) (by show 6270 ≤ 6270; omega) hx hb hr (by decide) (P_l hP) (D_l hD) hS dL_errors_725 hlocks
                                            · have h := it_l c_83 h
                                              refine lv_iconst (v := 1) hx hb dL_errors_720 (by decide) ?_
                                              refine lv_goto (tgt := 725) hx hb dL_errors_721 (by decide) ?_
                                              cases h
                                              exact Cx_zret (B := B9) rfl (by rw [hB9]; exact ⟨rfl, hw_82⟩) (by show 997 ≤ 997; omega) (by show 6270 ≤ 6270; omega) hx hb hr (by decide) (P_l hP) (D_l hD) hS dL_errors_725 hlocks
  have hC_342 : ∀ (fu_342 : Nat) (x1_342 : Int64) (x3_342 : Int32) (x4_342 : Int32) (x5_342 : Int32) (X_342 : XV) (w_342 : va_W) (H : Heap) (locs : List Loc) (ls : Array Slot), fu_342 ≤ 7 → Ob k cA nA tA X_342 w_342 → va_P D vwCl (w_342 ++ []) H → va_D A (w_342 ++ []) → va_S A s.heap H locs → lv_has ls 6 [(0, .ref (cA 0)), (1, .long x1_342), (3, .int x3_342), (4, .int x4_342), (5, .int x5_342)] → f_L_errors_342 fu_342 x1_342 x3_342 x4_342 x5_342 X_342 = some o → W p l e ({ frames := 14, cells := 997, slots := 6270, locals := 749 } : Room) s m args below meth c H locs ((584 - 20 * fu_342)) ((3711 - 129 * fu_342)) (vx_MQ below (Qx D A (.inr B9)) (Xx D A (w) (.inr B9)) args s 997 6270 A) (F0 m 342 ls []) := by
    intro fu_342
    induction fu_342 with
    | zero => intro x1_342 x3_342 x4_342 x5_342 X_342 w_342 H locs ls _ _ _ _ _ _ h; exact (no_l h).elim
    | succ fu_342 ih_342 =>
      intro x1_342 x3_342 x4_342 x5_342 X_342 w_342 H locs ls hfu_342 hw_342 hP hD hS hl h
      rw [f_L_errors_342] at h
      refine lv_iload hx hb dL_errors_342 (lv_at hl 4 rfl) ?_
      refine lv_iload_n hx hb dL_errors_344 rfl (lv_at hl 2 rfl) ?_
      refine lv_icmp_ge (tgt := 444) hx hb dL_errors_345 (by decide) (fun c_84 => ?_) (fun c_84 => ?_)
      · have h := it_l c_84 h
        refine W.widen (k := 604) (n := 3840) (by omega) (by omega) ?_
        exact hC_444 x1_342 x3_342 x4_342 X_342 w_342 _ _ _ hw_342 hP hD hS (lv_sub hl [0, 1, 2, 3] rfl) h
      · have h := it_r c_84 h
        refine lv_iload hx hb dL_errors_348 (lv_at hl 3 rfl) ?_
        refine lv_if_eq (tgt := 444) hx hb dL_errors_350 (by decide) (fun c_85 => ?_) (fun c_85 => ?_)
        · have h := it_l c_85 h
          refine W.widen (k := 604) (n := 3840) (by omega) (by omega) ?_
          exact hC_444 x1_342 x3_342 x4_342 X_342 w_342 _ _ _ hw_342 hP hD hS (lv_sub hl [0, 1, 2, 3] rfl) h
        · have h := it_r c_85 h
          refine lv_aload_n hx hb dL_errors_353 rfl (lv_at hl 0 rfl) ?_
          refine lv_iload hx hb dL_errors_354 (lv_at hl 4 rfl) ?_
          refine lv_bipush (v := 7) hx hb dL_errors_356 (by decide) ?_
          obtain ⟨v_87, hv_86, h⟩ := bd_l h
          refine Lo_T (As := [.ref (cA 0), .int x5_342, .int 7]) (rest := []) (wA := w_342) (wr := []) 2 12 ((584 - 20 * (fu_342 + 1)) + 2) ((3711 - 129 * (fu_342 + 1)) + 12) 997 6270 (co_effect l hst D k cA nA tA X_342 w_342 hw_342 x5_342 7 v_87 hv_86) ⟨hx, hb, hml, hown, hts⟩ (vx_cwSW 3 hts gL_errors_L_effect rfl rfl rfl (by decide +kernel) ⟨Nat.le_of_ble_eq_true rfl, Nat.le_of_ble_eq_true rfl⟩) hK hG hC hP hD hS hA (List.Perm.refl _) rfl hl.1 rfl (Nat.le_of_ble_eq_true rfl) dL_errors_358 ⟨rfl, rfl⟩ ⟨rfl, rfl⟩ (by omega) (by omega) (fun ov w_88 H locs hQ hP hD hS => ?_)
          obtain ⟨rfl, hw_88⟩ := hQ
          refine W.eq (g2 := F0 m 361 ls [.long v_87]) rfl ?_
          refine lv_lconst (v := 0) hx hb dL_errors_361 (by decide) ?_
          refine W.lcmp hx hb dL_errors_362 ?_
          refine lv_if_le (tgt := 403) hx hb dL_errors_363 (by decide) (fun c_89 => ?_) (fun c_89 => ?_)
          · have h := it_l c_89 h
            refine lv_aload_n hx hb dL_errors_403 rfl (lv_at hl 0 rfl) ?_
            refine lv_iload hx hb dL_errors_404 (lv_at hl 4 rfl) ?_
            obtain ⟨⟨v_91, X_93⟩, hv_90, h⟩ := bd_l h
            refine Lo_T (As := [.ref (cA 0), .int x5_342]) (rest := []) (wA := w_88) (wr := []) 12 81 ((584 - 20 * (fu_342 + 1)) + 14) ((3711 - 129 * (fu_342 + 1)) + 93) 997 6270 (co_endWash l hst D k cA nA tA X_342 w_88 hw_88 x5_342 (v_91, X_93) hv_90) ⟨hx, hb, hml, hown, hts⟩ (vx_cwSW 2 hts gL_errors_L_endWash rfl rfl rfl (by decide +kernel) ⟨Nat.le_of_ble_eq_true rfl, Nat.le_of_ble_eq_true rfl⟩) hK hG hC hP hD hS hA (List.Perm.refl _) rfl hl.1 rfl (Nat.le_of_ble_eq_true rfl) dL_errors_406 ⟨rfl, rfl⟩ ⟨rfl, rfl⟩ (by omega) (by omega) (fun ov w_92 H locs hQ hP hD hS => ?_)
            obtain ⟨rfl, hw_92⟩ := hQ
            refine W.eq (g2 := F0 m 409 ls [.long v_91]) rfl ?_
            refine lv_ldc2 (v := -9000000000000000003) hx hb hown w_4 dL_errors_409 ?_
            refine W.lcmp hx hb dL_errors_412 ?_
            refine lv_if_ne (tgt := 435) hx hb dL_errors_413 (by decide) (fun c_94 => ?_) (fun c_94 => ?_)
            · have h := it_r c_94 h
              refine lv_iconst (v := 0) hx hb dL_errors_435 (by decide) ?_
              refine lv_istore (lv' := [(4, .int 0), (0, .ref (cA 0)), (1, .long x1_342), (3, .int x3_342), (5, .int x5_342)]) hx hb dL_errors_436 hl (by decide) rfl (fun ls hl => ?_)
              refine lv_iinc (v := (x5_342 + 1)) (lv' := [(5, .int (x5_342 + 1)), (4, .int 0), (0, .ref (cA 0)), (1, .long x1_342), (3, .int x3_342)]) hx hb dL_errors_438 hl (k := 4) rfl rfl (by decide) rfl (fun ls hl => ?_)
              refine lv_goto (tgt := 342) hx hb dL_errors_441 (by decide) ?_
              refine W.widen (k := (584 - 20 * fu_342)) (n := (3711 - 129 * fu_342)) (by omega) (by omega) ?_
              exact ih_342 x1_342 x3_342 0 (x5_342 + 1) X_93 w_92 _ _ _ (by omega) hw_92 hP hD hS (lv_sub hl [2, 3, 4, 1, 0] rfl) h
            · have h := it_l c_94 h
              refine lv_aload_n hx hb dL_errors_416 rfl (lv_at hl 0 rfl) ?_
              refine lv_iload hx hb dL_errors_417 (lv_at hl 4 rfl) ?_
              refine lv_iconst (v := 0) hx hb dL_errors_419 (by decide) ?_
              refine lv_iconst (v := 5) hx hb dL_errors_420 (by decide) ?_
              obtain ⟨v_96, hv_95, h⟩ := bd_l h
              refine Lo_T (As := [.ref (cA 0), .int x5_342, .int 0, .int 5]) (rest := []) (wA := w_92) (wr := []) 4 24 ((584 - 20 * (fu_342 + 1)) + 18) ((3711 - 129 * (fu_342 + 1)) + 117) 997 6270 (co_washGain l hst D k cA nA tA X_93 w_92 hw_92 x5_342 0 5 v_96 hv_95) ⟨hx, hb, hml, hown, hts⟩ (vx_cwSW 4 hts gL_errors_L_washGain rfl rfl rfl (by decide +kernel) ⟨Nat.le_of_ble_eq_true rfl, Nat.le_of_ble_eq_true rfl⟩) hK hG hC hP hD hS hA (List.Perm.refl _) rfl hl.1 rfl (Nat.le_of_ble_eq_true rfl) dL_errors_421 ⟨rfl, rfl⟩ ⟨rfl, rfl⟩ (by omega) (by omega) (fun ov w_97 H locs hQ hP hD hS => ?_)
              obtain ⟨rfl, hw_97⟩ := hQ
              refine W.eq (g2 := F0 m 424 ls [.long v_96]) rfl ?_
              refine lv_ldc2 (v := -9000000000000000002) hx hb hown w_1 dL_errors_424 ?_
              refine W.lcmp hx hb dL_errors_427 ?_
              refine lv_if_ne (tgt := 435) hx hb dL_errors_428 (by decide) (fun c_98 => ?_) (fun c_98 => ?_)
              · have h := it_r c_98 h
                refine lv_iconst (v := 0) hx hb dL_errors_435 (by decide) ?_
                refine lv_istore (lv' := [(4, .int 0), (0, .ref (cA 0)), (1, .long x1_342), (3, .int x3_342), (5, .int x5_342)]) hx hb dL_errors_436 hl (by decide) rfl (fun ls hl => ?_)
                refine lv_iinc (v := (x5_342 + 1)) (lv' := [(5, .int (x5_342 + 1)), (4, .int 0), (0, .ref (cA 0)), (1, .long x1_342), (3, .int x3_342)]) hx hb dL_errors_438 hl (k := 4) rfl rfl (by decide) rfl (fun ls hl => ?_)
                refine lv_goto (tgt := 342) hx hb dL_errors_441 (by decide) ?_
                refine W.widen (k := (584 - 20 * fu_342)) (n := (3711 - 129 * fu_342)) (by omega) (by omega) ?_
                exact ih_342 x1_342 x3_342 0 (x5_342 + 1) X_93 w_97 _ _ _ (by omega) hw_97 hP hD hS (lv_sub hl [2, 3, 4, 1, 0] rfl) h
              · have h := it_l c_98 h
                refine lv_iconst (v := 1) hx hb dL_errors_431 (by decide) ?_
                refine lv_goto (tgt := 436) hx hb dL_errors_432 (by decide) ?_
                refine lv_istore (lv' := [(4, .int 1), (0, .ref (cA 0)), (1, .long x1_342), (3, .int x3_342), (5, .int x5_342)]) hx hb dL_errors_436 hl (by decide) rfl (fun ls hl => ?_)
                refine lv_iinc (v := (x5_342 + 1)) (lv' := [(5, .int (x5_342 + 1)), (4, .int 1), (0, .ref (cA 0)), (1, .long x1_342), (3, .int x3_342)]) hx hb dL_errors_438 hl (k := 4) rfl rfl (by decide) rfl (fun ls hl => ?_)
                refine lv_goto (tgt := 342) hx hb dL_errors_441 (by decide) ?_
                refine W.widen (k := (584 - 20 * fu_342)) (n := (3711 - 129 * fu_342)) (by omega) (by omega) ?_
                exact ih_342 x1_342 x3_342 1 (x5_342 + 1) X_93 w_97 _ _ _ (by omega) hw_97 hP hD hS (lv_sub hl [2, 3, 4, 1, 0] rfl) h
          · have h := it_r c_89 h
            refine lv_aload_n hx hb dL_errors_366 rfl (lv_at hl 0 rfl) ?_
            refine lv_iload hx hb dL_errors_367 (lv_at hl 4 rfl) ?_
            refine lv_iconst (v := 5) hx hb dL_errors_369 (by decide) ?_
            obtain ⟨⟨v_100, X_102⟩, hv_99, h⟩ := bd_l h
            refine Lo_T (As := [.ref (cA 0), .int x5_342, .int 5]) (rest := []) (wA := w_88) (wr := []) 14 93 ((584 - 20 * (fu_342 + 1)) + 16) ((3711 - 129 * (fu_342 + 1)) + 105) 997 6270 (co_wash l hst D k cA nA tA X_342 w_88 hw_88 x5_342 5 (v_100, X_102) hv_99) ⟨hx, hb, hml, hown, hts⟩ (vx_cwSW 3 hts gL_errors_L_wash rfl rfl rfl (by decide +kernel) ⟨Nat.le_of_ble_eq_true rfl, Nat.le_of_ble_eq_true rfl⟩) hK hG hC hP hD hS hA (List.Perm.refl _) rfl hl.1 rfl (Nat.le_of_ble_eq_true rfl) dL_errors_370 ⟨rfl, rfl⟩ ⟨rfl, rfl⟩ (by omega) (by omega) (fun ov w_101 H locs hQ hP hD hS => ?_)
            obtain ⟨rfl, hw_101⟩ := hQ
            refine W.eq (g2 := F0 m 373 ls [.long v_100]) rfl ?_
            refine lv_ldc2 (v := -9000000000000000003) hx hb hown w_4 dL_errors_373 ?_
            refine W.lcmp hx hb dL_errors_376 ?_
            refine lv_if_ne (tgt := 399) hx hb dL_errors_377 (by decide) (fun c_103 => ?_) (fun c_103 => ?_)
            · have h := it_r c_103 h
              refine lv_iconst (v := 0) hx hb dL_errors_399 (by decide) ?_
              refine lv_goto (tgt := 436) hx hb dL_errors_400 (by decide) ?_
              refine lv_istore (lv' := [(4, .int 0), (0, .ref (cA 0)), (1, .long x1_342), (3, .int x3_342), (5, .int x5_342)]) hx hb dL_errors_436 hl (by decide) rfl (fun ls hl => ?_)
              refine lv_iinc (v := (x5_342 + 1)) (lv' := [(5, .int (x5_342 + 1)), (4, .int 0), (0, .ref (cA 0)), (1, .long x1_342), (3, .int x3_342)]) hx hb dL_errors_438 hl (k := 4) rfl rfl (by decide) rfl (fun ls hl => ?_)
              refine lv_goto (tgt := 342) hx hb dL_errors_441 (by decide) ?_
              refine W.widen (k := (584 - 20 * fu_342)) (n := (3711 - 129 * fu_342)) (by omega) (by omega) ?_
              exact ih_342 x1_342 x3_342 0 (x5_342 + 1) X_102 w_101 _ _ _ (by omega) hw_101 hP hD hS (lv_sub hl [2, 3, 4, 1, 0] rfl) h
            · have h := it_l c_103 h
              refine lv_aload_n hx hb dL_errors_380 rfl (lv_at hl 0 rfl) ?_
              refine lv_iload hx hb dL_errors_381 (lv_at hl 4 rfl) ?_
              refine lv_iconst (v := 5) hx hb dL_errors_383 (by decide) ?_
              refine lv_iconst (v := 5) hx hb dL_errors_384 (by decide) ?_
              obtain ⟨v_105, hv_104, h⟩ := bd_l h
              refine Lo_T (As := [.ref (cA 0), .int x5_342, .int 5, .int 5]) (rest := []) (wA := w_101) (wr := []) 4 24 ((584 - 20 * (fu_342 + 1)) + 20) ((3711 - 129 * (fu_342 + 1)) + 129) 997 6270 (co_washGain l hst D k cA nA tA X_102 w_101 hw_101 x5_342 5 5 v_105 hv_104) ⟨hx, hb, hml, hown, hts⟩ (vx_cwSW 4 hts gL_errors_L_washGain rfl rfl rfl (by decide +kernel) ⟨Nat.le_of_ble_eq_true rfl, Nat.le_of_ble_eq_true rfl⟩) hK hG hC hP hD hS hA (List.Perm.refl _) rfl hl.1 rfl (Nat.le_of_ble_eq_true rfl) dL_errors_385 ⟨rfl, rfl⟩ ⟨rfl, rfl⟩ (by omega) (by omega) (fun ov w_106 H locs hQ hP hD hS => ?_)
              obtain ⟨rfl, hw_106⟩ := hQ
              refine W.eq (g2 := F0 m 388 ls [.long v_105]) rfl ?_
              refine lv_ldc2 (v := -9000000000000000003) hx hb hown w_4 dL_errors_388 ?_
              refine W.lcmp hx hb dL_errors_391 ?_
              refine lv_if_ne (tgt := 399) hx hb dL_errors_392 (by decide) (fun c_107 => ?_) (fun c_107 => ?_)
              · have h := it_r c_107 h
                refine lv_iconst (v := 0) hx hb dL_errors_399 (by decide) ?_
                refine lv_goto (tgt := 436) hx hb dL_errors_400 (by decide) ?_
                refine lv_istore (lv' := [(4, .int 0), (0, .ref (cA 0)), (1, .long x1_342), (3, .int x3_342), (5, .int x5_342)]) hx hb dL_errors_436 hl (by decide) rfl (fun ls hl => ?_)
                refine lv_iinc (v := (x5_342 + 1)) (lv' := [(5, .int (x5_342 + 1)), (4, .int 0), (0, .ref (cA 0)), (1, .long x1_342), (3, .int x3_342)]) hx hb dL_errors_438 hl (k := 4) rfl rfl (by decide) rfl (fun ls hl => ?_)
                refine lv_goto (tgt := 342) hx hb dL_errors_441 (by decide) ?_
                refine W.widen (k := (584 - 20 * fu_342)) (n := (3711 - 129 * fu_342)) (by omega) (by omega) ?_
                exact ih_342 x1_342 x3_342 0 (x5_342 + 1) X_102 w_106 _ _ _ (by omega) hw_106 hP hD hS (lv_sub hl [2, 3, 4, 1, 0] rfl) h
              · have h := it_l c_107 h
                refine lv_iconst (v := 1) hx hb dL_errors_395 (by decide) ?_
                refine lv_goto (tgt := 436) hx hb dL_errors_396 (by decide) ?_
                refine lv_istore (lv' := [(4, .int 1), (0, .ref (cA 0)), (1, .long x1_342), (3, .int x3_342), (5, .int x5_342)]) hx hb dL_errors_436 hl (by decide) rfl (fun ls hl => ?_)
                refine lv_iinc (v := (x5_342 + 1)) (lv' := [(5, .int (x5_342 + 1)), (4, .int 1), (0, .ref (cA 0)), (1, .long x1_342), (3, .int x3_342)]) hx hb dL_errors_438 hl (k := 4) rfl rfl (by decide) rfl (fun ls hl => ?_)
                refine lv_goto (tgt := 342) hx hb dL_errors_441 (by decide) ?_
                refine W.widen (k := (584 - 20 * fu_342)) (n := (3711 - 129 * fu_342)) (by omega) (by omega) ?_
                exact ih_342 x1_342 x3_342 1 (x5_342 + 1) X_102 w_106 _ _ _ (by omega) hw_106 hP hD hS (lv_sub hl [2, 3, 4, 1, 0] rfl) h
  refine lv_aload_n hx hb dL_errors_0 rfl (lv_at hl 0 rfl) ?_
  obtain ⟨v_109, hv_108, h⟩ := bd_l h
  refine Lo_S (As := [.ref (cA 0)]) (rest := []) (wA := w) (wr := []) 224 1344 (224) (1344) 997 6270 (c_L_now l hst D k cA nA tA X w hw v_109 hv_108) ⟨hx, hb, hml, hown, hts⟩ (va_cwS 1 hts gL_errors_L_now rfl rfl rfl (by decide +kernel) ⟨Nat.le_of_ble_eq_true rfl, Nat.le_of_ble_eq_true rfl⟩) hK hG hC hP hD hS hA (List.Perm.refl _) rfl hl.1 rfl (Nat.le_of_ble_eq_true rfl) dL_errors_1 ⟨rfl, rfl⟩ ⟨rfl, rfl⟩ (by omega) (by omega) (fun ov w_110 H locs hQ hP hD hS => ?_)
  obtain ⟨rfl, hw_110⟩ := hQ
  refine W.eq (g2 := F0 m 4 ls [.long v_109]) rfl ?_
  refine lv_lstore_n (lv' := [(1, .long v_109), (0, .ref (cA 0))]) hx hb dL_errors_4 rfl hl (by decide) rfl (fun ls hl => ?_)
  refine lv_aload_n hx hb dL_errors_5 rfl (lv_at hl 1 rfl) ?_
  obtain ⟨v_112, hv_111, h⟩ := bd_l h
  refine Lo_S (As := [.ref (cA 0)]) (rest := []) (wA := w_110) (wr := []) 1 6 (225) (1350) 997 6270 (c_L_effects l hst D k cA nA tA X w_110 hw_110 v_112 hv_111) ⟨hx, hb, hml, hown, hts⟩ (va_cwS 1 hts gL_errors_L_effects rfl rfl rfl (by decide +kernel) ⟨Nat.le_of_ble_eq_true rfl, Nat.le_of_ble_eq_true rfl⟩) hK hG hC hP hD hS hA (List.Perm.refl _) rfl hl.1 rfl (Nat.le_of_ble_eq_true rfl) dL_errors_6 ⟨rfl, rfl⟩ ⟨rfl, rfl⟩ (by omega) (by omega) (fun ov w_113 H locs hQ hP hD hS => ?_)
  obtain ⟨rfl, hw_113⟩ := hQ
  refine W.eq (g2 := F0 m 9 ls [.int v_112]) rfl ?_
  refine lv_istore_n (lv' := [(3, .int v_112), (1, .long v_109), (0, .ref (cA 0))]) hx hb dL_errors_9 rfl hl (by decide) rfl (fun ls hl => ?_)
  refine lv_aload_n hx hb dL_errors_10 rfl (lv_at hl 2 rfl) ?_
  refine lv_iconst (v := (-1)) hx hb dL_errors_11 (by decide) ?_
  obtain ⟨⟨v_115, X_117⟩, hv_114, h⟩ := bd_l h
  refine Lo_T (As := [.ref (cA 0), .int (-1)]) (rest := []) (wA := w_113) (wr := []) 2 12 (227) (1362) 997 6270 (co_append l hst D k cA nA tA X w_113 hw_113 (-1) (v_115, X_117) hv_114) ⟨hx, hb, hml, hown, hts⟩ (vx_cwSW 2 hts gL_errors_L_append rfl rfl rfl (by decide +kernel) ⟨Nat.le_of_ble_eq_true rfl, Nat.le_of_ble_eq_true rfl⟩) hK hG hC hP hD hS hA (List.Perm.refl _) rfl hl.1 rfl (Nat.le_of_ble_eq_true rfl) dL_errors_12 ⟨rfl, rfl⟩ ⟨rfl, rfl⟩ (by omega) (by omega) (fun ov w_116 H locs hQ hP hD hS => ?_)
  obtain ⟨rfl, hw_116⟩ := hQ
  refine W.eq (g2 := F0 m 15 ls [.long v_115]) rfl ?_
  refine lv_ldc2 (v := -9000000000000000002) hx hb hown w_1 dL_errors_15 ?_
  refine W.lcmp hx hb dL_errors_18 ?_
  refine lv_if_ne (tgt := 336) hx hb dL_errors_19 (by decide) (fun c_118 => ?_) (fun c_118 => ?_)
  · have h := it_r c_118 h
    refine lv_iconst (v := 0) hx hb dL_errors_336 (by decide) ?_
    refine lv_istore (lv' := [(4, .int 0), (3, .int v_112), (1, .long v_109), (0, .ref (cA 0))]) hx hb dL_errors_337 hl (by decide) rfl (fun ls hl => ?_)
    refine lv_iconst (v := 0) hx hb dL_errors_339 (by decide) ?_
    refine lv_istore (lv' := [(5, .int 0), (4, .int 0), (3, .int v_112), (1, .long v_109), (0, .ref (cA 0))]) hx hb dL_errors_340 hl (by decide) rfl (fun ls hl => ?_)
    refine W.widen (k := (584 - 20 * 7)) (n := (3711 - 129 * 7)) (by omega) (by omega) ?_
    exact hC_342 7 v_109 v_112 0 0 X_117 w_116 _ _ _ (Nat.le_refl _) hw_116 hP hD hS (lv_sub hl [4, 3, 2, 1, 0] rfl) h
  · have h := it_l c_118 h
    refine lv_aload_n hx hb dL_errors_22 rfl (lv_at hl 2 rfl) ?_
    refine lv_sipush (v := 256) hx hb dL_errors_23 (by decide) ?_
    obtain ⟨⟨v_120, X_122⟩, hv_119, h⟩ := bd_l h
    refine Lo_T (As := [.ref (cA 0), .int 256]) (rest := []) (wA := w_116) (wr := []) 2 12 (229) (1374) 997 6270 (co_append l hst D k cA nA tA X_117 w_116 hw_116 256 (v_120, X_122) hv_119) ⟨hx, hb, hml, hown, hts⟩ (vx_cwSW 2 hts gL_errors_L_append rfl rfl rfl (by decide +kernel) ⟨Nat.le_of_ble_eq_true rfl, Nat.le_of_ble_eq_true rfl⟩) hK hG hC hP hD hS hA (List.Perm.refl _) rfl hl.1 rfl (Nat.le_of_ble_eq_true rfl) dL_errors_26 ⟨rfl, rfl⟩ ⟨rfl, rfl⟩ (by omega) (by omega) (fun ov w_121 H locs hQ hP hD hS => ?_)
    obtain ⟨rfl, hw_121⟩ := hQ
    refine W.eq (g2 := F0 m 29 ls [.long v_120]) rfl ?_
    refine lv_ldc2 (v := -9000000000000000002) hx hb hown w_1 dL_errors_29 ?_
    refine W.lcmp hx hb dL_errors_32 ?_
    refine lv_if_ne (tgt := 336) hx hb dL_errors_33 (by decide) (fun c_123 => ?_) (fun c_123 => ?_)
    · have h := it_r c_123 h
      refine lv_iconst (v := 0) hx hb dL_errors_336 (by decide) ?_
      refine lv_istore (lv' := [(4, .int 0), (3, .int v_112), (1, .long v_109), (0, .ref (cA 0))]) hx hb dL_errors_337 hl (by decide) rfl (fun ls hl => ?_)
      refine lv_iconst (v := 0) hx hb dL_errors_339 (by decide) ?_
      refine lv_istore (lv' := [(5, .int 0), (4, .int 0), (3, .int v_112), (1, .long v_109), (0, .ref (cA 0))]) hx hb dL_errors_340 hl (by decide) rfl (fun ls hl => ?_)
      refine W.widen (k := (584 - 20 * 7)) (n := (3711 - 129 * 7)) (by omega) (by omega) ?_
      exact hC_342 7 v_109 v_112 0 0 X_122 w_121 _ _ _ (Nat.le_refl _) hw_121 hP hD hS (lv_sub hl [4, 3, 2, 1, 0] rfl) h
    · have h := it_l c_123 h
      refine lv_aload_n hx hb dL_errors_36 rfl (lv_at hl 2 rfl) ?_
      refine lv_bipush (v := 10) hx hb dL_errors_37 (by decide) ?_
      obtain ⟨v_125, hv_124, h⟩ := bd_l h
      refine Lo_T (As := [.ref (cA 0), .int 10]) (rest := []) (wA := w_121) (wr := []) 1 6 (230) (1380) 997 6270 (co_about l hst D k cA nA tA X_122 w_121 hw_121 10 v_125 hv_124) ⟨hx, hb, hml, hown, hts⟩ (vx_cwSW 2 hts gL_errors_L_about rfl rfl rfl (by decide +kernel) ⟨Nat.le_of_ble_eq_true rfl, Nat.le_of_ble_eq_true rfl⟩) hK hG hC hP hD hS hA (List.Perm.refl _) rfl hl.1 rfl (Nat.le_of_ble_eq_true rfl) dL_errors_39 ⟨rfl, rfl⟩ ⟨rfl, rfl⟩ (by omega) (by omega) (fun ov w_126 H locs hQ hP hD hS => ?_)
      obtain ⟨rfl, hw_126⟩ := hQ
      refine W.eq (g2 := F0 m 42 ls [.long v_125]) rfl ?_
      refine lv_ldc2 (v := -9000000000000000002) hx hb hown w_1 dL_errors_42 ?_
      refine W.lcmp hx hb dL_errors_45 ?_
      refine lv_if_ne (tgt := 336) hx hb dL_errors_46 (by decide) (fun c_127 => ?_) (fun c_127 => ?_)
      · have h := it_r c_127 h
        refine lv_iconst (v := 0) hx hb dL_errors_336 (by decide) ?_
        refine lv_istore (lv' := [(4, .int 0), (3, .int v_112), (1, .long v_109), (0, .ref (cA 0))]) hx hb dL_errors_337 hl (by decide) rfl (fun ls hl => ?_)
        refine lv_iconst (v := 0) hx hb dL_errors_339 (by decide) ?_
        refine lv_istore (lv' := [(5, .int 0), (4, .int 0), (3, .int v_112), (1, .long v_109), (0, .ref (cA 0))]) hx hb dL_errors_340 hl (by decide) rfl (fun ls hl => ?_)
        refine W.widen (k := (584 - 20 * 7)) (n := (3711 - 129 * 7)) (by omega) (by omega) ?_
        exact hC_342 7 v_109 v_112 0 0 X_122 w_126 _ _ _ (Nat.le_refl _) hw_126 hP hD hS (lv_sub hl [4, 3, 2, 1, 0] rfl) h
      · have h := it_l c_127 h
        refine lv_aload_n hx hb dL_errors_49 rfl (lv_at hl 2 rfl) ?_
        refine lv_bipush (v := 10) hx hb dL_errors_50 (by decide) ?_
        obtain ⟨v_129, hv_128, h⟩ := bd_l h
        refine Lo_T (As := [.ref (cA 0), .int 10]) (rest := []) (wA := w_126) (wr := []) 1 6 (231) (1386) 997 6270 (co_total l hst D k cA nA tA X_122 w_126 hw_126 10 v_129 hv_128) ⟨hx, hb, hml, hown, hts⟩ (vx_cwSW 2 hts gL_errors_L_total rfl rfl rfl (by decide +kernel) ⟨Nat.le_of_ble_eq_true rfl, Nat.le_of_ble_eq_true rfl⟩) hK hG hC hP hD hS hA (List.Perm.refl _) rfl hl.1 rfl (Nat.le_of_ble_eq_true rfl) dL_errors_52 ⟨rfl, rfl⟩ ⟨rfl, rfl⟩ (by omega) (by omega) (fun ov w_130 H locs hQ hP hD hS => ?_)
        obtain ⟨rfl, hw_130⟩ := hQ
        refine W.eq (g2 := F0 m 55 ls [.long v_129]) rfl ?_
        refine lv_ldc2 (v := -9000000000000000002) hx hb hown w_1 dL_errors_55 ?_
        refine W.lcmp hx hb dL_errors_58 ?_
        refine lv_if_ne (tgt := 336) hx hb dL_errors_59 (by decide) (fun c_131 => ?_) (fun c_131 => ?_)
        · have h := it_r c_131 h
          refine lv_iconst (v := 0) hx hb dL_errors_336 (by decide) ?_
          refine lv_istore (lv' := [(4, .int 0), (3, .int v_112), (1, .long v_109), (0, .ref (cA 0))]) hx hb dL_errors_337 hl (by decide) rfl (fun ls hl => ?_)
          refine lv_iconst (v := 0) hx hb dL_errors_339 (by decide) ?_
          refine lv_istore (lv' := [(5, .int 0), (4, .int 0), (3, .int v_112), (1, .long v_109), (0, .ref (cA 0))]) hx hb dL_errors_340 hl (by decide) rfl (fun ls hl => ?_)
          refine W.widen (k := (584 - 20 * 7)) (n := (3711 - 129 * 7)) (by omega) (by omega) ?_
          exact hC_342 7 v_109 v_112 0 0 X_122 w_130 _ _ _ (Nat.le_refl _) hw_130 hP hD hS (lv_sub hl [4, 3, 2, 1, 0] rfl) h
        · have h := it_l c_131 h
          refine lv_aload_n hx hb dL_errors_62 rfl (lv_at hl 2 rfl) ?_
          refine lv_iload_n hx hb dL_errors_63 rfl (lv_at hl 0 rfl) ?_
          refine lv_bipush (v := 99) hx hb dL_errors_64 (by decide) ?_
          obtain ⟨v_133, hv_132, h⟩ := bd_l h
          refine Lo_T (As := [.ref (cA 0), .int v_112, .int 99]) (rest := []) (wA := w_130) (wr := []) 2 12 (233) (1398) 997 6270 (co_effect l hst D k cA nA tA X_122 w_130 hw_130 v_112 99 v_133 hv_132) ⟨hx, hb, hml, hown, hts⟩ (vx_cwSW 3 hts gL_errors_L_effect rfl rfl rfl (by decide +kernel) ⟨Nat.le_of_ble_eq_true rfl, Nat.le_of_ble_eq_true rfl⟩) hK hG hC hP hD hS hA (List.Perm.refl _) rfl hl.1 rfl (Nat.le_of_ble_eq_true rfl) dL_errors_66 ⟨rfl, rfl⟩ ⟨rfl, rfl⟩ (by omega) (by omega) (fun ov w_134 H locs hQ hP hD hS => ?_)
          obtain ⟨rfl, hw_134⟩ := hQ
          refine W.eq (g2 := F0 m 69 ls [.long v_133]) rfl ?_
          refine lv_ldc2 (v := -9000000000000000001) hx hb hown w_0 dL_errors_69 ?_
          refine W.lcmp hx hb dL_errors_72 ?_
          refine lv_if_ne (tgt := 336) hx hb dL_errors_73 (by decide) (fun c_135 => ?_) (fun c_135 => ?_)
          · have h := it_r c_135 h
            refine lv_iconst (v := 0) hx hb dL_errors_336 (by decide) ?_
            refine lv_istore (lv' := [(4, .int 0), (3, .int v_112), (1, .long v_109), (0, .ref (cA 0))]) hx hb dL_errors_337 hl (by decide) rfl (fun ls hl => ?_)
            refine lv_iconst (v := 0) hx hb dL_errors_339 (by decide) ?_
            refine lv_istore (lv' := [(5, .int 0), (4, .int 0), (3, .int v_112), (1, .long v_109), (0, .ref (cA 0))]) hx hb dL_errors_340 hl (by decide) rfl (fun ls hl => ?_)
            refine W.widen (k := (584 - 20 * 7)) (n := (3711 - 129 * 7)) (by omega) (by omega) ?_
            exact hC_342 7 v_109 v_112 0 0 X_122 w_134 _ _ _ (Nat.le_refl _) hw_134 hP hD hS (lv_sub hl [4, 3, 2, 1, 0] rfl) h
          · have h := it_l c_135 h
            refine lv_aload_n hx hb dL_errors_76 rfl (lv_at hl 2 rfl) ?_
            refine lv_iconst (v := 0) hx hb dL_errors_77 (by decide) ?_
            refine lv_bipush (v := 10) hx hb dL_errors_78 (by decide) ?_
            obtain ⟨v_137, hv_136, h⟩ := bd_l h
            refine Lo_T (As := [.ref (cA 0), .int 0, .int 10]) (rest := []) (wA := w_134) (wr := []) 2 12 (235) (1410) 997 6270 (co_effect l hst D k cA nA tA X_122 w_134 hw_134 0 10 v_137 hv_136) ⟨hx, hb, hml, hown, hts⟩ (vx_cwSW 3 hts gL_errors_L_effect rfl rfl rfl (by decide +kernel) ⟨Nat.le_of_ble_eq_true rfl, Nat.le_of_ble_eq_true rfl⟩) hK hG hC hP hD hS hA (List.Perm.refl _) rfl hl.1 rfl (Nat.le_of_ble_eq_true rfl) dL_errors_80 ⟨rfl, rfl⟩ ⟨rfl, rfl⟩ (by omega) (by omega) (fun ov w_138 H locs hQ hP hD hS => ?_)
            obtain ⟨rfl, hw_138⟩ := hQ
            refine W.eq (g2 := F0 m 83 ls [.long v_137]) rfl ?_
            refine lv_ldc2 (v := -9000000000000000002) hx hb hown w_1 dL_errors_83 ?_
            refine W.lcmp hx hb dL_errors_86 ?_
            refine lv_if_ne (tgt := 336) hx hb dL_errors_87 (by decide) (fun c_139 => ?_) (fun c_139 => ?_)
            · have h := it_r c_139 h
              refine lv_iconst (v := 0) hx hb dL_errors_336 (by decide) ?_
              refine lv_istore (lv' := [(4, .int 0), (3, .int v_112), (1, .long v_109), (0, .ref (cA 0))]) hx hb dL_errors_337 hl (by decide) rfl (fun ls hl => ?_)
              refine lv_iconst (v := 0) hx hb dL_errors_339 (by decide) ?_
              refine lv_istore (lv' := [(5, .int 0), (4, .int 0), (3, .int v_112), (1, .long v_109), (0, .ref (cA 0))]) hx hb dL_errors_340 hl (by decide) rfl (fun ls hl => ?_)
              refine W.widen (k := (584 - 20 * 7)) (n := (3711 - 129 * 7)) (by omega) (by omega) ?_
              exact hC_342 7 v_109 v_112 0 0 X_122 w_138 _ _ _ (Nat.le_refl _) hw_138 hP hD hS (lv_sub hl [4, 3, 2, 1, 0] rfl) h
            · have h := it_l c_139 h
              refine lv_aload_n hx hb dL_errors_90 rfl (lv_at hl 2 rfl) ?_
              refine lv_iload_n hx hb dL_errors_91 rfl (lv_at hl 0 rfl) ?_
              refine lv_iconst (v := 1) hx hb dL_errors_92 (by decide) ?_
              obtain ⟨v_141, hv_140, h⟩ := bd_l h
              refine Lo_T (As := [.ref (cA 0), .int v_112, .int 1]) (rest := []) (wA := w_138) (wr := []) 1 6 (236) (1416) 997 6270 (co_neighbor l hst D k cA nA tA X_122 w_138 hw_138 v_112 1 v_141 hv_140) ⟨hx, hb, hml, hown, hts⟩ (vx_cwSW 3 hts gL_errors_L_neighbor rfl rfl rfl (by decide +kernel) ⟨Nat.le_of_ble_eq_true rfl, Nat.le_of_ble_eq_true rfl⟩) hK hG hC hP hD hS hA (List.Perm.refl _) rfl hl.1 rfl (Nat.le_of_ble_eq_true rfl) dL_errors_93 ⟨rfl, rfl⟩ ⟨rfl, rfl⟩ (by omega) (by omega) (fun ov w_142 H locs hQ hP hD hS => ?_)
              obtain ⟨rfl, hw_142⟩ := hQ
              refine W.eq (g2 := F0 m 96 ls [.long v_141]) rfl ?_
              refine lv_ldc2 (v := -9000000000000000001) hx hb hown w_0 dL_errors_96 ?_
              refine W.lcmp hx hb dL_errors_99 ?_
              refine lv_if_ne (tgt := 336) hx hb dL_errors_100 (by decide) (fun c_143 => ?_) (fun c_143 => ?_)
              · have h := it_r c_143 h
                refine lv_iconst (v := 0) hx hb dL_errors_336 (by decide) ?_
                refine lv_istore (lv' := [(4, .int 0), (3, .int v_112), (1, .long v_109), (0, .ref (cA 0))]) hx hb dL_errors_337 hl (by decide) rfl (fun ls hl => ?_)
                refine lv_iconst (v := 0) hx hb dL_errors_339 (by decide) ?_
                refine lv_istore (lv' := [(5, .int 0), (4, .int 0), (3, .int v_112), (1, .long v_109), (0, .ref (cA 0))]) hx hb dL_errors_340 hl (by decide) rfl (fun ls hl => ?_)
                refine W.widen (k := (584 - 20 * 7)) (n := (3711 - 129 * 7)) (by omega) (by omega) ?_
                exact hC_342 7 v_109 v_112 0 0 X_122 w_142 _ _ _ (Nat.le_refl _) hw_142 hP hD hS (lv_sub hl [4, 3, 2, 1, 0] rfl) h
              · have h := it_l c_143 h
                refine lv_aload_n hx hb dL_errors_103 rfl (lv_at hl 2 rfl) ?_
                refine lv_iconst (v := (-1)) hx hb dL_errors_104 (by decide) ?_
                obtain ⟨v_145, hv_144, h⟩ := bd_l h
                refine Lo_T (As := [.ref (cA 0), .int (-1)]) (rest := []) (wA := w_142) (wr := []) 1 6 (237) (1422) 997 6270 (co_share l hst D k cA nA tA X_122 w_142 hw_142 (-1) v_145 hv_144) ⟨hx, hb, hml, hown, hts⟩ (vx_cwSW 2 hts gL_errors_L_share rfl rfl rfl (by decide +kernel) ⟨Nat.le_of_ble_eq_true rfl, Nat.le_of_ble_eq_true rfl⟩) hK hG hC hP hD hS hA (List.Perm.refl _) rfl hl.1 rfl (Nat.le_of_ble_eq_true rfl) dL_errors_105 ⟨rfl, rfl⟩ ⟨rfl, rfl⟩ (by omega) (by omega) (fun ov w_146 H locs hQ hP hD hS => ?_)
                obtain ⟨rfl, hw_146⟩ := hQ
                refine W.eq (g2 := F0 m 108 ls [.float v_145]) rfl ?_
                refine lv_ldcf (v := 3239051264) hx hb hown w_5 dL_errors_108 ?_
                refine lv_fcmp hx hb dL_errors_110 ?_
                refine lv_if_ne (tgt := 336) hx hb dL_errors_111 (by decide) (fun c_147 => ?_) (fun c_147 => ?_)
                · have h := it_r c_147 h
                  refine lv_iconst (v := 0) hx hb dL_errors_336 (by decide) ?_
                  refine lv_istore (lv' := [(4, .int 0), (3, .int v_112), (1, .long v_109), (0, .ref (cA 0))]) hx hb dL_errors_337 hl (by decide) rfl (fun ls hl => ?_)
                  refine lv_iconst (v := 0) hx hb dL_errors_339 (by decide) ?_
                  refine lv_istore (lv' := [(5, .int 0), (4, .int 0), (3, .int v_112), (1, .long v_109), (0, .ref (cA 0))]) hx hb dL_errors_340 hl (by decide) rfl (fun ls hl => ?_)
                  refine W.widen (k := (584 - 20 * 7)) (n := (3711 - 129 * 7)) (by omega) (by omega) ?_
                  exact hC_342 7 v_109 v_112 0 0 X_122 w_146 _ _ _ (Nat.le_refl _) hw_146 hP hD hS (lv_sub hl [4, 3, 2, 1, 0] rfl) h
                · have h := it_l c_147 h
                  refine lv_aload_n hx hb dL_errors_114 rfl (lv_at hl 2 rfl) ?_
                  refine lv_iconst (v := 0) hx hb dL_errors_115 (by decide) ?_
                  obtain ⟨⟨v_149, X_151⟩, hv_148, h⟩ := bd_l h
                  refine Lo_T (As := [.ref (cA 0), .int 0]) (rest := []) (wA := w_146) (wr := []) 12 81 (249) (1503) 997 6270 (co_tick l hst D k cA nA tA X_122 w_146 hw_146 0 (v_149, X_151) hv_148) ⟨hx, hb, hml, hown, hts⟩ (vx_cwSW 2 hts gL_errors_L_tick rfl rfl rfl (by decide +kernel) ⟨Nat.le_of_ble_eq_true rfl, Nat.le_of_ble_eq_true rfl⟩) hK hG hC hP hD hS hA (List.Perm.refl _) rfl hl.1 rfl (Nat.le_of_ble_eq_true rfl) dL_errors_116 ⟨rfl, rfl⟩ ⟨rfl, rfl⟩ (by omega) (by omega) (fun ov w_150 H locs hQ hP hD hS => ?_)
                  obtain ⟨rfl, hw_150⟩ := hQ
                  refine W.eq (g2 := F0 m 119 ls [.long v_149]) rfl ?_
                  refine lv_ldc2 (v := -9000000000000000002) hx hb hown w_1 dL_errors_119 ?_
                  refine W.lcmp hx hb dL_errors_122 ?_
                  refine lv_if_ne (tgt := 336) hx hb dL_errors_123 (by decide) (fun c_152 => ?_) (fun c_152 => ?_)
                  · have h := it_r c_152 h
                    refine lv_iconst (v := 0) hx hb dL_errors_336 (by decide) ?_
                    refine lv_istore (lv' := [(4, .int 0), (3, .int v_112), (1, .long v_109), (0, .ref (cA 0))]) hx hb dL_errors_337 hl (by decide) rfl (fun ls hl => ?_)
                    refine lv_iconst (v := 0) hx hb dL_errors_339 (by decide) ?_
                    refine lv_istore (lv' := [(5, .int 0), (4, .int 0), (3, .int v_112), (1, .long v_109), (0, .ref (cA 0))]) hx hb dL_errors_340 hl (by decide) rfl (fun ls hl => ?_)
                    refine W.widen (k := (584 - 20 * 7)) (n := (3711 - 129 * 7)) (by omega) (by omega) ?_
                    exact hC_342 7 v_109 v_112 0 0 X_151 w_150 _ _ _ (Nat.le_refl _) hw_150 hP hD hS (lv_sub hl [4, 3, 2, 1, 0] rfl) h
                  · have h := it_l c_152 h
                    refine lv_aload_n hx hb dL_errors_126 rfl (lv_at hl 2 rfl) ?_
                    refine lv_bipush (v := 100) hx hb dL_errors_127 (by decide) ?_
                    obtain ⟨⟨v_154, X_156⟩, hv_153, h⟩ := bd_l h
                    refine Lo_T (As := [.ref (cA 0), .int 100]) (rest := []) (wA := w_150) (wr := []) 12 81 (261) (1584) 997 6270 (co_tick l hst D k cA nA tA X_151 w_150 hw_150 100 (v_154, X_156) hv_153) ⟨hx, hb, hml, hown, hts⟩ (vx_cwSW 2 hts gL_errors_L_tick rfl rfl rfl (by decide +kernel) ⟨Nat.le_of_ble_eq_true rfl, Nat.le_of_ble_eq_true rfl⟩) hK hG hC hP hD hS hA (List.Perm.refl _) rfl hl.1 rfl (Nat.le_of_ble_eq_true rfl) dL_errors_129 ⟨rfl, rfl⟩ ⟨rfl, rfl⟩ (by omega) (by omega) (fun ov w_155 H locs hQ hP hD hS => ?_)
                    obtain ⟨rfl, hw_155⟩ := hQ
                    refine W.eq (g2 := F0 m 132 ls [.long v_154]) rfl ?_
                    refine lv_ldc2 (v := -9000000000000000002) hx hb hown w_1 dL_errors_132 ?_
                    refine W.lcmp hx hb dL_errors_135 ?_
                    refine lv_if_ne (tgt := 336) hx hb dL_errors_136 (by decide) (fun c_157 => ?_) (fun c_157 => ?_)
                    · have h := it_r c_157 h
                      refine lv_iconst (v := 0) hx hb dL_errors_336 (by decide) ?_
                      refine lv_istore (lv' := [(4, .int 0), (3, .int v_112), (1, .long v_109), (0, .ref (cA 0))]) hx hb dL_errors_337 hl (by decide) rfl (fun ls hl => ?_)
                      refine lv_iconst (v := 0) hx hb dL_errors_339 (by decide) ?_
                      refine lv_istore (lv' := [(5, .int 0), (4, .int 0), (3, .int v_112), (1, .long v_109), (0, .ref (cA 0))]) hx hb dL_errors_340 hl (by decide) rfl (fun ls hl => ?_)
                      refine W.widen (k := (584 - 20 * 7)) (n := (3711 - 129 * 7)) (by omega) (by omega) ?_
                      exact hC_342 7 v_109 v_112 0 0 X_156 w_155 _ _ _ (Nat.le_refl _) hw_155 hP hD hS (lv_sub hl [4, 3, 2, 1, 0] rfl) h
                    · have h := it_l c_157 h
                      refine lv_aload_n hx hb dL_errors_139 rfl (lv_at hl 2 rfl) ?_
                      refine lv_iconst (v := 5) hx hb dL_errors_140 (by decide) ?_
                      refine lv_iconst (v := 1) hx hb dL_errors_141 (by decide) ?_
                      obtain ⟨⟨v_159, X_161⟩, hv_158, h⟩ := bd_l h
                      refine Lo_T (As := [.ref (cA 0), .int 5, .int 1]) (rest := []) (wA := w_155) (wr := []) 13 87 (274) (1671) 997 6270 (co_set l hst D k cA nA tA X_156 w_155 hw_155 5 1 (v_159, X_161) hv_158) ⟨hx, hb, hml, hown, hts⟩ (vx_cwSW 3 hts gL_errors_L_set rfl rfl rfl (by decide +kernel) ⟨Nat.le_of_ble_eq_true rfl, Nat.le_of_ble_eq_true rfl⟩) hK hG hC hP hD hS hA (List.Perm.refl _) rfl hl.1 rfl (Nat.le_of_ble_eq_true rfl) dL_errors_142 ⟨rfl, rfl⟩ ⟨rfl, rfl⟩ (by omega) (by omega) (fun ov w_160 H locs hQ hP hD hS => ?_)
                      obtain ⟨rfl, hw_160⟩ := hQ
                      refine W.eq (g2 := F0 m 145 ls [.long v_159]) rfl ?_
                      refine lv_ldc2 (v := -9000000000000000002) hx hb hown w_1 dL_errors_145 ?_
                      refine W.lcmp hx hb dL_errors_148 ?_
                      refine lv_if_ne (tgt := 336) hx hb dL_errors_149 (by decide) (fun c_162 => ?_) (fun c_162 => ?_)
                      · have h := it_r c_162 h
                        refine lv_iconst (v := 0) hx hb dL_errors_336 (by decide) ?_
                        refine lv_istore (lv' := [(4, .int 0), (3, .int v_112), (1, .long v_109), (0, .ref (cA 0))]) hx hb dL_errors_337 hl (by decide) rfl (fun ls hl => ?_)
                        refine lv_iconst (v := 0) hx hb dL_errors_339 (by decide) ?_
                        refine lv_istore (lv' := [(5, .int 0), (4, .int 0), (3, .int v_112), (1, .long v_109), (0, .ref (cA 0))]) hx hb dL_errors_340 hl (by decide) rfl (fun ls hl => ?_)
                        refine W.widen (k := (584 - 20 * 7)) (n := (3711 - 129 * 7)) (by omega) (by omega) ?_
                        exact hC_342 7 v_109 v_112 0 0 X_161 w_160 _ _ _ (Nat.le_refl _) hw_160 hP hD hS (lv_sub hl [4, 3, 2, 1, 0] rfl) h
                      · have h := it_l c_162 h
                        refine lv_aload_n hx hb dL_errors_152 rfl (lv_at hl 2 rfl) ?_
                        refine lv_iconst (v := 0) hx hb dL_errors_153 (by decide) ?_
                        refine lv_sipush (v := 1000) hx hb dL_errors_154 (by decide) ?_
                        obtain ⟨⟨v_164, X_166⟩, hv_163, h⟩ := bd_l h
                        refine Lo_T (As := [.ref (cA 0), .int 0, .int 1000]) (rest := []) (wA := w_160) (wr := []) 13 87 (287) (1758) 997 6270 (co_set l hst D k cA nA tA X_161 w_160 hw_160 0 1000 (v_164, X_166) hv_163) ⟨hx, hb, hml, hown, hts⟩ (vx_cwSW 3 hts gL_errors_L_set rfl rfl rfl (by decide +kernel) ⟨Nat.le_of_ble_eq_true rfl, Nat.le_of_ble_eq_true rfl⟩) hK hG hC hP hD hS hA (List.Perm.refl _) rfl hl.1 rfl (Nat.le_of_ble_eq_true rfl) dL_errors_157 ⟨rfl, rfl⟩ ⟨rfl, rfl⟩ (by omega) (by omega) (fun ov w_165 H locs hQ hP hD hS => ?_)
                        obtain ⟨rfl, hw_165⟩ := hQ
                        refine W.eq (g2 := F0 m 160 ls [.long v_164]) rfl ?_
                        refine lv_ldc2 (v := -9000000000000000002) hx hb hown w_1 dL_errors_160 ?_
                        refine W.lcmp hx hb dL_errors_163 ?_
                        refine lv_if_ne (tgt := 336) hx hb dL_errors_164 (by decide) (fun c_167 => ?_) (fun c_167 => ?_)
                        · have h := it_r c_167 h
                          refine lv_iconst (v := 0) hx hb dL_errors_336 (by decide) ?_
                          refine lv_istore (lv' := [(4, .int 0), (3, .int v_112), (1, .long v_109), (0, .ref (cA 0))]) hx hb dL_errors_337 hl (by decide) rfl (fun ls hl => ?_)
                          refine lv_iconst (v := 0) hx hb dL_errors_339 (by decide) ?_
                          refine lv_istore (lv' := [(5, .int 0), (4, .int 0), (3, .int v_112), (1, .long v_109), (0, .ref (cA 0))]) hx hb dL_errors_340 hl (by decide) rfl (fun ls hl => ?_)
                          refine W.widen (k := (584 - 20 * 7)) (n := (3711 - 129 * 7)) (by omega) (by omega) ?_
                          exact hC_342 7 v_109 v_112 0 0 X_166 w_165 _ _ _ (Nat.le_refl _) hw_165 hP hD hS (lv_sub hl [4, 3, 2, 1, 0] rfl) h
                        · have h := it_l c_167 h
                          refine lv_aload_n hx hb dL_errors_167 rfl (lv_at hl 2 rfl) ?_
                          refine lv_iconst (v := 1) hx hb dL_errors_168 (by decide) ?_
                          refine lv_iconst (v := (-1)) hx hb dL_errors_169 (by decide) ?_
                          obtain ⟨⟨v_169, X_171⟩, hv_168, h⟩ := bd_l h
                          refine Lo_T (As := [.ref (cA 0), .int 1, .int (-1)]) (rest := []) (wA := w_165) (wr := []) 13 87 (300) (1845) 997 6270 (co_set l hst D k cA nA tA X_166 w_165 hw_165 1 (-1) (v_169, X_171) hv_168) ⟨hx, hb, hml, hown, hts⟩ (vx_cwSW 3 hts gL_errors_L_set rfl rfl rfl (by decide +kernel) ⟨Nat.le_of_ble_eq_true rfl, Nat.le_of_ble_eq_true rfl⟩) hK hG hC hP hD hS hA (List.Perm.refl _) rfl hl.1 rfl (Nat.le_of_ble_eq_true rfl) dL_errors_170 ⟨rfl, rfl⟩ ⟨rfl, rfl⟩ (by omega) (by omega) (fun ov w_170 H locs hQ hP hD hS => ?_)
                          obtain ⟨rfl, hw_170⟩ := hQ
                          refine W.eq (g2 := F0 m 173 ls [.long v_169]) rfl ?_
                          refine lv_ldc2 (v := -9000000000000000002) hx hb hown w_1 dL_errors_173 ?_
                          refine W.lcmp hx hb dL_errors_176 ?_
                          refine lv_if_ne (tgt := 336) hx hb dL_errors_177 (by decide) (fun c_172 => ?_) (fun c_172 => ?_)
                          · have h := it_r c_172 h
                            refine lv_iconst (v := 0) hx hb dL_errors_336 (by decide) ?_
                            refine lv_istore (lv' := [(4, .int 0), (3, .int v_112), (1, .long v_109), (0, .ref (cA 0))]) hx hb dL_errors_337 hl (by decide) rfl (fun ls hl => ?_)
                            refine lv_iconst (v := 0) hx hb dL_errors_339 (by decide) ?_
                            refine lv_istore (lv' := [(5, .int 0), (4, .int 0), (3, .int v_112), (1, .long v_109), (0, .ref (cA 0))]) hx hb dL_errors_340 hl (by decide) rfl (fun ls hl => ?_)
                            refine W.widen (k := (584 - 20 * 7)) (n := (3711 - 129 * 7)) (by omega) (by omega) ?_
                            exact hC_342 7 v_109 v_112 0 0 X_171 w_170 _ _ _ (Nat.le_refl _) hw_170 hP hD hS (lv_sub hl [4, 3, 2, 1, 0] rfl) h
                          · have h := it_l c_172 h
                            refine lv_aload_n hx hb dL_errors_180 rfl (lv_at hl 2 rfl) ?_
                            refine lv_iconst (v := 2) hx hb dL_errors_181 (by decide) ?_
                            refine lv_bipush (v := 100) hx hb dL_errors_182 (by decide) ?_
                            obtain ⟨⟨v_174, X_176⟩, hv_173, h⟩ := bd_l h
                            refine Lo_T (As := [.ref (cA 0), .int 2, .int 100]) (rest := []) (wA := w_170) (wr := []) 13 87 (313) (1932) 997 6270 (co_set l hst D k cA nA tA X_171 w_170 hw_170 2 100 (v_174, X_176) hv_173) ⟨hx, hb, hml, hown, hts⟩ (vx_cwSW 3 hts gL_errors_L_set rfl rfl rfl (by decide +kernel) ⟨Nat.le_of_ble_eq_true rfl, Nat.le_of_ble_eq_true rfl⟩) hK hG hC hP hD hS hA (List.Perm.refl _) rfl hl.1 rfl (Nat.le_of_ble_eq_true rfl) dL_errors_184 ⟨rfl, rfl⟩ ⟨rfl, rfl⟩ (by omega) (by omega) (fun ov w_175 H locs hQ hP hD hS => ?_)
                            obtain ⟨rfl, hw_175⟩ := hQ
                            refine W.eq (g2 := F0 m 187 ls [.long v_174]) rfl ?_
                            refine lv_ldc2 (v := -9000000000000000002) hx hb hown w_1 dL_errors_187 ?_
                            refine W.lcmp hx hb dL_errors_190 ?_
                            refine lv_if_ne (tgt := 336) hx hb dL_errors_191 (by decide) (fun c_177 => ?_) (fun c_177 => ?_)
                            · have h := it_r c_177 h
                              refine lv_iconst (v := 0) hx hb dL_errors_336 (by decide) ?_
                              refine lv_istore (lv' := [(4, .int 0), (3, .int v_112), (1, .long v_109), (0, .ref (cA 0))]) hx hb dL_errors_337 hl (by decide) rfl (fun ls hl => ?_)
                              refine lv_iconst (v := 0) hx hb dL_errors_339 (by decide) ?_
                              refine lv_istore (lv' := [(5, .int 0), (4, .int 0), (3, .int v_112), (1, .long v_109), (0, .ref (cA 0))]) hx hb dL_errors_340 hl (by decide) rfl (fun ls hl => ?_)
                              refine W.widen (k := (584 - 20 * 7)) (n := (3711 - 129 * 7)) (by omega) (by omega) ?_
                              exact hC_342 7 v_109 v_112 0 0 X_176 w_175 _ _ _ (Nat.le_refl _) hw_175 hP hD hS (lv_sub hl [4, 3, 2, 1, 0] rfl) h
                            · have h := it_l c_177 h
                              refine lv_aload_n hx hb dL_errors_194 rfl (lv_at hl 2 rfl) ?_
                              refine lv_iconst (v := 3) hx hb dL_errors_195 (by decide) ?_
                              refine lv_bipush (v := 100) hx hb dL_errors_196 (by decide) ?_
                              obtain ⟨⟨v_179, X_181⟩, hv_178, h⟩ := bd_l h
                              refine Lo_T (As := [.ref (cA 0), .int 3, .int 100]) (rest := []) (wA := w_175) (wr := []) 13 87 (326) (2019) 997 6270 (co_set l hst D k cA nA tA X_176 w_175 hw_175 3 100 (v_179, X_181) hv_178) ⟨hx, hb, hml, hown, hts⟩ (vx_cwSW 3 hts gL_errors_L_set rfl rfl rfl (by decide +kernel) ⟨Nat.le_of_ble_eq_true rfl, Nat.le_of_ble_eq_true rfl⟩) hK hG hC hP hD hS hA (List.Perm.refl _) rfl hl.1 rfl (Nat.le_of_ble_eq_true rfl) dL_errors_198 ⟨rfl, rfl⟩ ⟨rfl, rfl⟩ (by omega) (by omega) (fun ov w_180 H locs hQ hP hD hS => ?_)
                              obtain ⟨rfl, hw_180⟩ := hQ
                              refine W.eq (g2 := F0 m 201 ls [.long v_179]) rfl ?_
                              refine lv_ldc2 (v := -9000000000000000002) hx hb hown w_1 dL_errors_201 ?_
                              refine W.lcmp hx hb dL_errors_204 ?_
                              refine lv_if_ne (tgt := 336) hx hb dL_errors_205 (by decide) (fun c_182 => ?_) (fun c_182 => ?_)
                              · have h := it_r c_182 h
                                refine lv_iconst (v := 0) hx hb dL_errors_336 (by decide) ?_
                                refine lv_istore (lv' := [(4, .int 0), (3, .int v_112), (1, .long v_109), (0, .ref (cA 0))]) hx hb dL_errors_337 hl (by decide) rfl (fun ls hl => ?_)
                                refine lv_iconst (v := 0) hx hb dL_errors_339 (by decide) ?_
                                refine lv_istore (lv' := [(5, .int 0), (4, .int 0), (3, .int v_112), (1, .long v_109), (0, .ref (cA 0))]) hx hb dL_errors_340 hl (by decide) rfl (fun ls hl => ?_)
                                refine W.widen (k := (584 - 20 * 7)) (n := (3711 - 129 * 7)) (by omega) (by omega) ?_
                                exact hC_342 7 v_109 v_112 0 0 X_181 w_180 _ _ _ (Nat.le_refl _) hw_180 hP hD hS (lv_sub hl [4, 3, 2, 1, 0] rfl) h
                              · have h := it_l c_182 h
                                refine lv_aload_n hx hb dL_errors_208 rfl (lv_at hl 2 rfl) ?_
                                refine lv_iconst (v := 4) hx hb dL_errors_209 (by decide) ?_
                                refine lv_iconst (v := 0) hx hb dL_errors_210 (by decide) ?_
                                obtain ⟨⟨v_184, X_186⟩, hv_183, h⟩ := bd_l h
                                refine Lo_T (As := [.ref (cA 0), .int 4, .int 0]) (rest := []) (wA := w_180) (wr := []) 13 87 (339) (2106) 997 6270 (co_set l hst D k cA nA tA X_181 w_180 hw_180 4 0 (v_184, X_186) hv_183) ⟨hx, hb, hml, hown, hts⟩ (vx_cwSW 3 hts gL_errors_L_set rfl rfl rfl (by decide +kernel) ⟨Nat.le_of_ble_eq_true rfl, Nat.le_of_ble_eq_true rfl⟩) hK hG hC hP hD hS hA (List.Perm.refl _) rfl hl.1 rfl (Nat.le_of_ble_eq_true rfl) dL_errors_211 ⟨rfl, rfl⟩ ⟨rfl, rfl⟩ (by omega) (by omega) (fun ov w_185 H locs hQ hP hD hS => ?_)
                                obtain ⟨rfl, hw_185⟩ := hQ
                                refine W.eq (g2 := F0 m 214 ls [.long v_184]) rfl ?_
                                refine lv_ldc2 (v := -9000000000000000002) hx hb hown w_1 dL_errors_214 ?_
                                refine W.lcmp hx hb dL_errors_217 ?_
                                refine lv_if_ne (tgt := 336) hx hb dL_errors_218 (by decide) (fun c_187 => ?_) (fun c_187 => ?_)
                                · have h := it_r c_187 h
                                  refine lv_iconst (v := 0) hx hb dL_errors_336 (by decide) ?_
                                  refine lv_istore (lv' := [(4, .int 0), (3, .int v_112), (1, .long v_109), (0, .ref (cA 0))]) hx hb dL_errors_337 hl (by decide) rfl (fun ls hl => ?_)
                                  refine lv_iconst (v := 0) hx hb dL_errors_339 (by decide) ?_
                                  refine lv_istore (lv' := [(5, .int 0), (4, .int 0), (3, .int v_112), (1, .long v_109), (0, .ref (cA 0))]) hx hb dL_errors_340 hl (by decide) rfl (fun ls hl => ?_)
                                  refine W.widen (k := (584 - 20 * 7)) (n := (3711 - 129 * 7)) (by omega) (by omega) ?_
                                  exact hC_342 7 v_109 v_112 0 0 X_186 w_185 _ _ _ (Nat.le_refl _) hw_185 hP hD hS (lv_sub hl [4, 3, 2, 1, 0] rfl) h
                                · have h := it_l c_187 h
                                  refine lv_aload_n hx hb dL_errors_221 rfl (lv_at hl 2 rfl) ?_
                                  refine lv_iconst (v := 4) hx hb dL_errors_222 (by decide) ?_
                                  refine lv_bipush (v := 21) hx hb dL_errors_223 (by decide) ?_
                                  obtain ⟨⟨v_189, X_191⟩, hv_188, h⟩ := bd_l h
                                  refine Lo_T (As := [.ref (cA 0), .int 4, .int 21]) (rest := []) (wA := w_185) (wr := []) 13 87 (352) (2193) 997 6270 (co_set l hst D k cA nA tA X_186 w_185 hw_185 4 21 (v_189, X_191) hv_188) ⟨hx, hb, hml, hown, hts⟩ (vx_cwSW 3 hts gL_errors_L_set rfl rfl rfl (by decide +kernel) ⟨Nat.le_of_ble_eq_true rfl, Nat.le_of_ble_eq_true rfl⟩) hK hG hC hP hD hS hA (List.Perm.refl _) rfl hl.1 rfl (Nat.le_of_ble_eq_true rfl) dL_errors_225 ⟨rfl, rfl⟩ ⟨rfl, rfl⟩ (by omega) (by omega) (fun ov w_190 H locs hQ hP hD hS => ?_)
                                  obtain ⟨rfl, hw_190⟩ := hQ
                                  refine W.eq (g2 := F0 m 228 ls [.long v_189]) rfl ?_
                                  refine lv_ldc2 (v := -9000000000000000002) hx hb hown w_1 dL_errors_228 ?_
                                  refine W.lcmp hx hb dL_errors_231 ?_
                                  refine lv_if_ne (tgt := 336) hx hb dL_errors_232 (by decide) (fun c_192 => ?_) (fun c_192 => ?_)
                                  · have h := it_r c_192 h
                                    refine lv_iconst (v := 0) hx hb dL_errors_336 (by decide) ?_
                                    refine lv_istore (lv' := [(4, .int 0), (3, .int v_112), (1, .long v_109), (0, .ref (cA 0))]) hx hb dL_errors_337 hl (by decide) rfl (fun ls hl => ?_)
                                    refine lv_iconst (v := 0) hx hb dL_errors_339 (by decide) ?_
                                    refine lv_istore (lv' := [(5, .int 0), (4, .int 0), (3, .int v_112), (1, .long v_109), (0, .ref (cA 0))]) hx hb dL_errors_340 hl (by decide) rfl (fun ls hl => ?_)
                                    refine W.widen (k := (584 - 20 * 7)) (n := (3711 - 129 * 7)) (by omega) (by omega) ?_
                                    exact hC_342 7 v_109 v_112 0 0 X_191 w_190 _ _ _ (Nat.le_refl _) hw_190 hP hD hS (lv_sub hl [4, 3, 2, 1, 0] rfl) h
                                  · have h := it_l c_192 h
                                    refine lv_aload_n hx hb dL_errors_235 rfl (lv_at hl 2 rfl) ?_
                                    refine lv_iload_n hx hb dL_errors_236 rfl (lv_at hl 0 rfl) ?_
                                    refine lv_sipush (v := 1000) hx hb dL_errors_237 (by decide) ?_
                                    obtain ⟨⟨v_194, X_196⟩, hv_193, h⟩ := bd_l h
                                    refine Lo_T (As := [.ref (cA 0), .int v_112, .int 1000]) (rest := []) (wA := w_190) (wr := []) 13 87 (365) (2280) 997 6270 (co_setValve l hst D k cA nA tA X_191 w_190 hw_190 v_112 1000 (v_194, X_196) hv_193) ⟨hx, hb, hml, hown, hts⟩ (vx_cwSW 3 hts gL_errors_L_setValve rfl rfl rfl (by decide +kernel) ⟨Nat.le_of_ble_eq_true rfl, Nat.le_of_ble_eq_true rfl⟩) hK hG hC hP hD hS hA (List.Perm.refl _) rfl hl.1 rfl (Nat.le_of_ble_eq_true rfl) dL_errors_240 ⟨rfl, rfl⟩ ⟨rfl, rfl⟩ (by omega) (by omega) (fun ov w_195 H locs hQ hP hD hS => ?_)
                                    obtain ⟨rfl, hw_195⟩ := hQ
                                    refine W.eq (g2 := F0 m 243 ls [.long v_194]) rfl ?_
                                    refine lv_ldc2 (v := -9000000000000000001) hx hb hown w_0 dL_errors_243 ?_
                                    refine W.lcmp hx hb dL_errors_246 ?_
                                    refine lv_if_ne (tgt := 336) hx hb dL_errors_247 (by decide) (fun c_197 => ?_) (fun c_197 => ?_)
                                    · have h := it_r c_197 h
                                      refine lv_iconst (v := 0) hx hb dL_errors_336 (by decide) ?_
                                      refine lv_istore (lv' := [(4, .int 0), (3, .int v_112), (1, .long v_109), (0, .ref (cA 0))]) hx hb dL_errors_337 hl (by decide) rfl (fun ls hl => ?_)
                                      refine lv_iconst (v := 0) hx hb dL_errors_339 (by decide) ?_
                                      refine lv_istore (lv' := [(5, .int 0), (4, .int 0), (3, .int v_112), (1, .long v_109), (0, .ref (cA 0))]) hx hb dL_errors_340 hl (by decide) rfl (fun ls hl => ?_)
                                      refine W.widen (k := (584 - 20 * 7)) (n := (3711 - 129 * 7)) (by omega) (by omega) ?_
                                      exact hC_342 7 v_109 v_112 0 0 X_196 w_195 _ _ _ (Nat.le_refl _) hw_195 hP hD hS (lv_sub hl [4, 3, 2, 1, 0] rfl) h
                                    · have h := it_l c_197 h
                                      refine lv_aload_n hx hb dL_errors_250 rfl (lv_at hl 2 rfl) ?_
                                      refine lv_iconst (v := 0) hx hb dL_errors_251 (by decide) ?_
                                      refine lv_sipush (v := 1000) hx hb dL_errors_252 (by decide) ?_
                                      obtain ⟨⟨v_199, X_201⟩, hv_198, h⟩ := bd_l h
                                      refine Lo_T (As := [.ref (cA 0), .int 0, .int 1000]) (rest := []) (wA := w_195) (wr := []) 13 87 (378) (2367) 997 6270 (co_setValve l hst D k cA nA tA X_196 w_195 hw_195 0 1000 (v_199, X_201) hv_198) ⟨hx, hb, hml, hown, hts⟩ (vx_cwSW 3 hts gL_errors_L_setValve rfl rfl rfl (by decide +kernel) ⟨Nat.le_of_ble_eq_true rfl, Nat.le_of_ble_eq_true rfl⟩) hK hG hC hP hD hS hA (List.Perm.refl _) rfl hl.1 rfl (Nat.le_of_ble_eq_true rfl) dL_errors_255 ⟨rfl, rfl⟩ ⟨rfl, rfl⟩ (by omega) (by omega) (fun ov w_200 H locs hQ hP hD hS => ?_)
                                      obtain ⟨rfl, hw_200⟩ := hQ
                                      refine W.eq (g2 := F0 m 258 ls [.long v_199]) rfl ?_
                                      refine lv_ldc2 (v := -9000000000000000002) hx hb hown w_1 dL_errors_258 ?_
                                      refine W.lcmp hx hb dL_errors_261 ?_
                                      refine lv_if_ne (tgt := 336) hx hb dL_errors_262 (by decide) (fun c_202 => ?_) (fun c_202 => ?_)
                                      · have h := it_r c_202 h
                                        refine lv_iconst (v := 0) hx hb dL_errors_336 (by decide) ?_
                                        refine lv_istore (lv' := [(4, .int 0), (3, .int v_112), (1, .long v_109), (0, .ref (cA 0))]) hx hb dL_errors_337 hl (by decide) rfl (fun ls hl => ?_)
                                        refine lv_iconst (v := 0) hx hb dL_errors_339 (by decide) ?_
                                        refine lv_istore (lv' := [(5, .int 0), (4, .int 0), (3, .int v_112), (1, .long v_109), (0, .ref (cA 0))]) hx hb dL_errors_340 hl (by decide) rfl (fun ls hl => ?_)
                                        refine W.widen (k := (584 - 20 * 7)) (n := (3711 - 129 * 7)) (by omega) (by omega) ?_
                                        exact hC_342 7 v_109 v_112 0 0 X_201 w_200 _ _ _ (Nat.le_refl _) hw_200 hP hD hS (lv_sub hl [4, 3, 2, 1, 0] rfl) h
                                      · have h := it_l c_202 h
                                        refine lv_aload_n hx hb dL_errors_265 rfl (lv_at hl 2 rfl) ?_
                                        refine lv_iconst (v := (-1)) hx hb dL_errors_266 (by decide) ?_
                                        refine lv_bipush (v := 91) hx hb dL_errors_267 (by decide) ?_
                                        obtain ⟨⟨v_204, X_206⟩, hv_203, h⟩ := bd_l h
                                        refine Lo_T (As := [.ref (cA 0), .int (-1), .int 91]) (rest := []) (wA := w_200) (wr := []) 13 87 (391) (2454) 997 6270 (co_setBleed l hst D k cA nA tA X_201 w_200 hw_200 (-1) 91 (v_204, X_206) hv_203) ⟨hx, hb, hml, hown, hts⟩ (vx_cwSW 3 hts gL_errors_L_setBleed rfl rfl rfl (by decide +kernel) ⟨Nat.le_of_ble_eq_true rfl, Nat.le_of_ble_eq_true rfl⟩) hK hG hC hP hD hS hA (List.Perm.refl _) rfl hl.1 rfl (Nat.le_of_ble_eq_true rfl) dL_errors_269 ⟨rfl, rfl⟩ ⟨rfl, rfl⟩ (by omega) (by omega) (fun ov w_205 H locs hQ hP hD hS => ?_)
                                        obtain ⟨rfl, hw_205⟩ := hQ
                                        refine W.eq (g2 := F0 m 272 ls [.long v_204]) rfl ?_
                                        refine lv_ldc2 (v := -9000000000000000001) hx hb hown w_0 dL_errors_272 ?_
                                        refine W.lcmp hx hb dL_errors_275 ?_
                                        refine lv_if_ne (tgt := 336) hx hb dL_errors_276 (by decide) (fun c_207 => ?_) (fun c_207 => ?_)
                                        · have h := it_r c_207 h
                                          refine lv_iconst (v := 0) hx hb dL_errors_336 (by decide) ?_
                                          refine lv_istore (lv' := [(4, .int 0), (3, .int v_112), (1, .long v_109), (0, .ref (cA 0))]) hx hb dL_errors_337 hl (by decide) rfl (fun ls hl => ?_)
                                          refine lv_iconst (v := 0) hx hb dL_errors_339 (by decide) ?_
                                          refine lv_istore (lv' := [(5, .int 0), (4, .int 0), (3, .int v_112), (1, .long v_109), (0, .ref (cA 0))]) hx hb dL_errors_340 hl (by decide) rfl (fun ls hl => ?_)
                                          refine W.widen (k := (584 - 20 * 7)) (n := (3711 - 129 * 7)) (by omega) (by omega) ?_
                                          exact hC_342 7 v_109 v_112 0 0 X_206 w_205 _ _ _ (Nat.le_refl _) hw_205 hP hD hS (lv_sub hl [4, 3, 2, 1, 0] rfl) h
                                        · have h := it_l c_207 h
                                          refine lv_aload_n hx hb dL_errors_279 rfl (lv_at hl 2 rfl) ?_
                                          refine lv_iconst (v := 0) hx hb dL_errors_280 (by decide) ?_
                                          refine lv_bipush (v := 91) hx hb dL_errors_281 (by decide) ?_
                                          obtain ⟨⟨v_209, X_211⟩, hv_208, h⟩ := bd_l h
                                          refine Lo_T (As := [.ref (cA 0), .int 0, .int 91]) (rest := []) (wA := w_205) (wr := []) 13 87 (404) (2541) 997 6270 (co_setBleed l hst D k cA nA tA X_206 w_205 hw_205 0 91 (v_209, X_211) hv_208) ⟨hx, hb, hml, hown, hts⟩ (vx_cwSW 3 hts gL_errors_L_setBleed rfl rfl rfl (by decide +kernel) ⟨Nat.le_of_ble_eq_true rfl, Nat.le_of_ble_eq_true rfl⟩) hK hG hC hP hD hS hA (List.Perm.refl _) rfl hl.1 rfl (Nat.le_of_ble_eq_true rfl) dL_errors_283 ⟨rfl, rfl⟩ ⟨rfl, rfl⟩ (by omega) (by omega) (fun ov w_210 H locs hQ hP hD hS => ?_)
                                          obtain ⟨rfl, hw_210⟩ := hQ
                                          refine W.eq (g2 := F0 m 286 ls [.long v_209]) rfl ?_
                                          refine lv_ldc2 (v := -9000000000000000002) hx hb hown w_1 dL_errors_286 ?_
                                          refine W.lcmp hx hb dL_errors_289 ?_
                                          refine lv_if_ne (tgt := 336) hx hb dL_errors_290 (by decide) (fun c_212 => ?_) (fun c_212 => ?_)
                                          · have h := it_r c_212 h
                                            refine lv_iconst (v := 0) hx hb dL_errors_336 (by decide) ?_
                                            refine lv_istore (lv' := [(4, .int 0), (3, .int v_112), (1, .long v_109), (0, .ref (cA 0))]) hx hb dL_errors_337 hl (by decide) rfl (fun ls hl => ?_)
                                            refine lv_iconst (v := 0) hx hb dL_errors_339 (by decide) ?_
                                            refine lv_istore (lv' := [(5, .int 0), (4, .int 0), (3, .int v_112), (1, .long v_109), (0, .ref (cA 0))]) hx hb dL_errors_340 hl (by decide) rfl (fun ls hl => ?_)
                                            refine W.widen (k := (584 - 20 * 7)) (n := (3711 - 129 * 7)) (by omega) (by omega) ?_
                                            exact hC_342 7 v_109 v_112 0 0 X_211 w_210 _ _ _ (Nat.le_refl _) hw_210 hP hD hS (lv_sub hl [4, 3, 2, 1, 0] rfl) h
                                          · have h := it_l c_212 h
                                            refine lv_aload_n hx hb dL_errors_293 rfl (lv_at hl 2 rfl) ?_
                                            refine lv_iload_n hx hb dL_errors_294 rfl (lv_at hl 0 rfl) ?_
                                            refine lv_iconst (v := 0) hx hb dL_errors_295 (by decide) ?_
                                            obtain ⟨⟨v_214, X_216⟩, hv_213, h⟩ := bd_l h
                                            refine Lo_T (As := [.ref (cA 0), .int v_112, .int 0]) (rest := []) (wA := w_210) (wr := []) 14 93 (418) (2634) 997 6270 (co_wash l hst D k cA nA tA X_211 w_210 hw_210 v_112 0 (v_214, X_216) hv_213) ⟨hx, hb, hml, hown, hts⟩ (vx_cwSW 3 hts gL_errors_L_wash rfl rfl rfl (by decide +kernel) ⟨Nat.le_of_ble_eq_true rfl, Nat.le_of_ble_eq_true rfl⟩) hK hG hC hP hD hS hA (List.Perm.refl _) rfl hl.1 rfl (Nat.le_of_ble_eq_true rfl) dL_errors_296 ⟨rfl, rfl⟩ ⟨rfl, rfl⟩ (by omega) (by omega) (fun ov w_215 H locs hQ hP hD hS => ?_)
                                            obtain ⟨rfl, hw_215⟩ := hQ
                                            refine W.eq (g2 := F0 m 299 ls [.long v_214]) rfl ?_
                                            refine lv_ldc2 (v := -9000000000000000001) hx hb hown w_0 dL_errors_299 ?_
                                            refine W.lcmp hx hb dL_errors_302 ?_
                                            refine lv_if_ne (tgt := 336) hx hb dL_errors_303 (by decide) (fun c_217 => ?_) (fun c_217 => ?_)
                                            · have h := it_r c_217 h
                                              refine lv_iconst (v := 0) hx hb dL_errors_336 (by decide) ?_
                                              refine lv_istore (lv' := [(4, .int 0), (3, .int v_112), (1, .long v_109), (0, .ref (cA 0))]) hx hb dL_errors_337 hl (by decide) rfl (fun ls hl => ?_)
                                              refine lv_iconst (v := 0) hx hb dL_errors_339 (by decide) ?_
                                              refine lv_istore (lv' := [(5, .int 0), (4, .int 0), (3, .int v_112), (1, .long v_109), (0, .ref (cA 0))]) hx hb dL_errors_340 hl (by decide) rfl (fun ls hl => ?_)
                                              refine W.widen (k := (584 - 20 * 7)) (n := (3711 - 129 * 7)) (by omega) (by omega) ?_
                                              exact hC_342 7 v_109 v_112 0 0 X_216 w_215 _ _ _ (Nat.le_refl _) hw_215 hP hD hS (lv_sub hl [4, 3, 2, 1, 0] rfl) h
                                            · have h := it_l c_217 h
                                              refine lv_aload_n hx hb dL_errors_306 rfl (lv_at hl 2 rfl) ?_
                                              refine lv_iconst (v := 0) hx hb dL_errors_307 (by decide) ?_
                                              refine lv_bipush (v := 21) hx hb dL_errors_308 (by decide) ?_
                                              obtain ⟨⟨v_219, X_221⟩, hv_218, h⟩ := bd_l h
                                              refine Lo_T (As := [.ref (cA 0), .int 0, .int 21]) (rest := []) (wA := w_215) (wr := []) 14 93 (432) (2727) 997 6270 (co_wash l hst D k cA nA tA X_216 w_215 hw_215 0 21 (v_219, X_221) hv_218) ⟨hx, hb, hml, hown, hts⟩ (vx_cwSW 3 hts gL_errors_L_wash rfl rfl rfl (by decide +kernel) ⟨Nat.le_of_ble_eq_true rfl, Nat.le_of_ble_eq_true rfl⟩) hK hG hC hP hD hS hA (List.Perm.refl _) rfl hl.1 rfl (Nat.le_of_ble_eq_true rfl) dL_errors_310 ⟨rfl, rfl⟩ ⟨rfl, rfl⟩ (by omega) (by omega) (fun ov w_220 H locs hQ hP hD hS => ?_)
                                              obtain ⟨rfl, hw_220⟩ := hQ
                                              refine W.eq (g2 := F0 m 313 ls [.long v_219]) rfl ?_
                                              refine lv_ldc2 (v := -9000000000000000002) hx hb hown w_1 dL_errors_313 ?_
                                              refine W.lcmp hx hb dL_errors_316 ?_
                                              refine lv_if_ne (tgt := 336) hx hb dL_errors_317 (by decide) (fun c_222 => ?_) (fun c_222 => ?_)
                                              · have h := it_r c_222 h
                                                refine lv_iconst (v := 0) hx hb dL_errors_336 (by decide) ?_
                                                refine lv_istore (lv' := [(4, .int 0), (3, .int v_112), (1, .long v_109), (0, .ref (cA 0))]) hx hb dL_errors_337 hl (by decide) rfl (fun ls hl => ?_)
                                                refine lv_iconst (v := 0) hx hb dL_errors_339 (by decide) ?_
                                                refine lv_istore (lv' := [(5, .int 0), (4, .int 0), (3, .int v_112), (1, .long v_109), (0, .ref (cA 0))]) hx hb dL_errors_340 hl (by decide) rfl (fun ls hl => ?_)
                                                refine W.widen (k := (584 - 20 * 7)) (n := (3711 - 129 * 7)) (by omega) (by omega) ?_
                                                exact hC_342 7 v_109 v_112 0 0 X_221 w_220 _ _ _ (Nat.le_refl _) hw_220 hP hD hS (lv_sub hl [4, 3, 2, 1, 0] rfl) h
                                              · have h := it_l c_222 h
                                                refine lv_aload_n hx hb dL_errors_320 rfl (lv_at hl 2 rfl) ?_
                                                refine lv_iload_n hx hb dL_errors_321 rfl (lv_at hl 0 rfl) ?_
                                                obtain ⟨⟨v_224, X_226⟩, hv_223, h⟩ := bd_l h
                                                refine Lo_T (As := [.ref (cA 0), .int v_112]) (rest := []) (wA := w_220) (wr := []) 12 81 (444) (2808) 997 6270 (co_endWash l hst D k cA nA tA X_221 w_220 hw_220 v_112 (v_224, X_226) hv_223) ⟨hx, hb, hml, hown, hts⟩ (vx_cwSW 2 hts gL_errors_L_endWash rfl rfl rfl (by decide +kernel) ⟨Nat.le_of_ble_eq_true rfl, Nat.le_of_ble_eq_true rfl⟩) hK hG hC hP hD hS hA (List.Perm.refl _) rfl hl.1 rfl (Nat.le_of_ble_eq_true rfl) dL_errors_322 ⟨rfl, rfl⟩ ⟨rfl, rfl⟩ (by omega) (by omega) (fun ov w_225 H locs hQ hP hD hS => ?_)
                                                obtain ⟨rfl, hw_225⟩ := hQ
                                                refine W.eq (g2 := F0 m 325 ls [.long v_224]) rfl ?_
                                                refine lv_ldc2 (v := -9000000000000000001) hx hb hown w_0 dL_errors_325 ?_
                                                refine W.lcmp hx hb dL_errors_328 ?_
                                                refine lv_if_ne (tgt := 336) hx hb dL_errors_329 (by decide) (fun c_227 => ?_) (fun c_227 => ?_)
                                                · have h := it_r c_227 h
                                                  refine lv_iconst (v := 0) hx hb dL_errors_336 (by decide) ?_
                                                  refine lv_istore (lv' := [(4, .int 0), (3, .int v_112), (1, .long v_109), (0, .ref (cA 0))]) hx hb dL_errors_337 hl (by decide) rfl (fun ls hl => ?_)
                                                  refine lv_iconst (v := 0) hx hb dL_errors_339 (by decide) ?_
                                                  refine lv_istore (lv' := [(5, .int 0), (4, .int 0), (3, .int v_112), (1, .long v_109), (0, .ref (cA 0))]) hx hb dL_errors_340 hl (by decide) rfl (fun ls hl => ?_)
                                                  refine W.widen (k := (584 - 20 * 7)) (n := (3711 - 129 * 7)) (by omega) (by omega) ?_
                                                  exact hC_342 7 v_109 v_112 0 0 X_226 w_225 _ _ _ (Nat.le_refl _) hw_225 hP hD hS (lv_sub hl [4, 3, 2, 1, 0] rfl) h
                                                · have h := it_l c_227 h
                                                  refine lv_iconst (v := 1) hx hb dL_errors_332 (by decide) ?_
                                                  refine lv_goto (tgt := 337) hx hb dL_errors_333 (by decide) ?_
                                                  refine lv_istore (lv' := [(4, .int 1), (3, .int v_112), (1, .long v_109), (0, .ref (cA 0))]) hx hb dL_errors_337 hl (by decide) rfl (fun ls hl => ?_)
                                                  refine lv_iconst (v := 0) hx hb dL_errors_339 (by decide) ?_
                                                  refine lv_istore (lv' := [(5, .int 0), (4, .int 1), (3, .int v_112), (1, .long v_109), (0, .ref (cA 0))]) hx hb dL_errors_340 hl (by decide) rfl (fun ls hl => ?_)
                                                  refine W.widen (k := (584 - 20 * 7)) (n := (3711 - 129 * 7)) (by omega) (by omega) ?_
                                                  exact hC_342 7 v_109 v_112 1 0 X_226 w_225 _ _ _ (Nat.le_refl _) hw_225 hP hD hS (lv_sub hl [4, 3, 2, 1, 0] rfl) h
noncomputable def f_L_tells_278 (x3_278 : Int32) (x4_278 : Int32) (x5_278 : Int64) (X_278 : XV) : Option (Int32 × XV) := if x4_278 = 0 then (some (0, X_278)) else (bd (o_errorPosition X_278) fun v_3 => if v_3 = (-9) then (bd (o_load X_278) fun ⟨v_7, X_9⟩ => if (lg_cmp v_7 x5_278) = 0 then (bd (f_L_effects X_9) fun v_12 => if v_12 = x3_278 then (bd (o_total X_9 0) fun v_16 => if (lg_cmp v_16 0) = 0 then (bd (o_undo X_9) fun ⟨v_20, X_22⟩ => if (lg_cmp v_20 (-9000000000000000003)) = 0 then (some (1, X_22)) else (some (0, X_22))) else (some (0, X_9))) else (some (0, X_9))) else (some (0, X_9))) else (some (0, X_278)))
noncomputable def f_L_tells_125 (p2 : Int32) : Nat → Int32 → Int32 → Int64 → Int32 → XV → Option (Int32 × XV)
  | 0, _, _, _, _, _ => none
  | fu + 1, x3_125, x4_125, x5_125, x7_125, X_125 => if x3_125 ≤ x7_125 then (f_L_tells_278 x3_125 x4_125 x5_125 X_125) else (if x4_125 = 0 then (f_L_tells_278 x3_125 x4_125 x5_125 X_125) else (nm ((p2 ^^^ (977 * (x7_125 + 1))) &&& 2147483647) fun v_26 => nm (v_26 - v_26 / 4001 * 4001) fun v_27 => nm ((v_26 / 9) - (v_26 / 9) / 1001 * 1001) fun v_28 => nm (x5_125 + ((v_27 + v_28).toInt64)) fun v_29 => bd (f_L_digits X_125 (1 + (v_26 - v_26 / 9 * 9)) 1) fun ⟨v_31, X_33⟩ => if v_31 = 0 then ((f_L_tells_125 p2 fu) x3_125 0 v_29 (x7_125 + 1) X_33) else (bd (f_L_digits X_33 v_27 4) fun ⟨v_36, X_38⟩ => if v_36 = 0 then ((f_L_tells_125 p2 fu) x3_125 0 v_29 (x7_125 + 1) X_38) else (bd (f_L_digits X_38 v_28 4) fun ⟨v_41, X_43⟩ => if v_41 = 0 then ((f_L_tells_125 p2 fu) x3_125 0 v_29 (x7_125 + 1) X_43) else (bd (f_L_digits X_43 ((v_26 / 7) - (v_26 / 7) / 300 * 300) 3) fun ⟨v_46, X_48⟩ => if v_46 = 0 then ((f_L_tells_125 p2 fu) x3_125 0 v_29 (x7_125 + 1) X_48) else (bd (f_L_digits X_48 ((v_26 / 11) - (v_26 / 11) / 91 * 91) 2) fun ⟨v_51, X_53⟩ => if v_51 = 0 then ((f_L_tells_125 p2 fu) x3_125 0 v_29 (x7_125 + 1) X_53) else (bd (f_L_digits X_53 ((v_26 / 13) - (v_26 / 13) / 100 * 100) 2) fun ⟨v_56, X_58⟩ => if v_56 = 0 then ((f_L_tells_125 p2 fu) x3_125 0 v_29 (x7_125 + 1) X_58) else ((f_L_tells_125 p2 fu) x3_125 1 v_29 (x7_125 + 1) X_58))))))))
noncomputable def f_L_tells (X : XV) (p1 : Int32) (p2 : Int32) : Option (Int32 × XV) := nm (2 + (p1 - p1 / 5 * 5)) fun v_60 => bd (o_clearText X) fun ⟨v_62, X_64⟩ => if v_62 < 0 then (f_L_tells_125 p2 7 v_60 0 0 0 X_64) else (bd (o_append X_64 69) fun ⟨v_67, X_69⟩ => if (lg_cmp v_67 1) = 0 then (bd (f_L_digits X_69 v_60 1) fun ⟨v_72, X_74⟩ => if v_72 = 0 then (f_L_tells_125 p2 7 v_60 0 0 0 X_74) else (bd (f_L_digits X_74 ((p1 / 5) - (p1 / 5) / 1000 * 1000) 3) fun ⟨v_77, X_79⟩ => if v_77 = 0 then (f_L_tells_125 p2 7 v_60 0 0 0 X_79) else (bd (f_L_digits X_79 ((p1 / 5000) - (p1 / 5000) / 400 * 400) 3) fun ⟨v_82, X_84⟩ => if v_82 = 0 then (f_L_tells_125 p2 7 v_60 0 0 0 X_84) else (bd (f_L_digits X_84 (p2 - p2 / 100 * 100) 2) fun ⟨v_87, X_89⟩ => if v_87 = 0 then (f_L_tells_125 p2 7 v_60 0 0 0 X_89) else (bd (f_L_digits X_89 (((p2 / 100) - (p2 / 100) / 4 * 4) * 7) 2) fun ⟨v_92, X_94⟩ => if v_92 = 0 then (f_L_tells_125 p2 7 v_60 0 0 0 X_94) else (bd (f_L_digits X_94 (1 + ((p2 / 400) - (p2 / 400) / 20 * 20)) 2) fun ⟨v_97, X_99⟩ => if v_97 = 0 then (f_L_tells_125 p2 7 v_60 0 0 0 X_99) else (f_L_tells_125 p2 7 v_60 1 0 0 X_99))))))) else (f_L_tells_125 p2 7 v_60 0 0 0 X_69))
set_option maxRecDepth 100000 in
set_option maxHeartbeats 4000000 in
theorem c_L_tells (l : Launch) (hst : l.stackTraces = false) (D : va_G) (k : Nat → ClassId) (cA nA tA : Nat → Nat) (X : XV) (w : va_W) (hw : Ob k cA nA tA X w) (p1 : Int32) (p2 : Int32) (o : Int32 × XV) (h : f_L_tells X p1 p2 = some o) : CO l D k yL_tells wsL_tells ({ frames := 10, cells := 670, slots := 4029, locals := 173 } : Room) [.ref (cA 0), .int p1, .int p2] (w) (fun (ov : Option Value) (w' : va_W) => ov = some (.int o.1) ∧ Ob k cA nA tA o.2 w') := by
  obtain ⟨B9, hB9⟩ : ∃ B : Option Value → va_W → Prop, B = fun (ov : Option Value) (w' : va_W) => ov = some (.int o.1) ∧ Ob k cA nA tA o.2 w' := ⟨_, rfl⟩
  refine CO.of (P := B9) ?_ (fun ov w' h9 => by rw [hB9] at h9; exact h9)
  refine Cl_of0 (cc := cL_tells) (maxL := 11) (ret := (some .boolean)) (by decide) rfl (Nat.le_of_ble_eq_true rfl) ?_
  intro p e s m args below meth c A ls hx hb hr hml hts hown hlocks hK hG hC hA hP hD hS hl
  have hl : lv_has ls 11 [(0, .ref (cA 0)), (1, .int p1), (2, .int p2)] := hl
  have hP := P_n hP
  have hD := D_n hD
  have w_0 := hts (.constantLong RL 21 (-9000000000000000003)) (by decide +kernel)
  have w_1 := hts (.constant RL 8 (2147483647)) (by decide +kernel)
  unfold f_L_tells at h
  have hC_278 : ∀ (x3_278 : Int32) (x4_278 : Int32) (x5_278 : Int64) (X_278 : XV) (w_278 : va_W) (H : Heap) (locs : List Loc) (ls : Array Slot), Ob k cA nA tA X_278 w_278 → va_P D vwCl (w_278 ++ []) H → va_D A (w_278 ++ []) → va_S A s.heap H locs → lv_has ls 11 [(0, .ref (cA 0)), (3, .int x3_278), (4, .int x4_278), (5, .long x5_278)] → f_L_tells_278 x3_278 x4_278 x5_278 X_278 = some o → W p l e ({ frames := 10, cells := 670, slots := 4029, locals := 173 } : Room) s m args below meth c H locs (650) (3900) (vx_MQ below (Qx D A (.inr B9)) (Xx D A (w) (.inr B9)) args s 670 4029 A) (F0 m 278 ls []) := by
    intro x3_278 x4_278 x5_278 X_278 w_278 H locs ls hw_278 hP hD hS hl h
    unfold f_L_tells_278 at h
    refine lv_iload hx hb dL_tells_278 (lv_at hl 2 rfl) ?_
    refine lv_if_eq (tgt := 335) hx hb dL_tells_280 (by decide) (fun c_1 => ?_) (fun c_1 => ?_)
    · have h := it_l c_1 h
      refine lv_iconst (v := 0) hx hb dL_tells_335 (by decide) ?_
      cases h
      exact Cx_zret (B := B9) rfl (by rw [hB9]; exact ⟨rfl, hw_278⟩) (by show 650 ≤ 670; omega) (by show 3900 ≤ 4029; omega) hx hb hr (by decide) (P_l hP) (D_l hD) hS dL_tells_336 hlocks
    · have h := it_r c_1 h
      refine lv_aload_n hx hb dL_tells_283 rfl (lv_at hl 0 rfl) ?_
      obtain ⟨v_3, hv_2, h⟩ := bd_l h
      refine Lo_V (As := []) (rest := []) (wA := w_278) (wr := []) 0 0 (650) (3900) 670 4029 (co_errorPosition l hst D k cA nA tA X_278 w_278 hw_278 v_3 hv_2) ⟨hx, hb, hml, hown, hts⟩ (cwV 0 hts gL_tells_X1_errorPosition rfl rfl rfl (by decide +kernel) ⟨Nat.le_of_ble_eq_true rfl, Nat.le_of_ble_eq_true rfl⟩) hK hG hP hD hS hA (List.Perm.refl _) rfl hl.1 rfl (Nat.le_of_ble_eq_true rfl) dL_tells_284 ⟨rfl, rfl⟩ ⟨rfl, rfl⟩ (by omega) (by omega) (fun ov w_4 H locs hQ hP hD hS => ?_)
      obtain ⟨rfl, hw_4⟩ := hQ
      refine W.eq (g2 := F0 m 287 ls [.int v_3]) rfl ?_
      refine lv_bipush (v := (-9)) hx hb dL_tells_287 (by decide) ?_
      refine lv_icmp_ne (tgt := 335) hx hb dL_tells_289 (by decide) (fun c_5 => ?_) (fun c_5 => ?_)
      · have h := it_r c_5 h
        refine lv_iconst (v := 0) hx hb dL_tells_335 (by decide) ?_
        cases h
        exact Cx_zret (B := B9) rfl (by rw [hB9]; exact ⟨rfl, hw_4⟩) (by show 650 ≤ 670; omega) (by show 3900 ≤ 4029; omega) hx hb hr (by decide) (P_l hP) (D_l hD) hS dL_tells_336 hlocks
      · have h := it_l c_5 h
        refine lv_aload_n hx hb dL_tells_292 rfl (lv_at hl 0 rfl) ?_
        obtain ⟨⟨v_7, X_9⟩, hv_6, h⟩ := bd_l h
        refine Lo_T (As := [.ref (cA 0)]) (rest := []) (wA := w_4) (wr := []) 7 42 (657) (3942) 670 4029 (co_load l hst D k cA nA tA X_278 w_4 hw_4 (v_7, X_9) hv_6) ⟨hx, hb, hml, hown, hts⟩ (vx_cwSW 1 hts gL_tells_L_load rfl rfl rfl (by decide +kernel) ⟨Nat.le_of_ble_eq_true rfl, Nat.le_of_ble_eq_true rfl⟩) hK hG hC hP hD hS hA (List.Perm.refl _) rfl hl.1 rfl (Nat.le_of_ble_eq_true rfl) dL_tells_293 ⟨rfl, rfl⟩ ⟨rfl, rfl⟩ (by omega) (by omega) (fun ov w_8 H locs hQ hP hD hS => ?_)
        obtain ⟨rfl, hw_8⟩ := hQ
        refine W.eq (g2 := F0 m 296 ls [.long v_7]) rfl ?_
        refine lv_lload hx hb dL_tells_296 (lv_at hl 3 rfl) ?_
        refine W.lcmp hx hb dL_tells_298 ?_
        refine lv_if_ne (tgt := 335) hx hb dL_tells_299 (by decide) (fun c_10 => ?_) (fun c_10 => ?_)
        · have h := it_r c_10 h
          refine lv_iconst (v := 0) hx hb dL_tells_335 (by decide) ?_
          cases h
          exact Cx_zret (B := B9) rfl (by rw [hB9]; exact ⟨rfl, hw_8⟩) (by show 657 ≤ 670; omega) (by show 3942 ≤ 4029; omega) hx hb hr (by decide) (P_l hP) (D_l hD) hS dL_tells_336 hlocks
        · have h := it_l c_10 h
          refine lv_aload_n hx hb dL_tells_302 rfl (lv_at hl 0 rfl) ?_
          obtain ⟨v_12, hv_11, h⟩ := bd_l h
          refine Lo_S (As := [.ref (cA 0)]) (rest := []) (wA := w_8) (wr := []) 1 6 (658) (3948) 670 4029 (c_L_effects l hst D k cA nA tA X_9 w_8 hw_8 v_12 hv_11) ⟨hx, hb, hml, hown, hts⟩ (va_cwS 1 hts gL_tells_L_effects rfl rfl rfl (by decide +kernel) ⟨Nat.le_of_ble_eq_true rfl, Nat.le_of_ble_eq_true rfl⟩) hK hG hC hP hD hS hA (List.Perm.refl _) rfl hl.1 rfl (Nat.le_of_ble_eq_true rfl) dL_tells_303 ⟨rfl, rfl⟩ ⟨rfl, rfl⟩ (by omega) (by omega) (fun ov w_13 H locs hQ hP hD hS => ?_)
          obtain ⟨rfl, hw_13⟩ := hQ
          refine W.eq (g2 := F0 m 306 ls [.int v_12]) rfl ?_
          refine lv_iload_n hx hb dL_tells_306 rfl (lv_at hl 1 rfl) ?_
          refine lv_icmp_ne (tgt := 335) hx hb dL_tells_307 (by decide) (fun c_14 => ?_) (fun c_14 => ?_)
          · have h := it_r c_14 h
            refine lv_iconst (v := 0) hx hb dL_tells_335 (by decide) ?_
            cases h
            exact Cx_zret (B := B9) rfl (by rw [hB9]; exact ⟨rfl, hw_13⟩) (by show 658 ≤ 670; omega) (by show 3948 ≤ 4029; omega) hx hb hr (by decide) (P_l hP) (D_l hD) hS dL_tells_336 hlocks
          · have h := it_l c_14 h
            refine lv_aload_n hx hb dL_tells_310 rfl (lv_at hl 0 rfl) ?_
            refine lv_iconst (v := 0) hx hb dL_tells_311 (by decide) ?_
            obtain ⟨v_16, hv_15, h⟩ := bd_l h
            refine Lo_T (As := [.ref (cA 0), .int 0]) (rest := []) (wA := w_13) (wr := []) 1 6 (659) (3954) 670 4029 (co_total l hst D k cA nA tA X_9 w_13 hw_13 0 v_16 hv_15) ⟨hx, hb, hml, hown, hts⟩ (vx_cwSW 2 hts gL_tells_L_total rfl rfl rfl (by decide +kernel) ⟨Nat.le_of_ble_eq_true rfl, Nat.le_of_ble_eq_true rfl⟩) hK hG hC hP hD hS hA (List.Perm.refl _) rfl hl.1 rfl (Nat.le_of_ble_eq_true rfl) dL_tells_312 ⟨rfl, rfl⟩ ⟨rfl, rfl⟩ (by omega) (by omega) (fun ov w_17 H locs hQ hP hD hS => ?_)
            obtain ⟨rfl, hw_17⟩ := hQ
            refine W.eq (g2 := F0 m 315 ls [.long v_16]) rfl ?_
            refine lv_lconst (v := 0) hx hb dL_tells_315 (by decide) ?_
            refine W.lcmp hx hb dL_tells_316 ?_
            refine lv_if_ne (tgt := 335) hx hb dL_tells_317 (by decide) (fun c_18 => ?_) (fun c_18 => ?_)
            · have h := it_r c_18 h
              refine lv_iconst (v := 0) hx hb dL_tells_335 (by decide) ?_
              cases h
              exact Cx_zret (B := B9) rfl (by rw [hB9]; exact ⟨rfl, hw_17⟩) (by show 659 ≤ 670; omega) (by show 3954 ≤ 4029; omega) hx hb hr (by decide) (P_l hP) (D_l hD) hS dL_tells_336 hlocks
            · have h := it_l c_18 h
              refine lv_aload_n hx hb dL_tells_320 rfl (lv_at hl 0 rfl) ?_
              obtain ⟨⟨v_20, X_22⟩, hv_19, h⟩ := bd_l h
              refine Lo_T (As := [.ref (cA 0)]) (rest := []) (wA := w_17) (wr := []) 11 75 (670) (4029) 670 4029 (co_undo l hst D k cA nA tA X_9 w_17 hw_17 (v_20, X_22) hv_19) ⟨hx, hb, hml, hown, hts⟩ (vx_cwSW 1 hts gL_tells_L_undo rfl rfl rfl (by decide +kernel) ⟨Nat.le_of_ble_eq_true rfl, Nat.le_of_ble_eq_true rfl⟩) hK hG hC hP hD hS hA (List.Perm.refl _) rfl hl.1 rfl (Nat.le_of_ble_eq_true rfl) dL_tells_321 ⟨rfl, rfl⟩ ⟨rfl, rfl⟩ (by omega) (by omega) (fun ov w_21 H locs hQ hP hD hS => ?_)
              obtain ⟨rfl, hw_21⟩ := hQ
              refine W.eq (g2 := F0 m 324 ls [.long v_20]) rfl ?_
              refine lv_ldc2 (v := -9000000000000000003) hx hb hown w_0 dL_tells_324 ?_
              refine W.lcmp hx hb dL_tells_327 ?_
              refine lv_if_ne (tgt := 335) hx hb dL_tells_328 (by decide) (fun c_23 => ?_) (fun c_23 => ?_)
              · have h := it_r c_23 h
                refine lv_iconst (v := 0) hx hb dL_tells_335 (by decide) ?_
                cases h
                exact Cx_zret (B := B9) rfl (by rw [hB9]; exact ⟨rfl, hw_21⟩) (by show 670 ≤ 670; omega) (by show 4029 ≤ 4029; omega) hx hb hr (by decide) (P_l hP) (D_l hD) hS dL_tells_336 hlocks
              · have h := it_l c_23 h
                refine lv_iconst (v := 1) hx hb dL_tells_331 (by decide) ?_
                refine lv_goto (tgt := 336) hx hb dL_tells_332 (by decide) ?_
                cases h
                exact Cx_zret (B := B9) rfl (by rw [hB9]; exact ⟨rfl, hw_21⟩) (by show 670 ≤ 670; omega) (by show 4029 ≤ 4029; omega) hx hb hr (by decide) (P_l hP) (D_l hD) hS dL_tells_336 hlocks
  have hC_125 : ∀ (fu_125 : Nat) (x3_125 : Int32) (x4_125 : Int32) (x5_125 : Int64) (x7_125 : Int32) (X_125 : XV) (w_125 : va_W) (H : Heap) (locs : List Loc) (ls : Array Slot), fu_125 ≤ 7 → Ob k cA nA tA X_125 w_125 → va_P D vwCl (w_125 ++ []) H → va_D A (w_125 ++ []) → va_S A s.heap H locs → lv_has ls 11 [(0, .ref (cA 0)), (2, .int p2), (3, .int x3_125), (4, .int x4_125), (5, .long x5_125), (7, .int x7_125)] → f_L_tells_125 p2 fu_125 x3_125 x4_125 x5_125 x7_125 X_125 = some o → W p l e ({ frames := 10, cells := 670, slots := 4029, locals := 173 } : Room) s m args below meth c H locs ((578 - 72 * fu_125)) ((3468 - 432 * fu_125)) (vx_MQ below (Qx D A (.inr B9)) (Xx D A (w) (.inr B9)) args s 670 4029 A) (F0 m 125 ls []) := by
    intro fu_125
    induction fu_125 with
    | zero => intro x3_125 x4_125 x5_125 x7_125 X_125 w_125 H locs ls _ _ _ _ _ _ h; exact (no_l h).elim
    | succ fu_125 ih_125 =>
      intro x3_125 x4_125 x5_125 x7_125 X_125 w_125 H locs ls hfu_125 hw_125 hP hD hS hl h
      rw [f_L_tells_125] at h
      refine lv_iload hx hb dL_tells_125 (lv_at hl 5 rfl) ?_
      refine lv_iload_n hx hb dL_tells_127 rfl (lv_at hl 2 rfl) ?_
      refine lv_icmp_ge (tgt := 278) hx hb dL_tells_128 (by decide) (fun c_24 => ?_) (fun c_24 => ?_)
      · have h := it_l c_24 h
        refine W.widen (k := 650) (n := 3900) (by omega) (by omega) ?_
        exact hC_278 x3_125 x4_125 x5_125 X_125 w_125 _ _ _ hw_125 hP hD hS (lv_sub hl [0, 2, 3, 4] rfl) h
      · have h := it_r c_24 h
        refine lv_iload hx hb dL_tells_131 (lv_at hl 3 rfl) ?_
        refine lv_if_eq (tgt := 278) hx hb dL_tells_133 (by decide) (fun c_25 => ?_) (fun c_25 => ?_)
        · have h := it_l c_25 h
          refine W.widen (k := 650) (n := 3900) (by omega) (by omega) ?_
          exact hC_278 x3_125 x4_125 x5_125 X_125 w_125 _ _ _ hw_125 hP hD hS (lv_sub hl [0, 2, 3, 4] rfl) h
        · have h := it_r c_25 h
          refine lv_iload_n hx hb dL_tells_136 rfl (lv_at hl 1 rfl) ?_
          refine lv_sipush (v := 977) hx hb dL_tells_137 (by decide) ?_
          refine lv_iload hx hb dL_tells_140 (lv_at hl 5 rfl) ?_
          refine lv_iconst (v := 1) hx hb dL_tells_142 (by decide) ?_
          refine lv_iadd hx hb dL_tells_143 ?_
          refine lv_imul hx hb dL_tells_144 ?_
          refine lv_ixor hx hb dL_tells_145 ?_
          refine lv_ldc (v := 2147483647) hx hb hown w_1 dL_tells_146 ?_
          refine lv_iand hx hb dL_tells_148 ?_
          refine lv_topi (fun v_26 ev_26 => ?_)
          have h := nm_l h ev_26
          refine lv_istore (lv' := [(8, .int v_26), (0, .ref (cA 0)), (2, .int p2), (3, .int x3_125), (4, .int x4_125), (5, .long x5_125), (7, .int x7_125)]) hx hb dL_tells_149 hl (by decide) rfl (fun ls hl => ?_)
          refine lv_iload hx hb dL_tells_151 (lv_at hl 0 rfl) ?_
          refine lv_sipush (v := 4001) hx hb dL_tells_153 (by decide) ?_
          refine lv_irem hx hb dL_tells_156 (by decide) ?_
          refine lv_topi (fun v_27 ev_27 => ?_)
          have h := nm_l h ev_27
          refine lv_istore (lv' := [(9, .int v_27), (8, .int v_26), (0, .ref (cA 0)), (2, .int p2), (3, .int x3_125), (4, .int x4_125), (5, .long x5_125), (7, .int x7_125)]) hx hb dL_tells_157 hl (by decide) rfl (fun ls hl => ?_)
          refine lv_iload hx hb dL_tells_159 (lv_at hl 1 rfl) ?_
          refine lv_bipush (v := 9) hx hb dL_tells_161 (by decide) ?_
          refine lv_idiv hx hb dL_tells_163 (by decide) ?_
          refine lv_sipush (v := 1001) hx hb dL_tells_164 (by decide) ?_
          refine lv_irem hx hb dL_tells_167 (by decide) ?_
          refine lv_topi (fun v_28 ev_28 => ?_)
          have h := nm_l h ev_28
          refine lv_istore (lv' := [(10, .int v_28), (9, .int v_27), (8, .int v_26), (0, .ref (cA 0)), (2, .int p2), (3, .int x3_125), (4, .int x4_125), (5, .long x5_125), (7, .int x7_125)]) hx hb dL_tells_168 hl (by decide) rfl (fun ls hl => ?_)
          refine lv_lload hx hb dL_tells_170 (lv_at hl 7 rfl) ?_
          refine lv_iload hx hb dL_tells_172 (lv_at hl 1 rfl) ?_
          refine lv_iload hx hb dL_tells_174 (lv_at hl 0 rfl) ?_
          refine lv_iadd hx hb dL_tells_176 ?_
          refine lv_i2l hx hb dL_tells_177 rfl ?_
          refine lv_ladd hx hb dL_tells_178 ?_
          refine lv_topl (fun v_29 ev_29 => ?_)
          have h := nm_l h ev_29
          refine lv_lstore (lv' := [(5, .long v_29), (10, .int v_28), (9, .int v_27), (8, .int v_26), (0, .ref (cA 0)), (2, .int p2), (3, .int x3_125), (4, .int x4_125), (7, .int x7_125)]) hx hb dL_tells_179 hl (by decide) rfl (fun ls hl => ?_)
          refine lv_aload_n hx hb dL_tells_181 rfl (lv_at hl 4 rfl) ?_
          refine lv_iconst (v := 1) hx hb dL_tells_182 (by decide) ?_
          refine lv_iload hx hb dL_tells_183 (lv_at hl 3 rfl) ?_
          refine lv_bipush (v := 9) hx hb dL_tells_185 (by decide) ?_
          refine lv_irem hx hb dL_tells_187 (by decide) ?_
          refine lv_iadd hx hb dL_tells_188 ?_
          refine lv_iconst (v := 1) hx hb dL_tells_189 (by decide) ?_
          obtain ⟨⟨v_31, X_33⟩, hv_30, h⟩ := bd_l h
          refine Lo_S (As := [.ref (cA 0), .int (1 + (v_26 - v_26 / 9 * 9)), .int 1]) (rest := []) (wA := w_125) (wr := []) 12 72 ((578 - 72 * (fu_125 + 1)) + 12) ((3468 - 432 * (fu_125 + 1)) + 72) 670 4029 (c_L_digits l hst D k cA nA tA X_125 w_125 hw_125 (1 + (v_26 - v_26 / 9 * 9)) 1 (v_31, X_33) hv_30) ⟨hx, hb, hml, hown, hts⟩ (va_cwS 3 hts gL_tells_L_digits rfl rfl rfl (by decide +kernel) ⟨Nat.le_of_ble_eq_true rfl, Nat.le_of_ble_eq_true rfl⟩) hK hG hC hP hD hS hA (List.Perm.refl _) rfl hl.1 rfl (Nat.le_of_ble_eq_true rfl) dL_tells_190 ⟨rfl, rfl⟩ ⟨rfl, rfl⟩ (by omega) (by omega) (fun ov w_32 H locs hQ hP hD hS => ?_)
          obtain ⟨rfl, hw_32⟩ := hQ
          refine W.eq (g2 := F0 m 193 ls [.int v_31]) rfl ?_
          refine lv_if_eq (tgt := 269) hx hb dL_tells_193 (by decide) (fun c_34 => ?_) (fun c_34 => ?_)
          · have h := it_l c_34 h
            refine lv_iconst (v := 0) hx hb dL_tells_269 (by decide) ?_
            refine lv_istore (lv' := [(4, .int 0), (5, .long v_29), (10, .int v_28), (9, .int v_27), (8, .int v_26), (0, .ref (cA 0)), (2, .int p2), (3, .int x3_125), (7, .int x7_125)]) hx hb dL_tells_270 hl (by decide) rfl (fun ls hl => ?_)
            refine lv_iinc (v := (x7_125 + 1)) (lv' := [(7, .int (x7_125 + 1)), (4, .int 0), (5, .long v_29), (10, .int v_28), (9, .int v_27), (8, .int v_26), (0, .ref (cA 0)), (2, .int p2), (3, .int x3_125)]) hx hb dL_tells_272 hl (k := 8) rfl rfl (by decide) rfl (fun ls hl => ?_)
            refine lv_goto (tgt := 125) hx hb dL_tells_275 (by decide) ?_
            refine W.widen (k := (578 - 72 * fu_125)) (n := (3468 - 432 * fu_125)) (by omega) (by omega) ?_
            exact ih_125 x3_125 0 v_29 (x7_125 + 1) X_33 w_32 _ _ _ (by omega) hw_32 hP hD hS (lv_sub hl [6, 7, 8, 1, 2, 0] rfl) h
          · have h := it_r c_34 h
            refine lv_aload_n hx hb dL_tells_196 rfl (lv_at hl 4 rfl) ?_
            refine lv_iload hx hb dL_tells_197 (lv_at hl 2 rfl) ?_
            refine lv_iconst (v := 4) hx hb dL_tells_199 (by decide) ?_
            obtain ⟨⟨v_36, X_38⟩, hv_35, h⟩ := bd_l h
            refine Lo_S (As := [.ref (cA 0), .int v_27, .int 4]) (rest := []) (wA := w_32) (wr := []) 12 72 ((578 - 72 * (fu_125 + 1)) + 24) ((3468 - 432 * (fu_125 + 1)) + 144) 670 4029 (c_L_digits l hst D k cA nA tA X_33 w_32 hw_32 v_27 4 (v_36, X_38) hv_35) ⟨hx, hb, hml, hown, hts⟩ (va_cwS 3 hts gL_tells_L_digits rfl rfl rfl (by decide +kernel) ⟨Nat.le_of_ble_eq_true rfl, Nat.le_of_ble_eq_true rfl⟩) hK hG hC hP hD hS hA (List.Perm.refl _) rfl hl.1 rfl (Nat.le_of_ble_eq_true rfl) dL_tells_200 ⟨rfl, rfl⟩ ⟨rfl, rfl⟩ (by omega) (by omega) (fun ov w_37 H locs hQ hP hD hS => ?_)
            obtain ⟨rfl, hw_37⟩ := hQ
            refine W.eq (g2 := F0 m 203 ls [.int v_36]) rfl ?_
            refine lv_if_eq (tgt := 269) hx hb dL_tells_203 (by decide) (fun c_39 => ?_) (fun c_39 => ?_)
            · have h := it_l c_39 h
              refine lv_iconst (v := 0) hx hb dL_tells_269 (by decide) ?_
              refine lv_istore (lv' := [(4, .int 0), (5, .long v_29), (10, .int v_28), (9, .int v_27), (8, .int v_26), (0, .ref (cA 0)), (2, .int p2), (3, .int x3_125), (7, .int x7_125)]) hx hb dL_tells_270 hl (by decide) rfl (fun ls hl => ?_)
              refine lv_iinc (v := (x7_125 + 1)) (lv' := [(7, .int (x7_125 + 1)), (4, .int 0), (5, .long v_29), (10, .int v_28), (9, .int v_27), (8, .int v_26), (0, .ref (cA 0)), (2, .int p2), (3, .int x3_125)]) hx hb dL_tells_272 hl (k := 8) rfl rfl (by decide) rfl (fun ls hl => ?_)
              refine lv_goto (tgt := 125) hx hb dL_tells_275 (by decide) ?_
              refine W.widen (k := (578 - 72 * fu_125)) (n := (3468 - 432 * fu_125)) (by omega) (by omega) ?_
              exact ih_125 x3_125 0 v_29 (x7_125 + 1) X_38 w_37 _ _ _ (by omega) hw_37 hP hD hS (lv_sub hl [6, 7, 8, 1, 2, 0] rfl) h
            · have h := it_r c_39 h
              refine lv_aload_n hx hb dL_tells_206 rfl (lv_at hl 4 rfl) ?_
              refine lv_iload hx hb dL_tells_207 (lv_at hl 1 rfl) ?_
              refine lv_iconst (v := 4) hx hb dL_tells_209 (by decide) ?_
              obtain ⟨⟨v_41, X_43⟩, hv_40, h⟩ := bd_l h
              refine Lo_S (As := [.ref (cA 0), .int v_28, .int 4]) (rest := []) (wA := w_37) (wr := []) 12 72 ((578 - 72 * (fu_125 + 1)) + 36) ((3468 - 432 * (fu_125 + 1)) + 216) 670 4029 (c_L_digits l hst D k cA nA tA X_38 w_37 hw_37 v_28 4 (v_41, X_43) hv_40) ⟨hx, hb, hml, hown, hts⟩ (va_cwS 3 hts gL_tells_L_digits rfl rfl rfl (by decide +kernel) ⟨Nat.le_of_ble_eq_true rfl, Nat.le_of_ble_eq_true rfl⟩) hK hG hC hP hD hS hA (List.Perm.refl _) rfl hl.1 rfl (Nat.le_of_ble_eq_true rfl) dL_tells_210 ⟨rfl, rfl⟩ ⟨rfl, rfl⟩ (by omega) (by omega) (fun ov w_42 H locs hQ hP hD hS => ?_)
              obtain ⟨rfl, hw_42⟩ := hQ
              refine W.eq (g2 := F0 m 213 ls [.int v_41]) rfl ?_
              refine lv_if_eq (tgt := 269) hx hb dL_tells_213 (by decide) (fun c_44 => ?_) (fun c_44 => ?_)
              · have h := it_l c_44 h
                refine lv_iconst (v := 0) hx hb dL_tells_269 (by decide) ?_
                refine lv_istore (lv' := [(4, .int 0), (5, .long v_29), (10, .int v_28), (9, .int v_27), (8, .int v_26), (0, .ref (cA 0)), (2, .int p2), (3, .int x3_125), (7, .int x7_125)]) hx hb dL_tells_270 hl (by decide) rfl (fun ls hl => ?_)
                refine lv_iinc (v := (x7_125 + 1)) (lv' := [(7, .int (x7_125 + 1)), (4, .int 0), (5, .long v_29), (10, .int v_28), (9, .int v_27), (8, .int v_26), (0, .ref (cA 0)), (2, .int p2), (3, .int x3_125)]) hx hb dL_tells_272 hl (k := 8) rfl rfl (by decide) rfl (fun ls hl => ?_)
                refine lv_goto (tgt := 125) hx hb dL_tells_275 (by decide) ?_
                refine W.widen (k := (578 - 72 * fu_125)) (n := (3468 - 432 * fu_125)) (by omega) (by omega) ?_
                exact ih_125 x3_125 0 v_29 (x7_125 + 1) X_43 w_42 _ _ _ (by omega) hw_42 hP hD hS (lv_sub hl [6, 7, 8, 1, 2, 0] rfl) h
              · have h := it_r c_44 h
                refine lv_aload_n hx hb dL_tells_216 rfl (lv_at hl 4 rfl) ?_
                refine lv_iload hx hb dL_tells_217 (lv_at hl 3 rfl) ?_
                refine lv_bipush (v := 7) hx hb dL_tells_219 (by decide) ?_
                refine lv_idiv hx hb dL_tells_221 (by decide) ?_
                refine lv_sipush (v := 300) hx hb dL_tells_222 (by decide) ?_
                refine lv_irem hx hb dL_tells_225 (by decide) ?_
                refine lv_iconst (v := 3) hx hb dL_tells_226 (by decide) ?_
                obtain ⟨⟨v_46, X_48⟩, hv_45, h⟩ := bd_l h
                refine Lo_S (As := [.ref (cA 0), .int ((v_26 / 7) - (v_26 / 7) / 300 * 300), .int 3]) (rest := []) (wA := w_42) (wr := []) 12 72 ((578 - 72 * (fu_125 + 1)) + 48) ((3468 - 432 * (fu_125 + 1)) + 288) 670 4029 (c_L_digits l hst D k cA nA tA X_43 w_42 hw_42 ((v_26 / 7) - (v_26 / 7) / 300 * 300) 3 (v_46, X_48) hv_45) ⟨hx, hb, hml, hown, hts⟩ (va_cwS 3 hts gL_tells_L_digits rfl rfl rfl (by decide +kernel) ⟨Nat.le_of_ble_eq_true rfl, Nat.le_of_ble_eq_true rfl⟩) hK hG hC hP hD hS hA (List.Perm.refl _) rfl hl.1 rfl (Nat.le_of_ble_eq_true rfl) dL_tells_227 ⟨rfl, rfl⟩ ⟨rfl, rfl⟩ (by omega) (by omega) (fun ov w_47 H locs hQ hP hD hS => ?_)
                obtain ⟨rfl, hw_47⟩ := hQ
                refine W.eq (g2 := F0 m 230 ls [.int v_46]) rfl ?_
                refine lv_if_eq (tgt := 269) hx hb dL_tells_230 (by decide) (fun c_49 => ?_) (fun c_49 => ?_)
                · have h := it_l c_49 h
                  refine lv_iconst (v := 0) hx hb dL_tells_269 (by decide) ?_
                  refine lv_istore (lv' := [(4, .int 0), (5, .long v_29), (10, .int v_28), (9, .int v_27), (8, .int v_26), (0, .ref (cA 0)), (2, .int p2), (3, .int x3_125), (7, .int x7_125)]) hx hb dL_tells_270 hl (by decide) rfl (fun ls hl => ?_)
                  refine lv_iinc (v := (x7_125 + 1)) (lv' := [(7, .int (x7_125 + 1)), (4, .int 0), (5, .long v_29), (10, .int v_28), (9, .int v_27), (8, .int v_26), (0, .ref (cA 0)), (2, .int p2), (3, .int x3_125)]) hx hb dL_tells_272 hl (k := 8) rfl rfl (by decide) rfl (fun ls hl => ?_)
                  refine lv_goto (tgt := 125) hx hb dL_tells_275 (by decide) ?_
                  refine W.widen (k := (578 - 72 * fu_125)) (n := (3468 - 432 * fu_125)) (by omega) (by omega) ?_
                  exact ih_125 x3_125 0 v_29 (x7_125 + 1) X_48 w_47 _ _ _ (by omega) hw_47 hP hD hS (lv_sub hl [6, 7, 8, 1, 2, 0] rfl) h
                · have h := it_r c_49 h
                  refine lv_aload_n hx hb dL_tells_233 rfl (lv_at hl 4 rfl) ?_
                  refine lv_iload hx hb dL_tells_234 (lv_at hl 3 rfl) ?_
                  refine lv_bipush (v := 11) hx hb dL_tells_236 (by decide) ?_
                  refine lv_idiv hx hb dL_tells_238 (by decide) ?_
                  refine lv_bipush (v := 91) hx hb dL_tells_239 (by decide) ?_
                  refine lv_irem hx hb dL_tells_241 (by decide) ?_
                  refine lv_iconst (v := 2) hx hb dL_tells_242 (by decide) ?_
                  obtain ⟨⟨v_51, X_53⟩, hv_50, h⟩ := bd_l h
                  refine Lo_S (As := [.ref (cA 0), .int ((v_26 / 11) - (v_26 / 11) / 91 * 91), .int 2]) (rest := []) (wA := w_47) (wr := []) 12 72 ((578 - 72 * (fu_125 + 1)) + 60) ((3468 - 432 * (fu_125 + 1)) + 360) 670 4029 (c_L_digits l hst D k cA nA tA X_48 w_47 hw_47 ((v_26 / 11) - (v_26 / 11) / 91 * 91) 2 (v_51, X_53) hv_50) ⟨hx, hb, hml, hown, hts⟩ (va_cwS 3 hts gL_tells_L_digits rfl rfl rfl (by decide +kernel) ⟨Nat.le_of_ble_eq_true rfl, Nat.le_of_ble_eq_true rfl⟩) hK hG hC hP hD hS hA (List.Perm.refl _) rfl hl.1 rfl (Nat.le_of_ble_eq_true rfl) dL_tells_243 ⟨rfl, rfl⟩ ⟨rfl, rfl⟩ (by omega) (by omega) (fun ov w_52 H locs hQ hP hD hS => ?_)
                  obtain ⟨rfl, hw_52⟩ := hQ
                  refine W.eq (g2 := F0 m 246 ls [.int v_51]) rfl ?_
                  refine lv_if_eq (tgt := 269) hx hb dL_tells_246 (by decide) (fun c_54 => ?_) (fun c_54 => ?_)
                  · have h := it_l c_54 h
                    refine lv_iconst (v := 0) hx hb dL_tells_269 (by decide) ?_
                    refine lv_istore (lv' := [(4, .int 0), (5, .long v_29), (10, .int v_28), (9, .int v_27), (8, .int v_26), (0, .ref (cA 0)), (2, .int p2), (3, .int x3_125), (7, .int x7_125)]) hx hb dL_tells_270 hl (by decide) rfl (fun ls hl => ?_)
                    refine lv_iinc (v := (x7_125 + 1)) (lv' := [(7, .int (x7_125 + 1)), (4, .int 0), (5, .long v_29), (10, .int v_28), (9, .int v_27), (8, .int v_26), (0, .ref (cA 0)), (2, .int p2), (3, .int x3_125)]) hx hb dL_tells_272 hl (k := 8) rfl rfl (by decide) rfl (fun ls hl => ?_)
                    refine lv_goto (tgt := 125) hx hb dL_tells_275 (by decide) ?_
                    refine W.widen (k := (578 - 72 * fu_125)) (n := (3468 - 432 * fu_125)) (by omega) (by omega) ?_
                    exact ih_125 x3_125 0 v_29 (x7_125 + 1) X_53 w_52 _ _ _ (by omega) hw_52 hP hD hS (lv_sub hl [6, 7, 8, 1, 2, 0] rfl) h
                  · have h := it_r c_54 h
                    refine lv_aload_n hx hb dL_tells_249 rfl (lv_at hl 4 rfl) ?_
                    refine lv_iload hx hb dL_tells_250 (lv_at hl 3 rfl) ?_
                    refine lv_bipush (v := 13) hx hb dL_tells_252 (by decide) ?_
                    refine lv_idiv hx hb dL_tells_254 (by decide) ?_
                    refine lv_bipush (v := 100) hx hb dL_tells_255 (by decide) ?_
                    refine lv_irem hx hb dL_tells_257 (by decide) ?_
                    refine lv_iconst (v := 2) hx hb dL_tells_258 (by decide) ?_
                    obtain ⟨⟨v_56, X_58⟩, hv_55, h⟩ := bd_l h
                    refine Lo_S (As := [.ref (cA 0), .int ((v_26 / 13) - (v_26 / 13) / 100 * 100), .int 2]) (rest := []) (wA := w_52) (wr := []) 12 72 ((578 - 72 * (fu_125 + 1)) + 72) ((3468 - 432 * (fu_125 + 1)) + 432) 670 4029 (c_L_digits l hst D k cA nA tA X_53 w_52 hw_52 ((v_26 / 13) - (v_26 / 13) / 100 * 100) 2 (v_56, X_58) hv_55) ⟨hx, hb, hml, hown, hts⟩ (va_cwS 3 hts gL_tells_L_digits rfl rfl rfl (by decide +kernel) ⟨Nat.le_of_ble_eq_true rfl, Nat.le_of_ble_eq_true rfl⟩) hK hG hC hP hD hS hA (List.Perm.refl _) rfl hl.1 rfl (Nat.le_of_ble_eq_true rfl) dL_tells_259 ⟨rfl, rfl⟩ ⟨rfl, rfl⟩ (by omega) (by omega) (fun ov w_57 H locs hQ hP hD hS => ?_)
                    obtain ⟨rfl, hw_57⟩ := hQ
                    refine W.eq (g2 := F0 m 262 ls [.int v_56]) rfl ?_
                    refine lv_if_eq (tgt := 269) hx hb dL_tells_262 (by decide) (fun c_59 => ?_) (fun c_59 => ?_)
                    · have h := it_l c_59 h
                      refine lv_iconst (v := 0) hx hb dL_tells_269 (by decide) ?_
                      refine lv_istore (lv' := [(4, .int 0), (5, .long v_29), (10, .int v_28), (9, .int v_27), (8, .int v_26), (0, .ref (cA 0)), (2, .int p2), (3, .int x3_125), (7, .int x7_125)]) hx hb dL_tells_270 hl (by decide) rfl (fun ls hl => ?_)
                      refine lv_iinc (v := (x7_125 + 1)) (lv' := [(7, .int (x7_125 + 1)), (4, .int 0), (5, .long v_29), (10, .int v_28), (9, .int v_27), (8, .int v_26), (0, .ref (cA 0)), (2, .int p2), (3, .int x3_125)]) hx hb dL_tells_272 hl (k := 8) rfl rfl (by decide) rfl (fun ls hl => ?_)
                      refine lv_goto (tgt := 125) hx hb dL_tells_275 (by decide) ?_
                      refine W.widen (k := (578 - 72 * fu_125)) (n := (3468 - 432 * fu_125)) (by omega) (by omega) ?_
                      exact ih_125 x3_125 0 v_29 (x7_125 + 1) X_58 w_57 _ _ _ (by omega) hw_57 hP hD hS (lv_sub hl [6, 7, 8, 1, 2, 0] rfl) h
                    · have h := it_r c_59 h
                      refine lv_iconst (v := 1) hx hb dL_tells_265 (by decide) ?_
                      refine lv_goto (tgt := 270) hx hb dL_tells_266 (by decide) ?_
                      refine lv_istore (lv' := [(4, .int 1), (5, .long v_29), (10, .int v_28), (9, .int v_27), (8, .int v_26), (0, .ref (cA 0)), (2, .int p2), (3, .int x3_125), (7, .int x7_125)]) hx hb dL_tells_270 hl (by decide) rfl (fun ls hl => ?_)
                      refine lv_iinc (v := (x7_125 + 1)) (lv' := [(7, .int (x7_125 + 1)), (4, .int 1), (5, .long v_29), (10, .int v_28), (9, .int v_27), (8, .int v_26), (0, .ref (cA 0)), (2, .int p2), (3, .int x3_125)]) hx hb dL_tells_272 hl (k := 8) rfl rfl (by decide) rfl (fun ls hl => ?_)
                      refine lv_goto (tgt := 125) hx hb dL_tells_275 (by decide) ?_
                      refine W.widen (k := (578 - 72 * fu_125)) (n := (3468 - 432 * fu_125)) (by omega) (by omega) ?_
                      exact ih_125 x3_125 1 v_29 (x7_125 + 1) X_58 w_57 _ _ _ (by omega) hw_57 hP hD hS (lv_sub hl [6, 7, 8, 1, 2, 0] rfl) h
  refine lv_iconst (v := 2) hx hb dL_tells_0 (by decide) ?_
  refine lv_iload_n hx hb dL_tells_1 rfl (lv_at hl 1 rfl) ?_
  refine lv_iconst (v := 5) hx hb dL_tells_2 (by decide) ?_
  refine lv_irem hx hb dL_tells_3 (by decide) ?_
  refine lv_iadd hx hb dL_tells_4 ?_
  refine lv_topi (fun v_60 ev_60 => ?_)
  have h := nm_l h ev_60
  refine lv_istore_n (lv' := [(3, .int v_60), (0, .ref (cA 0)), (1, .int p1), (2, .int p2)]) hx hb dL_tells_5 rfl hl (by decide) rfl (fun ls hl => ?_)
  refine lv_aload_n hx hb dL_tells_6 rfl (lv_at hl 1 rfl) ?_
  obtain ⟨⟨v_62, X_64⟩, hv_61, h⟩ := bd_l h
  refine Lo_V (As := []) (rest := []) (wA := w) (wr := []) 0 0 (0) (0) 670 4029 (co_clearText l hst D k cA nA tA X w hw (v_62, X_64) hv_61) ⟨hx, hb, hml, hown, hts⟩ (cwV 0 hts gL_tells_X1_clearText rfl rfl rfl (by decide +kernel) ⟨Nat.le_of_ble_eq_true rfl, Nat.le_of_ble_eq_true rfl⟩) hK hG hP hD hS hA (List.Perm.refl _) rfl hl.1 rfl (Nat.le_of_ble_eq_true rfl) dL_tells_7 ⟨rfl, rfl⟩ ⟨rfl, rfl⟩ (by omega) (by omega) (fun ov w_63 H locs hQ hP hD hS => ?_)
  obtain ⟨rfl, hw_63⟩ := hQ
  refine W.eq (g2 := F0 m 10 ls [.int v_62]) rfl ?_
  refine lv_if_lt (tgt := 116) hx hb dL_tells_10 (by decide) (fun c_65 => ?_) (fun c_65 => ?_)
  · have h := it_l c_65 h
    refine lv_iconst (v := 0) hx hb dL_tells_116 (by decide) ?_
    refine lv_istore (lv' := [(4, .int 0), (3, .int v_60), (0, .ref (cA 0)), (1, .int p1), (2, .int p2)]) hx hb dL_tells_117 hl (by decide) rfl (fun ls hl => ?_)
    refine lv_lconst (v := 0) hx hb dL_tells_119 (by decide) ?_
    refine lv_lstore (lv' := [(5, .long 0), (4, .int 0), (3, .int v_60), (0, .ref (cA 0)), (1, .int p1), (2, .int p2)]) hx hb dL_tells_120 hl (by decide) rfl (fun ls hl => ?_)
    refine lv_iconst (v := 0) hx hb dL_tells_122 (by decide) ?_
    refine lv_istore (lv' := [(7, .int 0), (5, .long 0), (4, .int 0), (3, .int v_60), (0, .ref (cA 0)), (1, .int p1), (2, .int p2)]) hx hb dL_tells_123 hl (by decide) rfl (fun ls hl => ?_)
    refine W.widen (k := (578 - 72 * 7)) (n := (3468 - 432 * 7)) (by omega) (by omega) ?_
    exact hC_125 7 v_60 0 0 0 X_64 w_63 _ _ _ (Nat.le_refl _) hw_63 hP hD hS (lv_sub hl [4, 6, 3, 2, 1, 0] rfl) h
  · have h := it_r c_65 h
    refine lv_aload_n hx hb dL_tells_13 rfl (lv_at hl 1 rfl) ?_
    refine lv_bipush (v := 69) hx hb dL_tells_14 (by decide) ?_
    obtain ⟨⟨v_67, X_69⟩, hv_66, h⟩ := bd_l h
    refine Lo_T (As := [.ref (cA 0), .int 69]) (rest := []) (wA := w_63) (wr := []) 2 12 (2) (12) 670 4029 (co_append l hst D k cA nA tA X_64 w_63 hw_63 69 (v_67, X_69) hv_66) ⟨hx, hb, hml, hown, hts⟩ (vx_cwSW 2 hts gL_tells_L_append rfl rfl rfl (by decide +kernel) ⟨Nat.le_of_ble_eq_true rfl, Nat.le_of_ble_eq_true rfl⟩) hK hG hC hP hD hS hA (List.Perm.refl _) rfl hl.1 rfl (Nat.le_of_ble_eq_true rfl) dL_tells_16 ⟨rfl, rfl⟩ ⟨rfl, rfl⟩ (by omega) (by omega) (fun ov w_68 H locs hQ hP hD hS => ?_)
    obtain ⟨rfl, hw_68⟩ := hQ
    refine W.eq (g2 := F0 m 19 ls [.long v_67]) rfl ?_
    refine lv_lconst (v := 1) hx hb dL_tells_19 (by decide) ?_
    refine W.lcmp hx hb dL_tells_20 ?_
    refine lv_if_ne (tgt := 116) hx hb dL_tells_21 (by decide) (fun c_70 => ?_) (fun c_70 => ?_)
    · have h := it_r c_70 h
      refine lv_iconst (v := 0) hx hb dL_tells_116 (by decide) ?_
      refine lv_istore (lv' := [(4, .int 0), (3, .int v_60), (0, .ref (cA 0)), (1, .int p1), (2, .int p2)]) hx hb dL_tells_117 hl (by decide) rfl (fun ls hl => ?_)
      refine lv_lconst (v := 0) hx hb dL_tells_119 (by decide) ?_
      refine lv_lstore (lv' := [(5, .long 0), (4, .int 0), (3, .int v_60), (0, .ref (cA 0)), (1, .int p1), (2, .int p2)]) hx hb dL_tells_120 hl (by decide) rfl (fun ls hl => ?_)
      refine lv_iconst (v := 0) hx hb dL_tells_122 (by decide) ?_
      refine lv_istore (lv' := [(7, .int 0), (5, .long 0), (4, .int 0), (3, .int v_60), (0, .ref (cA 0)), (1, .int p1), (2, .int p2)]) hx hb dL_tells_123 hl (by decide) rfl (fun ls hl => ?_)
      refine W.widen (k := (578 - 72 * 7)) (n := (3468 - 432 * 7)) (by omega) (by omega) ?_
      exact hC_125 7 v_60 0 0 0 X_69 w_68 _ _ _ (Nat.le_refl _) hw_68 hP hD hS (lv_sub hl [4, 6, 3, 2, 1, 0] rfl) h
    · have h := it_l c_70 h
      refine lv_aload_n hx hb dL_tells_24 rfl (lv_at hl 1 rfl) ?_
      refine lv_iload_n hx hb dL_tells_25 rfl (lv_at hl 0 rfl) ?_
      refine lv_iconst (v := 1) hx hb dL_tells_26 (by decide) ?_
      obtain ⟨⟨v_72, X_74⟩, hv_71, h⟩ := bd_l h
      refine Lo_S (As := [.ref (cA 0), .int v_60, .int 1]) (rest := []) (wA := w_68) (wr := []) 12 72 (14) (84) 670 4029 (c_L_digits l hst D k cA nA tA X_69 w_68 hw_68 v_60 1 (v_72, X_74) hv_71) ⟨hx, hb, hml, hown, hts⟩ (va_cwS 3 hts gL_tells_L_digits rfl rfl rfl (by decide +kernel) ⟨Nat.le_of_ble_eq_true rfl, Nat.le_of_ble_eq_true rfl⟩) hK hG hC hP hD hS hA (List.Perm.refl _) rfl hl.1 rfl (Nat.le_of_ble_eq_true rfl) dL_tells_27 ⟨rfl, rfl⟩ ⟨rfl, rfl⟩ (by omega) (by omega) (fun ov w_73 H locs hQ hP hD hS => ?_)
      obtain ⟨rfl, hw_73⟩ := hQ
      refine W.eq (g2 := F0 m 30 ls [.int v_72]) rfl ?_
      refine lv_if_eq (tgt := 116) hx hb dL_tells_30 (by decide) (fun c_75 => ?_) (fun c_75 => ?_)
      · have h := it_l c_75 h
        refine lv_iconst (v := 0) hx hb dL_tells_116 (by decide) ?_
        refine lv_istore (lv' := [(4, .int 0), (3, .int v_60), (0, .ref (cA 0)), (1, .int p1), (2, .int p2)]) hx hb dL_tells_117 hl (by decide) rfl (fun ls hl => ?_)
        refine lv_lconst (v := 0) hx hb dL_tells_119 (by decide) ?_
        refine lv_lstore (lv' := [(5, .long 0), (4, .int 0), (3, .int v_60), (0, .ref (cA 0)), (1, .int p1), (2, .int p2)]) hx hb dL_tells_120 hl (by decide) rfl (fun ls hl => ?_)
        refine lv_iconst (v := 0) hx hb dL_tells_122 (by decide) ?_
        refine lv_istore (lv' := [(7, .int 0), (5, .long 0), (4, .int 0), (3, .int v_60), (0, .ref (cA 0)), (1, .int p1), (2, .int p2)]) hx hb dL_tells_123 hl (by decide) rfl (fun ls hl => ?_)
        refine W.widen (k := (578 - 72 * 7)) (n := (3468 - 432 * 7)) (by omega) (by omega) ?_
        exact hC_125 7 v_60 0 0 0 X_74 w_73 _ _ _ (Nat.le_refl _) hw_73 hP hD hS (lv_sub hl [4, 6, 3, 2, 1, 0] rfl) h
      · have h := it_r c_75 h
        refine lv_aload_n hx hb dL_tells_33 rfl (lv_at hl 1 rfl) ?_
        refine lv_iload_n hx hb dL_tells_34 rfl (lv_at hl 2 rfl) ?_
        refine lv_iconst (v := 5) hx hb dL_tells_35 (by decide) ?_
        refine lv_idiv hx hb dL_tells_36 (by decide) ?_
        refine lv_sipush (v := 1000) hx hb dL_tells_37 (by decide) ?_
        refine lv_irem hx hb dL_tells_40 (by decide) ?_
        refine lv_iconst (v := 3) hx hb dL_tells_41 (by decide) ?_
        obtain ⟨⟨v_77, X_79⟩, hv_76, h⟩ := bd_l h
        refine Lo_S (As := [.ref (cA 0), .int ((p1 / 5) - (p1 / 5) / 1000 * 1000), .int 3]) (rest := []) (wA := w_73) (wr := []) 12 72 (26) (156) 670 4029 (c_L_digits l hst D k cA nA tA X_74 w_73 hw_73 ((p1 / 5) - (p1 / 5) / 1000 * 1000) 3 (v_77, X_79) hv_76) ⟨hx, hb, hml, hown, hts⟩ (va_cwS 3 hts gL_tells_L_digits rfl rfl rfl (by decide +kernel) ⟨Nat.le_of_ble_eq_true rfl, Nat.le_of_ble_eq_true rfl⟩) hK hG hC hP hD hS hA (List.Perm.refl _) rfl hl.1 rfl (Nat.le_of_ble_eq_true rfl) dL_tells_42 ⟨rfl, rfl⟩ ⟨rfl, rfl⟩ (by omega) (by omega) (fun ov w_78 H locs hQ hP hD hS => ?_)
        obtain ⟨rfl, hw_78⟩ := hQ
        refine W.eq (g2 := F0 m 45 ls [.int v_77]) rfl ?_
        refine lv_if_eq (tgt := 116) hx hb dL_tells_45 (by decide) (fun c_80 => ?_) (fun c_80 => ?_)
        · have h := it_l c_80 h
          refine lv_iconst (v := 0) hx hb dL_tells_116 (by decide) ?_
          refine lv_istore (lv' := [(4, .int 0), (3, .int v_60), (0, .ref (cA 0)), (1, .int p1), (2, .int p2)]) hx hb dL_tells_117 hl (by decide) rfl (fun ls hl => ?_)
          refine lv_lconst (v := 0) hx hb dL_tells_119 (by decide) ?_
          refine lv_lstore (lv' := [(5, .long 0), (4, .int 0), (3, .int v_60), (0, .ref (cA 0)), (1, .int p1), (2, .int p2)]) hx hb dL_tells_120 hl (by decide) rfl (fun ls hl => ?_)
          refine lv_iconst (v := 0) hx hb dL_tells_122 (by decide) ?_
          refine lv_istore (lv' := [(7, .int 0), (5, .long 0), (4, .int 0), (3, .int v_60), (0, .ref (cA 0)), (1, .int p1), (2, .int p2)]) hx hb dL_tells_123 hl (by decide) rfl (fun ls hl => ?_)
          refine W.widen (k := (578 - 72 * 7)) (n := (3468 - 432 * 7)) (by omega) (by omega) ?_
          exact hC_125 7 v_60 0 0 0 X_79 w_78 _ _ _ (Nat.le_refl _) hw_78 hP hD hS (lv_sub hl [4, 6, 3, 2, 1, 0] rfl) h
        · have h := it_r c_80 h
          refine lv_aload_n hx hb dL_tells_48 rfl (lv_at hl 1 rfl) ?_
          refine lv_iload_n hx hb dL_tells_49 rfl (lv_at hl 2 rfl) ?_
          refine lv_sipush (v := 5000) hx hb dL_tells_50 (by decide) ?_
          refine lv_idiv hx hb dL_tells_53 (by decide) ?_
          refine lv_sipush (v := 400) hx hb dL_tells_54 (by decide) ?_
          refine lv_irem hx hb dL_tells_57 (by decide) ?_
          refine lv_iconst (v := 3) hx hb dL_tells_58 (by decide) ?_
          obtain ⟨⟨v_82, X_84⟩, hv_81, h⟩ := bd_l h
          refine Lo_S (As := [.ref (cA 0), .int ((p1 / 5000) - (p1 / 5000) / 400 * 400), .int 3]) (rest := []) (wA := w_78) (wr := []) 12 72 (38) (228) 670 4029 (c_L_digits l hst D k cA nA tA X_79 w_78 hw_78 ((p1 / 5000) - (p1 / 5000) / 400 * 400) 3 (v_82, X_84) hv_81) ⟨hx, hb, hml, hown, hts⟩ (va_cwS 3 hts gL_tells_L_digits rfl rfl rfl (by decide +kernel) ⟨Nat.le_of_ble_eq_true rfl, Nat.le_of_ble_eq_true rfl⟩) hK hG hC hP hD hS hA (List.Perm.refl _) rfl hl.1 rfl (Nat.le_of_ble_eq_true rfl) dL_tells_59 ⟨rfl, rfl⟩ ⟨rfl, rfl⟩ (by omega) (by omega) (fun ov w_83 H locs hQ hP hD hS => ?_)
          obtain ⟨rfl, hw_83⟩ := hQ
          refine W.eq (g2 := F0 m 62 ls [.int v_82]) rfl ?_
          refine lv_if_eq (tgt := 116) hx hb dL_tells_62 (by decide) (fun c_85 => ?_) (fun c_85 => ?_)
          · have h := it_l c_85 h
            refine lv_iconst (v := 0) hx hb dL_tells_116 (by decide) ?_
            refine lv_istore (lv' := [(4, .int 0), (3, .int v_60), (0, .ref (cA 0)), (1, .int p1), (2, .int p2)]) hx hb dL_tells_117 hl (by decide) rfl (fun ls hl => ?_)
            refine lv_lconst (v := 0) hx hb dL_tells_119 (by decide) ?_
            refine lv_lstore (lv' := [(5, .long 0), (4, .int 0), (3, .int v_60), (0, .ref (cA 0)), (1, .int p1), (2, .int p2)]) hx hb dL_tells_120 hl (by decide) rfl (fun ls hl => ?_)
            refine lv_iconst (v := 0) hx hb dL_tells_122 (by decide) ?_
            refine lv_istore (lv' := [(7, .int 0), (5, .long 0), (4, .int 0), (3, .int v_60), (0, .ref (cA 0)), (1, .int p1), (2, .int p2)]) hx hb dL_tells_123 hl (by decide) rfl (fun ls hl => ?_)
            refine W.widen (k := (578 - 72 * 7)) (n := (3468 - 432 * 7)) (by omega) (by omega) ?_
            exact hC_125 7 v_60 0 0 0 X_84 w_83 _ _ _ (Nat.le_refl _) hw_83 hP hD hS (lv_sub hl [4, 6, 3, 2, 1, 0] rfl) h
          · have h := it_r c_85 h
            refine lv_aload_n hx hb dL_tells_65 rfl (lv_at hl 1 rfl) ?_
            refine lv_iload_n hx hb dL_tells_66 rfl (lv_at hl 3 rfl) ?_
            refine lv_bipush (v := 100) hx hb dL_tells_67 (by decide) ?_
            refine lv_irem hx hb dL_tells_69 (by decide) ?_
            refine lv_iconst (v := 2) hx hb dL_tells_70 (by decide) ?_
            obtain ⟨⟨v_87, X_89⟩, hv_86, h⟩ := bd_l h
            refine Lo_S (As := [.ref (cA 0), .int (p2 - p2 / 100 * 100), .int 2]) (rest := []) (wA := w_83) (wr := []) 12 72 (50) (300) 670 4029 (c_L_digits l hst D k cA nA tA X_84 w_83 hw_83 (p2 - p2 / 100 * 100) 2 (v_87, X_89) hv_86) ⟨hx, hb, hml, hown, hts⟩ (va_cwS 3 hts gL_tells_L_digits rfl rfl rfl (by decide +kernel) ⟨Nat.le_of_ble_eq_true rfl, Nat.le_of_ble_eq_true rfl⟩) hK hG hC hP hD hS hA (List.Perm.refl _) rfl hl.1 rfl (Nat.le_of_ble_eq_true rfl) dL_tells_71 ⟨rfl, rfl⟩ ⟨rfl, rfl⟩ (by omega) (by omega) (fun ov w_88 H locs hQ hP hD hS => ?_)
            obtain ⟨rfl, hw_88⟩ := hQ
            refine W.eq (g2 := F0 m 74 ls [.int v_87]) rfl ?_
            refine lv_if_eq (tgt := 116) hx hb dL_tells_74 (by decide) (fun c_90 => ?_) (fun c_90 => ?_)
            · have h := it_l c_90 h
              refine lv_iconst (v := 0) hx hb dL_tells_116 (by decide) ?_
              refine lv_istore (lv' := [(4, .int 0), (3, .int v_60), (0, .ref (cA 0)), (1, .int p1), (2, .int p2)]) hx hb dL_tells_117 hl (by decide) rfl (fun ls hl => ?_)
              refine lv_lconst (v := 0) hx hb dL_tells_119 (by decide) ?_
              refine lv_lstore (lv' := [(5, .long 0), (4, .int 0), (3, .int v_60), (0, .ref (cA 0)), (1, .int p1), (2, .int p2)]) hx hb dL_tells_120 hl (by decide) rfl (fun ls hl => ?_)
              refine lv_iconst (v := 0) hx hb dL_tells_122 (by decide) ?_
              refine lv_istore (lv' := [(7, .int 0), (5, .long 0), (4, .int 0), (3, .int v_60), (0, .ref (cA 0)), (1, .int p1), (2, .int p2)]) hx hb dL_tells_123 hl (by decide) rfl (fun ls hl => ?_)
              refine W.widen (k := (578 - 72 * 7)) (n := (3468 - 432 * 7)) (by omega) (by omega) ?_
              exact hC_125 7 v_60 0 0 0 X_89 w_88 _ _ _ (Nat.le_refl _) hw_88 hP hD hS (lv_sub hl [4, 6, 3, 2, 1, 0] rfl) h
            · have h := it_r c_90 h
              refine lv_aload_n hx hb dL_tells_77 rfl (lv_at hl 1 rfl) ?_
              refine lv_iload_n hx hb dL_tells_78 rfl (lv_at hl 3 rfl) ?_
              refine lv_bipush (v := 100) hx hb dL_tells_79 (by decide) ?_
              refine lv_idiv hx hb dL_tells_81 (by decide) ?_
              refine lv_iconst (v := 4) hx hb dL_tells_82 (by decide) ?_
              refine lv_irem hx hb dL_tells_83 (by decide) ?_
              refine lv_bipush (v := 7) hx hb dL_tells_84 (by decide) ?_
              refine lv_imul hx hb dL_tells_86 ?_
              refine lv_iconst (v := 2) hx hb dL_tells_87 (by decide) ?_
              obtain ⟨⟨v_92, X_94⟩, hv_91, h⟩ := bd_l h
              refine Lo_S (As := [.ref (cA 0), .int (((p2 / 100) - (p2 / 100) / 4 * 4) * 7), .int 2]) (rest := []) (wA := w_88) (wr := []) 12 72 (62) (372) 670 4029 (c_L_digits l hst D k cA nA tA X_89 w_88 hw_88 (((p2 / 100) - (p2 / 100) / 4 * 4) * 7) 2 (v_92, X_94) hv_91) ⟨hx, hb, hml, hown, hts⟩ (va_cwS 3 hts gL_tells_L_digits rfl rfl rfl (by decide +kernel) ⟨Nat.le_of_ble_eq_true rfl, Nat.le_of_ble_eq_true rfl⟩) hK hG hC hP hD hS hA (List.Perm.refl _) rfl hl.1 rfl (Nat.le_of_ble_eq_true rfl) dL_tells_88 ⟨rfl, rfl⟩ ⟨rfl, rfl⟩ (by omega) (by omega) (fun ov w_93 H locs hQ hP hD hS => ?_)
              obtain ⟨rfl, hw_93⟩ := hQ
              refine W.eq (g2 := F0 m 91 ls [.int v_92]) rfl ?_
              refine lv_if_eq (tgt := 116) hx hb dL_tells_91 (by decide) (fun c_95 => ?_) (fun c_95 => ?_)
              · have h := it_l c_95 h
                refine lv_iconst (v := 0) hx hb dL_tells_116 (by decide) ?_
                refine lv_istore (lv' := [(4, .int 0), (3, .int v_60), (0, .ref (cA 0)), (1, .int p1), (2, .int p2)]) hx hb dL_tells_117 hl (by decide) rfl (fun ls hl => ?_)
                refine lv_lconst (v := 0) hx hb dL_tells_119 (by decide) ?_
                refine lv_lstore (lv' := [(5, .long 0), (4, .int 0), (3, .int v_60), (0, .ref (cA 0)), (1, .int p1), (2, .int p2)]) hx hb dL_tells_120 hl (by decide) rfl (fun ls hl => ?_)
                refine lv_iconst (v := 0) hx hb dL_tells_122 (by decide) ?_
                refine lv_istore (lv' := [(7, .int 0), (5, .long 0), (4, .int 0), (3, .int v_60), (0, .ref (cA 0)), (1, .int p1), (2, .int p2)]) hx hb dL_tells_123 hl (by decide) rfl (fun ls hl => ?_)
                refine W.widen (k := (578 - 72 * 7)) (n := (3468 - 432 * 7)) (by omega) (by omega) ?_
                exact hC_125 7 v_60 0 0 0 X_94 w_93 _ _ _ (Nat.le_refl _) hw_93 hP hD hS (lv_sub hl [4, 6, 3, 2, 1, 0] rfl) h
              · have h := it_r c_95 h
                refine lv_aload_n hx hb dL_tells_94 rfl (lv_at hl 1 rfl) ?_
                refine lv_iconst (v := 1) hx hb dL_tells_95 (by decide) ?_
                refine lv_iload_n hx hb dL_tells_96 rfl (lv_at hl 3 rfl) ?_
                refine lv_sipush (v := 400) hx hb dL_tells_97 (by decide) ?_
                refine lv_idiv hx hb dL_tells_100 (by decide) ?_
                refine lv_bipush (v := 20) hx hb dL_tells_101 (by decide) ?_
                refine lv_irem hx hb dL_tells_103 (by decide) ?_
                refine lv_iadd hx hb dL_tells_104 ?_
                refine lv_iconst (v := 2) hx hb dL_tells_105 (by decide) ?_
                obtain ⟨⟨v_97, X_99⟩, hv_96, h⟩ := bd_l h
                refine Lo_S (As := [.ref (cA 0), .int (1 + ((p2 / 400) - (p2 / 400) / 20 * 20)), .int 2]) (rest := []) (wA := w_93) (wr := []) 12 72 (74) (444) 670 4029 (c_L_digits l hst D k cA nA tA X_94 w_93 hw_93 (1 + ((p2 / 400) - (p2 / 400) / 20 * 20)) 2 (v_97, X_99) hv_96) ⟨hx, hb, hml, hown, hts⟩ (va_cwS 3 hts gL_tells_L_digits rfl rfl rfl (by decide +kernel) ⟨Nat.le_of_ble_eq_true rfl, Nat.le_of_ble_eq_true rfl⟩) hK hG hC hP hD hS hA (List.Perm.refl _) rfl hl.1 rfl (Nat.le_of_ble_eq_true rfl) dL_tells_106 ⟨rfl, rfl⟩ ⟨rfl, rfl⟩ (by omega) (by omega) (fun ov w_98 H locs hQ hP hD hS => ?_)
                obtain ⟨rfl, hw_98⟩ := hQ
                refine W.eq (g2 := F0 m 109 ls [.int v_97]) rfl ?_
                refine lv_if_eq (tgt := 116) hx hb dL_tells_109 (by decide) (fun c_100 => ?_) (fun c_100 => ?_)
                · have h := it_l c_100 h
                  refine lv_iconst (v := 0) hx hb dL_tells_116 (by decide) ?_
                  refine lv_istore (lv' := [(4, .int 0), (3, .int v_60), (0, .ref (cA 0)), (1, .int p1), (2, .int p2)]) hx hb dL_tells_117 hl (by decide) rfl (fun ls hl => ?_)
                  refine lv_lconst (v := 0) hx hb dL_tells_119 (by decide) ?_
                  refine lv_lstore (lv' := [(5, .long 0), (4, .int 0), (3, .int v_60), (0, .ref (cA 0)), (1, .int p1), (2, .int p2)]) hx hb dL_tells_120 hl (by decide) rfl (fun ls hl => ?_)
                  refine lv_iconst (v := 0) hx hb dL_tells_122 (by decide) ?_
                  refine lv_istore (lv' := [(7, .int 0), (5, .long 0), (4, .int 0), (3, .int v_60), (0, .ref (cA 0)), (1, .int p1), (2, .int p2)]) hx hb dL_tells_123 hl (by decide) rfl (fun ls hl => ?_)
                  refine W.widen (k := (578 - 72 * 7)) (n := (3468 - 432 * 7)) (by omega) (by omega) ?_
                  exact hC_125 7 v_60 0 0 0 X_99 w_98 _ _ _ (Nat.le_refl _) hw_98 hP hD hS (lv_sub hl [4, 6, 3, 2, 1, 0] rfl) h
                · have h := it_r c_100 h
                  refine lv_iconst (v := 1) hx hb dL_tells_112 (by decide) ?_
                  refine lv_goto (tgt := 117) hx hb dL_tells_113 (by decide) ?_
                  refine lv_istore (lv' := [(4, .int 1), (3, .int v_60), (0, .ref (cA 0)), (1, .int p1), (2, .int p2)]) hx hb dL_tells_117 hl (by decide) rfl (fun ls hl => ?_)
                  refine lv_lconst (v := 0) hx hb dL_tells_119 (by decide) ?_
                  refine lv_lstore (lv' := [(5, .long 0), (4, .int 1), (3, .int v_60), (0, .ref (cA 0)), (1, .int p1), (2, .int p2)]) hx hb dL_tells_120 hl (by decide) rfl (fun ls hl => ?_)
                  refine lv_iconst (v := 0) hx hb dL_tells_122 (by decide) ?_
                  refine lv_istore (lv' := [(7, .int 0), (5, .long 0), (4, .int 1), (3, .int v_60), (0, .ref (cA 0)), (1, .int p1), (2, .int p2)]) hx hb dL_tells_123 hl (by decide) rfl (fun ls hl => ?_)
                  refine W.widen (k := (578 - 72 * 7)) (n := (3468 - 432 * 7)) (by omega) (by omega) ?_
                  exact hC_125 7 v_60 1 0 0 X_99 w_98 _ _ _ (Nat.le_refl _) hw_98 hP hD hS (lv_sub hl [4, 6, 3, 2, 1, 0] rfl) h
