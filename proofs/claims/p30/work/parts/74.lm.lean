noncomputable def f_L_in (p0 : Int64) (p2 : Int64) (p4 : Int64) : Option (Int32) := if (lg_cmp p0 p2) < 0 then (some (0)) else (if 0 < (lg_cmp p0 p4) then (some (0)) else (some (1)))
set_option maxRecDepth 100000 in
set_option maxHeartbeats 4000000 in
theorem c_L_in (l : Launch) (hst : l.stackTraces = false) (D : va_G) (k : Nat → ClassId) (p0 : Int64) (p2 : Int64) (p4 : Int64) (o : Int32) (h : f_L_in p0 p2 p4 = some o) : CO l D k yL_in wsL_in ({ frames := 0, cells := 0, slots := 0, locals := 0 } : Room) [.long p0, .long p2, .long p4] ([]) (fun (ov : Option Value) (w' : va_W) => ov = some (.int o) ∧ w' = []) := by
  obtain ⟨B9, hB9⟩ : ∃ B : Option Value → va_W → Prop, B = fun (ov : Option Value) (w' : va_W) => ov = some (.int o) ∧ w' = [] := ⟨_, rfl⟩
  refine CO.of (P := B9) ?_ (fun ov w' h9 => by rw [hB9] at h9; exact h9)
  refine Cl_of0 (cc := cL_in) (maxL := 6) (ret := (some .boolean)) (by decide) rfl (Nat.le_of_ble_eq_true rfl) ?_
  intro p e s m args below meth c A ls hx hb hr hml hts hown hlocks hK hG hC hA hP hD hS hl
  have hl : lv_has ls 6 [(0, .long p0), (2, .long p2), (4, .long p4)] := hl
  unfold f_L_in at h
  refine lv_lload_n hx hb dL_in_0 rfl (lv_at hl 0 rfl) ?_
  refine lv_lload_n hx hb dL_in_1 rfl (lv_at hl 1 rfl) ?_
  refine W.lcmp hx hb dL_in_2 ?_
  refine lv_if_lt (tgt := 17) hx hb dL_in_3 (by decide) (fun c_1 => ?_) (fun c_1 => ?_)
  · have h := it_l c_1 h
    refine lv_iconst (v := 0) hx hb dL_in_17 (by decide) ?_
    cases h
    exact Cx_zret (B := B9) rfl (by rw [hB9]; exact ⟨rfl, rfl⟩) (by show 0 ≤ 0; omega) (by show 0 ≤ 0; omega) hx hb hr (by decide) hP hD hS dL_in_18 hlocks
  · have h := it_r c_1 h
    refine lv_lload_n hx hb dL_in_6 rfl (lv_at hl 0 rfl) ?_
    refine lv_lload hx hb dL_in_7 (lv_at hl 2 rfl) ?_
    refine W.lcmp hx hb dL_in_9 ?_
    refine lv_if_gt (tgt := 17) hx hb dL_in_10 (by decide) (fun c_2 => ?_) (fun c_2 => ?_)
    · have h := it_l c_2 h
      refine lv_iconst (v := 0) hx hb dL_in_17 (by decide) ?_
      cases h
      exact Cx_zret (B := B9) rfl (by rw [hB9]; exact ⟨rfl, rfl⟩) (by show 0 ≤ 0; omega) (by show 0 ≤ 0; omega) hx hb hr (by decide) hP hD hS dL_in_18 hlocks
    · have h := it_r c_2 h
      refine lv_iconst (v := 1) hx hb dL_in_13 (by decide) ?_
      refine lv_goto (tgt := 18) hx hb dL_in_14 (by decide) ?_
      cases h
      exact Cx_zret (B := B9) rfl (by rw [hB9]; exact ⟨rfl, rfl⟩) (by show 0 ≤ 0; omega) (by show 0 ≤ 0; omega) hx hb hr (by decide) hP hD hS dL_in_18 hlocks
noncomputable def f_L_effects (X : XV) : Option (Int32) := bd (o_about X 0) fun v_2 => some ((v_2.toInt32))
set_option maxRecDepth 100000 in
set_option maxHeartbeats 4000000 in
theorem c_L_effects (l : Launch) (hst : l.stackTraces = false) (D : va_G) (k : Nat → ClassId) (cA nA tA : Nat → Nat) (X : XV) (w : va_W) (hw : Ob k cA nA tA X w) (o : Int32) (h : f_L_effects X = some o) : CO l D k yL_effects wsL_effects ({ frames := 9, cells := 1, slots := 6, locals := 147 } : Room) [.ref (cA 0)] (w) (fun (ov : Option Value) (w' : va_W) => ov = some (.int o) ∧ Ob k cA nA tA X w') := by
  obtain ⟨B9, hB9⟩ : ∃ B : Option Value → va_W → Prop, B = fun (ov : Option Value) (w' : va_W) => ov = some (.int o) ∧ Ob k cA nA tA X w' := ⟨_, rfl⟩
  refine CO.of (P := B9) ?_ (fun ov w' h9 => by rw [hB9] at h9; exact h9)
  refine Cl_of0 (cc := cL_effects) (maxL := 1) (ret := (some .int)) (by decide) rfl (Nat.le_of_ble_eq_true rfl) ?_
  intro p e s m args below meth c A ls hx hb hr hml hts hown hlocks hK hG hC hA hP hD hS hl
  have hl : lv_has ls 1 [(0, .ref (cA 0))] := hl
  have hP := P_n hP
  have hD := D_n hD
  unfold f_L_effects at h
  refine lv_aload_n hx hb dL_effects_0 rfl (lv_at hl 0 rfl) ?_
  refine lv_iconst (v := 0) hx hb dL_effects_1 (by decide) ?_
  obtain ⟨v_2, hv_1, h⟩ := bd_l h
  refine Lo_T (As := [.ref (cA 0), .int 0]) (rest := []) (wA := w) (wr := []) 1 6 (1) (6) 1 6 (co_about l hst D k cA nA tA X w hw 0 v_2 hv_1) ⟨hx, hb, hml, hown, hts⟩ (vx_cwSW 2 hts gL_effects_L_about rfl rfl rfl (by decide +kernel) ⟨Nat.le_of_ble_eq_true rfl, Nat.le_of_ble_eq_true rfl⟩) hK hG hC hP hD hS hA (List.Perm.refl _) rfl hl.1 rfl (Nat.le_of_ble_eq_true rfl) dL_effects_2 ⟨rfl, rfl⟩ ⟨rfl, rfl⟩ (by omega) (by omega) (fun ov w_3 H locs hQ hP hD hS => ?_)
  obtain ⟨rfl, hw_3⟩ := hQ
  refine W.eq (g2 := F0 m 5 ls [.long v_2]) rfl ?_
  refine lv_l2i hx hb dL_effects_5 rfl ?_
  cases h
  exact Cx_iret (B := B9) rfl (by rw [hB9]; exact ⟨rfl, hw_3⟩) (by show 1 ≤ 1; omega) (by show 6 ≤ 6; omega) hx hb hr (P_l hP) (D_l hD) hS dL_effects_6 hlocks
noncomputable def f_L_now_57 (k_46 : Int64 → Int32 → Option (Int64)) (X : XV) : Nat → Int64 → Int32 → Int32 → Option (Int64)
  | 0, _, _, _ => none
  | fu + 1, x1_57, x3_57, x4_57 => if 10 ≤ x4_57 then (k_46 x1_57 (x3_57 + 1)) else (bd (o_effect X x3_57 x4_57) fun v_3 => nm (((1009 * x1_57) + v_3) - ((1009 * x1_57) + v_3) / 1000000007 * 1000000007) fun v_5 => (f_L_now_57 k_46 X fu) v_5 x3_57 (x4_57 + 1))
noncomputable def f_L_now_46 (X : XV) : Nat → Int64 → Int32 → Option (Int64)
  | 0, _, _ => none
  | fu + 1, x1_46, x3_46 => bd (f_L_effects X) fun v_7 => if v_7 ≤ x3_46 then (some (x1_46)) else (f_L_now_57 (f_L_now_46 X fu) X 11 x1_46 x3_46 0)
noncomputable def f_L_now_6 (X : XV) : Nat → Int64 → Int32 → Option (Int64)
  | 0, _, _ => none
  | fu + 1, x1_6, x3_6 => if 10 ≤ x3_6 then (f_L_now_46 X 7 x1_6 0) else (bd (o_about X x3_6) fun v_12 => bd (o_total X x3_6) fun v_15 => nm ((((1009 * x1_6) + (31 * v_12)) + v_15) - (((1009 * x1_6) + (31 * v_12)) + v_15) / 1000000007 * 1000000007) fun v_17 => (f_L_now_6 X fu) v_17 (x3_6 + 1))
noncomputable def f_L_now (X : XV) : Option (Int64) := f_L_now_6 X 11 59 0
set_option maxRecDepth 100000 in
set_option maxHeartbeats 4000000 in
theorem c_L_now (l : Launch) (hst : l.stackTraces = false) (D : va_G) (k : Nat → ClassId) (cA nA tA : Nat → Nat) (X : XV) (w : va_W) (hw : Ob k cA nA tA X w) (o : Int64) (h : f_L_now X = some o) : CO l D k yL_now wsL_now ({ frames := 10, cells := 224, slots := 1344, locals := 167 } : Room) [.ref (cA 0)] (w) (fun (ov : Option Value) (w' : va_W) => ov = some (.long o) ∧ Ob k cA nA tA X w') := by
  obtain ⟨B9, hB9⟩ : ∃ B : Option Value → va_W → Prop, B = fun (ov : Option Value) (w' : va_W) => ov = some (.long o) ∧ Ob k cA nA tA X w' := ⟨_, rfl⟩
  refine CO.of (P := B9) ?_ (fun ov w' h9 => by rw [hB9] at h9; exact h9)
  refine Cl_of0 (cc := cL_now) (maxL := 5) (ret := (some .long)) (by decide) rfl (Nat.le_of_ble_eq_true rfl) ?_
  intro p e s m args below meth c A ls hx hb hr hml hts hown hlocks hK hG hC hA hP hD hS hl
  have hl : lv_has ls 5 [(0, .ref (cA 0))] := hl
  have hP := P_n hP
  have hD := D_n hD
  have w_0 := hts (.constantLong RL 111 (1009)) (by decide +kernel)
  have w_1 := hts (.constantLong RL 117 (1000000007)) (by decide +kernel)
  have w_2 := hts (.constantLong RL 113 (31)) (by decide +kernel)
  have w_3 := hts (.constantLong RL 109 (59)) (by decide +kernel)
  unfold f_L_now at h
  have hC_46 : ∀ (fu_46 : Nat) (x1_46 : Int64) (x3_46 : Int32) (w_46 : va_W) (H : Heap) (locs : List Loc) (ls : Array Slot), fu_46 ≤ 7 → Ob k cA nA tA X w_46 → va_P D vwCl (w_46 ++ []) H → va_D A (w_46 ++ []) → va_S A s.heap H locs → lv_has ls 5 [(0, .ref (cA 0)), (1, .long x1_46), (3, .int x3_46)] → f_L_now_46 X fu_46 x1_46 x3_46 = some o → W p l e ({ frames := 10, cells := 224, slots := 1344, locals := 167 } : Room) s m args below meth c H locs ((199 - 25 * fu_46)) ((1194 - 150 * fu_46)) (vx_MQ below (Qx D A (.inr B9)) (Xx D A (w) (.inr B9)) args s 224 1344 A) (F0 m 46 ls []) := by
    intro fu_46
    induction fu_46 with
    | zero => intro x1_46 x3_46 w_46 H locs ls _ _ _ _ _ _ h; exact (no_l h).elim
    | succ fu_46 ih_46 =>
      intro x1_46 x3_46 w_46 H locs ls hfu_46 hw_46 hP hD hS hl h
      rw [f_L_now_46] at h
      have hC_57 : ∀ (fu_57 : Nat) (x1_57 : Int64) (x3_57 : Int32) (x4_57 : Int32) (w_57 : va_W) (H : Heap) (locs : List Loc) (ls : Array Slot), fu_57 ≤ 11 → Ob k cA nA tA X w_57 → va_P D vwCl (w_57 ++ []) H → va_D A (w_57 ++ []) → va_S A s.heap H locs → lv_has ls 5 [(0, .ref (cA 0)), (1, .long x1_57), (3, .int x3_57), (4, .int x4_57)] → f_L_now_57 (f_L_now_46 X fu_46) X fu_57 x1_57 x3_57 x4_57 = some o → W p l e ({ frames := 10, cells := 224, slots := 1344, locals := 167 } : Room) s m args below meth c H locs (((199 - 25 * (fu_46 + 1)) + 23 - 2 * fu_57)) (((1194 - 150 * (fu_46 + 1)) + 138 - 12 * fu_57)) (vx_MQ below (Qx D A (.inr B9)) (Xx D A (w) (.inr B9)) args s 224 1344 A) (F0 m 57 ls []) := by
        intro fu_57
        induction fu_57 with
        | zero => intro x1_57 x3_57 x4_57 w_57 H locs ls _ _ _ _ _ _ h; exact (no_l h).elim
        | succ fu_57 ih_57 =>
          intro x1_57 x3_57 x4_57 w_57 H locs ls hfu_57 hw_57 hP hD hS hl h
          rw [f_L_now_57] at h
          refine lv_iload hx hb dL_now_57 (lv_at hl 3 rfl) ?_
          refine lv_bipush (v := 10) hx hb dL_now_59 (by decide) ?_
          refine lv_icmp_ge (tgt := 88) hx hb dL_now_61 (by decide) (fun c_1 => ?_) (fun c_1 => ?_)
          · have h := it_l c_1 h
            refine lv_iinc (v := (x3_57 + 1)) (lv' := [(3, .int (x3_57 + 1)), (0, .ref (cA 0)), (1, .long x1_57), (4, .int x4_57)]) hx hb dL_now_88 hl (k := 2) rfl rfl (by decide) rfl (fun ls hl => ?_)
            refine lv_goto (tgt := 46) hx hb dL_now_91 (by decide) ?_
            refine W.widen (k := (199 - 25 * fu_46)) (n := (1194 - 150 * fu_46)) (by omega) (by omega) ?_
            exact ih_46 x1_57 (x3_57 + 1) w_57 _ _ _ (by omega) hw_57 hP hD hS (lv_sub hl [1, 2, 0] rfl) h
          · have h := it_r c_1 h
            refine lv_ldc2 (v := 1009) hx hb hown w_0 dL_now_64 ?_
            refine lv_lload_n hx hb dL_now_67 rfl (lv_at hl 1 rfl) ?_
            refine lv_lmul hx hb dL_now_68 ?_
            refine lv_aload_n hx hb dL_now_69 rfl (lv_at hl 0 rfl) ?_
            refine lv_iload_n hx hb dL_now_70 rfl (lv_at hl 2 rfl) ?_
            refine lv_iload hx hb dL_now_71 (lv_at hl 3 rfl) ?_
            obtain ⟨v_3, hv_2, h⟩ := bd_l h
            refine Lo_T (As := [.ref (cA 0), .int x3_57, .int x4_57]) (rest := [.long (1009 * x1_57)]) (wA := w_57) (wr := []) 2 12 (((199 - 25 * (fu_46 + 1)) + 23 - 2 * (fu_57 + 1)) + 2) (((1194 - 150 * (fu_46 + 1)) + 138 - 12 * (fu_57 + 1)) + 12) 224 1344 (co_effect l hst D k cA nA tA X w_57 hw_57 x3_57 x4_57 v_3 hv_2) ⟨hx, hb, hml, hown, hts⟩ (vx_cwSW 3 hts gL_now_L_effect rfl rfl rfl (by decide +kernel) ⟨Nat.le_of_ble_eq_true rfl, Nat.le_of_ble_eq_true rfl⟩) hK hG hC hP hD hS hA (List.Perm.refl _) rfl hl.1 rfl (Nat.le_of_ble_eq_true rfl) dL_now_73 ⟨rfl, rfl⟩ ⟨rfl, rfl⟩ (by omega) (by omega) (fun ov w_4 H locs hQ hP hD hS => ?_)
            obtain ⟨rfl, hw_4⟩ := hQ
            refine W.eq (g2 := F0 m 76 ls [.long v_3, .long (1009 * x1_57)]) rfl ?_
            refine lv_ladd hx hb dL_now_76 ?_
            refine lv_ldc2 (v := 1000000007) hx hb hown w_1 dL_now_77 ?_
            refine lv_lrem hx hb dL_now_80 (by decide) ?_
            refine lv_topl (fun v_5 ev_5 => ?_)
            have h := nm_l h ev_5
            refine lv_lstore_n (lv' := [(1, .long v_5), (0, .ref (cA 0)), (3, .int x3_57), (4, .int x4_57)]) hx hb dL_now_81 rfl hl (by decide) rfl (fun ls hl => ?_)
            refine lv_iinc (v := (x4_57 + 1)) (lv' := [(4, .int (x4_57 + 1)), (1, .long v_5), (0, .ref (cA 0)), (3, .int x3_57)]) hx hb dL_now_82 hl (k := 3) rfl rfl (by decide) rfl (fun ls hl => ?_)
            refine lv_goto (tgt := 57) hx hb dL_now_85 (by decide) ?_
            refine W.widen (k := ((199 - 25 * (fu_46 + 1)) + 23 - 2 * fu_57)) (n := ((1194 - 150 * (fu_46 + 1)) + 138 - 12 * fu_57)) (by omega) (by omega) ?_
            exact ih_57 v_5 x3_57 (x4_57 + 1) w_4 _ _ _ (by omega) hw_4 hP hD hS (lv_sub hl [2, 1, 3, 0] rfl) h
      refine lv_iload_n hx hb dL_now_46 rfl (lv_at hl 2 rfl) ?_
      refine lv_aload_n hx hb dL_now_47 rfl (lv_at hl 0 rfl) ?_
      obtain ⟨v_7, hv_6, h⟩ := bd_l h
      refine Lo_S (As := [.ref (cA 0)]) (rest := [.int x3_46]) (wA := w_46) (wr := []) 1 6 ((199 - 25 * (fu_46 + 1)) + 1) ((1194 - 150 * (fu_46 + 1)) + 6) 224 1344 (c_L_effects l hst D k cA nA tA X w_46 hw_46 v_7 hv_6) ⟨hx, hb, hml, hown, hts⟩ (va_cwS 1 hts gL_now_L_effects rfl rfl rfl (by decide +kernel) ⟨Nat.le_of_ble_eq_true rfl, Nat.le_of_ble_eq_true rfl⟩) hK hG hC hP hD hS hA (List.Perm.refl _) rfl hl.1 rfl (Nat.le_of_ble_eq_true rfl) dL_now_48 ⟨rfl, rfl⟩ ⟨rfl, rfl⟩ (by omega) (by omega) (fun ov w_8 H locs hQ hP hD hS => ?_)
      obtain ⟨rfl, hw_8⟩ := hQ
      refine W.eq (g2 := F0 m 51 ls [.int v_7, .int x3_46]) rfl ?_
      refine lv_icmp_ge (tgt := 94) hx hb dL_now_51 (by decide) (fun c_9 => ?_) (fun c_9 => ?_)
      · have h := it_l c_9 h
        refine lv_lload_n hx hb dL_now_94 rfl (lv_at hl 1 rfl) ?_
        cases h
        exact Cx_lret (B := B9) rfl (by rw [hB9]; exact ⟨rfl, hw_8⟩) (by show (199 - 25 * (fu_46 + 1)) + 1 ≤ 224; omega) (by show (1194 - 150 * (fu_46 + 1)) + 6 ≤ 1344; omega) hx hb hr (P_l hP) (D_l hD) hS dL_now_95 hlocks
      · have h := it_r c_9 h
        refine lv_iconst (v := 0) hx hb dL_now_54 (by decide) ?_
        refine lv_istore (lv' := [(4, .int 0), (0, .ref (cA 0)), (1, .long x1_46), (3, .int x3_46)]) hx hb dL_now_55 hl (by decide) rfl (fun ls hl => ?_)
        refine W.widen (k := ((199 - 25 * (fu_46 + 1)) + 23 - 2 * 11)) (n := ((1194 - 150 * (fu_46 + 1)) + 138 - 12 * 11)) (by omega) (by omega) ?_
        exact hC_57 11 x1_46 x3_46 0 w_8 _ _ _ (Nat.le_refl _) hw_8 hP hD hS (lv_sub hl [1, 2, 3, 0] rfl) h
  have hC_6 : ∀ (fu_6 : Nat) (x1_6 : Int64) (x3_6 : Int32) (w_6 : va_W) (H : Heap) (locs : List Loc) (ls : Array Slot), fu_6 ≤ 11 → Ob k cA nA tA X w_6 → va_P D vwCl (w_6 ++ []) H → va_D A (w_6 ++ []) → va_S A s.heap H locs → lv_has ls 5 [(0, .ref (cA 0)), (1, .long x1_6), (3, .int x3_6)] → f_L_now_6 X fu_6 x1_6 x3_6 = some o → W p l e ({ frames := 10, cells := 224, slots := 1344, locals := 167 } : Room) s m args below meth c H locs ((22 - 2 * fu_6)) ((132 - 12 * fu_6)) (vx_MQ below (Qx D A (.inr B9)) (Xx D A (w) (.inr B9)) args s 224 1344 A) (F0 m 6 ls []) := by
    intro fu_6
    induction fu_6 with
    | zero => intro x1_6 x3_6 w_6 H locs ls _ _ _ _ _ _ h; exact (no_l h).elim
    | succ fu_6 ih_6 =>
      intro x1_6 x3_6 w_6 H locs ls hfu_6 hw_6 hP hD hS hl h
      rw [f_L_now_6] at h
      refine lv_iload_n hx hb dL_now_6 rfl (lv_at hl 2 rfl) ?_
      refine lv_bipush (v := 10) hx hb dL_now_7 (by decide) ?_
      refine lv_icmp_ge (tgt := 44) hx hb dL_now_9 (by decide) (fun c_10 => ?_) (fun c_10 => ?_)
      · have h := it_l c_10 h
        refine lv_iconst (v := 0) hx hb dL_now_44 (by decide) ?_
        refine lv_istore_n (lv' := [(3, .int 0), (0, .ref (cA 0)), (1, .long x1_6)]) hx hb dL_now_45 rfl hl (by decide) rfl (fun ls hl => ?_)
        refine W.widen (k := (199 - 25 * 7)) (n := (1194 - 150 * 7)) (by omega) (by omega) ?_
        exact hC_46 7 x1_6 0 w_6 _ _ _ (Nat.le_refl _) hw_6 hP hD hS (lv_sub hl [1, 2, 0] rfl) h
      · have h := it_r c_10 h
        refine lv_ldc2 (v := 1009) hx hb hown w_0 dL_now_12 ?_
        refine lv_lload_n hx hb dL_now_15 rfl (lv_at hl 1 rfl) ?_
        refine lv_lmul hx hb dL_now_16 ?_
        refine lv_ldc2 (v := 31) hx hb hown w_2 dL_now_17 ?_
        refine lv_aload_n hx hb dL_now_20 rfl (lv_at hl 0 rfl) ?_
        refine lv_iload_n hx hb dL_now_21 rfl (lv_at hl 2 rfl) ?_
        obtain ⟨v_12, hv_11, h⟩ := bd_l h
        refine Lo_T (As := [.ref (cA 0), .int x3_6]) (rest := [.long 31, .long (1009 * x1_6)]) (wA := w_6) (wr := []) 1 6 ((22 - 2 * (fu_6 + 1)) + 1) ((132 - 12 * (fu_6 + 1)) + 6) 224 1344 (co_about l hst D k cA nA tA X w_6 hw_6 x3_6 v_12 hv_11) ⟨hx, hb, hml, hown, hts⟩ (vx_cwSW 2 hts gL_now_L_about rfl rfl rfl (by decide +kernel) ⟨Nat.le_of_ble_eq_true rfl, Nat.le_of_ble_eq_true rfl⟩) hK hG hC hP hD hS hA (List.Perm.refl _) rfl hl.1 rfl (Nat.le_of_ble_eq_true rfl) dL_now_22 ⟨rfl, rfl⟩ ⟨rfl, rfl⟩ (by omega) (by omega) (fun ov w_13 H locs hQ hP hD hS => ?_)
        obtain ⟨rfl, hw_13⟩ := hQ
        refine W.eq (g2 := F0 m 25 ls [.long v_12, .long 31, .long (1009 * x1_6)]) rfl ?_
        refine lv_lmul hx hb dL_now_25 ?_
        refine lv_ladd hx hb dL_now_26 ?_
        refine lv_aload_n hx hb dL_now_27 rfl (lv_at hl 0 rfl) ?_
        refine lv_iload_n hx hb dL_now_28 rfl (lv_at hl 2 rfl) ?_
        obtain ⟨v_15, hv_14, h⟩ := bd_l h
        refine Lo_T (As := [.ref (cA 0), .int x3_6]) (rest := [.long ((1009 * x1_6) + (31 * v_12))]) (wA := w_13) (wr := []) 1 6 ((22 - 2 * (fu_6 + 1)) + 2) ((132 - 12 * (fu_6 + 1)) + 12) 224 1344 (co_total l hst D k cA nA tA X w_13 hw_13 x3_6 v_15 hv_14) ⟨hx, hb, hml, hown, hts⟩ (vx_cwSW 2 hts gL_now_L_total rfl rfl rfl (by decide +kernel) ⟨Nat.le_of_ble_eq_true rfl, Nat.le_of_ble_eq_true rfl⟩) hK hG hC hP hD hS hA (List.Perm.refl _) rfl hl.1 rfl (Nat.le_of_ble_eq_true rfl) dL_now_29 ⟨rfl, rfl⟩ ⟨rfl, rfl⟩ (by omega) (by omega) (fun ov w_16 H locs hQ hP hD hS => ?_)
        obtain ⟨rfl, hw_16⟩ := hQ
        refine W.eq (g2 := F0 m 32 ls [.long v_15, .long ((1009 * x1_6) + (31 * v_12))]) rfl ?_
        refine lv_ladd hx hb dL_now_32 ?_
        refine lv_ldc2 (v := 1000000007) hx hb hown w_1 dL_now_33 ?_
        refine lv_lrem hx hb dL_now_36 (by decide) ?_
        refine lv_topl (fun v_17 ev_17 => ?_)
        have h := nm_l h ev_17
        refine lv_lstore_n (lv' := [(1, .long v_17), (0, .ref (cA 0)), (3, .int x3_6)]) hx hb dL_now_37 rfl hl (by decide) rfl (fun ls hl => ?_)
        refine lv_iinc (v := (x3_6 + 1)) (lv' := [(3, .int (x3_6 + 1)), (1, .long v_17), (0, .ref (cA 0))]) hx hb dL_now_38 hl (k := 2) rfl rfl (by decide) rfl (fun ls hl => ?_)
        refine lv_goto (tgt := 6) hx hb dL_now_41 (by decide) ?_
        refine W.widen (k := (22 - 2 * fu_6)) (n := (132 - 12 * fu_6)) (by omega) (by omega) ?_
        exact ih_6 v_17 (x3_6 + 1) w_16 _ _ _ (by omega) hw_16 hP hD hS (lv_sub hl [2, 1, 0] rfl) h
  refine lv_ldc2 (v := 59) hx hb hown w_3 dL_now_0 ?_
  refine lv_lstore_n (lv' := [(1, .long 59), (0, .ref (cA 0))]) hx hb dL_now_3 rfl hl (by decide) rfl (fun ls hl => ?_)
  refine lv_iconst (v := 0) hx hb dL_now_4 (by decide) ?_
  refine lv_istore_n (lv' := [(3, .int 0), (1, .long 59), (0, .ref (cA 0))]) hx hb dL_now_5 rfl hl (by decide) rfl (fun ls hl => ?_)
  refine W.widen (k := (22 - 2 * 11)) (n := (132 - 12 * 11)) (by omega) (by omega) ?_
  exact hC_6 11 59 0 w _ _ _ (Nat.le_refl _) hw hP hD hS (lv_sub hl [2, 1, 0] rfl) h
noncomputable def f_L_act (X : XV) (p1 : Int32) (p2 : Int32) : Option (Int64 × XV) := nm (p2 - p2 / 6 * 6) fun v_1 => if (p1 - p1 / 14 * 14) = 0 then (bd (o_tick X (1 + (p2 - p2 / 20 * 20))) fun ⟨v_4, X_6⟩ => some (v_4, X_6)) else (if (p1 - p1 / 14 * 14) = 1 then (bd (o_tick X (1 + (p2 - p2 / 20 * 20))) fun ⟨v_9, X_11⟩ => some (v_9, X_11)) else (if (p1 - p1 / 14 * 14) = 2 then (bd (o_tick X (1 + (p2 - p2 / 20 * 20))) fun ⟨v_14, X_16⟩ => some (v_14, X_16)) else (if (p1 - p1 / 14 * 14) = 3 then (bd (o_tick X (1 + (p2 - p2 / 20 * 20))) fun ⟨v_19, X_21⟩ => some (v_19, X_21)) else (if (p1 - p1 / 14 * 14) = 4 then (bd (o_tick X (1 + (p2 - p2 / 90 * 90))) fun ⟨v_24, X_26⟩ => some (v_24, X_26)) else (if (p1 - p1 / 14 * 14) = 5 then (nm (p2 - p2 / 5 * 5) fun v_28 => if 2 ≤ v_28 then (if v_28 = 2 then (bd (o_set X v_28 ((p2 / 5) - (p2 / 5) / 100 * 100)) fun ⟨v_41, X_43⟩ => some (v_41, X_43)) else (if v_28 = 3 then (bd (o_set X v_28 ((p2 / 5) - (p2 / 5) / 9 * 9)) fun ⟨v_37, X_39⟩ => some (v_37, X_39)) else (bd (o_set X v_28 (1 + ((p2 / 5) - (p2 / 5) / 20 * 20))) fun ⟨v_33, X_35⟩ => some (v_33, X_35)))) else (bd (o_set X v_28 ((p2 / 5) - (p2 / 5) / 600 * 600)) fun ⟨v_45, X_47⟩ => some (v_45, X_47))) else (if (p1 - p1 / 14 * 14) = 6 then (nm (p2 - p2 / 5 * 5) fun v_49 => if 2 ≤ v_49 then (if v_49 = 2 then (bd (o_set X v_49 ((p2 / 5) - (p2 / 5) / 100 * 100)) fun ⟨v_62, X_64⟩ => some (v_62, X_64)) else (if v_49 = 3 then (bd (o_set X v_49 ((p2 / 5) - (p2 / 5) / 9 * 9)) fun ⟨v_58, X_60⟩ => some (v_58, X_60)) else (bd (o_set X v_49 (1 + ((p2 / 5) - (p2 / 5) / 20 * 20))) fun ⟨v_54, X_56⟩ => some (v_54, X_56)))) else (bd (o_set X v_49 ((p2 / 5) - (p2 / 5) / 600 * 600)) fun ⟨v_66, X_68⟩ => some (v_66, X_68))) else (if (p1 - p1 / 14 * 14) = 7 then (bd (o_setValve X v_1 ((p2 / 6) - (p2 / 6) / 300 * 300)) fun ⟨v_71, X_73⟩ => some (v_71, X_73)) else (if (p1 - p1 / 14 * 14) = 8 then (bd (o_setValve X v_1 ((p2 / 6) - (p2 / 6) / 300 * 300)) fun ⟨v_76, X_78⟩ => some (v_76, X_78)) else (if (p1 - p1 / 14 * 14) = 9 then (bd (o_setBleed X v_1 ((p2 / 6) - (p2 / 6) / 91 * 91)) fun ⟨v_81, X_83⟩ => some (v_81, X_83)) else (if (p1 - p1 / 14 * 14) = 10 then (bd (o_wash X v_1 (1 + ((p2 / 6) - (p2 / 6) / 20 * 20))) fun ⟨v_86, X_88⟩ => some (v_86, X_88)) else (if (p1 - p1 / 14 * 14) = 11 then (if (p2 - p2 / 2 * 2) = 0 then (bd (o_endWash X v_1) fun ⟨v_96, X_98⟩ => some (v_96, X_98)) else (bd (o_tick X 1) fun ⟨v_92, X_94⟩ => some (v_92, X_94))) else (if (p1 - p1 / 14 * 14) = 12 then (bd (o_undo X) fun ⟨v_101, X_103⟩ => some (v_101, X_103)) else (if (p2 - p2 / 2 * 2) = 0 then (bd (o_save X ((p2 / 2) &&& 1)) fun ⟨v_110, X_112⟩ => some (v_110, X_112)) else (bd (o_restore X ((p2 / 2) &&& 1)) fun ⟨v_106, X_108⟩ => some (v_106, X_108)))))))))))))))
set_option maxRecDepth 100000 in
set_option maxHeartbeats 4000000 in
theorem c_L_act (l : Launch) (hst : l.stackTraces = false) (D : va_G) (k : Nat → ClassId) (cA nA tA : Nat → Nat) (X : XV) (w : va_W) (hw : Ob k cA nA tA X w) (p1 : Int32) (p2 : Int32) (o : Int64 × XV) (h : f_L_act X p1 p2 = some o) : CO l D k yL_act wsL_act ({ frames := 9, cells := 14, slots := 93, locals := 150 } : Room) [.ref (cA 0), .int p1, .int p2] (w) (fun (ov : Option Value) (w' : va_W) => ov = some (.long o.1) ∧ Ob k cA nA tA o.2 w') := by
  obtain ⟨B9, hB9⟩ : ∃ B : Option Value → va_W → Prop, B = fun (ov : Option Value) (w' : va_W) => ov = some (.long o.1) ∧ Ob k cA nA tA o.2 w' := ⟨_, rfl⟩
  refine CO.of (P := B9) ?_ (fun ov w' h9 => by rw [hB9] at h9; exact h9)
  refine Cl_of0 (cc := cL_act) (maxL := 5) (ret := (some .long)) (by decide) rfl (Nat.le_of_ble_eq_true rfl) ?_
  intro p e s m args below meth c A ls hx hb hr hml hts hown hlocks hK hG hC hA hP hD hS hl
  have hl : lv_has ls 5 [(0, .ref (cA 0)), (1, .int p1), (2, .int p2)] := hl
  have hP := P_n hP
  have hD := D_n hD
  unfold f_L_act at h
  refine lv_iload_n hx hb dL_act_0 rfl (lv_at hl 2 rfl) ?_
  refine lv_bipush (v := 6) hx hb dL_act_1 (by decide) ?_
  refine lv_irem hx hb dL_act_3 (by decide) ?_
  refine lv_topi (fun v_1 ev_1 => ?_)
  have h := nm_l h ev_1
  refine lv_istore_n (lv' := [(3, .int v_1), (0, .ref (cA 0)), (1, .int p1), (2, .int p2)]) hx hb dL_act_4 rfl hl (by decide) rfl (fun ls hl => ?_)
  refine lv_iload_n hx hb dL_act_5 rfl (lv_at hl 2 rfl) ?_
  refine lv_bipush (v := 14) hx hb dL_act_6 (by decide) ?_
  refine lv_irem hx hb dL_act_8 (by decide) ?_
  by_cases c_2 : (p1 - p1 / 14 * 14) = 0
  · have h := it_l c_2 h
    refine lv_tableIn (tgt := 76) hx hb dL_act_9 (by rw [c_2]; decide) (by rw [c_2]; decide) (by rw [c_2]; rfl) (by decide) ?_
    refine lv_aload_n hx hb dL_act_76 rfl (lv_at hl 1 rfl) ?_
    refine lv_iconst (v := 1) hx hb dL_act_77 (by decide) ?_
    refine lv_iload_n hx hb dL_act_78 rfl (lv_at hl 3 rfl) ?_
    refine lv_bipush (v := 20) hx hb dL_act_79 (by decide) ?_
    refine lv_irem hx hb dL_act_81 (by decide) ?_
    refine lv_iadd hx hb dL_act_82 ?_
    obtain ⟨⟨v_4, X_6⟩, hv_3, h⟩ := bd_l h
    refine Lo_T (As := [.ref (cA 0), .int (1 + (p2 - p2 / 20 * 20))]) (rest := []) (wA := w) (wr := []) 12 81 (12) (81) 14 93 (co_tick l hst D k cA nA tA X w hw (1 + (p2 - p2 / 20 * 20)) (v_4, X_6) hv_3) ⟨hx, hb, hml, hown, hts⟩ (vx_cwSW 2 hts gL_act_L_tick rfl rfl rfl (by decide +kernel) ⟨Nat.le_of_ble_eq_true rfl, Nat.le_of_ble_eq_true rfl⟩) hK hG hC hP hD hS hA (List.Perm.refl _) rfl hl.1 rfl (Nat.le_of_ble_eq_true rfl) dL_act_83 ⟨rfl, rfl⟩ ⟨rfl, rfl⟩ (by omega) (by omega) (fun ov w_5 H locs hQ hP hD hS => ?_)
    obtain ⟨rfl, hw_5⟩ := hQ
    refine W.eq (g2 := F0 m 86 ls [.long v_4]) rfl ?_
    cases h
    exact Cx_lret (B := B9) rfl (by rw [hB9]; exact ⟨rfl, hw_5⟩) (by show 12 ≤ 14; omega) (by show 81 ≤ 93; omega) hx hb hr (P_l hP) (D_l hD) hS dL_act_86 hlocks
  · have h := it_r c_2 h
    by_cases c_7 : (p1 - p1 / 14 * 14) = 1
    · have h := it_l c_7 h
      refine lv_tableIn (tgt := 76) hx hb dL_act_9 (by rw [c_7]; decide) (by rw [c_7]; decide) (by rw [c_7]; rfl) (by decide) ?_
      refine lv_aload_n hx hb dL_act_76 rfl (lv_at hl 1 rfl) ?_
      refine lv_iconst (v := 1) hx hb dL_act_77 (by decide) ?_
      refine lv_iload_n hx hb dL_act_78 rfl (lv_at hl 3 rfl) ?_
      refine lv_bipush (v := 20) hx hb dL_act_79 (by decide) ?_
      refine lv_irem hx hb dL_act_81 (by decide) ?_
      refine lv_iadd hx hb dL_act_82 ?_
      obtain ⟨⟨v_9, X_11⟩, hv_8, h⟩ := bd_l h
      refine Lo_T (As := [.ref (cA 0), .int (1 + (p2 - p2 / 20 * 20))]) (rest := []) (wA := w) (wr := []) 12 81 (12) (81) 14 93 (co_tick l hst D k cA nA tA X w hw (1 + (p2 - p2 / 20 * 20)) (v_9, X_11) hv_8) ⟨hx, hb, hml, hown, hts⟩ (vx_cwSW 2 hts gL_act_L_tick rfl rfl rfl (by decide +kernel) ⟨Nat.le_of_ble_eq_true rfl, Nat.le_of_ble_eq_true rfl⟩) hK hG hC hP hD hS hA (List.Perm.refl _) rfl hl.1 rfl (Nat.le_of_ble_eq_true rfl) dL_act_83 ⟨rfl, rfl⟩ ⟨rfl, rfl⟩ (by omega) (by omega) (fun ov w_10 H locs hQ hP hD hS => ?_)
      obtain ⟨rfl, hw_10⟩ := hQ
      refine W.eq (g2 := F0 m 86 ls [.long v_9]) rfl ?_
      cases h
      exact Cx_lret (B := B9) rfl (by rw [hB9]; exact ⟨rfl, hw_10⟩) (by show 12 ≤ 14; omega) (by show 81 ≤ 93; omega) hx hb hr (P_l hP) (D_l hD) hS dL_act_86 hlocks
    · have h := it_r c_7 h
      by_cases c_12 : (p1 - p1 / 14 * 14) = 2
      · have h := it_l c_12 h
        refine lv_tableIn (tgt := 76) hx hb dL_act_9 (by rw [c_12]; decide) (by rw [c_12]; decide) (by rw [c_12]; rfl) (by decide) ?_
        refine lv_aload_n hx hb dL_act_76 rfl (lv_at hl 1 rfl) ?_
        refine lv_iconst (v := 1) hx hb dL_act_77 (by decide) ?_
        refine lv_iload_n hx hb dL_act_78 rfl (lv_at hl 3 rfl) ?_
        refine lv_bipush (v := 20) hx hb dL_act_79 (by decide) ?_
        refine lv_irem hx hb dL_act_81 (by decide) ?_
        refine lv_iadd hx hb dL_act_82 ?_
        obtain ⟨⟨v_14, X_16⟩, hv_13, h⟩ := bd_l h
        refine Lo_T (As := [.ref (cA 0), .int (1 + (p2 - p2 / 20 * 20))]) (rest := []) (wA := w) (wr := []) 12 81 (12) (81) 14 93 (co_tick l hst D k cA nA tA X w hw (1 + (p2 - p2 / 20 * 20)) (v_14, X_16) hv_13) ⟨hx, hb, hml, hown, hts⟩ (vx_cwSW 2 hts gL_act_L_tick rfl rfl rfl (by decide +kernel) ⟨Nat.le_of_ble_eq_true rfl, Nat.le_of_ble_eq_true rfl⟩) hK hG hC hP hD hS hA (List.Perm.refl _) rfl hl.1 rfl (Nat.le_of_ble_eq_true rfl) dL_act_83 ⟨rfl, rfl⟩ ⟨rfl, rfl⟩ (by omega) (by omega) (fun ov w_15 H locs hQ hP hD hS => ?_)
        obtain ⟨rfl, hw_15⟩ := hQ
        refine W.eq (g2 := F0 m 86 ls [.long v_14]) rfl ?_
        cases h
        exact Cx_lret (B := B9) rfl (by rw [hB9]; exact ⟨rfl, hw_15⟩) (by show 12 ≤ 14; omega) (by show 81 ≤ 93; omega) hx hb hr (P_l hP) (D_l hD) hS dL_act_86 hlocks
      · have h := it_r c_12 h
        by_cases c_17 : (p1 - p1 / 14 * 14) = 3
        · have h := it_l c_17 h
          refine lv_tableIn (tgt := 76) hx hb dL_act_9 (by rw [c_17]; decide) (by rw [c_17]; decide) (by rw [c_17]; rfl) (by decide) ?_
          refine lv_aload_n hx hb dL_act_76 rfl (lv_at hl 1 rfl) ?_
          refine lv_iconst (v := 1) hx hb dL_act_77 (by decide) ?_
          refine lv_iload_n hx hb dL_act_78 rfl (lv_at hl 3 rfl) ?_
          refine lv_bipush (v := 20) hx hb dL_act_79 (by decide) ?_
          refine lv_irem hx hb dL_act_81 (by decide) ?_
          refine lv_iadd hx hb dL_act_82 ?_
          obtain ⟨⟨v_19, X_21⟩, hv_18, h⟩ := bd_l h
          refine Lo_T (As := [.ref (cA 0), .int (1 + (p2 - p2 / 20 * 20))]) (rest := []) (wA := w) (wr := []) 12 81 (12) (81) 14 93 (co_tick l hst D k cA nA tA X w hw (1 + (p2 - p2 / 20 * 20)) (v_19, X_21) hv_18) ⟨hx, hb, hml, hown, hts⟩ (vx_cwSW 2 hts gL_act_L_tick rfl rfl rfl (by decide +kernel) ⟨Nat.le_of_ble_eq_true rfl, Nat.le_of_ble_eq_true rfl⟩) hK hG hC hP hD hS hA (List.Perm.refl _) rfl hl.1 rfl (Nat.le_of_ble_eq_true rfl) dL_act_83 ⟨rfl, rfl⟩ ⟨rfl, rfl⟩ (by omega) (by omega) (fun ov w_20 H locs hQ hP hD hS => ?_)
          obtain ⟨rfl, hw_20⟩ := hQ
          refine W.eq (g2 := F0 m 86 ls [.long v_19]) rfl ?_
          cases h
          exact Cx_lret (B := B9) rfl (by rw [hB9]; exact ⟨rfl, hw_20⟩) (by show 12 ≤ 14; omega) (by show 81 ≤ 93; omega) hx hb hr (P_l hP) (D_l hD) hS dL_act_86 hlocks
        · have h := it_r c_17 h
          by_cases c_22 : (p1 - p1 / 14 * 14) = 4
          · have h := it_l c_22 h
            refine lv_tableIn (tgt := 87) hx hb dL_act_9 (by rw [c_22]; decide) (by rw [c_22]; decide) (by rw [c_22]; rfl) (by decide) ?_
            refine lv_aload_n hx hb dL_act_87 rfl (lv_at hl 1 rfl) ?_
            refine lv_iconst (v := 1) hx hb dL_act_88 (by decide) ?_
            refine lv_iload_n hx hb dL_act_89 rfl (lv_at hl 3 rfl) ?_
            refine lv_bipush (v := 90) hx hb dL_act_90 (by decide) ?_
            refine lv_irem hx hb dL_act_92 (by decide) ?_
            refine lv_iadd hx hb dL_act_93 ?_
            obtain ⟨⟨v_24, X_26⟩, hv_23, h⟩ := bd_l h
            refine Lo_T (As := [.ref (cA 0), .int (1 + (p2 - p2 / 90 * 90))]) (rest := []) (wA := w) (wr := []) 12 81 (12) (81) 14 93 (co_tick l hst D k cA nA tA X w hw (1 + (p2 - p2 / 90 * 90)) (v_24, X_26) hv_23) ⟨hx, hb, hml, hown, hts⟩ (vx_cwSW 2 hts gL_act_L_tick rfl rfl rfl (by decide +kernel) ⟨Nat.le_of_ble_eq_true rfl, Nat.le_of_ble_eq_true rfl⟩) hK hG hC hP hD hS hA (List.Perm.refl _) rfl hl.1 rfl (Nat.le_of_ble_eq_true rfl) dL_act_94 ⟨rfl, rfl⟩ ⟨rfl, rfl⟩ (by omega) (by omega) (fun ov w_25 H locs hQ hP hD hS => ?_)
            obtain ⟨rfl, hw_25⟩ := hQ
            refine W.eq (g2 := F0 m 97 ls [.long v_24]) rfl ?_
            cases h
            exact Cx_lret (B := B9) rfl (by rw [hB9]; exact ⟨rfl, hw_25⟩) (by show 12 ≤ 14; omega) (by show 81 ≤ 93; omega) hx hb hr (P_l hP) (D_l hD) hS dL_act_97 hlocks
          · have h := it_r c_22 h
            by_cases c_27 : (p1 - p1 / 14 * 14) = 5
            · have h := it_l c_27 h
              refine lv_tableIn (tgt := 98) hx hb dL_act_9 (by rw [c_27]; decide) (by rw [c_27]; decide) (by rw [c_27]; rfl) (by decide) ?_
              refine lv_iload_n hx hb dL_act_98 rfl (lv_at hl 3 rfl) ?_
              refine lv_iconst (v := 5) hx hb dL_act_99 (by decide) ?_
              refine lv_irem hx hb dL_act_100 (by decide) ?_
              refine lv_topi (fun v_28 ev_28 => ?_)
              have h := nm_l h ev_28
              refine lv_istore (lv' := [(4, .int v_28), (3, .int v_1), (0, .ref (cA 0)), (1, .int p1), (2, .int p2)]) hx hb dL_act_101 hl (by decide) rfl (fun ls hl => ?_)
              refine lv_aload_n hx hb dL_act_103 rfl (lv_at hl 2 rfl) ?_
              refine lv_iload hx hb dL_act_104 (lv_at hl 0 rfl) ?_
              refine lv_iload hx hb dL_act_106 (lv_at hl 0 rfl) ?_
              refine lv_iconst (v := 2) hx hb dL_act_108 (by decide) ?_
              refine lv_icmp_ge (tgt := 122) hx hb dL_act_109 (by decide) (fun c_29 => ?_) (fun c_29 => ?_)
              · have h := it_l c_29 h
                refine lv_iload hx hb dL_act_122 (lv_at hl 0 rfl) ?_
                refine lv_iconst (v := 2) hx hb dL_act_124 (by decide) ?_
                refine lv_icmp_ne (tgt := 137) hx hb dL_act_125 (by decide) (fun c_30 => ?_) (fun c_30 => ?_)
                · have h := it_r c_30 h
                  refine lv_iload hx hb dL_act_137 (lv_at hl 0 rfl) ?_
                  refine lv_iconst (v := 3) hx hb dL_act_139 (by decide) ?_
                  refine lv_icmp_ne (tgt := 152) hx hb dL_act_140 (by decide) (fun c_31 => ?_) (fun c_31 => ?_)
                  · have h := it_r c_31 h
                    refine lv_iconst (v := 1) hx hb dL_act_152 (by decide) ?_
                    refine lv_iload_n hx hb dL_act_153 rfl (lv_at hl 4 rfl) ?_
                    refine lv_iconst (v := 5) hx hb dL_act_154 (by decide) ?_
                    refine lv_idiv hx hb dL_act_155 (by decide) ?_
                    refine lv_bipush (v := 20) hx hb dL_act_156 (by decide) ?_
                    refine lv_irem hx hb dL_act_158 (by decide) ?_
                    refine lv_iadd hx hb dL_act_159 ?_
                    obtain ⟨⟨v_33, X_35⟩, hv_32, h⟩ := bd_l h
                    refine Lo_T (As := [.ref (cA 0), .int v_28, .int (1 + ((p2 / 5) - (p2 / 5) / 20 * 20))]) (rest := []) (wA := w) (wr := []) 13 87 (13) (87) 14 93 (co_set l hst D k cA nA tA X w hw v_28 (1 + ((p2 / 5) - (p2 / 5) / 20 * 20)) (v_33, X_35) hv_32) ⟨hx, hb, hml, hown, hts⟩ (vx_cwSW 3 hts gL_act_L_set rfl rfl rfl (by decide +kernel) ⟨Nat.le_of_ble_eq_true rfl, Nat.le_of_ble_eq_true rfl⟩) hK hG hC hP hD hS hA (List.Perm.refl _) rfl hl.1 rfl (Nat.le_of_ble_eq_true rfl) dL_act_160 ⟨rfl, rfl⟩ ⟨rfl, rfl⟩ (by omega) (by omega) (fun ov w_34 H locs hQ hP hD hS => ?_)
                    obtain ⟨rfl, hw_34⟩ := hQ
                    refine W.eq (g2 := F0 m 163 ls [.long v_33]) rfl ?_
                    cases h
                    exact Cx_lret (B := B9) rfl (by rw [hB9]; exact ⟨rfl, hw_34⟩) (by show 13 ≤ 14; omega) (by show 87 ≤ 93; omega) hx hb hr (P_l hP) (D_l hD) hS dL_act_163 hlocks
                  · have h := it_l c_31 h
                    refine lv_iload_n hx hb dL_act_143 rfl (lv_at hl 4 rfl) ?_
                    refine lv_iconst (v := 5) hx hb dL_act_144 (by decide) ?_
                    refine lv_idiv hx hb dL_act_145 (by decide) ?_
                    refine lv_bipush (v := 9) hx hb dL_act_146 (by decide) ?_
                    refine lv_irem hx hb dL_act_148 (by decide) ?_
                    refine lv_goto (tgt := 160) hx hb dL_act_149 (by decide) ?_
                    obtain ⟨⟨v_37, X_39⟩, hv_36, h⟩ := bd_l h
                    refine Lo_T (As := [.ref (cA 0), .int v_28, .int ((p2 / 5) - (p2 / 5) / 9 * 9)]) (rest := []) (wA := w) (wr := []) 13 87 (13) (87) 14 93 (co_set l hst D k cA nA tA X w hw v_28 ((p2 / 5) - (p2 / 5) / 9 * 9) (v_37, X_39) hv_36) ⟨hx, hb, hml, hown, hts⟩ (vx_cwSW 3 hts gL_act_L_set rfl rfl rfl (by decide +kernel) ⟨Nat.le_of_ble_eq_true rfl, Nat.le_of_ble_eq_true rfl⟩) hK hG hC hP hD hS hA (List.Perm.refl _) rfl hl.1 rfl (Nat.le_of_ble_eq_true rfl) dL_act_160 ⟨rfl, rfl⟩ ⟨rfl, rfl⟩ (by omega) (by omega) (fun ov w_38 H locs hQ hP hD hS => ?_)
                    obtain ⟨rfl, hw_38⟩ := hQ
                    refine W.eq (g2 := F0 m 163 ls [.long v_37]) rfl ?_
                    cases h
                    exact Cx_lret (B := B9) rfl (by rw [hB9]; exact ⟨rfl, hw_38⟩) (by show 13 ≤ 14; omega) (by show 87 ≤ 93; omega) hx hb hr (P_l hP) (D_l hD) hS dL_act_163 hlocks
                · have h := it_l c_30 h
                  refine lv_iload_n hx hb dL_act_128 rfl (lv_at hl 4 rfl) ?_
                  refine lv_iconst (v := 5) hx hb dL_act_129 (by decide) ?_
                  refine lv_idiv hx hb dL_act_130 (by decide) ?_
                  refine lv_bipush (v := 100) hx hb dL_act_131 (by decide) ?_
                  refine lv_irem hx hb dL_act_133 (by decide) ?_
                  refine lv_goto (tgt := 160) hx hb dL_act_134 (by decide) ?_
                  obtain ⟨⟨v_41, X_43⟩, hv_40, h⟩ := bd_l h
                  refine Lo_T (As := [.ref (cA 0), .int v_28, .int ((p2 / 5) - (p2 / 5) / 100 * 100)]) (rest := []) (wA := w) (wr := []) 13 87 (13) (87) 14 93 (co_set l hst D k cA nA tA X w hw v_28 ((p2 / 5) - (p2 / 5) / 100 * 100) (v_41, X_43) hv_40) ⟨hx, hb, hml, hown, hts⟩ (vx_cwSW 3 hts gL_act_L_set rfl rfl rfl (by decide +kernel) ⟨Nat.le_of_ble_eq_true rfl, Nat.le_of_ble_eq_true rfl⟩) hK hG hC hP hD hS hA (List.Perm.refl _) rfl hl.1 rfl (Nat.le_of_ble_eq_true rfl) dL_act_160 ⟨rfl, rfl⟩ ⟨rfl, rfl⟩ (by omega) (by omega) (fun ov w_42 H locs hQ hP hD hS => ?_)
                  obtain ⟨rfl, hw_42⟩ := hQ
                  refine W.eq (g2 := F0 m 163 ls [.long v_41]) rfl ?_
                  cases h
                  exact Cx_lret (B := B9) rfl (by rw [hB9]; exact ⟨rfl, hw_42⟩) (by show 13 ≤ 14; omega) (by show 87 ≤ 93; omega) hx hb hr (P_l hP) (D_l hD) hS dL_act_163 hlocks
              · have h := it_r c_29 h
                refine lv_iload_n hx hb dL_act_112 rfl (lv_at hl 4 rfl) ?_
                refine lv_iconst (v := 5) hx hb dL_act_113 (by decide) ?_
                refine lv_idiv hx hb dL_act_114 (by decide) ?_
                refine lv_sipush (v := 600) hx hb dL_act_115 (by decide) ?_
                refine lv_irem hx hb dL_act_118 (by decide) ?_
                refine lv_goto (tgt := 160) hx hb dL_act_119 (by decide) ?_
                obtain ⟨⟨v_45, X_47⟩, hv_44, h⟩ := bd_l h
                refine Lo_T (As := [.ref (cA 0), .int v_28, .int ((p2 / 5) - (p2 / 5) / 600 * 600)]) (rest := []) (wA := w) (wr := []) 13 87 (13) (87) 14 93 (co_set l hst D k cA nA tA X w hw v_28 ((p2 / 5) - (p2 / 5) / 600 * 600) (v_45, X_47) hv_44) ⟨hx, hb, hml, hown, hts⟩ (vx_cwSW 3 hts gL_act_L_set rfl rfl rfl (by decide +kernel) ⟨Nat.le_of_ble_eq_true rfl, Nat.le_of_ble_eq_true rfl⟩) hK hG hC hP hD hS hA (List.Perm.refl _) rfl hl.1 rfl (Nat.le_of_ble_eq_true rfl) dL_act_160 ⟨rfl, rfl⟩ ⟨rfl, rfl⟩ (by omega) (by omega) (fun ov w_46 H locs hQ hP hD hS => ?_)
                obtain ⟨rfl, hw_46⟩ := hQ
                refine W.eq (g2 := F0 m 163 ls [.long v_45]) rfl ?_
                cases h
                exact Cx_lret (B := B9) rfl (by rw [hB9]; exact ⟨rfl, hw_46⟩) (by show 13 ≤ 14; omega) (by show 87 ≤ 93; omega) hx hb hr (P_l hP) (D_l hD) hS dL_act_163 hlocks
            · have h := it_r c_27 h
              by_cases c_48 : (p1 - p1 / 14 * 14) = 6
              · have h := it_l c_48 h
                refine lv_tableIn (tgt := 98) hx hb dL_act_9 (by rw [c_48]; decide) (by rw [c_48]; decide) (by rw [c_48]; rfl) (by decide) ?_
                refine lv_iload_n hx hb dL_act_98 rfl (lv_at hl 3 rfl) ?_
                refine lv_iconst (v := 5) hx hb dL_act_99 (by decide) ?_
                refine lv_irem hx hb dL_act_100 (by decide) ?_
                refine lv_topi (fun v_49 ev_49 => ?_)
                have h := nm_l h ev_49
                refine lv_istore (lv' := [(4, .int v_49), (3, .int v_1), (0, .ref (cA 0)), (1, .int p1), (2, .int p2)]) hx hb dL_act_101 hl (by decide) rfl (fun ls hl => ?_)
                refine lv_aload_n hx hb dL_act_103 rfl (lv_at hl 2 rfl) ?_
                refine lv_iload hx hb dL_act_104 (lv_at hl 0 rfl) ?_
                refine lv_iload hx hb dL_act_106 (lv_at hl 0 rfl) ?_
                refine lv_iconst (v := 2) hx hb dL_act_108 (by decide) ?_
                refine lv_icmp_ge (tgt := 122) hx hb dL_act_109 (by decide) (fun c_50 => ?_) (fun c_50 => ?_)
                · have h := it_l c_50 h
                  refine lv_iload hx hb dL_act_122 (lv_at hl 0 rfl) ?_
                  refine lv_iconst (v := 2) hx hb dL_act_124 (by decide) ?_
                  refine lv_icmp_ne (tgt := 137) hx hb dL_act_125 (by decide) (fun c_51 => ?_) (fun c_51 => ?_)
                  · have h := it_r c_51 h
                    refine lv_iload hx hb dL_act_137 (lv_at hl 0 rfl) ?_
                    refine lv_iconst (v := 3) hx hb dL_act_139 (by decide) ?_
                    refine lv_icmp_ne (tgt := 152) hx hb dL_act_140 (by decide) (fun c_52 => ?_) (fun c_52 => ?_)
                    · have h := it_r c_52 h
                      refine lv_iconst (v := 1) hx hb dL_act_152 (by decide) ?_
                      refine lv_iload_n hx hb dL_act_153 rfl (lv_at hl 4 rfl) ?_
                      refine lv_iconst (v := 5) hx hb dL_act_154 (by decide) ?_
                      refine lv_idiv hx hb dL_act_155 (by decide) ?_
                      refine lv_bipush (v := 20) hx hb dL_act_156 (by decide) ?_
                      refine lv_irem hx hb dL_act_158 (by decide) ?_
                      refine lv_iadd hx hb dL_act_159 ?_
                      obtain ⟨⟨v_54, X_56⟩, hv_53, h⟩ := bd_l h
                      refine Lo_T (As := [.ref (cA 0), .int v_49, .int (1 + ((p2 / 5) - (p2 / 5) / 20 * 20))]) (rest := []) (wA := w) (wr := []) 13 87 (13) (87) 14 93 (co_set l hst D k cA nA tA X w hw v_49 (1 + ((p2 / 5) - (p2 / 5) / 20 * 20)) (v_54, X_56) hv_53) ⟨hx, hb, hml, hown, hts⟩ (vx_cwSW 3 hts gL_act_L_set rfl rfl rfl (by decide +kernel) ⟨Nat.le_of_ble_eq_true rfl, Nat.le_of_ble_eq_true rfl⟩) hK hG hC hP hD hS hA (List.Perm.refl _) rfl hl.1 rfl (Nat.le_of_ble_eq_true rfl) dL_act_160 ⟨rfl, rfl⟩ ⟨rfl, rfl⟩ (by omega) (by omega) (fun ov w_55 H locs hQ hP hD hS => ?_)
                      obtain ⟨rfl, hw_55⟩ := hQ
                      refine W.eq (g2 := F0 m 163 ls [.long v_54]) rfl ?_
                      cases h
                      exact Cx_lret (B := B9) rfl (by rw [hB9]; exact ⟨rfl, hw_55⟩) (by show 13 ≤ 14; omega) (by show 87 ≤ 93; omega) hx hb hr (P_l hP) (D_l hD) hS dL_act_163 hlocks
                    · have h := it_l c_52 h
                      refine lv_iload_n hx hb dL_act_143 rfl (lv_at hl 4 rfl) ?_
                      refine lv_iconst (v := 5) hx hb dL_act_144 (by decide) ?_
                      refine lv_idiv hx hb dL_act_145 (by decide) ?_
                      refine lv_bipush (v := 9) hx hb dL_act_146 (by decide) ?_
                      refine lv_irem hx hb dL_act_148 (by decide) ?_
                      refine lv_goto (tgt := 160) hx hb dL_act_149 (by decide) ?_
                      obtain ⟨⟨v_58, X_60⟩, hv_57, h⟩ := bd_l h
                      refine Lo_T (As := [.ref (cA 0), .int v_49, .int ((p2 / 5) - (p2 / 5) / 9 * 9)]) (rest := []) (wA := w) (wr := []) 13 87 (13) (87) 14 93 (co_set l hst D k cA nA tA X w hw v_49 ((p2 / 5) - (p2 / 5) / 9 * 9) (v_58, X_60) hv_57) ⟨hx, hb, hml, hown, hts⟩ (vx_cwSW 3 hts gL_act_L_set rfl rfl rfl (by decide +kernel) ⟨Nat.le_of_ble_eq_true rfl, Nat.le_of_ble_eq_true rfl⟩) hK hG hC hP hD hS hA (List.Perm.refl _) rfl hl.1 rfl (Nat.le_of_ble_eq_true rfl) dL_act_160 ⟨rfl, rfl⟩ ⟨rfl, rfl⟩ (by omega) (by omega) (fun ov w_59 H locs hQ hP hD hS => ?_)
                      obtain ⟨rfl, hw_59⟩ := hQ
                      refine W.eq (g2 := F0 m 163 ls [.long v_58]) rfl ?_
                      cases h
                      exact Cx_lret (B := B9) rfl (by rw [hB9]; exact ⟨rfl, hw_59⟩) (by show 13 ≤ 14; omega) (by show 87 ≤ 93; omega) hx hb hr (P_l hP) (D_l hD) hS dL_act_163 hlocks
                  · have h := it_l c_51 h
                    refine lv_iload_n hx hb dL_act_128 rfl (lv_at hl 4 rfl) ?_
                    refine lv_iconst (v := 5) hx hb dL_act_129 (by decide) ?_
                    refine lv_idiv hx hb dL_act_130 (by decide) ?_
                    refine lv_bipush (v := 100) hx hb dL_act_131 (by decide) ?_
                    refine lv_irem hx hb dL_act_133 (by decide) ?_
                    refine lv_goto (tgt := 160) hx hb dL_act_134 (by decide) ?_
                    obtain ⟨⟨v_62, X_64⟩, hv_61, h⟩ := bd_l h
                    refine Lo_T (As := [.ref (cA 0), .int v_49, .int ((p2 / 5) - (p2 / 5) / 100 * 100)]) (rest := []) (wA := w) (wr := []) 13 87 (13) (87) 14 93 (co_set l hst D k cA nA tA X w hw v_49 ((p2 / 5) - (p2 / 5) / 100 * 100) (v_62, X_64) hv_61) ⟨hx, hb, hml, hown, hts⟩ (vx_cwSW 3 hts gL_act_L_set rfl rfl rfl (by decide +kernel) ⟨Nat.le_of_ble_eq_true rfl, Nat.le_of_ble_eq_true rfl⟩) hK hG hC hP hD hS hA (List.Perm.refl _) rfl hl.1 rfl (Nat.le_of_ble_eq_true rfl) dL_act_160 ⟨rfl, rfl⟩ ⟨rfl, rfl⟩ (by omega) (by omega) (fun ov w_63 H locs hQ hP hD hS => ?_)
                    obtain ⟨rfl, hw_63⟩ := hQ
                    refine W.eq (g2 := F0 m 163 ls [.long v_62]) rfl ?_
                    cases h
                    exact Cx_lret (B := B9) rfl (by rw [hB9]; exact ⟨rfl, hw_63⟩) (by show 13 ≤ 14; omega) (by show 87 ≤ 93; omega) hx hb hr (P_l hP) (D_l hD) hS dL_act_163 hlocks
                · have h := it_r c_50 h
                  refine lv_iload_n hx hb dL_act_112 rfl (lv_at hl 4 rfl) ?_
                  refine lv_iconst (v := 5) hx hb dL_act_113 (by decide) ?_
                  refine lv_idiv hx hb dL_act_114 (by decide) ?_
                  refine lv_sipush (v := 600) hx hb dL_act_115 (by decide) ?_
                  refine lv_irem hx hb dL_act_118 (by decide) ?_
                  refine lv_goto (tgt := 160) hx hb dL_act_119 (by decide) ?_
                  obtain ⟨⟨v_66, X_68⟩, hv_65, h⟩ := bd_l h
                  refine Lo_T (As := [.ref (cA 0), .int v_49, .int ((p2 / 5) - (p2 / 5) / 600 * 600)]) (rest := []) (wA := w) (wr := []) 13 87 (13) (87) 14 93 (co_set l hst D k cA nA tA X w hw v_49 ((p2 / 5) - (p2 / 5) / 600 * 600) (v_66, X_68) hv_65) ⟨hx, hb, hml, hown, hts⟩ (vx_cwSW 3 hts gL_act_L_set rfl rfl rfl (by decide +kernel) ⟨Nat.le_of_ble_eq_true rfl, Nat.le_of_ble_eq_true rfl⟩) hK hG hC hP hD hS hA (List.Perm.refl _) rfl hl.1 rfl (Nat.le_of_ble_eq_true rfl) dL_act_160 ⟨rfl, rfl⟩ ⟨rfl, rfl⟩ (by omega) (by omega) (fun ov w_67 H locs hQ hP hD hS => ?_)
                  obtain ⟨rfl, hw_67⟩ := hQ
                  refine W.eq (g2 := F0 m 163 ls [.long v_66]) rfl ?_
                  cases h
                  exact Cx_lret (B := B9) rfl (by rw [hB9]; exact ⟨rfl, hw_67⟩) (by show 13 ≤ 14; omega) (by show 87 ≤ 93; omega) hx hb hr (P_l hP) (D_l hD) hS dL_act_163 hlocks
              · have h := it_r c_48 h
                by_cases c_69 : (p1 - p1 / 14 * 14) = 7
                · have h := it_l c_69 h
                  refine lv_tableIn (tgt := 164) hx hb dL_act_9 (by rw [c_69]; decide) (by rw [c_69]; decide) (by rw [c_69]; rfl) (by decide) ?_
                  refine lv_aload_n hx hb dL_act_164 rfl (lv_at hl 1 rfl) ?_
                  refine lv_iload_n hx hb dL_act_165 rfl (lv_at hl 0 rfl) ?_
                  refine lv_iload_n hx hb dL_act_166 rfl (lv_at hl 3 rfl) ?_
                  refine lv_bipush (v := 6) hx hb dL_act_167 (by decide) ?_
                  refine lv_idiv hx hb dL_act_169 (by decide) ?_
                  refine lv_sipush (v := 300) hx hb dL_act_170 (by decide) ?_
                  refine lv_irem hx hb dL_act_173 (by decide) ?_
                  obtain ⟨⟨v_71, X_73⟩, hv_70, h⟩ := bd_l h
                  refine Lo_T (As := [.ref (cA 0), .int v_1, .int ((p2 / 6) - (p2 / 6) / 300 * 300)]) (rest := []) (wA := w) (wr := []) 13 87 (13) (87) 14 93 (co_setValve l hst D k cA nA tA X w hw v_1 ((p2 / 6) - (p2 / 6) / 300 * 300) (v_71, X_73) hv_70) ⟨hx, hb, hml, hown, hts⟩ (vx_cwSW 3 hts gL_act_L_setValve rfl rfl rfl (by decide +kernel) ⟨Nat.le_of_ble_eq_true rfl, Nat.le_of_ble_eq_true rfl⟩) hK hG hC hP hD hS hA (List.Perm.refl _) rfl hl.1 rfl (Nat.le_of_ble_eq_true rfl) dL_act_174 ⟨rfl, rfl⟩ ⟨rfl, rfl⟩ (by omega) (by omega) (fun ov w_72 H locs hQ hP hD hS => ?_)
                  obtain ⟨rfl, hw_72⟩ := hQ
                  refine W.eq (g2 := F0 m 177 ls [.long v_71]) rfl ?_
                  cases h
                  exact Cx_lret (B := B9) rfl (by rw [hB9]; exact ⟨rfl, hw_72⟩) (by show 13 ≤ 14; omega) (by show 87 ≤ 93; omega) hx hb hr (P_l hP) (D_l hD) hS dL_act_177 hlocks
                · have h := it_r c_69 h
                  by_cases c_74 : (p1 - p1 / 14 * 14) = 8
                  · have h := it_l c_74 h
                    refine lv_tableIn (tgt := 164) hx hb dL_act_9 (by rw [c_74]; decide) (by rw [c_74]; decide) (by rw [c_74]; rfl) (by decide) ?_
                    refine lv_aload_n hx hb dL_act_164 rfl (lv_at hl 1 rfl) ?_
                    refine lv_iload_n hx hb dL_act_165 rfl (lv_at hl 0 rfl) ?_
                    refine lv_iload_n hx hb dL_act_166 rfl (lv_at hl 3 rfl) ?_
                    refine lv_bipush (v := 6) hx hb dL_act_167 (by decide) ?_
                    refine lv_idiv hx hb dL_act_169 (by decide) ?_
                    refine lv_sipush (v := 300) hx hb dL_act_170 (by decide) ?_
                    refine lv_irem hx hb dL_act_173 (by decide) ?_
                    obtain ⟨⟨v_76, X_78⟩, hv_75, h⟩ := bd_l h
                    refine Lo_T (As := [.ref (cA 0), .int v_1, .int ((p2 / 6) - (p2 / 6) / 300 * 300)]) (rest := []) (wA := w) (wr := []) 13 87 (13) (87) 14 93 (co_setValve l hst D k cA nA tA X w hw v_1 ((p2 / 6) - (p2 / 6) / 300 * 300) (v_76, X_78) hv_75) ⟨hx, hb, hml, hown, hts⟩ (vx_cwSW 3 hts gL_act_L_setValve rfl rfl rfl (by decide +kernel) ⟨Nat.le_of_ble_eq_true rfl, Nat.le_of_ble_eq_true rfl⟩) hK hG hC hP hD hS hA (List.Perm.refl _) rfl hl.1 rfl (Nat.le_of_ble_eq_true rfl) dL_act_174 ⟨rfl, rfl⟩ ⟨rfl, rfl⟩ (by omega) (by omega) (fun ov w_77 H locs hQ hP hD hS => ?_)
                    obtain ⟨rfl, hw_77⟩ := hQ
                    refine W.eq (g2 := F0 m 177 ls [.long v_76]) rfl ?_
                    cases h
                    exact Cx_lret (B := B9) rfl (by rw [hB9]; exact ⟨rfl, hw_77⟩) (by show 13 ≤ 14; omega) (by show 87 ≤ 93; omega) hx hb hr (P_l hP) (D_l hD) hS dL_act_177 hlocks
                  · have h := it_r c_74 h
                    by_cases c_79 : (p1 - p1 / 14 * 14) = 9
                    · have h := it_l c_79 h
                      refine lv_tableIn (tgt := 178) hx hb dL_act_9 (by rw [c_79]; decide) (by rw [c_79]; decide) (by rw [c_79]; rfl) (by decide) ?_
                      refine lv_aload_n hx hb dL_act_178 rfl (lv_at hl 1 rfl) ?_
                      refine lv_iload_n hx hb dL_act_179 rfl (lv_at hl 0 rfl) ?_
                      refine lv_iload_n hx hb dL_act_180 rfl (lv_at hl 3 rfl) ?_
                      refine lv_bipush (v := 6) hx hb dL_act_181 (by decide) ?_
                      refine lv_idiv hx hb dL_act_183 (by decide) ?_
                      refine lv_bipush (v := 91) hx hb dL_act_184 (by decide) ?_
                      refine lv_irem hx hb dL_act_186 (by decide) ?_
                      obtain ⟨⟨v_81, X_83⟩, hv_80, h⟩ := bd_l h
                      refine Lo_T (As := [.ref (cA 0), .int v_1, .int ((p2 / 6) - (p2 / 6) / 91 * 91)]) (rest := []) (wA := w) (wr := []) 13 87 (13) (87) 14 93 (co_setBleed l hst D k cA nA tA X w hw v_1 ((p2 / 6) - (p2 / 6) / 91 * 91) (v_81, X_83) hv_80) ⟨hx, hb, hml, hown, hts⟩ (vx_cwSW 3 hts gL_act_L_setBleed rfl rfl rfl (by decide +kernel) ⟨Nat.le_of_ble_eq_true rfl, Nat.le_of_ble_eq_true rfl⟩) hK hG hC hP hD hS hA (List.Perm.refl _) rfl hl.1 rfl (Nat.le_of_ble_eq_true rfl) dL_act_187 ⟨rfl, rfl⟩ ⟨rfl, rfl⟩ (by omega) (by omega) (fun ov w_82 H locs hQ hP hD hS => ?_)
                      obtain ⟨rfl, hw_82⟩ := hQ
                      refine W.eq (g2 := F0 m 190 ls [.long v_81]) rfl ?_
                      cases h
                      exact Cx_lret (B := B9) rfl (by rw [hB9]; exact ⟨rfl, hw_82⟩) (by show 13 ≤ 14; omega) (by show 87 ≤ 93; omega) hx hb hr (P_l hP) (D_l hD) hS dL_act_190 hlocks
                    · have h := it_r c_79 h
                      by_cases c_84 : (p1 - p1 / 14 * 14) = 10
                      · have h := it_l c_84 h
                        refine lv_tableIn (tgt := 191) hx hb dL_act_9 (by rw [c_84]; decide) (by rw [c_84]; decide) (by rw [c_84]; rfl) (by decide) ?_
                        refine lv_aload_n hx hb dL_act_191 rfl (lv_at hl 1 rfl) ?_
                        refine lv_iload_n hx hb dL_act_192 rfl (lv_at hl 0 rfl) ?_
                        refine lv_iconst (v := 1) hx hb dL_act_193 (by decide) ?_
                        refine lv_iload_n hx hb dL_act_194 rfl (lv_at hl 3 rfl) ?_
                        refine lv_bipush (v := 6) hx hb dL_act_195 (by decide) ?_
                        refine lv_idiv hx hb dL_act_197 (by decide) ?_
                        refine lv_bipush (v := 20) hx hb dL_act_198 (by decide) ?_
                        refine lv_irem hx hb dL_act_200 (by decide) ?_
                        refine lv_iadd hx hb dL_act_201 ?_
                        obtain ⟨⟨v_86, X_88⟩, hv_85, h⟩ := bd_l h
                        refine Lo_T (As := [.ref (cA 0), .int v_1, .int (1 + ((p2 / 6) - (p2 / 6) / 20 * 20))]) (rest := []) (wA := w) (wr := []) 14 93 (14) (93) 14 93 (co_wash l hst D k cA nA tA X w hw v_1 (1 + ((p2 / 6) - (p2 / 6) / 20 * 20)) (v_86, X_88) hv_85) ⟨hx, hb, hml, hown, hts⟩ (vx_cwSW 3 hts gL_act_L_wash rfl rfl rfl (by decide +kernel) ⟨Nat.le_of_ble_eq_true rfl, Nat.le_of_ble_eq_true rfl⟩) hK hG hC hP hD hS hA (List.Perm.refl _) rfl hl.1 rfl (Nat.le_of_ble_eq_true rfl) dL_act_202 ⟨rfl, rfl⟩ ⟨rfl, rfl⟩ (by omega) (by omega) (fun ov w_87 H locs hQ hP hD hS => ?_)
                        obtain ⟨rfl, hw_87⟩ := hQ
                        refine W.eq (g2 := F0 m 205 ls [.long v_86]) rfl ?_
                        cases h
                        exact Cx_lret (B := B9) rfl (by rw [hB9]; exact ⟨rfl, hw_87⟩) (by show 14 ≤ 14; omega) (by show 93 ≤ 93; omega) hx hb hr (P_l hP) (D_l hD) hS dL_act_205 hlocks
                      · have h := it_r c_84 h
                        by_cases c_89 : (p1 - p1 / 14 * 14) = 11
                        · have h := it_l c_89 h
                          refine lv_tableIn (tgt := 206) hx hb dL_act_9 (by rw [c_89]; decide) (by rw [c_89]; decide) (by rw [c_89]; rfl) (by decide) ?_
                          refine lv_iload_n hx hb dL_act_206 rfl (lv_at hl 3 rfl) ?_
                          refine lv_iconst (v := 2) hx hb dL_act_207 (by decide) ?_
                          refine lv_irem hx hb dL_act_208 (by decide) ?_
                          refine lv_if_ne (tgt := 220) hx hb dL_act_209 (by decide) (fun c_90 => ?_) (fun c_90 => ?_)
                          · have h := it_r c_90 h
                            refine lv_aload_n hx hb dL_act_220 rfl (lv_at hl 1 rfl) ?_
                            refine lv_iconst (v := 1) hx hb dL_act_221 (by decide) ?_
                            obtain ⟨⟨v_92, X_94⟩, hv_91, h⟩ := bd_l h
                            refine Lo_T (As := [.ref (cA 0), .int 1]) (rest := []) (wA := w) (wr := []) 12 81 (12) (81) 14 93 (co_tick l hst D k cA nA tA X w hw 1 (v_92, X_94) hv_91) ⟨hx, hb, hml, hown, hts⟩ (vx_cwSW 2 hts gL_act_L_tick rfl rfl rfl (by decide +kernel) ⟨Nat.le_of_ble_eq_true rfl, Nat.le_of_ble_eq_true rfl⟩) hK hG hC hP hD hS hA (List.Perm.refl _) rfl hl.1 rfl (Nat.le_of_ble_eq_true rfl) dL_act_222 ⟨rfl, rfl⟩ ⟨rfl, rfl⟩ (by omega) (by omega) (fun ov w_93 H locs hQ hP hD hS => ?_)
                            obtain ⟨rfl, hw_93⟩ := hQ
                            refine W.eq (g2 := F0 m 225 ls [.long v_92]) rfl ?_
                            cases h
                            exact Cx_lret (B := B9) rfl (by rw [hB9]; exact ⟨rfl, hw_93⟩) (by show 12 ≤ 14; omega) (by show 81 ≤ 93; omega) hx hb hr (P_l hP) (D_l hD) hS dL_act_225 hlocks
                          · have h := it_l c_90 h
                            refine lv_aload_n hx hb dL_act_212 rfl (lv_at hl 1 rfl) ?_
                            refine lv_iload_n hx hb dL_act_213 rfl (lv_at hl 0 rfl) ?_
                            obtain ⟨⟨v_96, X_98⟩, hv_95, h⟩ := bd_l h
                            refine Lo_T (As := [.ref (cA 0), .int v_1]) (rest := []) (wA := w) (wr := []) 12 81 (12) (81) 14 93 (co_endWash l hst D k cA nA tA X w hw v_1 (v_96, X_98) hv_95) ⟨hx, hb, hml, hown, hts⟩ (vx_cwSW 2 hts gL_act_L_endWash rfl rfl rfl (by decide +kernel) ⟨Nat.le_of_ble_eq_true rfl, Nat.le_of_ble_eq_true rfl⟩) hK hG hC hP hD hS hA (List.Perm.refl _) rfl hl.1 rfl (Nat.le_of_ble_eq_true rfl) dL_act_214 ⟨rfl, rfl⟩ ⟨rfl, rfl⟩ (by omega) (by omega) (fun ov w_97 H locs hQ hP hD hS => ?_)
                            obtain ⟨rfl, hw_97⟩ := hQ
                            refine W.eq (g2 := F0 m 217 ls [.long v_96]) rfl ?_
                            refine lv_goto (tgt := 225) hx hb dL_act_217 (by decide) ?_
                            cases h
                            exact Cx_lret (B := B9) rfl (by rw [hB9]; exact ⟨rfl, hw_97⟩) (by show 12 ≤ 14; omega) (by show 81 ≤ 93; omega) hx hb hr (P_l hP) (D_l hD) hS dL_act_225 hlocks
                        · have h := it_r c_89 h
                          by_cases c_99 : (p1 - p1 / 14 * 14) = 12
                          · have h := it_l c_99 h
                            refine lv_tableIn (tgt := 226) hx hb dL_act_9 (by rw [c_99]; decide) (by rw [c_99]; decide) (by rw [c_99]; rfl) (by decide) ?_
                            refine lv_aload_n hx hb dL_act_226 rfl (lv_at hl 1 rfl) ?_
                            obtain ⟨⟨v_101, X_103⟩, hv_100, h⟩ := bd_l h
                            refine Lo_T (As := [.ref (cA 0)]) (rest := []) (wA := w) (wr := []) 11 75 (11) (75) 14 93 (co_undo l hst D k cA nA tA X w hw (v_101, X_103) hv_100) ⟨hx, hb, hml, hown, hts⟩ (vx_cwSW 1 hts gL_act_L_undo rfl rfl rfl (by decide +kernel) ⟨Nat.le_of_ble_eq_true rfl, Nat.le_of_ble_eq_true rfl⟩) hK hG hC hP hD hS hA (List.Perm.refl _) rfl hl.1 rfl (Nat.le_of_ble_eq_true rfl) dL_act_227 ⟨rfl, rfl⟩ ⟨rfl, rfl⟩ (by omega) (by omega) (fun ov w_102 H locs hQ hP hD hS => ?_)
                            obtain ⟨rfl, hw_102⟩ := hQ
                            refine W.eq (g2 := F0 m 230 ls [.long v_101]) rfl ?_
                            cases h
                            exact Cx_lret (B := B9) rfl (by rw [hB9]; exact ⟨rfl, hw_102⟩) (by show 11 ≤ 14; omega) (by show 75 ≤ 93; omega) hx hb hr (P_l hP) (D_l hD) hS dL_act_230 hlocks
                          · have h := it_r c_99 h
                            have n_c_2 : ¬ (p1 - p1 / 14 * 14).toInt = 0 := fun z9 => c_2 (Int32.toInt_inj.mp (z9.trans (by decide)))
                            have n_c_7 : ¬ (p1 - p1 / 14 * 14).toInt = 1 := fun z9 => c_7 (Int32.toInt_inj.mp (z9.trans (by decide)))
                            have n_c_12 : ¬ (p1 - p1 / 14 * 14).toInt = 2 := fun z9 => c_12 (Int32.toInt_inj.mp (z9.trans (by decide)))
                            have n_c_17 : ¬ (p1 - p1 / 14 * 14).toInt = 3 := fun z9 => c_17 (Int32.toInt_inj.mp (z9.trans (by decide)))
                            have n_c_22 : ¬ (p1 - p1 / 14 * 14).toInt = 4 := fun z9 => c_22 (Int32.toInt_inj.mp (z9.trans (by decide)))
                            have n_c_27 : ¬ (p1 - p1 / 14 * 14).toInt = 5 := fun z9 => c_27 (Int32.toInt_inj.mp (z9.trans (by decide)))
                            have n_c_48 : ¬ (p1 - p1 / 14 * 14).toInt = 6 := fun z9 => c_48 (Int32.toInt_inj.mp (z9.trans (by decide)))
                            have n_c_69 : ¬ (p1 - p1 / 14 * 14).toInt = 7 := fun z9 => c_69 (Int32.toInt_inj.mp (z9.trans (by decide)))
                            have n_c_74 : ¬ (p1 - p1 / 14 * 14).toInt = 8 := fun z9 => c_74 (Int32.toInt_inj.mp (z9.trans (by decide)))
                            have n_c_79 : ¬ (p1 - p1 / 14 * 14).toInt = 9 := fun z9 => c_79 (Int32.toInt_inj.mp (z9.trans (by decide)))
                            have n_c_84 : ¬ (p1 - p1 / 14 * 14).toInt = 10 := fun z9 => c_84 (Int32.toInt_inj.mp (z9.trans (by decide)))
                            have n_c_89 : ¬ (p1 - p1 / 14 * 14).toInt = 11 := fun z9 => c_89 (Int32.toInt_inj.mp (z9.trans (by decide)))
                            have n_c_99 : ¬ (p1 - p1 / 14 * 14).toInt = 12 := fun z9 => c_99 (Int32.toInt_inj.mp (z9.trans (by decide)))
                            refine lv_tableOut (tgt := 231) hx hb dL_act_9 (by omega) (by decide) ?_
                            refine lv_iload_n hx hb dL_act_231 rfl (lv_at hl 3 rfl) ?_
                            refine lv_iconst (v := 2) hx hb dL_act_232 (by decide) ?_
                            refine lv_irem hx hb dL_act_233 (by decide) ?_
                            refine lv_if_ne (tgt := 249) hx hb dL_act_234 (by decide) (fun c_104 => ?_) (fun c_104 => ?_)
                            · have h := it_r c_104 h
                              refine lv_aload_n hx hb dL_act_249 rfl (lv_at hl 1 rfl) ?_
                              refine lv_iload_n hx hb dL_act_250 rfl (lv_at hl 3 rfl) ?_
                              refine lv_iconst (v := 2) hx hb dL_act_251 (by decide) ?_
                              refine lv_idiv hx hb dL_act_252 (by decide) ?_
                              refine lv_iconst (v := 1) hx hb dL_act_253 (by decide) ?_
                              refine lv_iand hx hb dL_act_254 ?_
                              obtain ⟨⟨v_106, X_108⟩, hv_105, h⟩ := bd_l h
                              refine Lo_T (As := [.ref (cA 0), .int ((p2 / 2) &&& 1)]) (rest := []) (wA := w) (wr := []) 12 81 (12) (81) 14 93 (co_restore l hst D k cA nA tA X w hw ((p2 / 2) &&& 1) (v_106, X_108) hv_105) ⟨hx, hb, hml, hown, hts⟩ (vx_cwSW 2 hts gL_act_L_restore rfl rfl rfl (by decide +kernel) ⟨Nat.le_of_ble_eq_true rfl, Nat.le_of_ble_eq_true rfl⟩) hK hG hC hP hD hS hA (List.Perm.refl _) rfl hl.1 rfl (Nat.le_of_ble_eq_true rfl) dL_act_255 ⟨rfl, rfl⟩ ⟨rfl, rfl⟩ (by omega) (by omega) (fun ov w_107 H locs hQ hP hD hS => ?_)
                              obtain ⟨rfl, hw_107⟩ := hQ
                              refine W.eq (g2 := F0 m 258 ls [.long v_106]) rfl ?_
                              cases h
                              exact Cx_lret (B := B9) rfl (by rw [hB9]; exact ⟨rfl, hw_107⟩) (by show 12 ≤ 14; omega) (by show 81 ≤ 93; omega) hx hb hr (P_l hP) (D_l hD) hS dL_act_258 hlocks
                            · have h := it_l c_104 h
                              refine lv_aload_n hx hb dL_act_237 rfl (lv_at hl 1 rfl) ?_
                              refine lv_iload_n hx hb dL_act_238 rfl (lv_at hl 3 rfl) ?_
                              refine lv_iconst (v := 2) hx hb dL_act_239 (by decide) ?_
                              refine lv_idiv hx hb dL_act_240 (by decide) ?_
                              refine lv_iconst (v := 1) hx hb dL_act_241 (by decide) ?_
                              refine lv_iand hx hb dL_act_242 ?_
                              obtain ⟨⟨v_110, X_112⟩, hv_109, h⟩ := bd_l h
                              refine Lo_T (As := [.ref (cA 0), .int ((p2 / 2) &&& 1)]) (rest := []) (wA := w) (wr := []) 12 81 (12) (81) 14 93 (co_save l hst D k cA nA tA X w hw ((p2 / 2) &&& 1) (v_110, X_112) hv_109) ⟨hx, hb, hml, hown, hts⟩ (vx_cwSW 2 hts gL_act_L_save rfl rfl rfl (by decide +kernel) ⟨Nat.le_of_ble_eq_true rfl, Nat.le_of_ble_eq_true rfl⟩) hK hG hC hP hD hS hA (List.Perm.refl _) rfl hl.1 rfl (Nat.le_of_ble_eq_true rfl) dL_act_243 ⟨rfl, rfl⟩ ⟨rfl, rfl⟩ (by omega) (by omega) (fun ov w_111 H locs hQ hP hD hS => ?_)
                              obtain ⟨rfl, hw_111⟩ := hQ
                              refine W.eq (g2 := F0 m 246 ls [.long v_110]) rfl ?_
                              refine lv_goto (tgt := 258) hx hb dL_act_246 (by decide) ?_
                              cases h
                              exact Cx_lret (B := B9) rfl (by rw [hB9]; exact ⟨rfl, hw_111⟩) (by show 12 ≤ 14; omega) (by show 81 ≤ 93; omega) hx hb hr (P_l hP) (D_l hD) hS dL_act_258 hlocks
noncomputable def f_L_digits_74 (k_42 : Int32 → Int32 → Int32 → Int32 → XV → Option (Int32 × XV)) (x3_74 : Int32) (x5_74 : Int32) (x6_74 : Int32) (t0_74 : Int32) (X_74 : XV) : Option (Int32 × XV) := gb (nz x3_74) <| nm (x5_74 - x5_74 / x3_74 * x3_74) fun v_2 => if x3_74 < 10 then (k_42 1 t0_74 v_2 (x6_74 + 1) X_74) else (nm (x3_74 / 10) fun v_4 => k_42 v_4 t0_74 v_2 (x6_74 + 1) X_74)
noncomputable def f_L_digits_42 (p2 : Int32) : Nat → Int32 → Int32 → Int32 → Int32 → XV → Option (Int32 × XV)
  | 0, _, _, _, _, _ => none
  | fu + 1, x3_42, x4_42, x5_42, x6_42, X_42 => if p2 ≤ x6_42 then (gb (isb x4_42) <| some (x4_42, X_42)) else (if x4_42 = 0 then (gb (isb x4_42) <| some (x4_42, X_42)) else (gb (nz x3_42) <| bd (o_append X_42 (48 + (x5_42 / x3_42))) fun ⟨v_11, X_13⟩ => if (lg_cmp v_11 0) ≤ 0 then (f_L_digits_74 (f_L_digits_42 p2 fu) x3_42 x5_42 x6_42 0 X_13) else (f_L_digits_74 (f_L_digits_42 p2 fu) x3_42 x5_42 x6_42 1 X_13)))
noncomputable def f_L_digits (X : XV) (p1 : Int32) (p2 : Int32) : Option (Int32 × XV) := if p2 = 4 then (f_L_digits_42 p2 5 1000 1 p1 0 X) else (if p2 = 3 then (f_L_digits_42 p2 5 100 1 p1 0 X) else (if p2 = 2 then (f_L_digits_42 p2 5 10 1 p1 0 X) else (f_L_digits_42 p2 5 1 1 p1 0 X)))
set_option maxRecDepth 100000 in
set_option maxHeartbeats 4000000 in
theorem c_L_digits (l : Launch) (hst : l.stackTraces = false) (D : va_G) (k : Nat → ClassId) (cA nA tA : Nat → Nat) (X : XV) (w : va_W) (hw : Ob k cA nA tA X w) (p1 : Int32) (p2 : Int32) (o : Int32 × XV) (h : f_L_digits X p1 p2 = some o) : CO l D k yL_digits wsL_digits ({ frames := 9, cells := 12, slots := 72, locals := 147 } : Room) [.ref (cA 0), .int p1, .int p2] (w) (fun (ov : Option Value) (w' : va_W) => ov = some (.int o.1) ∧ Ob k cA nA tA o.2 w') := by
  obtain ⟨B9, hB9⟩ : ∃ B : Option Value → va_W → Prop, B = fun (ov : Option Value) (w' : va_W) => ov = some (.int o.1) ∧ Ob k cA nA tA o.2 w' := ⟨_, rfl⟩
  refine CO.of (P := B9) ?_ (fun ov w' h9 => by rw [hB9] at h9; exact h9)
  refine Cl_of0 (cc := cL_digits) (maxL := 7) (ret := (some .boolean)) (by decide) rfl (Nat.le_of_ble_eq_true rfl) ?_
  intro p e s m args below meth c A ls hx hb hr hml hts hown hlocks hK hG hC hA hP hD hS hl
  have hl : lv_has ls 7 [(0, .ref (cA 0)), (1, .int p1), (2, .int p2)] := hl
  have hP := P_n hP
  have hD := D_n hD
  unfold f_L_digits at h
  have hC_42 : ∀ (fu_42 : Nat) (x3_42 : Int32) (x4_42 : Int32) (x5_42 : Int32) (x6_42 : Int32) (X_42 : XV) (w_42 : va_W) (H : Heap) (locs : List Loc) (ls : Array Slot), fu_42 ≤ 5 → Ob k cA nA tA X_42 w_42 → va_P D vwCl (w_42 ++ []) H → va_D A (w_42 ++ []) → va_S A s.heap H locs → lv_has ls 7 [(0, .ref (cA 0)), (2, .int p2), (3, .int x3_42), (4, .int x4_42), (5, .int x5_42), (6, .int x6_42)] → f_L_digits_42 p2 fu_42 x3_42 x4_42 x5_42 x6_42 X_42 = some o → W p l e ({ frames := 9, cells := 12, slots := 72, locals := 147 } : Room) s m args below meth c H locs ((10 - 2 * fu_42)) ((60 - 12 * fu_42)) (vx_MQ below (Qx D A (.inr B9)) (Xx D A (w) (.inr B9)) args s 12 72 A) (F0 m 42 ls []) := by
    intro fu_42
    induction fu_42 with
    | zero => intro x3_42 x4_42 x5_42 x6_42 X_42 w_42 H locs ls _ _ _ _ _ _ h; exact (no_l h).elim
    | succ fu_42 ih_42 =>
      intro x3_42 x4_42 x5_42 x6_42 X_42 w_42 H locs ls hfu_42 hw_42 hP hD hS hl h
      rw [f_L_digits_42] at h
      have hC_74 : ∀ (x3_74 : Int32) (x5_74 : Int32) (x6_74 : Int32) (t0_74 : Int32) (X_74 : XV) (w_74 : va_W) (H : Heap) (locs : List Loc) (ls : Array Slot), Ob k cA nA tA X_74 w_74 → va_P D vwCl (w_74 ++ []) H → va_D A (w_74 ++ []) → va_S A s.heap H locs → lv_has ls 7 [(0, .ref (cA 0)), (2, .int p2), (3, .int x3_74), (5, .int x5_74), (6, .int x6_74)] → f_L_digits_74 (f_L_digits_42 p2 fu_42) x3_74 x5_74 x6_74 t0_74 X_74 = some o → W p l e ({ frames := 9, cells := 12, slots := 72, locals := 147 } : Room) s m args below meth c H locs ((10 - 2 * (fu_42 + 1)) + 2) ((60 - 12 * (fu_42 + 1)) + 12) (vx_MQ below (Qx D A (.inr B9)) (Xx D A (w) (.inr B9)) args s 12 72 A) (F0 m 74 ls [.int t0_74]) := by
        intro x3_74 x5_74 x6_74 t0_74 X_74 w_74 H locs ls hw_74 hP hD hS hl h
        unfold f_L_digits_74 at h
        refine lv_istore (lv' := [(4, .int t0_74), (0, .ref (cA 0)), (2, .int p2), (3, .int x3_74), (5, .int x5_74), (6, .int x6_74)]) hx hb dL_digits_74 hl (by decide) rfl (fun ls hl => ?_)
        refine lv_iload hx hb dL_digits_76 (lv_at hl 4 rfl) ?_
        refine lv_iload_n hx hb dL_digits_78 rfl (lv_at hl 3 rfl) ?_
        have g_1 := nz_l (gb_l h)
        have h := gb_r h
        refine lv_irem hx hb dL_digits_79 g_1 ?_
        refine lv_topi (fun v_2 ev_2 => ?_)
        have h := nm_l h ev_2
        refine lv_istore (lv' := [(5, .int v_2), (4, .int t0_74), (0, .ref (cA 0)), (2, .int p2), (3, .int x3_74), (6, .int x6_74)]) hx hb dL_digits_80 hl (by decide) rfl (fun ls hl => ?_)
        refine lv_iload_n hx hb dL_digits_82 rfl (lv_at hl 4 rfl) ?_
        refine lv_bipush (v := 10) hx hb dL_digits_83 (by decide) ?_
        refine lv_icmp_lt (tgt := 95) hx hb dL_digits_85 (by decide) (fun c_3 => ?_) (fun c_3 => ?_)
        · have h := it_l c_3 h
          refine lv_iconst (v := 1) hx hb dL_digits_95 (by decide) ?_
          refine lv_istore_n (lv' := [(3, .int 1), (5, .int v_2), (4, .int t0_74), (0, .ref (cA 0)), (2, .int p2), (6, .int x6_74)]) hx hb dL_digits_96 rfl hl (by decide) rfl (fun ls hl => ?_)
          refine lv_iinc (v := (x6_74 + 1)) (lv' := [(6, .int (x6_74 + 1)), (3, .int 1), (5, .int v_2), (4, .int t0_74), (0, .ref (cA 0)), (2, .int p2)]) hx hb dL_digits_97 hl (k := 5) rfl rfl (by decide) rfl (fun ls hl => ?_)
          refine lv_goto (tgt := 42) hx hb dL_digits_100 (by decide) ?_
          refine W.widen (k := (10 - 2 * fu_42)) (n := (60 - 12 * fu_42)) (by omega) (by omega) ?_
          exact ih_42 1 t0_74 v_2 (x6_74 + 1) X_74 w_74 _ _ _ (by omega) hw_74 hP hD hS (lv_sub hl [4, 5, 1, 3, 2, 0] rfl) h
        · have h := it_r c_3 h
          refine lv_iload_n hx hb dL_digits_88 rfl (lv_at hl 4 rfl) ?_
          refine lv_bipush (v := 10) hx hb dL_digits_89 (by decide) ?_
          refine lv_idiv hx hb dL_digits_91 (by decide) ?_
          refine lv_goto (tgt := 96) hx hb dL_digits_92 (by decide) ?_
          refine lv_topi (fun v_4 ev_4 => ?_)
          have h := nm_l h ev_4
          refine lv_istore_n (lv' := [(3, .int v_4), (5, .int v_2), (4, .int t0_74), (0, .ref (cA 0)), (2, .int p2), (6, .int x6_74)]) hx hb dL_digits_96 rfl hl (by decide) rfl (fun ls hl => ?_)
          refine lv_iinc (v := (x6_74 + 1)) (lv' := [(6, .int (x6_74 + 1)), (3, .int v_4), (5, .int v_2), (4, .int t0_74), (0, .ref (cA 0)), (2, .int p2)]) hx hb dL_digits_97 hl (k := 5) rfl rfl (by decide) rfl (fun ls hl => ?_)
          refine lv_goto (tgt := 42) hx hb dL_digits_100 (by decide) ?_
          refine W.widen (k := (10 - 2 * fu_42)) (n := (60 - 12 * fu_42)) (by omega) (by omega) ?_
          exact ih_42 v_4 t0_74 v_2 (x6_74 + 1) X_74 w_74 _ _ _ (by omega) hw_74 hP hD hS (lv_sub hl [4, 5, 1, 3, 2, 0] rfl) h
      refine lv_iload hx hb dL_digits_42 (lv_at hl 5 rfl) ?_
      refine lv_iload_n hx hb dL_digits_44 rfl (lv_at hl 1 rfl) ?_
      refine lv_icmp_ge (tgt := 103) hx hb dL_digits_45 (by decide) (fun c_5 => ?_) (fun c_5 => ?_)
      · have h := it_l c_5 h
        refine lv_iload hx hb dL_digits_103 (lv_at hl 3 rfl) ?_
        have g_6 := gb_l h
        have h := gb_r h
        cases h
        exact Cx_zret (B := B9) rfl (by rw [hB9]; exact ⟨rfl, hw_42⟩) (by show (10 - 2 * (fu_42 + 1)) ≤ 12; omega) (by show (60 - 12 * (fu_42 + 1)) ≤ 72; omega) hx hb hr (isb_l g_6) (P_l hP) (D_l hD) hS dL_digits_105 hlocks
      · have h := it_r c_5 h
        refine lv_iload hx hb dL_digits_48 (lv_at hl 3 rfl) ?_
        refine lv_if_eq (tgt := 103) hx hb dL_digits_50 (by decide) (fun c_7 => ?_) (fun c_7 => ?_)
        · have h := it_l c_7 h
          refine lv_iload hx hb dL_digits_103 (lv_at hl 3 rfl) ?_
          have g_8 := gb_l h
          have h := gb_r h
          cases h
          exact Cx_zret (B := B9) rfl (by rw [hB9]; exact ⟨rfl, hw_42⟩) (by show (10 - 2 * (fu_42 + 1)) ≤ 12; omega) (by show (60 - 12 * (fu_42 + 1)) ≤ 72; omega) hx hb hr (isb_l g_8) (P_l hP) (D_l hD) hS dL_digits_105 hlocks
        · have h := it_r c_7 h
          refine lv_aload_n hx hb dL_digits_53 rfl (lv_at hl 0 rfl) ?_
          refine lv_bipush (v := 48) hx hb dL_digits_54 (by decide) ?_
          refine lv_iload hx hb dL_digits_56 (lv_at hl 4 rfl) ?_
          refine lv_iload_n hx hb dL_digits_58 rfl (lv_at hl 2 rfl) ?_
          have g_9 := nz_l (gb_l h)
          have h := gb_r h
          refine lv_idiv hx hb dL_digits_59 g_9 ?_
          refine lv_iadd hx hb dL_digits_60 ?_
          obtain ⟨⟨v_11, X_13⟩, hv_10, h⟩ := bd_l h
          refine Lo_T (As := [.ref (cA 0), .int (48 + (x5_42 / x3_42))]) (rest := []) (wA := w_42) (wr := []) 2 12 ((10 - 2 * (fu_42 + 1)) + 2) ((60 - 12 * (fu_42 + 1)) + 12) 12 72 (co_append l hst D k cA nA tA X_42 w_42 hw_42 (48 + (x5_42 / x3_42)) (v_11, X_13) hv_10) ⟨hx, hb, hml, hown, hts⟩ (vx_cwSW 2 hts gL_digits_L_append rfl rfl rfl (by decide +kernel) ⟨Nat.le_of_ble_eq_true rfl, Nat.le_of_ble_eq_true rfl⟩) hK hG hC hP hD hS hA (List.Perm.refl _) rfl hl.1 rfl (Nat.le_of_ble_eq_true rfl) dL_digits_61 ⟨rfl, rfl⟩ ⟨rfl, rfl⟩ (by omega) (by omega) (fun ov w_12 H locs hQ hP hD hS => ?_)
          obtain ⟨rfl, hw_12⟩ := hQ
          refine W.eq (g2 := F0 m 64 ls [.long v_11]) rfl ?_
          refine lv_lconst (v := 0) hx hb dL_digits_64 (by decide) ?_
          refine W.lcmp hx hb dL_digits_65 ?_
          refine lv_if_le (tgt := 73) hx hb dL_digits_66 (by decide) (fun c_14 => ?_) (fun c_14 => ?_)
          · have h := it_l c_14 h
            refine lv_iconst (v := 0) hx hb dL_digits_73 (by decide) ?_
            refine W.widen (k := (10 - 2 * (fu_42 + 1)) + 2) (n := (60 - 12 * (fu_42 + 1)) + 12) (by omega) (by omega) ?_
            exact hC_74 x3_42 x5_42 x6_42 0 X_13 w_12 _ _ _ hw_12 hP hD hS (lv_sub hl [0, 1, 2, 4, 5] rfl) h
          · have h := it_r c_14 h
            refine lv_iconst (v := 1) hx hb dL_digits_69 (by decide) ?_
            refine lv_goto (tgt := 74) hx hb dL_digits_70 (by decide) ?_
            refine W.widen (k := (10 - 2 * (fu_42 + 1)) + 2) (n := (60 - 12 * (fu_42 + 1)) + 12) (by omega) (by omega) ?_
            exact hC_74 x3_42 x5_42 x6_42 1 X_13 w_12 _ _ _ hw_12 hP hD hS (lv_sub hl [0, 1, 2, 4, 5] rfl) h
  refine lv_iload_n hx hb dL_digits_0 rfl (lv_at hl 2 rfl) ?_
  refine lv_iconst (v := 4) hx hb dL_digits_1 (by decide) ?_
  refine lv_icmp_ne (tgt := 11) hx hb dL_digits_2 (by decide) (fun c_15 => ?_) (fun c_15 => ?_)
  · have h := it_r c_15 h
    refine lv_iload_n hx hb dL_digits_11 rfl (lv_at hl 2 rfl) ?_
    refine lv_iconst (v := 3) hx hb dL_digits_12 (by decide) ?_
    refine lv_icmp_ne (tgt := 21) hx hb dL_digits_13 (by decide) (fun c_16 => ?_) (fun c_16 => ?_)
    · have h := it_r c_16 h
      refine lv_iload_n hx hb dL_digits_21 rfl (lv_at hl 2 rfl) ?_
      refine lv_iconst (v := 2) hx hb dL_digits_22 (by decide) ?_
      refine lv_icmp_ne (tgt := 31) hx hb dL_digits_23 (by decide) (fun c_17 => ?_) (fun c_17 => ?_)
      · have h := it_r c_17 h
        refine lv_iconst (v := 1) hx hb dL_digits_31 (by decide) ?_
        refine lv_istore_n (lv' := [(3, .int 1), (0, .ref (cA 0)), (1, .int p1), (2, .int p2)]) hx hb dL_digits_32 rfl hl (by decide) rfl (fun ls hl => ?_)
        refine lv_iconst (v := 1) hx hb dL_digits_33 (by decide) ?_
        refine lv_istore (lv' := [(4, .int 1), (3, .int 1), (0, .ref (cA 0)), (1, .int p1), (2, .int p2)]) hx hb dL_digits_34 hl (by decide) rfl (fun ls hl => ?_)
        refine lv_iload_n hx hb dL_digits_36 rfl (lv_at hl 3 rfl) ?_
        refine lv_istore (lv' := [(5, .int p1), (4, .int 1), (3, .int 1), (0, .ref (cA 0)), (1, .int p1), (2, .int p2)]) hx hb dL_digits_37 hl (by decide) rfl (fun ls hl => ?_)
        refine lv_iconst (v := 0) hx hb dL_digits_39 (by decide) ?_
        refine lv_istore (lv' := [(6, .int 0), (5, .int p1), (4, .int 1), (3, .int 1), (0, .ref (cA 0)), (1, .int p1), (2, .int p2)]) hx hb dL_digits_40 hl (by decide) rfl (fun ls hl => ?_)
        refine W.widen (k := (10 - 2 * 5)) (n := (60 - 12 * 5)) (by omega) (by omega) ?_
        exact hC_42 5 1 1 p1 0 X w _ _ _ (Nat.le_refl _) hw hP hD hS (lv_sub hl [4, 6, 3, 2, 1, 0] rfl) h
      · have h := it_l c_17 h
        refine lv_bipush (v := 10) hx hb dL_digits_26 (by decide) ?_
        refine lv_goto (tgt := 32) hx hb dL_digits_28 (by decide) ?_
        refine lv_istore_n (lv' := [(3, .int 10), (0, .ref (cA 0)), (1, .int p1), (2, .int p2)]) hx hb dL_digits_32 rfl hl (by decide) rfl (fun ls hl => ?_)
        refine lv_iconst (v := 1) hx hb dL_digits_33 (by decide) ?_
        refine lv_istore (lv' := [(4, .int 1), (3, .int 10), (0, .ref (cA 0)), (1, .int p1), (2, .int p2)]) hx hb dL_digits_34 hl (by decide) rfl (fun ls hl => ?_)
        refine lv_iload_n hx hb dL_digits_36 rfl (lv_at hl 3 rfl) ?_
        refine lv_istore (lv' := [(5, .int p1), (4, .int 1), (3, .int 10), (0, .ref (cA 0)), (1, .int p1), (2, .int p2)]) hx hb dL_digits_37 hl (by decide) rfl (fun ls hl => ?_)
        refine lv_iconst (v := 0) hx hb dL_digits_39 (by decide) ?_
        refine lv_istore (lv' := [(6, .int 0), (5, .int p1), (4, .int 1), (3, .int 10), (0, .ref (cA 0)), (1, .int p1), (2, .int p2)]) hx hb dL_digits_40 hl (by decide) rfl (fun ls hl => ?_)
        refine W.widen (k := (10 - 2 * 5)) (n := (60 - 12 * 5)) (by omega) (by omega) ?_
        exact hC_42 5 10 1 p1 0 X w _ _ _ (Nat.le_refl _) hw hP hD hS (lv_sub hl [4, 6, 3, 2, 1, 0] rfl) h
    · have h := it_l c_16 h
      refine lv_bipush (v := 100) hx hb dL_digits_16 (by decide) ?_
      refine lv_goto (tgt := 32) hx hb dL_digits_18 (by decide) ?_
      refine lv_istore_n (lv' := [(3, .int 100), (0, .ref (cA 0)), (1, .int p1), (2, .int p2)]) hx hb dL_digits_32 rfl hl (by decide) rfl (fun ls hl => ?_)
      refine lv_iconst (v := 1) hx hb dL_digits_33 (by decide) ?_
      refine lv_istore (lv' := [(4, .int 1), (3, .int 100), (0, .ref (cA 0)), (1, .int p1), (2, .int p2)]) hx hb dL_digits_34 hl (by decide) rfl (fun ls hl => ?_)
      refine lv_iload_n hx hb dL_digits_36 rfl (lv_at hl 3 rfl) ?_
      refine lv_istore (lv' := [(5, .int p1), (4, .int 1), (3, .int 100), (0, .ref (cA 0)), (1, .int p1), (2, .int p2)]) hx hb dL_digits_37 hl (by decide) rfl (fun ls hl => ?_)
      refine lv_iconst (v := 0) hx hb dL_digits_39 (by decide) ?_
      refine lv_istore (lv' := [(6, .int 0), (5, .int p1), (4, .int 1), (3, .int 100), (0, .ref (cA 0)), (1, .int p1), (2, .int p2)]) hx hb dL_digits_40 hl (by decide) rfl (fun ls hl => ?_)
      refine W.widen (k := (10 - 2 * 5)) (n := (60 - 12 * 5)) (by omega) (by omega) ?_
      exact hC_42 5 100 1 p1 0 X w _ _ _ (Nat.le_refl _) hw hP hD hS (lv_sub hl [4, 6, 3, 2, 1, 0] rfl) h
  · have h := it_l c_15 h
    refine lv_sipush (v := 1000) hx hb dL_digits_5 (by decide) ?_
    refine lv_goto (tgt := 32) hx hb dL_digits_8 (by decide) ?_
    refine lv_istore_n (lv' := [(3, .int 1000), (0, .ref (cA 0)), (1, .int p1), (2, .int p2)]) hx hb dL_digits_32 rfl hl (by decide) rfl (fun ls hl => ?_)
    refine lv_iconst (v := 1) hx hb dL_digits_33 (by decide) ?_
    refine lv_istore (lv' := [(4, .int 1), (3, .int 1000), (0, .ref (cA 0)), (1, .int p1), (2, .int p2)]) hx hb dL_digits_34 hl (by decide) rfl (fun ls hl => ?_)
    refine lv_iload_n hx hb dL_digits_36 rfl (lv_at hl 3 rfl) ?_
    refine lv_istore (lv' := [(5, .int p1), (4, .int 1), (3, .int 1000), (0, .ref (cA 0)), (1, .int p1), (2, .int p2)]) hx hb dL_digits_37 hl (by decide) rfl (fun ls hl => ?_)
    refine lv_iconst (v := 0) hx hb dL_digits_39 (by decide) ?_
    refine lv_istore (lv' := [(6, .int 0), (5, .int p1), (4, .int 1), (3, .int 1000), (0, .ref (cA 0)), (1, .int p1), (2, .int p2)]) hx hb dL_digits_40 hl (by decide) rfl (fun ls hl => ?_)
    refine W.widen (k := (10 - 2 * 5)) (n := (60 - 12 * 5)) (by omega) (by omega) ?_
    exact hC_42 5 1000 1 p1 0 X w _ _ _ (Nat.le_refl _) hw hP hD hS (lv_sub hl [4, 6, 3, 2, 1, 0] rfl) h
noncomputable def f_L_built_408 (X : XV) (x2_408 : Int64) (x4_408 : Int64) (x6_408 : Int32) (x8_408 : Int32) : Option (Int32) := if x8_408 = 0 then (some (0)) else (bd (o_about X 7) fun v_3 => if (lg_cmp v_3 (x6_408.toInt64)) = 0 then (bd (o_about X 8) fun v_7 => if (lg_cmp v_7 x2_408) = 0 then (bd (o_about X 9) fun v_11 => if (lg_cmp v_11 x4_408) = 0 then (bd (o_total X 2) fun v_15 => bd (o_total X 1) fun v_18 => if 0 < (lg_cmp v_15 v_18) then (some (0)) else (bd (o_total X 3) fun v_22 => bd (o_total X 1) fun v_25 => if 0 < (lg_cmp v_22 v_25) then (some (0)) else (bd (o_total X 0) fun v_29 => bd (o_total X 2) fun v_32 => bd (o_total X 3) fun v_35 => bd (o_total X 4) fun v_38 => if (lg_cmp v_29 ((v_32 + v_35) + v_38)) = 0 then (some (1)) else (some (0))))) else (some (0))) else (some (0))) else (some (0)))
noncomputable def f_L_built_378 (k_349 : Int64 → Int64 → Int32 → Int32 → Int32 → Int32 → Option (Int32)) (X : XV) (x2_349 : Int64) (x4_349 : Int64) (x6_349 : Int32) (x9_378 : Int32) (x10_378 : Int32) (t0_378 : Int32) : Option (Int32) := bd (o_effect X x10_378 7) fun v_42 => if (lg_cmp v_42 0) = 0 then (k_349 x2_349 x4_349 x6_349 t0_378 x10_378 (x10_378 + (-1))) else (k_349 x2_349 x4_349 x6_349 t0_378 x9_378 (x10_378 + (-1)))
noncomputable def f_L_built_349 (X : XV) : Nat → Int64 → Int64 → Int32 → Int32 → Int32 → Int32 → Option (Int32)
  | 0, _, _, _, _, _, _ => none
  | fu + 1, x2_349, x4_349, x6_349, x8_349, x9_349, x10_349 => if x10_349 < 0 then (f_L_built_408 X x2_349 x4_349 x6_349 x8_349) else (if x8_349 = 0 then (f_L_built_408 X x2_349 x4_349 x6_349 x8_349) else (bd (o_neighbor X x10_349 1) fun v_48 => if (lg_cmp v_48 (x9_349.toInt64)) = 0 then (f_L_built_378 (f_L_built_349 X fu) X x2_349 x4_349 x6_349 x9_349 x10_349 1) else (f_L_built_378 (f_L_built_349 X fu) X x2_349 x4_349 x6_349 x9_349 x10_349 0)))
noncomputable def f_L_built_310 (k_23 : Int32 → Int64 → Int64 → Int32 → Int32 → Int32 → Int32 → Option (Int32)) (X : XV) (x1_23 : Int32) (x2_310 : Int64) (x4_310 : Int64) (x6_310 : Int32) (x7_310 : Int32) (x9_310 : Int32) (t0_310 : Int32) : Option (Int32) := bd (o_effect X x9_310 7) fun v_52 => if (lg_cmp v_52 0) = 0 then (k_23 x1_23 x2_310 x4_310 x6_310 x9_310 t0_310 (x9_310 + 1)) else (k_23 x1_23 x2_310 x4_310 x6_310 x7_310 t0_310 (x9_310 + 1))
noncomputable def f_L_built_309 (k_23 : Int32 → Int64 → Int64 → Int32 → Int32 → Int32 → Int32 → Option (Int32)) (X : XV) (x1_23 : Int32) (x2_309 : Int64) (x4_309 : Int64) (x6_309 : Int32) (x7_309 : Int32) (x9_309 : Int32) : Option (Int32) := f_L_built_310 k_23 X x1_23 x2_309 x4_309 x6_309 x7_309 x9_309 0
noncomputable def f_L_built_302 (k_23 : Int32 → Int64 → Int64 → Int32 → Int32 → Int32 → Int32 → Option (Int32)) (X : XV) (x1_23 : Int32) (x2_302 : Int64) (x4_302 : Int64) (x6_302 : Int32) (x7_302 : Int32) (x9_302 : Int32) (t0_302 : Int32) (t1_302 : Int32) : Option (Int32) := if t1_302 = t0_302 then (f_L_built_310 k_23 X x1_23 x2_302 x4_302 x6_302 x7_302 x9_302 1) else (f_L_built_309 k_23 X x1_23 x2_302 x4_302 x6_302 x7_302 x9_302)
noncomputable def f_L_built_290 (k_23 : Int32 → Int64 → Int64 → Int32 → Int32 → Int32 → Int32 → Option (Int32)) (X : XV) (x1_23 : Int32) (x2_290 : Int64) (x4_290 : Int64) (x6_290 : Int32) (x7_290 : Int32) (x9_290 : Int32) (x12_290 : Int64) (t0_290 : Int32) : Option (Int32) := if (lg_cmp x12_290 0) = 0 then (f_L_built_302 k_23 X x1_23 x2_290 x4_290 x6_290 x7_290 x9_290 1 t0_290) else (f_L_built_302 k_23 X x1_23 x2_290 x4_290 x6_290 x7_290 x9_290 0 t0_290)
noncomputable def f_L_built_204 (k_23 : Int32 → Int64 → Int64 → Int32 → Int32 → Int32 → Int32 → Option (Int32)) (X : XV) (x1_23 : Int32) (x2_204 : Int64) (x4_204 : Int64) (x6_204 : Int32) (x7_204 : Int32) (x9_204 : Int32) (x12_204 : Int64) (x14_204 : Int64) (t0_204 : Int64) (t1_204 : Int64) : Option (Int32) := if (lg_cmp t1_204 t0_204) = 0 then (bd (o_effect X x9_204 9) fun v_59 => bd (o_effect X x9_204 0) fun v_62 => gb (nzl (10 + x14_204)) <| if (lg_cmp v_59 ((100 * v_62) / (10 + x14_204))) = 0 then (bd (o_neighbor X x9_204 0) fun v_67 => if (lg_cmp v_67 (x7_204.toInt64)) = 0 then (bd (o_share X x9_204) fun v_71 => if (Op.cmpValue (FP.fcmp v_71 FP.fconst0) .l) < 0 then (f_L_built_309 k_23 X x1_23 x2_204 x4_204 x6_204 x7_204 x9_204) else (bd (o_share X x9_204) fun v_75 => if 0 < (Op.cmpValue (FP.fcmp v_75 FP.fconst1) .g) then (f_L_built_309 k_23 X x1_23 x2_204 x4_204 x6_204 x7_204 x9_204) else (bd (o_share X x9_204) fun v_79 => if (Op.cmpValue (FP.fcmp v_79 FP.fconst0) .l) = 0 then (f_L_built_290 k_23 X x1_23 x2_204 x4_204 x6_204 x7_204 x9_204 x12_204 1) else (f_L_built_290 k_23 X x1_23 x2_204 x4_204 x6_204 x7_204 x9_204 x12_204 0)))) else (f_L_built_309 k_23 X x1_23 x2_204 x4_204 x6_204 x7_204 x9_204)) else (f_L_built_309 k_23 X x1_23 x2_204 x4_204 x6_204 x7_204 x9_204)) else (f_L_built_309 k_23 X x1_23 x2_204 x4_204 x6_204 x7_204 x9_204)
noncomputable def f_L_built_93 (k_23 : Int32 → Int64 → Int64 → Int32 → Int32 → Int32 → Int32 → Option (Int32)) (X : XV) (x1_23 : Int32) (x2_93 : Int64) (x4_93 : Int64) (x7_93 : Int32) (x9_93 : Int32) (x10_93 : Int64) (x12_93 : Int64) (x14_93 : Int64) (t0_93 : Int32) (t1_93 : Int32) : Option (Int32) := nm (t1_93 + t0_93) fun v_82 => if (lg_cmp x10_93 0) < 0 then (f_L_built_309 k_23 X x1_23 x2_93 x4_93 v_82 x7_93 x9_93) else (if (lg_cmp x12_93 0) < 0 then (f_L_built_309 k_23 X x1_23 x2_93 x4_93 v_82 x7_93 x9_93) else (if 0 < (lg_cmp (x10_93 + x12_93) 5000) then (f_L_built_309 k_23 X x1_23 x2_93 x4_93 v_82 x7_93 x9_93) else (bd (f_L_in x14_93 0 99) fun v_87 => if v_87 = 0 then (f_L_built_309 k_23 X x1_23 x2_93 x4_93 v_82 x7_93 x9_93) else (bd (o_effect X x9_93 6) fun v_90 => bd (f_L_in v_90 0 999) fun v_93 => if v_93 = 0 then (f_L_built_309 k_23 X x1_23 x2_93 x4_93 v_82 x7_93 x9_93) else (bd (o_effect X x9_93 7) fun v_96 => bd (f_L_in v_96 0 20) fun v_99 => if v_99 = 0 then (f_L_built_309 k_23 X x1_23 x2_93 x4_93 v_82 x7_93 x9_93) else (bd (o_effect X x9_93 8) fun v_102 => if (lg_cmp (x10_93 + x12_93) 0) = 0 then (f_L_built_204 k_23 X x1_23 x2_93 x4_93 v_82 x7_93 x9_93 x12_93 x14_93 0 v_102) else (gb (nzl (x10_93 + x12_93)) <| f_L_built_204 k_23 X x1_23 x2_93 x4_93 v_82 x7_93 x9_93 x12_93 x14_93 ((100 * x12_93) / (x10_93 + x12_93)) v_102)))))))
noncomputable def f_L_built_23 (X : XV) : Nat → Int32 → Int64 → Int64 → Int32 → Int32 → Int32 → Int32 → Option (Int32)
  | 0, _, _, _, _, _, _, _ => none
  | fu + 1, x1_23, x2_23, x4_23, x6_23, x7_23, x8_23, x9_23 => if x1_23 ≤ x9_23 then (nm (x1_23 - 1) fun v_107 => f_L_built_349 X 7 x2_23 x4_23 x6_23 x8_23 (-9) v_107) else (if x8_23 = 0 then (nm (x1_23 - 1) fun v_109 => f_L_built_349 X 7 x2_23 x4_23 x6_23 x8_23 (-9) v_109) else (bd (o_effect X x9_23 1) fun v_111 => bd (o_effect X x9_23 2) fun v_114 => bd (o_effect X x9_23 5) fun v_117 => nm (x2_23 + v_111) fun v_119 => nm (x4_23 + v_114) fun v_120 => bd (o_effect X x9_23 7) fun v_122 => if (lg_cmp v_122 0) ≤ 0 then (f_L_built_93 (f_L_built_23 X fu) X x1_23 v_119 v_120 x7_23 x9_23 v_111 v_114 v_117 0 x6_23) else (f_L_built_93 (f_L_built_23 X fu) X x1_23 v_119 v_120 x7_23 x9_23 v_111 v_114 v_117 1 x6_23)))
noncomputable def f_L_built (X : XV) : Option (Int32) := bd (f_L_effects X) fun v_126 => f_L_built_23 X 7 v_126 0 0 0 (-9) 1 0
set_option maxRecDepth 100000 in
set_option maxHeartbeats 4000000 in
theorem c_L_built (l : Launch) (hst : l.stackTraces = false) (D : va_G) (k : Nat → ClassId) (cA nA tA : Nat → Nat) (X : XV) (w : va_W) (hw : Ob k cA nA tA X w) (o : Int32) (h : f_L_built X = some o) : CO l D k yL_built wsL_built ({ frames := 10, cells := 228, slots := 1368, locals := 167 } : Room) [.ref (cA 0)] (w) (fun (ov : Option Value) (w' : va_W) => ov = some (.int o) ∧ Ob k cA nA tA X w') := by
  obtain ⟨B9, hB9⟩ : ∃ B : Option Value → va_W → Prop, B = fun (ov : Option Value) (w' : va_W) => ov = some (.int o) ∧ Ob k cA nA tA X w' := ⟨_, rfl⟩
  refine CO.of (P := B9) ?_ (fun ov w' h9 => by rw [hB9] at h9; exact h9)
  refine Cl_of0 (cc := cL_built) (maxL := 16) (ret := (some .boolean)) (by decide) rfl (Nat.le_of_ble_eq_true rfl) ?_
  intro p e s m args below meth c A ls hx hb hr hml hts hown hlocks hK hG hC hA hP hD hS hl
  have hl : lv_has ls 16 [(0, .ref (cA 0))] := hl
  have hP := P_n hP
  have hD := D_n hD
  have w_0 := hts (.constantLong RL 198 (100)) (by decide +kernel)
  have w_1 := hts (.constantLong RL 200 (10)) (by decide +kernel)
  have w_2 := hts (.constantLong RL 186 (5000)) (by decide +kernel)
  have w_3 := hts (.constantLong RL 188 (99)) (by decide +kernel)
  have w_4 := hts (.constantLong RL 194 (999)) (by decide +kernel)
  have w_5 := hts (.constantLong RL 196 (20)) (by decide +kernel)
  unfold f_L_built at h
  have hC_408 : ∀ (x2_408 : Int64) (x4_408 : Int64) (x6_408 : Int32) (x8_408 : Int32) (w_408 : va_W) (H : Heap) (locs : List Loc) (ls : Array Slot), Ob k cA nA tA X w_408 → va_P D vwCl (w_408 ++ []) H → va_D A (w_408 ++ []) → va_S A s.heap H locs → lv_has ls 16 [(0, .ref (cA 0)), (2, .long x2_408), (4, .long x4_408), (6, .int x6_408), (8, .int x8_408)] → f_L_built_408 X x2_408 x4_408 x6_408 x8_408 = some o → W p l e ({ frames := 10, cells := 228, slots := 1368, locals := 167 } : Room) s m args below meth c H locs (217) (1302) (vx_MQ below (Qx D A (.inr B9)) (Xx D A (w) (.inr B9)) args s 228 1368 A) (F0 m 408 ls []) := by
    intro x2_408 x4_408 x6_408 x8_408 w_408 H locs ls hw_408 hP hD hS hl h
    unfold f_L_built_408 at h
    refine lv_iload hx hb dL_built_408 (lv_at hl 4 rfl) ?_
    refine lv_if_eq (tgt := 507) hx hb dL_built_410 (by decide) (fun c_1 => ?_) (fun c_1 => ?_)
    · have h := it_l c_1 h
      refine lv_iconst (v := 0) hx hb dL_built_507 (by decide) ?_
      cases h
      exact Cx_zret (B := B9) rfl (by rw [hB9]; exact ⟨rfl, hw_408⟩) (by show 217 ≤ 228; omega) (by show 1302 ≤ 1368; omega) hx hb hr (by decide) (P_l hP) (D_l hD) hS dL_built_508 hlocks
    · have h := it_r c_1 h
      refine lv_aload_n hx hb dL_built_413 rfl (lv_at hl 0 rfl) ?_
      refine lv_bipush (v := 7) hx hb dL_built_414 (by decide) ?_
      obtain ⟨v_3, hv_2, h⟩ := bd_l h
      refine Lo_T (As := [.ref (cA 0), .int 7]) (rest := []) (wA := w_408) (wr := []) 1 6 (218) (1308) 228 1368 (co_about l hst D k cA nA tA X w_408 hw_408 7 v_3 hv_2) ⟨hx, hb, hml, hown, hts⟩ (vx_cwSW 2 hts gL_built_L_about rfl rfl rfl (by decide +kernel) ⟨Nat.le_of_ble_eq_true rfl, Nat.le_of_ble_eq_true rfl⟩) hK hG hC hP hD hS hA (List.Perm.refl _) rfl hl.1 rfl (Nat.le_of_ble_eq_true rfl) dL_built_416 ⟨rfl, rfl⟩ ⟨rfl, rfl⟩ (by omega) (by omega) (fun ov w_4 H locs hQ hP hD hS => ?_)
      obtain ⟨rfl, hw_4⟩ := hQ
      refine W.eq (g2 := F0 m 419 ls [.long v_3]) rfl ?_
      refine lv_iload hx hb dL_built_419 (lv_at hl 3 rfl) ?_
      refine lv_i2l hx hb dL_built_421 rfl ?_
      refine W.lcmp hx hb dL_built_422 ?_
      refine lv_if_ne (tgt := 507) hx hb dL_built_423 (by decide) (fun c_5 => ?_) (fun c_5 => ?_)
      · have h := it_r c_5 h
        refine lv_iconst (v := 0) hx hb dL_built_507 (by decide) ?_
        cases h
        exact Cx_zret (B := B9) rfl (by rw [hB9]; exact ⟨rfl, hw_4⟩) (by show 218 ≤ 228; omega) (by show 1308 ≤ 1368; omega) hx hb hr (by decide) (P_l hP) (D_l hD) hS dL_built_508 hlocks
      · have h := it_l c_5 h
        refine lv_aload_n hx hb dL_built_426 rfl (lv_at hl 0 rfl) ?_
        refine lv_bipush (v := 8) hx hb dL_built_427 (by decide) ?_
        obtain ⟨v_7, hv_6, h⟩ := bd_l h
        refine Lo_T (As := [.ref (cA 0), .int 8]) (rest := []) (wA := w_4) (wr := []) 1 6 (219) (1314) 228 1368 (co_about l hst D k cA nA tA X w_4 hw_4 8 v_7 hv_6) ⟨hx, hb, hml, hown, hts⟩ (vx_cwSW 2 hts gL_built_L_about rfl rfl rfl (by decide +kernel) ⟨Nat.le_of_ble_eq_true rfl, Nat.le_of_ble_eq_true rfl⟩) hK hG hC hP hD hS hA (List.Perm.refl _) rfl hl.1 rfl (Nat.le_of_ble_eq_true rfl) dL_built_429 ⟨rfl, rfl⟩ ⟨rfl, rfl⟩ (by omega) (by omega) (fun ov w_8 H locs hQ hP hD hS => ?_)
        obtain ⟨rfl, hw_8⟩ := hQ
        refine W.eq (g2 := F0 m 432 ls [.long v_7]) rfl ?_
        refine lv_lload_n hx hb dL_built_432 rfl (lv_at hl 1 rfl) ?_
        refine W.lcmp hx hb dL_built_433 ?_
        refine lv_if_ne (tgt := 507) hx hb dL_built_434 (by decide) (fun c_9 => ?_) (fun c_9 => ?_)
        · have h := it_r c_9 h
          refine lv_iconst (v := 0) hx hb dL_built_507 (by decide) ?_
          cases h
          exact Cx_zret (B := B9) rfl (by rw [hB9]; exact ⟨rfl, hw_8⟩) (by show 219 ≤ 228; omega) (by show 1314 ≤ 1368; omega) hx hb hr (by decide) (P_l hP) (D_l hD) hS dL_built_508 hlocks
        · have h := it_l c_9 h
          refine lv_aload_n hx hb dL_built_437 rfl (lv_at hl 0 rfl) ?_
          refine lv_bipush (v := 9) hx hb dL_built_438 (by decide) ?_
          obtain ⟨v_11, hv_10, h⟩ := bd_l h
          refine Lo_T (As := [.ref (cA 0), .int 9]) (rest := []) (wA := w_8) (wr := []) 1 6 (220) (1320) 228 1368 (co_about l hst D k cA nA tA X w_8 hw_8 9 v_11 hv_10) ⟨hx, hb, hml, hown, hts⟩ (vx_cwSW 2 hts gL_built_L_about rfl rfl rfl (by decide +kernel) ⟨Nat.le_of_ble_eq_true rfl, Nat.le_of_ble_eq_true rfl⟩) hK hG hC hP hD hS hA (List.Perm.refl _) rfl hl.1 rfl (Nat.le_of_ble_eq_true rfl) dL_built_440 ⟨rfl, rfl⟩ ⟨rfl, rfl⟩ (by omega) (by omega) (fun ov w_12 H locs hQ hP hD hS => ?_)
          obtain ⟨rfl, hw_12⟩ := hQ
          refine W.eq (g2 := F0 m 443 ls [.long v_11]) rfl ?_
          refine lv_lload hx hb dL_built_443 (lv_at hl 2 rfl) ?_
          refine W.lcmp hx hb dL_built_445 ?_
          refine lv_if_ne (tgt := 507) hx hb dL_built_446 (by decide) (fun c_13 => ?_) (fun c_13 => ?_)
          · have h := it_r c_13 h
            refine lv_iconst (v := 0) hx hb dL_built_507 (by decide) ?_
            cases h
            exact Cx_zret (B := B9) rfl (by rw [hB9]; exact ⟨rfl, hw_12⟩) (by show 220 ≤ 228; omega) (by show 1320 ≤ 1368; omega) hx hb hr (by decide) (P_l hP) (D_l hD) hS dL_built_508 hlocks
          · have h := it_l c_13 h
            refine lv_aload_n hx hb dL_built_449 rfl (lv_at hl 0 rfl) ?_
            refine lv_iconst (v := 2) hx hb dL_built_450 (by decide) ?_
            obtain ⟨v_15, hv_14, h⟩ := bd_l h
            refine Lo_T (As := [.ref (cA 0), .int 2]) (rest := []) (wA := w_12) (wr := []) 1 6 (221) (1326) 228 1368 (co_total l hst D k cA nA tA X w_12 hw_12 2 v_15 hv_14) ⟨hx, hb, hml, hown, hts⟩ (vx_cwSW 2 hts gL_built_L_total rfl rfl rfl (by decide +kernel) ⟨Nat.le_of_ble_eq_true rfl, Nat.le_of_ble_eq_true rfl⟩) hK hG hC hP hD hS hA (List.Perm.refl _) rfl hl.1 rfl (Nat.le_of_ble_eq_true rfl) dL_built_451 ⟨rfl, rfl⟩ ⟨rfl, rfl⟩ (by omega) (by omega) (fun ov w_16 H locs hQ hP hD hS => ?_)
            obtain ⟨rfl, hw_16⟩ := hQ
            refine W.eq (g2 := F0 m 454 ls [.long v_15]) rfl ?_
            refine lv_aload_n hx hb dL_built_454 rfl (lv_at hl 0 rfl) ?_
            refine lv_iconst (v := 1) hx hb dL_built_455 (by decide) ?_
            obtain ⟨v_18, hv_17, h⟩ := bd_l h
            refine Lo_T (As := [.ref (cA 0), .int 1]) (rest := [.long v_15]) (wA := w_16) (wr := []) 1 6 (222) (1332) 228 1368 (co_total l hst D k cA nA tA X w_16 hw_16 1 v_18 hv_17) ⟨hx, hb, hml, hown, hts⟩ (vx_cwSW 2 hts gL_built_L_total rfl rfl rfl (by decide +kernel) ⟨Nat.le_of_ble_eq_true rfl, Nat.le_of_ble_eq_true rfl⟩) hK hG hC hP hD hS hA (List.Perm.refl _) rfl hl.1 rfl (Nat.le_of_ble_eq_true rfl) dL_built_456 ⟨rfl, rfl⟩ ⟨rfl, rfl⟩ (by omega) (by omega) (fun ov w_19 H locs hQ hP hD hS => ?_)
            obtain ⟨rfl, hw_19⟩ := hQ
            refine W.eq (g2 := F0 m 459 ls [.long v_18, .long v_15]) rfl ?_
            refine W.lcmp hx hb dL_built_459 ?_
            refine lv_if_gt (tgt := 507) hx hb dL_built_460 (by decide) (fun c_20 => ?_) (fun c_20 => ?_)
            · have h := it_l c_20 h
              refine lv_iconst (v := 0) hx hb dL_built_507 (by decide) ?_
              cases h
              exact Cx_zret (B := B9) rfl (by rw [hB9]; exact ⟨rfl, hw_19⟩) (by show 222 ≤ 228; omega) (by show 1332 ≤ 1368; omega) hx hb hr (by decide) (P_l hP) (D_l hD) hS dL_built_508 hlocks
            · have h := it_r c_20 h
              refine lv_aload_n hx hb dL_built_463 rfl (lv_at hl 0 rfl) ?_
              refine lv_iconst (v := 3) hx hb dL_built_464 (by decide) ?_
              obtain ⟨v_22, hv_21, h⟩ := bd_l h
              refine Lo_T (As := [.ref (cA 0), .int 3]) (rest := []) (wA := w_19) (wr := []) 1 6 (223) (1338) 228 1368 (co_total l hst D k cA nA tA X w_19 hw_19 3 v_22 hv_21) ⟨hx, hb, hml, hown, hts⟩ (vx_cwSW 2 hts gL_built_L_total rfl rfl rfl (by decide +kernel) ⟨Nat.le_of_ble_eq_true rfl, Nat.le_of_ble_eq_true rfl⟩) hK hG hC hP hD hS hA (List.Perm.refl _) rfl hl.1 rfl (Nat.le_of_ble_eq_true rfl) dL_built_465 ⟨rfl, rfl⟩ ⟨rfl, rfl⟩ (by omega) (by omega) (fun ov w_23 H locs hQ hP hD hS => ?_)
              obtain ⟨rfl, hw_23⟩ := hQ
              refine W.eq (g2 := F0 m 468 ls [.long v_22]) rfl ?_
              refine lv_aload_n hx hb dL_built_468 rfl (lv_at hl 0 rfl) ?_
              refine lv_iconst (v := 1) hx hb dL_built_469 (by decide) ?_
              obtain ⟨v_25, hv_24, h⟩ := bd_l h
              refine Lo_T (As := [.ref (cA 0), .int 1]) (rest := [.long v_22]) (wA := w_23) (wr := []) 1 6 (224) (1344) 228 1368 (co_total l hst D k cA nA tA X w_23 hw_23 1 v_25 hv_24) ⟨hx, hb, hml, hown, hts⟩ (vx_cwSW 2 hts gL_built_L_total rfl rfl rfl (by decide +kernel) ⟨Nat.le_of_ble_eq_true rfl, Nat.le_of_ble_eq_true rfl⟩) hK hG hC hP hD hS hA (List.Perm.refl _) rfl hl.1 rfl (Nat.le_of_ble_eq_true rfl) dL_built_470 ⟨rfl, rfl⟩ ⟨rfl, rfl⟩ (by omega) (by omega) (fun ov w_26 H locs hQ hP hD hS => ?_)
              obtain ⟨rfl, hw_26⟩ := hQ
              refine W.eq (g2 := F0 m 473 ls [.long v_25, .long v_22]) rfl ?_
              refine W.lcmp hx hb dL_built_473 ?_
              refine lv_if_gt (tgt := 507) hx hb dL_built_474 (by decide) (fun c_27 => ?_) (fun c_27 => ?_)
              · have h := it_l c_27 h
                refine lv_iconst (v := 0) hx hb dL_built_507 (by decide) ?_
                cases h
                exact Cx_zret (B := B9) rfl (by rw [hB9]; exact ⟨rfl, hw_26⟩) (by show 224 ≤ 228; omega) (by show 1344 ≤ 1368; omega) hx hb hr (by decide) (P_l hP) (D_l hD) hS dL_built_508 hlocks
              · have h := it_r c_27 h
                refine lv_aload_n hx hb dL_built_477 rfl (lv_at hl 0 rfl) ?_
                refine lv_iconst (v := 0) hx hb dL_built_478 (by decide) ?_
                obtain ⟨v_29, hv_28, h⟩ := bd_l h
                refine Lo_T (As := [.ref (cA 0), .int 0]) (rest := []) (wA := w_26) (wr := []) 1 6 (225) (1350) 228 1368 (co_total l hst D k cA nA tA X w_26 hw_26 0 v_29 hv_28) ⟨hx, hb, hml, hown, hts⟩ (vx_cwSW 2 hts gL_built_L_total rfl rfl rfl (by decide +kernel) ⟨Nat.le_of_ble_eq_true rfl, Nat.le_of_ble_eq_true rfl⟩) hK hG hC hP hD hS hA (List.Perm.refl _) rfl hl.1 rfl (Nat.le_of_ble_eq_true rfl) dL_built_479 ⟨rfl, rfl⟩ ⟨rfl, rfl⟩ (by omega) (by omega) (fun ov w_30 H locs hQ hP hD hS => ?_)
                obtain ⟨rfl, hw_30⟩ := hQ
                refine W.eq (g2 := F0 m 482 ls [.long v_29]) rfl ?_
                refine lv_aload_n hx hb dL_built_482 rfl (lv_at hl 0 rfl) ?_
                refine lv_iconst (v := 2) hx hb dL_built_483 (by decide) ?_
                obtain ⟨v_32, hv_31, h⟩ := bd_l h
                refine Lo_T (As := [.ref (cA 0), .int 2]) (rest := [.long v_29]) (wA := w_30) (wr := []) 1 6 (226) (1356) 228 1368 (co_total l hst D k cA nA tA X w_30 hw_30 2 v_32 hv_31) ⟨hx, hb, hml, hown, hts⟩ (vx_cwSW 2 hts gL_built_L_total rfl rfl rfl (by decide +kernel) ⟨Nat.le_of_ble_eq_true rfl, Nat.le_of_ble_eq_true rfl⟩) hK hG hC hP hD hS hA (List.Perm.refl _) rfl hl.1 rfl (Nat.le_of_ble_eq_true rfl) dL_built_484 ⟨rfl, rfl⟩ ⟨rfl, rfl⟩ (by omega) (by omega) (fun ov w_33 H locs hQ hP hD hS => ?_)
                obtain ⟨rfl, hw_33⟩ := hQ
                refine W.eq (g2 := F0 m 487 ls [.long v_32, .long v_29]) rfl ?_
                refine lv_aload_n hx hb dL_built_487 rfl (lv_at hl 0 rfl) ?_
                refine lv_iconst (v := 3) hx hb dL_built_488 (by decide) ?_
                obtain ⟨v_35, hv_34, h⟩ := bd_l h
                refine Lo_T (As := [.ref (cA 0), .int 3]) (rest := [.long v_32, .long v_29]) (wA := w_33) (wr := []) 1 6 (227) (1362) 228 1368 (co_total l hst D k cA nA tA X w_33 hw_33 3 v_35 hv_34) ⟨hx, hb, hml, hown, hts⟩ (vx_cwSW 2 hts gL_built_L_total rfl rfl rfl (by decide +kernel) ⟨Nat.le_of_ble_eq_true rfl, Nat.le_of_ble_eq_true rfl⟩) hK hG hC hP hD hS hA (List.Perm.refl _) rfl hl.1 rfl (Nat.le_of_ble_eq_true rfl) dL_built_489 ⟨rfl, rfl⟩ ⟨rfl, rfl⟩ (by omega) (by omega) (fun ov w_36 H locs hQ hP hD hS => ?_)
                obtain ⟨rfl, hw_36⟩ := hQ
                refine W.eq (g2 := F0 m 492 ls [.long v_35, .long v_32, .long v_29]) rfl ?_
                refine lv_ladd hx hb dL_built_492 ?_
                refine lv_aload_n hx hb dL_built_493 rfl (lv_at hl 0 rfl) ?_
                refine lv_iconst (v := 4) hx hb dL_built_494 (by decide) ?_
                obtain ⟨v_38, hv_37, h⟩ := bd_l h
                refine Lo_T (As := [.ref (cA 0), .int 4]) (rest := [.long (v_32 + v_35), .long v_29]) (wA := w_36) (wr := []) 1 6 (228) (1368) 228 1368 (co_total l hst D k cA nA tA X w_36 hw_36 4 v_38 hv_37) ⟨hx, hb, hml, hown, hts⟩ (vx_cwSW 2 hts gL_built_L_total rfl rfl rfl (by decide +kernel) ⟨Nat.le_of_ble_eq_true rfl, Nat.le_of_ble_eq_true rfl⟩) hK hG hC hP hD hS hA (List.Perm.refl _) rfl hl.1 rfl (Nat.le_of_ble_eq_true rfl) dL_built_495 ⟨rfl, rfl⟩ ⟨rfl, rfl⟩ (by omega) (by omega) (fun ov w_39 H locs hQ hP hD hS => ?_)
                obtain ⟨rfl, hw_39⟩ := hQ
                refine W.eq (g2 := F0 m 498 ls [.long v_38, .long (v_32 + v_35), .long v_29]) rfl ?_
                refine lv_ladd hx hb dL_built_498 ?_
                refine W.lcmp hx hb dL_built_499 ?_
                refine lv_if_ne (tgt := 507) hx hb dL_built_500 (by decide) (fun c_40 => ?_) (fun c_40 => ?_)
                · have h := it_r c_40 h
                  refine lv_iconst (v := 0) hx hb dL_built_507 (by decide) ?_
                  cases h
                  exact Cx_zret (B := B9) rfl (by rw [hB9]; exact ⟨rfl, hw_39⟩) (by show 228 ≤ 228; omega) (by show 1368 ≤ 1368; omega) hx hb hr (by decide) (P_l hP) (D_l hD) hS dL_built_508 hlocks
                · have h := it_l c_40 h
                  refine lv_iconst (v := 1) hx hb dL_built_503 (by decide) ?_
                  refine lv_goto (tgt := 508) hx hb dL_built_504 (by decide) ?_
                  cases h
                  exact Cx_zret (B := B9) rfl (by rw [hB9]; exact ⟨rfl, hw_39⟩) (by show 228 ≤ 228; omega) (by show 1368 ≤ 1368; omega) hx hb hr (by decide) (P_l hP) (D_l hD) hS dL_built_508 hlocks
  have hC_349 : ∀ (fu_349 : Nat) (x2_349 : Int64) (x4_349 : Int64) (x6_349 : Int32) (x8_349 : Int32) (x9_349 : Int32) (x10_349 : Int32) (w_349 : va_W) (H : Heap) (locs : List Loc) (ls : Array Slot), fu_349 ≤ 7 → Ob k cA nA tA X w_349 → va_P D vwCl (w_349 ++ []) H → va_D A (w_349 ++ []) → va_S A s.heap H locs → lv_has ls 16 [(0, .ref (cA 0)), (2, .long x2_349), (4, .long x4_349), (6, .int x6_349), (8, .int x8_349), (9, .int x9_349), (10, .int x10_349)] → f_L_built_349 X fu_349 x2_349 x4_349 x6_349 x8_349 x9_349 x10_349 = some o → W p l e ({ frames := 10, cells := 228, slots := 1368, locals := 167 } : Room) s m args below meth c H locs ((214 - 3 * fu_349)) ((1284 - 18 * fu_349)) (vx_MQ below (Qx D A (.inr B9)) (Xx D A (w) (.inr B9)) args s 228 1368 A) (F0 m 349 ls []) := by
    intro fu_349
    induction fu_349 with
    | zero => intro x2_349 x4_349 x6_349 x8_349 x9_349 x10_349 w_349 H locs ls _ _ _ _ _ _ h; exact (no_l h).elim
    | succ fu_349 ih_349 =>
      intro x2_349 x4_349 x6_349 x8_349 x9_349 x10_349 w_349 H locs ls hfu_349 hw_349 hP hD hS hl h
      rw [f_L_built_349] at h
      have hC_378 : ∀ (x9_378 : Int32) (x10_378 : Int32) (t0_378 : Int32) (w_378 : va_W) (H : Heap) (locs : List Loc) (ls : Array Slot), Ob k cA nA tA X w_378 → va_P D vwCl (w_378 ++ []) H → va_D A (w_378 ++ []) → va_S A s.heap H locs → lv_has ls 16 [(0, .ref (cA 0)), (2, .long x2_349), (4, .long x4_349), (6, .int x6_349), (9, .int x9_378), (10, .int x10_378)] → f_L_built_378 (f_L_built_349 X fu_349) X x2_349 x4_349 x6_349 x9_378 x10_378 t0_378 = some o → W p l e ({ frames := 10, cells := 228, slots := 1368, locals := 167 } : Room) s m args below meth c H locs ((214 - 3 * (fu_349 + 1)) + 1) ((1284 - 18 * (fu_349 + 1)) + 6) (vx_MQ below (Qx D A (.inr B9)) (Xx D A (w) (.inr B9)) args s 228 1368 A) (F0 m 378 ls [.int t0_378]) := by
        intro x9_378 x10_378 t0_378 w_378 H locs ls hw_378 hP hD hS hl h
        unfold f_L_built_378 at h
        refine lv_istore (lv' := [(8, .int t0_378), (0, .ref (cA 0)), (2, .long x2_349), (4, .long x4_349), (6, .int x6_349), (9, .int x9_378), (10, .int x10_378)]) hx hb dL_built_378 hl (by decide) rfl (fun ls hl => ?_)
        refine lv_aload_n hx hb dL_built_380 rfl (lv_at hl 1 rfl) ?_
        refine lv_iload hx hb dL_built_381 (lv_at hl 6 rfl) ?_
        refine lv_bipush (v := 7) hx hb dL_built_383 (by decide) ?_
        obtain ⟨v_42, hv_41, h⟩ := bd_l h
        refine Lo_T (As := [.ref (cA 0), .int x10_378, .int 7]) (rest := []) (wA := w_378) (wr := []) 2 12 ((214 - 3 * (fu_349 + 1)) + 3) ((1284 - 18 * (fu_349 + 1)) + 18) 228 1368 (co_effect l hst D k cA nA tA X w_378 hw_378 x10_378 7 v_42 hv_41) ⟨hx, hb, hml, hown, hts⟩ (vx_cwSW 3 hts gL_built_L_effect rfl rfl rfl (by decide +kernel) ⟨Nat.le_of_ble_eq_true rfl, Nat.le_of_ble_eq_true rfl⟩) hK hG hC hP hD hS hA (List.Perm.refl _) rfl hl.1 rfl (Nat.le_of_ble_eq_true rfl) dL_built_385 ⟨rfl, rfl⟩ ⟨rfl, rfl⟩ (by omega) (by omega) (fun ov w_43 H locs hQ hP hD hS => ?_)
        obtain ⟨rfl, hw_43⟩ := hQ
        refine W.eq (g2 := F0 m 388 ls [.long v_42]) rfl ?_
        refine lv_lconst (v := 0) hx hb dL_built_388 (by decide) ?_
        refine W.lcmp hx hb dL_built_389 ?_
        refine lv_if_ne (tgt := 398) hx hb dL_built_390 (by decide) (fun c_44 => ?_) (fun c_44 => ?_)
        · have h := it_r c_44 h
          refine lv_iload hx hb dL_built_398 (lv_at hl 5 rfl) ?_
          refine lv_istore (lv' := [(9, .int x9_378), (8, .int t0_378), (0, .ref (cA 0)), (2, .long x2_349), (4, .long x4_349), (6, .int x6_349), (10, .int x10_378)]) hx hb dL_built_400 hl (by decide) rfl (fun ls hl => ?_)
          refine lv_iinc (v := (x10_378 + (-1))) (lv' := [(10, .int (x10_378 + (-1))), (9, .int x9_378), (8, .int t0_378), (0, .ref (cA 0)), (2, .long x2_349), (4, .long x4_349), (6, .int x6_349)]) hx hb dL_built_402 hl (k := 6) rfl rfl (by decide) rfl (fun ls hl => ?_)
          refine lv_goto (tgt := 349) hx hb dL_built_405 (by decide) ?_
          refine W.widen (k := (214 - 3 * fu_349)) (n := (1284 - 18 * fu_349)) (by omega) (by omega) ?_
          exact ih_349 x2_349 x4_349 x6_349 t0_378 x9_378 (x10_378 + (-1)) w_43 _ _ _ (by omega) hw_43 hP hD hS (lv_sub hl [3, 4, 5, 6, 2, 1, 0] rfl) h
        · have h := it_l c_44 h
          refine lv_iload hx hb dL_built_393 (lv_at hl 6 rfl) ?_
          refine lv_goto (tgt := 400) hx hb dL_built_395 (by decide) ?_
          refine lv_istore (lv' := [(9, .int x10_378), (8, .int t0_378), (0, .ref (cA 0)), (2, .long x2_349), (4, .long x4_349), (6, .int x6_349), (10, .int x10_378)]) hx hb dL_built_400 hl (by decide) rfl (fun ls hl => ?_)
          refine lv_iinc (v := (x10_378 + (-1))) (lv' := [(10, .int (x10_378 + (-1))), (9, .int x10_378), (8, .int t0_378), (0, .ref (cA 0)), (2, .long x2_349), (4, .long x4_349), (6, .int x6_349)]) hx hb dL_built_402 hl (k := 6) rfl rfl (by decide) rfl (fun ls hl => ?_)
          refine lv_goto (tgt := 349) hx hb dL_built_405 (by decide) ?_
          refine W.widen (k := (214 - 3 * fu_349)) (n := (1284 - 18 * fu_349)) (by omega) (by omega) ?_
          exact ih_349 x2_349 x4_349 x6_349 t0_378 x10_378 (x10_378 + (-1)) w_43 _ _ _ (by omega) hw_43 hP hD hS (lv_sub hl [3, 4, 5, 6, 2, 1, 0] rfl) h
      refine lv_iload hx hb dL_built_349 (lv_at hl 6 rfl) ?_
      refine lv_if_lt (tgt := 408) hx hb dL_built_351 (by decide) (fun c_45 => ?_) (fun c_45 => ?_)
      · have h := it_l c_45 h
        refine W.widen (k := 217) (n := 1302) (by omega) (by omega) ?_
        exact hC_408 x2_349 x4_349 x6_349 x8_349 w_349 _ _ _ hw_349 hP hD hS (lv_sub hl [0, 1, 2, 3, 4] rfl) h
      · have h := it_r c_45 h
        refine lv_iload hx hb dL_built_354 (lv_at hl 4 rfl) ?_
        refine lv_if_eq (tgt := 408) hx hb dL_built_356 (by decide) (fun c_46 => ?_) (fun c_46 => ?_)
        · have h := it_l c_46 h
          refine W.widen (k := 217) (n := 1302) (by omega) (by omega) ?_
          exact hC_408 x2_349 x4_349 x6_349 x8_349 w_349 _ _ _ hw_349 hP hD hS (lv_sub hl [0, 1, 2, 3, 4] rfl) h
        · have h := it_r c_46 h
          refine lv_aload_n hx hb dL_built_359 rfl (lv_at hl 0 rfl) ?_
          refine lv_iload hx hb dL_built_360 (lv_at hl 6 rfl) ?_
          refine lv_iconst (v := 1) hx hb dL_built_362 (by decide) ?_
          obtain ⟨v_48, hv_47, h⟩ := bd_l h
          refine Lo_T (As := [.ref (cA 0), .int x10_349, .int 1]) (rest := []) (wA := w_349) (wr := []) 1 6 ((214 - 3 * (fu_349 + 1)) + 1) ((1284 - 18 * (fu_349 + 1)) + 6) 228 1368 (co_neighbor l hst D k cA nA tA X w_349 hw_349 x10_349 1 v_48 hv_47) ⟨hx, hb, hml, hown, hts⟩ (vx_cwSW 3 hts gL_built_L_neighbor rfl rfl rfl (by decide +kernel) ⟨Nat.le_of_ble_eq_true rfl, Nat.le_of_ble_eq_true rfl⟩) hK hG hC hP hD hS hA (List.Perm.refl _) rfl hl.1 rfl (Nat.le_of_ble_eq_true rfl) dL_built_363 ⟨rfl, rfl⟩ ⟨rfl, rfl⟩ (by omega) (by omega) (fun ov w_49 H locs hQ hP hD hS => ?_)
          obtain ⟨rfl, hw_49⟩ := hQ
          refine W.eq (g2 := F0 m 366 ls [.long v_48]) rfl ?_
          refine lv_iload hx hb dL_built_366 (lv_at hl 5 rfl) ?_
          refine lv_i2l hx hb dL_built_368 rfl ?_
          refine W.lcmp hx hb dL_built_369 ?_
          refine lv_if_ne (tgt := 377) hx hb dL_built_370 (by decide) (fun c_50 => ?_) (fun c_50 => ?_)
          · have h := it_r c_50 h
            refine lv_iconst (v := 0) hx hb dL_built_377 (by decide) ?_
            refine W.widen (k := (214 - 3 * (fu_349 + 1)) + 1) (n := (1284 - 18 * (fu_349 + 1)) + 6) (by omega) (by omega) ?_
            exact hC_378 x9_349 x10_349 0 w_49 _ _ _ hw_49 hP hD hS (lv_sub hl [0, 1, 2, 3, 5, 6] rfl) h
          · have h := it_l c_50 h
            refine lv_iconst (v := 1) hx hb dL_built_373 (by decide) ?_
            refine lv_goto (tgt := 378) hx hb dL_built_374 (by decide) ?_
            refine W.widen (k := (214 - 3 * (fu_349 + 1)) + 1) (n := (1284 - 18 * (fu_349 + 1)) + 6) (by omega) (by omega) ?_
            exact hC_378 x9_349 x10_349 1 w_49 _ _ _ hw_49 hP hD hS (lv_sub hl [0, 1, 2, 3, 5, 6] rfl) h
  have hC_23 : ∀ (fu_23 : Nat) (x1_23 : Int32) (x2_23 : Int64) (x4_23 : Int64) (x6_23 : Int32) (x7_23 : Int32) (x8_23 : Int32) (x9_23 : Int32) (w_23 : va_W) (H : Heap) (locs : List Loc) (ls : Array Slot), fu_23 ≤ 7 → Ob k cA nA tA X w_23 → va_P D vwCl (w_23 ++ []) H → va_D A (w_23 ++ []) → va_S A s.heap H locs → lv_has ls 16 [(0, .ref (cA 0)), (1, .int x1_23), (2, .long x2_23), (4, .long x4_23), (6, .int x6_23), (7, .int x7_23), (8, .int x8_23), (9, .int x9_23)] → f_L_built_23 X fu_23 x1_23 x2_23 x4_23 x6_23 x7_23 x8_23 x9_23 = some o → W p l e ({ frames := 10, cells := 228, slots := 1368, locals := 167 } : Room) s m args below meth c H locs ((169 - 24 * fu_23)) ((1014 - 144 * fu_23)) (vx_MQ below (Qx D A (.inr B9)) (Xx D A (w) (.inr B9)) args s 228 1368 A) (F0 m 23 ls []) := by
    intro fu_23
    induction fu_23 with
    | zero => intro x1_23 x2_23 x4_23 x6_23 x7_23 x8_23 x9_23 w_23 H locs ls _ _ _ _ _ _ h; exact (no_l h).elim
    | succ fu_23 ih_23 =>
      intro x1_23 x2_23 x4_23 x6_23 x7_23 x8_23 x9_23 w_23 H locs ls hfu_23 hw_23 hP hD hS hl h
      rw [f_L_built_23] at h
      have hC_310 : ∀ (x2_310 : Int64) (x4_310 : Int64) (x6_310 : Int32) (x7_310 : Int32) (x9_310 : Int32) (t0_310 : Int32) (w_310 : va_W) (H : Heap) (locs : List Loc) (ls : Array Slot), Ob k cA nA tA X w_310 → va_P D vwCl (w_310 ++ []) H → va_D A (w_310 ++ []) → va_S A s.heap H locs → lv_has ls 16 [(0, .ref (cA 0)), (1, .int x1_23), (2, .long x2_310), (4, .long x4_310), (6, .int x6_310), (7, .int x7_310), (9, .int x9_310)] → f_L_built_310 (f_L_built_23 X fu_23) X x1_23 x2_310 x4_310 x6_310 x7_310 x9_310 t0_310 = some o → W p l e ({ frames := 10, cells := 228, slots := 1368, locals := 167 } : Room) s m args below meth c H locs ((169 - 24 * (fu_23 + 1)) + 22) ((1014 - 144 * (fu_23 + 1)) + 132) (vx_MQ below (Qx D A (.inr B9)) (Xx D A (w) (.inr B9)) args s 228 1368 A) (F0 m 310 ls [.int t0_310]) := by
        intro x2_310 x4_310 x6_310 x7_310 x9_310 t0_310 w_310 H locs ls hw_310 hP hD hS hl h
        unfold f_L_built_310 at h
        refine lv_istore (lv' := [(8, .int t0_310), (0, .ref (cA 0)), (1, .int x1_23), (2, .long x2_310), (4, .long x4_310), (6, .int x6_310), (7, .int x7_310), (9, .int x9_310)]) hx hb dL_built_310 hl (by decide) rfl (fun ls hl => ?_)
        refine lv_aload_n hx hb dL_built_312 rfl (lv_at hl 1 rfl) ?_
        refine lv_iload hx hb dL_built_313 (lv_at hl 7 rfl) ?_
        refine lv_bipush (v := 7) hx hb dL_built_315 (by decide) ?_
        obtain ⟨v_52, hv_51, h⟩ := bd_l h
        refine Lo_T (As := [.ref (cA 0), .int x9_310, .int 7]) (rest := []) (wA := w_310) (wr := []) 2 12 ((169 - 24 * (fu_23 + 1)) + 24) ((1014 - 144 * (fu_23 + 1)) + 144) 228 1368 (co_effect l hst D k cA nA tA X w_310 hw_310 x9_310 7 v_52 hv_51) ⟨hx, hb, hml, hown, hts⟩ (vx_cwSW 3 hts gL_built_L_effect rfl rfl rfl (by decide +kernel) ⟨Nat.le_of_ble_eq_true rfl, Nat.le_of_ble_eq_true rfl⟩) hK hG hC hP hD hS hA (List.Perm.refl _) rfl hl.1 rfl (Nat.le_of_ble_eq_true rfl) dL_built_317 ⟨rfl, rfl⟩ ⟨rfl, rfl⟩ (by omega) (by omega) (fun ov w_53 H locs hQ hP hD hS => ?_)
        obtain ⟨rfl, hw_53⟩ := hQ
        refine W.eq (g2 := F0 m 320 ls [.long v_52]) rfl ?_
        refine lv_lconst (v := 0) hx hb dL_built_320 (by decide) ?_
        refine W.lcmp hx hb dL_built_321 ?_
        refine lv_if_ne (tgt := 330) hx hb dL_built_322 (by decide) (fun c_54 => ?_) (fun c_54 => ?_)
        · have h := it_r c_54 h
          refine lv_iload hx hb dL_built_330 (lv_at hl 6 rfl) ?_
          refine lv_istore (lv' := [(7, .int x7_310), (8, .int t0_310), (0, .ref (cA 0)), (1, .int x1_23), (2, .long x2_310), (4, .long x4_310), (6, .int x6_310), (9, .int x9_310)]) hx hb dL_built_332 hl (by decide) rfl (fun ls hl => ?_)
          refine lv_iinc (v := (x9_310 + 1)) (lv' := [(9, .int (x9_310 + 1)), (7, .int x7_310), (8, .int t0_310), (0, .ref (cA 0)), (1, .int x1_23), (2, .long x2_310), (4, .long x4_310), (6, .int x6_310)]) hx hb dL_built_334 hl (k := 7) rfl rfl (by decide) rfl (fun ls hl => ?_)
          refine lv_goto (tgt := 23) hx hb dL_built_337 (by decide) ?_
          refine W.widen (k := (169 - 24 * fu_23)) (n := (1014 - 144 * fu_23)) (by omega) (by omega) ?_
          exact ih_23 x1_23 x2_310 x4_310 x6_310 x7_310 t0_310 (x9_310 + 1) w_53 _ _ _ (by omega) hw_53 hP hD hS (lv_sub hl [3, 4, 5, 6, 7, 1, 2, 0] rfl) h
        · have h := it_l c_54 h
          refine lv_iload hx hb dL_built_325 (lv_at hl 7 rfl) ?_
          refine lv_goto (tgt := 332) hx hb dL_built_327 (by decide) ?_
          refine lv_istore (lv' := [(7, .int x9_310), (8, .int t0_310), (0, .ref (cA 0)), (1, .int x1_23), (2, .long x2_310), (4, .long x4_310), (6, .int x6_310), (9, .int x9_310)]) hx hb dL_built_332 hl (by decide) rfl (fun ls hl => ?_)
          refine lv_iinc (v := (x9_310 + 1)) (lv' := [(9, .int (x9_310 + 1)), (7, .int x9_310), (8, .int t0_310), (0, .ref (cA 0)), (1, .int x1_23), (2, .long x2_310), (4, .long x4_310), (6, .int x6_310)]) hx hb dL_built_334 hl (k := 7) rfl rfl (by decide) rfl (fun ls hl => ?_)
          refine lv_goto (tgt := 23) hx hb dL_built_337 (by decide) ?_
          refine W.widen (k := (169 - 24 * fu_23)) (n := (1014 - 144 * fu_23)) (by omega) (by omega) ?_
          exact ih_23 x1_23 x2_310 x4_310 x6_310 x9_310 t0_310 (x9_310 + 1) w_53 _ _ _ (by omega) hw_53 hP hD hS (lv_sub hl [3, 4, 5, 6, 7, 1, 2, 0] rfl) h
      have hC_309 : ∀ (x2_309 : Int64) (x4_309 : Int64) (x6_309 : Int32) (x7_309 : Int32) (x9_309 : Int32) (w_309 : va_W) (H : Heap) (locs : List Loc) (ls : Array Slot), Ob k cA nA tA X w_309 → va_P D vwCl (w_309 ++ []) H → va_D A (w_309 ++ []) → va_S A s.heap H locs → lv_has ls 16 [(0, .ref (cA 0)), (1, .int x1_23), (2, .long x2_309), (4, .long x4_309), (6, .int x6_309), (7, .int x7_309), (9, .int x9_309)] → f_L_built_309 (f_L_built_23 X fu_23) X x1_23 x2_309 x4_309 x6_309 x7_309 x9_309 = some o → W p l e ({ frames := 10, cells := 228, slots := 1368, locals := 167 } : Room) s m args below meth c H locs ((169 - 24 * (fu_23 + 1)) + 22) ((1014 - 144 * (fu_23 + 1)) + 132) (vx_MQ below (Qx D A (.inr B9)) (Xx D A (w) (.inr B9)) args s 228 1368 A) (F0 m 309 ls []) := by
        intro x2_309 x4_309 x6_309 x7_309 x9_309 w_309 H locs ls hw_309 hP hD hS hl h
        unfold f_L_built_309 at h
        refine lv_iconst (v := 0) hx hb dL_built_309 (by decide) ?_
        refine W.widen (k := (169 - 24 * (fu_23 + 1)) + 22) (n := (1014 - 144 * (fu_23 + 1)) + 132) (by omega) (by omega) ?_
        exact hC_310 x2_309 x4_309 x6_309 x7_309 x9_309 0 w_309 _ _ _ hw_309 hP hD hS (lv_sub hl [0, 1, 2, 3, 4, 5, 6] rfl) h
      have hC_302 : ∀ (x2_302 : Int64) (x4_302 : Int64) (x6_302 : Int32) (x7_302 : Int32) (x9_302 : Int32) (t0_302 : Int32) (t1_302 : Int32) (w_302 : va_W) (H : Heap) (locs : List Loc) (ls : Array Slot), Ob k cA nA tA X w_302 → va_P D vwCl (w_302 ++ []) H → va_D A (w_302 ++ []) → va_S A s.heap H locs → lv_has ls 16 [(0, .ref (cA 0)), (1, .int x1_23), (2, .long x2_302), (4, .long x4_302), (6, .int x6_302), (7, .int x7_302), (9, .int x9_302)] → f_L_built_302 (f_L_built_23 X fu_23) X x1_23 x2_302 x4_302 x6_302 x7_302 x9_302 t0_302 t1_302 = some o → W p l e ({ frames := 10, cells := 228, slots := 1368, locals := 167 } : Room) s m args below meth c H locs ((169 - 24 * (fu_23 + 1)) + 22) ((1014 - 144 * (fu_23 + 1)) + 132) (vx_MQ below (Qx D A (.inr B9)) (Xx D A (w) (.inr B9)) args s 228 1368 A) (F0 m 302 ls [.int t0_302, .int t1_302]) := by
        intro x2_302 x4_302 x6_302 x7_302 x9_302 t0_302 t1_302 w_302 H locs ls hw_302 hP hD hS hl h
        unfold f_L_built_302 at h
        refine lv_icmp_ne (tgt := 309) hx hb dL_built_302 (by decide) (fun c_55 => ?_) (fun c_55 => ?_)
        · have h := it_r c_55 h
          refine W.widen (k := (169 - 24 * (fu_23 + 1)) + 22) (n := (1014 - 144 * (fu_23 + 1)) + 132) (by omega) (by omega) ?_
          exact hC_309 x2_302 x4_302 x6_302 x7_302 x9_302 w_302 _ _ _ hw_302 hP hD hS (lv_sub hl [0, 1, 2, 3, 4, 5, 6] rfl) h
        · have h := it_l c_55 h
          refine lv_iconst (v := 1) hx hb dL_built_305 (by decide) ?_
          refine lv_goto (tgt := 310) hx hb dL_built_306 (by decide) ?_
          refine W.widen (k := (169 - 24 * (fu_23 + 1)) + 22) (n := (1014 - 144 * (fu_23 + 1)) + 132) (by omega) (by omega) ?_
          exact hC_310 x2_302 x4_302 x6_302 x7_302 x9_302 1 w_302 _ _ _ hw_302 hP hD hS (lv_sub hl [0, 1, 2, 3, 4, 5, 6] rfl) h
      have hC_290 : ∀ (x2_290 : Int64) (x4_290 : Int64) (x6_290 : Int32) (x7_290 : Int32) (x9_290 : Int32) (x12_290 : Int64) (t0_290 : Int32) (w_290 : va_W) (H : Heap) (locs : List Loc) (ls : Array Slot), Ob k cA nA tA X w_290 → va_P D vwCl (w_290 ++ []) H → va_D A (w_290 ++ []) → va_S A s.heap H locs → lv_has ls 16 [(0, .ref (cA 0)), (1, .int x1_23), (2, .long x2_290), (4, .long x4_290), (6, .int x6_290), (7, .int x7_290), (9, .int x9_290), (12, .long x12_290)] → f_L_built_290 (f_L_built_23 X fu_23) X x1_23 x2_290 x4_290 x6_290 x7_290 x9_290 x12_290 t0_290 = some o → W p l e ({ frames := 10, cells := 228, slots := 1368, locals := 167 } : Room) s m args below meth c H locs ((169 - 24 * (fu_23 + 1)) + 22) ((1014 - 144 * (fu_23 + 1)) + 132) (vx_MQ below (Qx D A (.inr B9)) (Xx D A (w) (.inr B9)) args s 228 1368 A) (F0 m 290 ls [.int t0_290]) := by
        intro x2_290 x4_290 x6_290 x7_290 x9_290 x12_290 t0_290 w_290 H locs ls hw_290 hP hD hS hl h
        unfold f_L_built_290 at h
        refine lv_lload hx hb dL_built_290 (lv_at hl 7 rfl) ?_
        refine lv_lconst (v := 0) hx hb dL_built_292 (by decide) ?_
        refine W.lcmp hx hb dL_built_293 ?_
        refine lv_if_ne (tgt := 301) hx hb dL_built_294 (by decide) (fun c_56 => ?_) (fun c_56 => ?_)
        · have h := it_r c_56 h
          refine lv_iconst (v := 0) hx hb dL_built_301 (by decide) ?_
          refine W.widen (k := (169 - 24 * (fu_23 + 1)) + 22) (n := (1014 - 144 * (fu_23 + 1)) + 132) (by omega) (by omega) ?_
          exact hC_302 x2_290 x4_290 x6_290 x7_290 x9_290 0 t0_290 w_290 _ _ _ hw_290 hP hD hS (lv_sub hl [0, 1, 2, 3, 4, 5, 6] rfl) h
        · have h := it_l c_56 h
          refine lv_iconst (v := 1) hx hb dL_built_297 (by decide) ?_
          refine lv_goto (tgt := 302) hx hb dL_built_298 (by decide) ?_
          refine W.widen (k := (169 - 24 * (fu_23 + 1)) + 22) (n := (1014 - 144 * (fu_23 + 1)) + 132) (by omega) (by omega) ?_
          exact hC_302 x2_290 x4_290 x6_290 x7_290 x9_290 1 t0_290 w_290 _ _ _ hw_290 hP hD hS (lv_sub hl [0, 1, 2, 3, 4, 5, 6] rfl) h
      have hC_204 : ∀ (x2_204 : Int64) (x4_204 : Int64) (x6_204 : Int32) (x7_204 : Int32) (x9_204 : Int32) (x12_204 : Int64) (x14_204 : Int64) (t0_204 : Int64) (t1_204 : Int64) (w_204 : va_W) (H : Heap) (locs : List Loc) (ls : Array Slot), Ob k cA nA tA X w_204 → va_P D vwCl (w_204 ++ []) H → va_D A (w_204 ++ []) → va_S A s.heap H locs → lv_has ls 16 [(0, .ref (cA 0)), (1, .int x1_23), (2, .long x2_204), (4, .long x4_204), (6, .int x6_204), (7, .int x7_204), (9, .int x9_204), (12, .long x12_204), (14, .long x14_204)] → f_L_built_204 (f_L_built_23 X fu_23) X x1_23 x2_204 x4_204 x6_204 x7_204 x9_204 x12_204 x14_204 t0_204 t1_204 = some o → W p l e ({ frames := 10, cells := 228, slots := 1368, locals := 167 } : Room) s m args below meth c H locs ((169 - 24 * (fu_23 + 1)) + 14) ((1014 - 144 * (fu_23 + 1)) + 84) (vx_MQ below (Qx D A (.inr B9)) (Xx D A (w) (.inr B9)) args s 228 1368 A) (F0 m 204 ls [.long t0_204, .long t1_204]) := by
        intro x2_204 x4_204 x6_204 x7_204 x9_204 x12_204 x14_204 t0_204 t1_204 w_204 H locs ls hw_204 hP hD hS hl h
        unfold f_L_built_204 at h
        refine W.lcmp hx hb dL_built_204 ?_
        refine lv_if_ne (tgt := 309) hx hb dL_built_205 (by decide) (fun c_57 => ?_) (fun c_57 => ?_)
        · have h := it_r c_57 h
          refine W.widen (k := (169 - 24 * (fu_23 + 1)) + 22) (n := (1014 - 144 * (fu_23 + 1)) + 132) (by omega) (by omega) ?_
          exact hC_309 x2_204 x4_204 x6_204 x7_204 x9_204 w_204 _ _ _ hw_204 hP hD hS (lv_sub hl [0, 1, 2, 3, 4, 5, 6] rfl) h
        · have h := it_l c_57 h
          refine lv_aload_n hx hb dL_built_208 rfl (lv_at hl 0 rfl) ?_
          refine lv_iload hx hb dL_built_209 (lv_at hl 6 rfl) ?_
          refine lv_bipush (v := 9) hx hb dL_built_211 (by decide) ?_
          obtain ⟨v_59, hv_58, h⟩ := bd_l h
          refine Lo_T (As := [.ref (cA 0), .int x9_204, .int 9]) (rest := []) (wA := w_204) (wr := []) 2 12 ((169 - 24 * (fu_23 + 1)) + 16) ((1014 - 144 * (fu_23 + 1)) + 96) 228 1368 (co_effect l hst D k cA nA tA X w_204 hw_204 x9_204 9 v_59 hv_58) ⟨hx, hb, hml, hown, hts⟩ (vx_cwSW 3 hts gL_built_L_effect rfl rfl rfl (by decide +kernel) ⟨Nat.le_of_ble_eq_true rfl, Nat.le_of_ble_eq_true rfl⟩) hK hG hC hP hD hS hA (List.Perm.refl _) rfl hl.1 rfl (Nat.le_of_ble_eq_true rfl) dL_built_213 ⟨rfl, rfl⟩ ⟨rfl, rfl⟩ (by omega) (by omega) (fun ov w_60 H locs hQ hP hD hS => ?_)
          obtain ⟨rfl, hw_60⟩ := hQ
          refine W.eq (g2 := F0 m 216 ls [.long v_59]) rfl ?_
          refine lv_ldc2 (v := 100) hx hb hown w_0 dL_built_216 ?_
          refine lv_aload_n hx hb dL_built_219 rfl (lv_at hl 0 rfl) ?_
          refine lv_iload hx hb dL_built_220 (lv_at hl 6 rfl) ?_
          refine lv_iconst (v := 0) hx hb dL_built_222 (by decide) ?_
          obtain ⟨v_62, hv_61, h⟩ := bd_l h
          refine Lo_T (As := [.ref (cA 0), .int x9_204, .int 0]) (rest := [.long 100, .long v_59]) (wA := w_60) (wr := []) 2 12 ((169 - 24 * (fu_23 + 1)) + 18) ((1014 - 144 * (fu_23 + 1)) + 108) 228 1368 (co_effect l hst D k cA nA tA X w_60 hw_60 x9_204 0 v_62 hv_61) ⟨hx, hb, hml, hown, hts⟩ (vx_cwSW 3 hts gL_built_L_effect rfl rfl rfl (by decide +kernel) ⟨Nat.le_of_ble_eq_true rfl, Nat.le_of_ble_eq_true rfl⟩) hK hG hC hP hD hS hA (List.Perm.refl _) rfl hl.1 rfl (Nat.le_of_ble_eq_true rfl) dL_built_223 ⟨rfl, rfl⟩ ⟨rfl, rfl⟩ (by omega) (by omega) (fun ov w_63 H locs hQ hP hD hS => ?_)
          obtain ⟨rfl, hw_63⟩ := hQ
          refine W.eq (g2 := F0 m 226 ls [.long v_62, .long 100, .long v_59]) rfl ?_
          refine lv_lmul hx hb dL_built_226 ?_
          refine lv_ldc2 (v := 10) hx hb hown w_1 dL_built_227 ?_
          refine lv_lload hx hb dL_built_230 (lv_at hl 8 rfl) ?_
          refine lv_ladd hx hb dL_built_232 ?_
          have g_64 := nzl_l (gb_l h)
          have h := gb_r h
          refine lv_ldiv hx hb dL_built_233 g_64 ?_
          refine W.lcmp hx hb dL_built_234 ?_
          refine lv_if_ne (tgt := 309) hx hb dL_built_235 (by decide) (fun c_65 => ?_) (fun c_65 => ?_)
          · have h := it_r c_65 h
            refine W.widen (k := (169 - 24 * (fu_23 + 1)) + 22) (n := (1014 - 144 * (fu_23 + 1)) + 132) (by omega) (by omega) ?_
            exact hC_309 x2_204 x4_204 x6_204 x7_204 x9_204 w_63 _ _ _ hw_63 hP hD hS (lv_sub hl [0, 1, 2, 3, 4, 5, 6] rfl) h
          · have h := it_l c_65 h
            refine lv_aload_n hx hb dL_built_238 rfl (lv_at hl 0 rfl) ?_
            refine lv_iload hx hb dL_built_239 (lv_at hl 6 rfl) ?_
            refine lv_iconst (v := 0) hx hb dL_built_241 (by decide) ?_
            obtain ⟨v_67, hv_66, h⟩ := bd_l h
            refine Lo_T (As := [.ref (cA 0), .int x9_204, .int 0]) (rest := []) (wA := w_63) (wr := []) 1 6 ((169 - 24 * (fu_23 + 1)) + 19) ((1014 - 144 * (fu_23 + 1)) + 114) 228 1368 (co_neighbor l hst D k cA nA tA X w_63 hw_63 x9_204 0 v_67 hv_66) ⟨hx, hb, hml, hown, hts⟩ (vx_cwSW 3 hts gL_built_L_neighbor rfl rfl rfl (by decide +kernel) ⟨Nat.le_of_ble_eq_true rfl, Nat.le_of_ble_eq_true rfl⟩) hK hG hC hP hD hS hA (List.Perm.refl _) rfl hl.1 rfl (Nat.le_of_ble_eq_true rfl) dL_built_242 ⟨rfl, rfl⟩ ⟨rfl, rfl⟩ (by omega) (by omega) (fun ov w_68 H locs hQ hP hD hS => ?_)
            obtain ⟨rfl, hw_68⟩ := hQ
            refine W.eq (g2 := F0 m 245 ls [.long v_67]) rfl ?_
            refine lv_iload hx hb dL_built_245 (lv_at hl 5 rfl) ?_
            refine lv_i2l hx hb dL_built_247 rfl ?_
            refine W.lcmp hx hb dL_built_248 ?_
            refine lv_if_ne (tgt := 309) hx hb dL_built_249 (by decide) (fun c_69 => ?_) (fun c_69 => ?_)
            · have h := it_r c_69 h
              refine W.widen (k := (169 - 24 * (fu_23 + 1)) + 22) (n := (1014 - 144 * (fu_23 + 1)) + 132) (by omega) (by omega) ?_
              exact hC_309 x2_204 x4_204 x6_204 x7_204 x9_204 w_68 _ _ _ hw_68 hP hD hS (lv_sub hl [0, 1, 2, 3, 4, 5, 6] rfl) h
            · have h := it_l c_69 h
              refine lv_aload_n hx hb dL_built_252 rfl (lv_at hl 0 rfl) ?_
              refine lv_iload hx hb dL_built_253 (lv_at hl 6 rfl) ?_
              obtain ⟨v_71, hv_70, h⟩ := bd_l h
              refine Lo_T (As := [.ref (cA 0), .int x9_204]) (rest := []) (wA := w_68) (wr := []) 1 6 ((169 - 24 * (fu_23 + 1)) + 20) ((1014 - 144 * (fu_23 + 1)) + 120) 228 1368 (co_share l hst D k cA nA tA X w_68 hw_68 x9_204 v_71 hv_70) ⟨hx, hb, hml, hown, hts⟩ (vx_cwSW 2 hts gL_built_L_share rfl rfl rfl (by decide +kernel) ⟨Nat.le_of_ble_eq_true rfl, Nat.le_of_ble_eq_true rfl⟩) hK hG hC hP hD hS hA (List.Perm.refl _) rfl hl.1 rfl (Nat.le_of_ble_eq_true rfl) dL_built_255 ⟨rfl, rfl⟩ ⟨rfl, rfl⟩ (by omega) (by omega) (fun ov w_72 H locs hQ hP hD hS => ?_)
              obtain ⟨rfl, hw_72⟩ := hQ
              refine W.eq (g2 := F0 m 258 ls [.float v_71]) rfl ?_
              refine lv_fconst0 hx hb dL_built_258 ?_
              refine lv_fcmp hx hb dL_built_259 ?_
              refine lv_if_lt (tgt := 309) hx hb dL_built_260 (by decide) (fun c_73 => ?_) (fun c_73 => ?_)
              · have h := it_l c_73 h
                refine W.widen (k := (169 - 24 * (fu_23 + 1)) + 22) (n := (1014 - 144 * (fu_23 + 1)) + 132) (by omega) (by omega) ?_
                exact hC_309 x2_204 x4_204 x6_204 x7_204 x9_204 w_72 _ _ _ hw_72 hP hD hS (lv_sub hl [0, 1, 2, 3, 4, 5, 6] rfl) h
              · have h := it_r c_73 h
                refine lv_aload_n hx hb dL_built_263 rfl (lv_at hl 0 rfl) ?_
                refine lv_iload hx hb dL_built_264 (lv_at hl 6 rfl) ?_
                obtain ⟨v_75, hv_74, h⟩ := bd_l h
                refine Lo_T (As := [.ref (cA 0), .int x9_204]) (rest := []) (wA := w_72) (wr := []) 1 6 ((169 - 24 * (fu_23 + 1)) + 21) ((1014 - 144 * (fu_23 + 1)) + 126) 228 1368 (co_share l hst D k cA nA tA X w_72 hw_72 x9_204 v_75 hv_74) ⟨hx, hb, hml, hown, hts⟩ (vx_cwSW 2 hts gL_built_L_share rfl rfl rfl (by decide +kernel) ⟨Nat.le_of_ble_eq_true rfl, Nat.le_of_ble_eq_true rfl⟩) hK hG hC hP hD hS hA (List.Perm.refl _) rfl hl.1 rfl (Nat.le_of_ble_eq_true rfl) dL_built_266 ⟨rfl, rfl⟩ ⟨rfl, rfl⟩ (by omega) (by omega) (fun ov w_76 H locs hQ hP hD hS => ?_)
                obtain ⟨rfl, hw_76⟩ := hQ
                refine W.eq (g2 := F0 m 269 ls [.float v_75]) rfl ?_
                refine lv_fconst1 hx hb dL_built_269 ?_
                refine lv_fcmp hx hb dL_built_270 ?_
                refine lv_if_gt (tgt := 309) hx hb dL_built_271 (by decide) (fun c_77 => ?_) (fun c_77 => ?_)
                · have h := it_l c_77 h
                  refine W.widen (k := (169 - 24 * (fu_23 + 1)) + 22) (n := (1014 - 144 * (fu_23 + 1)) + 132) (by omega) (by omega) ?_
                  exact hC_309 x2_204 x4_204 x6_204 x7_204 x9_204 w_76 _ _ _ hw_76 hP hD hS (lv_sub hl [0, 1, 2, 3, 4, 5, 6] rfl) h
                · have h := it_r c_77 h
                  refine lv_aload_n hx hb dL_built_274 rfl (lv_at hl 0 rfl) ?_
                  refine lv_iload hx hb dL_built_275 (lv_at hl 6 rfl) ?_
                  obtain ⟨v_79, hv_78, h⟩ := bd_l h
                  refine Lo_T (As := [.ref (cA 0), .int x9_204]) (rest := []) (wA := w_76) (wr := []) 1 6 ((169 - 24 * (fu_23 + 1)) + 22) ((1014 - 144 * (fu_23 + 1)) + 132) 228 1368 (co_share l hst D k cA nA tA X w_76 hw_76 x9_204 v_79 hv_78) ⟨hx, hb, hml, hown, hts⟩ (vx_cwSW 2 hts gL_built_L_share rfl rfl rfl (by decide +kernel) ⟨Nat.le_of_ble_eq_true rfl, Nat.le_of_ble_eq_true rfl⟩) hK hG hC hP hD hS hA (List.Perm.refl _) rfl hl.1 rfl (Nat.le_of_ble_eq_true rfl) dL_built_277 ⟨rfl, rfl⟩ ⟨rfl, rfl⟩ (by omega) (by omega) (fun ov w_80 H locs hQ hP hD hS => ?_)
                  obtain ⟨rfl, hw_80⟩ := hQ
                  refine W.eq (g2 := F0 m 280 ls [.float v_79]) rfl ?_
                  refine lv_fconst0 hx hb dL_built_280 ?_
                  refine lv_fcmp hx hb dL_built_281 ?_
                  refine lv_if_ne (tgt := 289) hx hb dL_built_282 (by decide) (fun c_81 => ?_) (fun c_81 => ?_)
                  · have h := it_r c_81 h
                    refine lv_iconst (v := 0) hx hb dL_built_289 (by decide) ?_
                    refine W.widen (k := (169 - 24 * (fu_23 + 1)) + 22) (n := (1014 - 144 * (fu_23 + 1)) + 132) (by omega) (by omega) ?_
                    exact hC_290 x2_204 x4_204 x6_204 x7_204 x9_204 x12_204 0 w_80 _ _ _ hw_80 hP hD hS (lv_sub hl [0, 1, 2, 3, 4, 5, 6, 7] rfl) h
                  · have h := it_l c_81 h
                    refine lv_iconst (v := 1) hx hb dL_built_285 (by decide) ?_
                    refine lv_goto (tgt := 290) hx hb dL_built_286 (by decide) ?_
                    refine W.widen (k := (169 - 24 * (fu_23 + 1)) + 22) (n := (1014 - 144 * (fu_23 + 1)) + 132) (by omega) (by omega) ?_
                    exact hC_290 x2_204 x4_204 x6_204 x7_204 x9_204 x12_204 1 w_80 _ _ _ hw_80 hP hD hS (lv_sub hl [0, 1, 2, 3, 4, 5, 6, 7] rfl) h
      have hC_93 : ∀ (x2_93 : Int64) (x4_93 : Int64) (x7_93 : Int32) (x9_93 : Int32) (x10_93 : Int64) (x12_93 : Int64) (x14_93 : Int64) (t0_93 : Int32) (t1_93 : Int32) (w_93 : va_W) (H : Heap) (locs : List Loc) (ls : Array Slot), Ob k cA nA tA X w_93 → va_P D vwCl (w_93 ++ []) H → va_D A (w_93 ++ []) → va_S A s.heap H locs → lv_has ls 16 [(0, .ref (cA 0)), (1, .int x1_23), (2, .long x2_93), (4, .long x4_93), (7, .int x7_93), (9, .int x9_93), (10, .long x10_93), (12, .long x12_93), (14, .long x14_93)] → f_L_built_93 (f_L_built_23 X fu_23) X x1_23 x2_93 x4_93 x7_93 x9_93 x10_93 x12_93 x14_93 t0_93 t1_93 = some o → W p l e ({ frames := 10, cells := 228, slots := 1368, locals := 167 } : Room) s m args below meth c H locs ((169 - 24 * (fu_23 + 1)) + 8) ((1014 - 144 * (fu_23 + 1)) + 48) (vx_MQ below (Qx D A (.inr B9)) (Xx D A (w) (.inr B9)) args s 228 1368 A) (F0 m 93 ls [.int t0_93, .int t1_93]) := by
        intro x2_93 x4_93 x7_93 x9_93 x10_93 x12_93 x14_93 t0_93 t1_93 w_93 H locs ls hw_93 hP hD hS hl h
        unfold f_L_built_93 at h
        refine lv_iadd hx hb dL_built_93 ?_
        refine lv_topi (fun v_82 ev_82 => ?_)
        have h := nm_l h ev_82
        refine lv_istore (lv' := [(6, .int v_82), (0, .ref (cA 0)), (1, .int x1_23), (2, .long x2_93), (4, .long x4_93), (7, .int x7_93), (9, .int x9_93), (10, .long x10_93), (12, .long x12_93), (14, .long x14_93)]) hx hb dL_built_94 hl (by decide) rfl (fun ls hl => ?_)
        refine lv_lload hx hb dL_built_96 (lv_at hl 7 rfl) ?_
        refine lv_lconst (v := 0) hx hb dL_built_98 (by decide) ?_
        refine W.lcmp hx hb dL_built_99 ?_
        refine lv_if_lt (tgt := 309) hx hb dL_built_100 (by decide) (fun c_83 => ?_) (fun c_83 => ?_)
        · have h := it_l c_83 h
          refine W.widen (k := (169 - 24 * (fu_23 + 1)) + 22) (n := (1014 - 144 * (fu_23 + 1)) + 132) (by omega) (by omega) ?_
          exact hC_309 x2_93 x4_93 v_82 x7_93 x9_93 w_93 _ _ _ hw_93 hP hD hS (lv_sub hl [1, 2, 3, 4, 0, 5, 6] rfl) h
        · have h := it_r c_83 h
          refine lv_lload hx hb dL_built_103 (lv_at hl 8 rfl) ?_
          refine lv_lconst (v := 0) hx hb dL_built_105 (by decide) ?_
          refine W.lcmp hx hb dL_built_106 ?_
          refine lv_if_lt (tgt := 309) hx hb dL_built_107 (by decide) (fun c_84 => ?_) (fun c_84 => ?_)
          · have h := it_l c_84 h
            refine W.widen (k := (169 - 24 * (fu_23 + 1)) + 22) (n := (1014 - 144 * (fu_23 + 1)) + 132) (by omega) (by omega) ?_
            exact hC_309 x2_93 x4_93 v_82 x7_93 x9_93 w_93 _ _ _ hw_93 hP hD hS (lv_sub hl [1, 2, 3, 4, 0, 5, 6] rfl) h
          · have h := it_r c_84 h
            refine lv_lload hx hb dL_built_110 (lv_at hl 7 rfl) ?_
            refine lv_lload hx hb dL_built_112 (lv_at hl 8 rfl) ?_
            refine lv_ladd hx hb dL_built_114 ?_
            refine lv_ldc2 (v := 5000) hx hb hown w_2 dL_built_115 ?_
            refine W.lcmp hx hb dL_built_118 ?_
            refine lv_if_gt (tgt := 309) hx hb dL_built_119 (by decide) (fun c_85 => ?_) (fun c_85 => ?_)
            · have h := it_l c_85 h
              refine W.widen (k := (169 - 24 * (fu_23 + 1)) + 22) (n := (1014 - 144 * (fu_23 + 1)) + 132) (by omega) (by omega) ?_
              exact hC_309 x2_93 x4_93 v_82 x7_93 x9_93 w_93 _ _ _ hw_93 hP hD hS (lv_sub hl [1, 2, 3, 4, 0, 5, 6] rfl) h
            · have h := it_r c_85 h
              refine lv_lload hx hb dL_built_122 (lv_at hl 9 rfl) ?_
              refine lv_lconst (v := 0) hx hb dL_built_124 (by decide) ?_
              refine lv_ldc2 (v := 99) hx hb hown w_3 dL_built_125 ?_
              obtain ⟨v_87, hv_86, h⟩ := bd_l h
              refine Lo_S (As := [.long x14_93, .long 0, .long 99]) (rest := []) (wA := []) (wr := w_93 ++ []) 0 0 ((169 - 24 * (fu_23 + 1)) + 8) ((1014 - 144 * (fu_23 + 1)) + 48) 228 1368 (c_L_in l hst D k x14_93 0 99 v_87 hv_86) ⟨hx, hb, hml, hown, hts⟩ (va_cwS 3 hts gL_built_L_in rfl rfl rfl (by decide +kernel) ⟨Nat.le_of_ble_eq_true rfl, Nat.le_of_ble_eq_true rfl⟩) hK hG hC hP hD hS hA (List.Perm.refl _) rfl hl.1 rfl (Nat.le_of_ble_eq_true rfl) dL_built_128 ⟨rfl, rfl⟩ ⟨rfl, rfl⟩ (by omega) (by omega) (fun ov w9 H locs hQ hP hD hS => ?_)
              obtain ⟨rfl, rfl⟩ := hQ
              have hP : va_P D vwCl (w_93 ++ []) H := hP
              have hD : va_D A (w_93 ++ []) := hD
              refine W.eq (g2 := F0 m 131 ls [.int v_87]) rfl ?_
              refine lv_if_eq (tgt := 309) hx hb dL_built_131 (by decide) (fun c_88 => ?_) (fun c_88 => ?_)
              · have h := it_l c_88 h
                refine W.widen (k := (169 - 24 * (fu_23 + 1)) + 22) (n := (1014 - 144 * (fu_23 + 1)) + 132) (by omega) (by omega) ?_
                exact hC_309 x2_93 x4_93 v_82 x7_93 x9_93 w_93 _ _ _ hw_93 hP hD hS (lv_sub hl [1, 2, 3, 4, 0, 5, 6] rfl) h
              · have h := it_r c_88 h
                refine lv_aload_n hx hb dL_built_134 rfl (lv_at hl 1 rfl) ?_
                refine lv_iload hx hb dL_built_135 (lv_at hl 6 rfl) ?_
                refine lv_bipush (v := 6) hx hb dL_built_137 (by decide) ?_
                obtain ⟨v_90, hv_89, h⟩ := bd_l h
                refine Lo_T (As := [.ref (cA 0), .int x9_93, .int 6]) (rest := []) (wA := w_93) (wr := []) 2 12 ((169 - 24 * (fu_23 + 1)) + 10) ((1014 - 144 * (fu_23 + 1)) + 60) 228 1368 (co_effect l hst D k cA nA tA X w_93 hw_93 x9_93 6 v_90 hv_89) ⟨hx, hb, hml, hown, hts⟩ (vx_cwSW 3 hts gL_built_L_effect rfl rfl rfl (by decide +kernel) ⟨Nat.le_of_ble_eq_true rfl, Nat.le_of_ble_eq_true rfl⟩) hK hG hC hP hD hS hA (List.Perm.refl _) rfl hl.1 rfl (Nat.le_of_ble_eq_true rfl) dL_built_139 ⟨rfl, rfl⟩ ⟨rfl, rfl⟩ (by omega) (by omega) (fun ov w_91 H locs hQ hP hD hS => ?_)
                obtain ⟨rfl, hw_91⟩ := hQ
                refine W.eq (g2 := F0 m 142 ls [.long v_90]) rfl ?_
                refine lv_lconst (v := 0) hx hb dL_built_142 (by decide) ?_
                refine lv_ldc2 (v := 999) hx hb hown w_4 dL_built_143 ?_
                obtain ⟨v_93, hv_92, h⟩ := bd_l h
                refine Lo_S (As := [.long v_90, .long 0, .long 999]) (rest := []) (wA := []) (wr := w_91 ++ []) 0 0 ((169 - 24 * (fu_23 + 1)) + 10) ((1014 - 144 * (fu_23 + 1)) + 60) 228 1368 (c_L_in l hst D k v_90 0 999 v_93 hv_92) ⟨hx, hb, hml, hown, hts⟩ (va_cwS 3 hts gL_built_L_in rfl rfl rfl (by decide +kernel) ⟨Nat.le_of_ble_eq_true rfl, Nat.le_of_ble_eq_true rfl⟩) hK hG hC hP hD hS hA (List.Perm.refl _) rfl hl.1 rfl (Nat.le_of_ble_eq_true rfl) dL_built_146 ⟨rfl, rfl⟩ ⟨rfl, rfl⟩ (by omega) (by omega) (fun ov w9 H locs hQ hP hD hS => ?_)
                obtain ⟨rfl, rfl⟩ := hQ
                have hP : va_P D vwCl (w_91 ++ []) H := hP
                have hD : va_D A (w_91 ++ []) := hD
                refine W.eq (g2 := F0 m 149 ls [.int v_93]) rfl ?_
                refine lv_if_eq (tgt := 309) hx hb dL_built_149 (by decide) (fun c_94 => ?_) (fun c_94 => ?_)
                · have h := it_l c_94 h
                  refine W.widen (k := (169 - 24 * (fu_23 + 1)) + 22) (n := (1014 - 144 * (fu_23 + 1)) + 132) (by omega) (by omega) ?_
                  exact hC_309 x2_93 x4_93 v_82 x7_93 x9_93 w_91 _ _ _ hw_91 hP hD hS (lv_sub hl [1, 2, 3, 4, 0, 5, 6] rfl) h
                · have h := it_r c_94 h
                  refine lv_aload_n hx hb dL_built_152 rfl (lv_at hl 1 rfl) ?_
                  refine lv_iload hx hb dL_built_153 (lv_at hl 6 rfl) ?_
                  refine lv_bipush (v := 7) hx hb dL_built_155 (by decide) ?_
                  obtain ⟨v_96, hv_95, h⟩ := bd_l h
                  refine Lo_T (As := [.ref (cA 0), .int x9_93, .int 7]) (rest := []) (wA := w_91) (wr := []) 2 12 ((169 - 24 * (fu_23 + 1)) + 12) ((1014 - 144 * (fu_23 + 1)) + 72) 228 1368 (co_effect l hst D k cA nA tA X w_91 hw_91 x9_93 7 v_96 hv_95) ⟨hx, hb, hml, hown, hts⟩ (vx_cwSW 3 hts gL_built_L_effect rfl rfl rfl (by decide +kernel) ⟨Nat.le_of_ble_eq_true rfl, Nat.le_of_ble_eq_true rfl⟩) hK hG hC hP hD hS hA (List.Perm.refl _) rfl hl.1 rfl (Nat.le_of_ble_eq_true rfl) dL_built_157 ⟨rfl, rfl⟩ ⟨rfl, rfl⟩ (by omega) (by omega) (fun ov w_97 H locs hQ hP hD hS => ?_)
                  obtain ⟨rfl, hw_97⟩ := hQ
                  refine W.eq (g2 := F0 m 160 ls [.long v_96]) rfl ?_
                  refine lv_lconst (v := 0) hx hb dL_built_160 (by decide) ?_
                  refine lv_ldc2 (v := 20) hx hb hown w_5 dL_built_161 ?_
                  obtain ⟨v_99, hv_98, h⟩ := bd_l h
                  refine Lo_S (As := [.long v_96, .long 0, .long 20]) (rest := []) (wA := []) (wr := w_97 ++ []) 0 0 ((169 - 24 * (fu_23 + 1)) + 12) ((1014 - 144 * (fu_23 + 1)) + 72) 228 1368 (c_L_in l hst D k v_96 0 20 v_99 hv_98) ⟨hx, hb, hml, hown, hts⟩ (va_cwS 3 hts gL_built_L_in rfl rfl rfl (by decide +kernel) ⟨Nat.le_of_ble_eq_true rfl, Nat.le_of_ble_eq_true rfl⟩) hK hG hC hP hD hS hA (List.Perm.refl _) rfl hl.1 rfl (Nat.le_of_ble_eq_true rfl) dL_built_164 ⟨rfl, rfl⟩ ⟨rfl, rfl⟩ (by omega) (by omega) (fun ov w9 H locs hQ hP hD hS => ?_)
                  obtain ⟨rfl, rfl⟩ := hQ
                  have hP : va_P D vwCl (w_97 ++ []) H := hP
                  have hD : va_D A (w_97 ++ []) := hD
                  refine W.eq (g2 := F0 m 167 ls [.int v_99]) rfl ?_
                  refine lv_if_eq (tgt := 309) hx hb dL_built_167 (by decide) (fun c_100 => ?_) (fun c_100 => ?_)
                  · have h := it_l c_100 h
                    refine W.widen (k := (169 - 24 * (fu_23 + 1)) + 22) (n := (1014 - 144 * (fu_23 + 1)) + 132) (by omega) (by omega) ?_
                    exact hC_309 x2_93 x4_93 v_82 x7_93 x9_93 w_97 _ _ _ hw_97 hP hD hS (lv_sub hl [1, 2, 3, 4, 0, 5, 6] rfl) h
                  · have h := it_r c_100 h
                    refine lv_aload_n hx hb dL_built_170 rfl (lv_at hl 1 rfl) ?_
                    refine lv_iload hx hb dL_built_171 (lv_at hl 6 rfl) ?_
                    refine lv_bipush (v := 8) hx hb dL_built_173 (by decide) ?_
                    obtain ⟨v_102, hv_101, h⟩ := bd_l h
                    refine Lo_T (As := [.ref (cA 0), .int x9_93, .int 8]) (rest := []) (wA := w_97) (wr := []) 2 12 ((169 - 24 * (fu_23 + 1)) + 14) ((1014 - 144 * (fu_23 + 1)) + 84) 228 1368 (co_effect l hst D k cA nA tA X w_97 hw_97 x9_93 8 v_102 hv_101) ⟨hx, hb, hml, hown, hts⟩ (vx_cwSW 3 hts gL_built_L_effect rfl rfl rfl (by decide +kernel) ⟨Nat.le_of_ble_eq_true rfl, Nat.le_of_ble_eq_true rfl⟩) hK hG hC hP hD hS hA (List.Perm.refl _) rfl hl.1 rfl (Nat.le_of_ble_eq_true rfl) dL_built_175 ⟨rfl, rfl⟩ ⟨rfl, rfl⟩ (by omega) (by omega) (fun ov w_103 H locs hQ hP hD hS => ?_)
                    obtain ⟨rfl, hw_103⟩ := hQ
                    refine W.eq (g2 := F0 m 178 ls [.long v_102]) rfl ?_
                    refine lv_lload hx hb dL_built_178 (lv_at hl 7 rfl) ?_
                    refine lv_lload hx hb dL_built_180 (lv_at hl 8 rfl) ?_
                    refine lv_ladd hx hb dL_built_182 ?_
                    refine lv_lconst (v := 0) hx hb dL_built_183 (by decide) ?_
                    refine W.lcmp hx hb dL_built_184 ?_
                    refine lv_if_ne (tgt := 192) hx hb dL_built_185 (by decide) (fun c_104 => ?_) (fun c_104 => ?_)
                    · have h := it_r c_104 h
                      refine lv_ldc2 (v := 100) hx hb hown w_0 dL_built_192 ?_
                      refine lv_lload hx hb dL_built_195 (lv_at hl 8 rfl) ?_
                      refine lv_lmul hx hb dL_built_197 ?_
                      refine lv_lload hx hb dL_built_198 (lv_at hl 7 rfl) ?_
                      refine lv_lload hx hb dL_built_200 (lv_at hl 8 rfl) ?_
                      refine lv_ladd hx hb dL_built_202 ?_
                      have g_105 := nzl_l (gb_l h)
                      have h := gb_r h
                      refine lv_ldiv hx hb dL_built_203 g_105 ?_
                      refine W.widen (k := (169 - 24 * (fu_23 + 1)) + 14) (n := (1014 - 144 * (fu_23 + 1)) + 84) (by omega) (by omega) ?_
                      exact hC_204 x2_93 x4_93 v_82 x7_93 x9_93 x12_93 x14_93 ((100 * x12_93) / (x10_93 + x12_93)) v_102 w_103 _ _ _ hw_103 hP hD hS (lv_sub hl [1, 2, 3, 4, 0, 5, 6, 8, 9] rfl) h
                    · have h := it_l c_104 h
                      refine lv_lconst (v := 0) hx hb dL_built_188 (by decide) ?_
                      refine lv_goto (tgt := 204) hx hb dL_built_189 (by decide) ?_
                      refine W.widen (k := (169 - 24 * (fu_23 + 1)) + 14) (n := (1014 - 144 * (fu_23 + 1)) + 84) (by omega) (by omega) ?_
                      exact hC_204 x2_93 x4_93 v_82 x7_93 x9_93 x12_93 x14_93 0 v_102 w_103 _ _ _ hw_103 hP hD hS (lv_sub hl [1, 2, 3, 4, 0, 5, 6, 8, 9] rfl) h
      refine lv_iload hx hb dL_built_23 (lv_at hl 7 rfl) ?_
      refine lv_iload_n hx hb dL_built_25 rfl (lv_at hl 1 rfl) ?_
      refine lv_icmp_ge (tgt := 340) hx hb dL_built_26 (by decide) (fun c_106 => ?_) (fun c_106 => ?_)
      · have h := it_l c_106 h
        refine lv_bipush (v := (-9)) hx hb dL_built_340 (by decide) ?_
        refine lv_istore (lv' := [(9, .int (-9)), (0, .ref (cA 0)), (1, .int x1_23), (2, .long x2_23), (4, .long x4_23), (6, .int x6_23), (7, .int x7_23), (8, .int x8_23)]) hx hb dL_built_342 hl (by decide) rfl (fun ls hl => ?_)
        refine lv_iload_n hx hb dL_built_344 rfl (lv_at hl 2 rfl) ?_
        refine lv_iconst (v := 1) hx hb dL_built_345 (by decide) ?_
        refine lv_isub hx hb dL_built_346 ?_
        refine lv_topi (fun v_107 ev_107 => ?_)
        have h := nm_l h ev_107
        refine lv_istore (lv' := [(10, .int v_107), (9, .int (-9)), (0, .ref (cA 0)), (1, .int x1_23), (2, .long x2_23), (4, .long x4_23), (6, .int x6_23), (7, .int x7_23), (8, .int x8_23)]) hx hb dL_built_347 hl (by decide) rfl (fun ls hl => ?_)
        refine W.widen (k := (214 - 3 * 7)) (n := (1284 - 18 * 7)) (by omega) (by omega) ?_
        exact hC_349 7 x2_23 x4_23 x6_23 x8_23 (-9) v_107 w_23 _ _ _ (Nat.le_refl _) hw_23 hP hD hS (lv_sub hl [2, 4, 5, 6, 8, 1, 0] rfl) h
      · have h := it_r c_106 h
        refine lv_iload hx hb dL_built_29 (lv_at hl 6 rfl) ?_
        refine lv_if_eq (tgt := 340) hx hb dL_built_31 (by decide) (fun c_108 => ?_) (fun c_108 => ?_)
        · have h := it_l c_108 h
          refine lv_bipush (v := (-9)) hx hb dL_built_340 (by decide) ?_
          refine lv_istore (lv' := [(9, .int (-9)), (0, .ref (cA 0)), (1, .int x1_23), (2, .long x2_23), (4, .long x4_23), (6, .int x6_23), (7, .int x7_23), (8, .int x8_23)]) hx hb dL_built_342 hl (by decide) rfl (fun ls hl => ?_)
          refine lv_iload_n hx hb dL_built_344 rfl (lv_at hl 2 rfl) ?_
          refine lv_iconst (v := 1) hx hb dL_built_345 (by decide) ?_
          refine lv_isub hx hb dL_built_346 ?_
          refine lv_topi (fun v_109 ev_109 => ?_)
          have h := nm_l h ev_109
          refine lv_istore (lv' := [(10, .int v_109), (9, .int (-9)), (0, .ref (cA 0)), (1, .int x1_23), (2, .long x2_23), (4, .long x4_23), (6, .int x6_23), (7, .int x7_23), (8, .int x8_23)]) hx hb dL_built_347 hl (by decide) rfl (fun ls hl => ?_)
          refine W.widen (k := (214 - 3 * 7)) (n := (1284 - 18 * 7)) (by omega) (by omega) ?_
          exact hC_349 7 x2_23 x4_23 x6_23 x8_23 (-9) v_109 w_23 _ _ _ (Nat.le_refl _) hw_23 hP hD hS (lv_sub hl [2, 4, 5, 6, 8, 1, 0] rfl) h
        · have h := it_r c_108 h
          refine lv_aload_n hx hb dL_built_34 rfl (lv_at hl 0 rfl) ?_
          refine lv_iload hx hb dL_built_35 (lv_at hl 7 rfl) ?_
          refine lv_iconst (v := 1) hx hb dL_built_37 (by decide) ?_
          obtain ⟨v_111, hv_110, h⟩ := bd_l h
          refine Lo_T (As := [.ref (cA 0), .int x9_23, .int 1]) (rest := []) (wA := w_23) (wr := []) 2 12 ((169 - 24 * (fu_23 + 1)) + 2) ((1014 - 144 * (fu_23 + 1)) + 12) 228 1368 (co_effect l hst D k cA nA tA X w_23 hw_23 x9_23 1 v_111 hv_110) ⟨hx, hb, hml, hown, hts⟩ (vx_cwSW 3 hts gL_built_L_effect rfl rfl rfl (by decide +kernel) ⟨Nat.le_of_ble_eq_true rfl, Nat.le_of_ble_eq_true rfl⟩) hK hG hC hP hD hS hA (List.Perm.refl _) rfl hl.1 rfl (Nat.le_of_ble_eq_true rfl) dL_built_38 ⟨rfl, rfl⟩ ⟨rfl, rfl⟩ (by omega) (by omega) (fun ov w_112 H locs hQ hP hD hS => ?_)
          obtain ⟨rfl, hw_112⟩ := hQ
          refine W.eq (g2 := F0 m 41 ls [.long v_111]) rfl ?_
          refine lv_lstore (lv' := [(10, .long v_111), (0, .ref (cA 0)), (1, .int x1_23), (2, .long x2_23), (4, .long x4_23), (6, .int x6_23), (7, .int x7_23), (8, .int x8_23), (9, .int x9_23)]) hx hb dL_built_41 hl (by decide) rfl (fun ls hl => ?_)
          refine lv_aload_n hx hb dL_built_43 rfl (lv_at hl 1 rfl) ?_
          refine lv_iload hx hb dL_built_44 (lv_at hl 8 rfl) ?_
          refine lv_iconst (v := 2) hx hb dL_built_46 (by decide) ?_
          obtain ⟨v_114, hv_113, h⟩ := bd_l h
          refine Lo_T (As := [.ref (cA 0), .int x9_23, .int 2]) (rest := []) (wA := w_112) (wr := []) 2 12 ((169 - 24 * (fu_23 + 1)) + 4) ((1014 - 144 * (fu_23 + 1)) + 24) 228 1368 (co_effect l hst D k cA nA tA X w_112 hw_112 x9_23 2 v_114 hv_113) ⟨hx, hb, hml, hown, hts⟩ (vx_cwSW 3 hts gL_built_L_effect rfl rfl rfl (by decide +kernel) ⟨Nat.le_of_ble_eq_true rfl, Nat.le_of_ble_eq_true rfl⟩) hK hG hC hP hD hS hA (List.Perm.refl _) rfl hl.1 rfl (Nat.le_of_ble_eq_true rfl) dL_built_47 ⟨rfl, rfl⟩ ⟨rfl, rfl⟩ (by omega) (by omega) (fun ov w_115 H locs hQ hP hD hS => ?_)
          obtain ⟨rfl, hw_115⟩ := hQ
          refine W.eq (g2 := F0 m 50 ls [.long v_114]) rfl ?_
          refine lv_lstore (lv' := [(12, .long v_114), (10, .long v_111), (0, .ref (cA 0)), (1, .int x1_23), (2, .long x2_23), (4, .long x4_23), (6, .int x6_23), (7, .int x7_23), (8, .int x8_23), (9, .int x9_23)]) hx hb dL_built_50 hl (by decide) rfl (fun ls hl => ?_)
          refine lv_aload_n hx hb dL_built_52 rfl (lv_at hl 2 rfl) ?_
          refine lv_iload hx hb dL_built_53 (lv_at hl 9 rfl) ?_
          refine lv_iconst (v := 5) hx hb dL_built_55 (by decide) ?_
          obtain ⟨v_117, hv_116, h⟩ := bd_l h
          refine Lo_T (As := [.ref (cA 0), .int x9_23, .int 5]) (rest := []) (wA := w_115) (wr := []) 2 12 ((169 - 24 * (fu_23 + 1)) + 6) ((1014 - 144 * (fu_23 + 1)) + 36) 228 1368 (co_effect l hst D k cA nA tA X w_115 hw_115 x9_23 5 v_117 hv_116) ⟨hx, hb, hml, hown, hts⟩ (vx_cwSW 3 hts gL_built_L_effect rfl rfl rfl (by decide +kernel) ⟨Nat.le_of_ble_eq_true rfl, Nat.le_of_ble_eq_true rfl⟩) hK hG hC hP hD hS hA (List.Perm.refl _) rfl hl.1 rfl (Nat.le_of_ble_eq_true rfl) dL_built_56 ⟨rfl, rfl⟩ ⟨rfl, rfl⟩ (by omega) (by omega) (fun ov w_118 H locs hQ hP hD hS => ?_)
          obtain ⟨rfl, hw_118⟩ := hQ
          refine W.eq (g2 := F0 m 59 ls [.long v_117]) rfl ?_
          refine lv_lstore (lv' := [(14, .long v_117), (12, .long v_114), (10, .long v_111), (0, .ref (cA 0)), (1, .int x1_23), (2, .long x2_23), (4, .long x4_23), (6, .int x6_23), (7, .int x7_23), (8, .int x8_23), (9, .int x9_23)]) hx hb dL_built_59 hl (by decide) rfl (fun ls hl => ?_)
          refine lv_lload_n hx hb dL_built_61 rfl (lv_at hl 5 rfl) ?_
          refine lv_lload hx hb dL_built_62 (lv_at hl 2 rfl) ?_
          refine lv_ladd hx hb dL_built_64 ?_
          refine lv_topl (fun v_119 ev_119 => ?_)
          have h := nm_l h ev_119
          refine lv_lstore_n (lv' := [(2, .long v_119), (14, .long v_117), (12, .long v_114), (10, .long v_111), (0, .ref (cA 0)), (1, .int x1_23), (4, .long x4_23), (6, .int x6_23), (7, .int x7_23), (8, .int x8_23), (9, .int x9_23)]) hx hb dL_built_65 rfl hl (by decide) rfl (fun ls hl => ?_)
          refine lv_lload hx hb dL_built_66 (lv_at hl 6 rfl) ?_
          refine lv_lload hx hb dL_built_68 (lv_at hl 2 rfl) ?_
          refine lv_ladd hx hb dL_built_70 ?_
          refine lv_topl (fun v_120 ev_120 => ?_)
          have h := nm_l h ev_120
          refine lv_lstore (lv' := [(4, .long v_120), (2, .long v_119), (14, .long v_117), (12, .long v_114), (10, .long v_111), (0, .ref (cA 0)), (1, .int x1_23), (6, .int x6_23), (7, .int x7_23), (8, .int x8_23), (9, .int x9_23)]) hx hb dL_built_71 hl (by decide) rfl (fun ls hl => ?_)
          refine lv_iload hx hb dL_built_73 (lv_at hl 7 rfl) ?_
          refine lv_aload_n hx hb dL_built_75 rfl (lv_at hl 5 rfl) ?_
          refine lv_iload hx hb dL_built_76 (lv_at hl 10 rfl) ?_
          refine lv_bipush (v := 7) hx hb dL_built_78 (by decide) ?_
          obtain ⟨v_122, hv_121, h⟩ := bd_l h
          refine Lo_T (As := [.ref (cA 0), .int x9_23, .int 7]) (rest := [.int x6_23]) (wA := w_118) (wr := []) 2 12 ((169 - 24 * (fu_23 + 1)) + 8) ((1014 - 144 * (fu_23 + 1)) + 48) 228 1368 (co_effect l hst D k cA nA tA X w_118 hw_118 x9_23 7 v_122 hv_121) ⟨hx, hb, hml, hown, hts⟩ (vx_cwSW 3 hts gL_built_L_effect rfl rfl rfl (by decide +kernel) ⟨Nat.le_of_ble_eq_true rfl, Nat.le_of_ble_eq_true rfl⟩) hK hG hC hP hD hS hA (List.Perm.refl _) rfl hl.1 rfl (Nat.le_of_ble_eq_true rfl) dL_built_80 ⟨rfl, rfl⟩ ⟨rfl, rfl⟩ (by omega) (by omega) (fun ov w_123 H locs hQ hP hD hS => ?_)
          obtain ⟨rfl, hw_123⟩ := hQ
          refine W.eq (g2 := F0 m 83 ls [.long v_122, .int x6_23]) rfl ?_
          refine lv_lconst (v := 0) hx hb dL_built_83 (by decide) ?_
          refine W.lcmp hx hb dL_built_84 ?_
          refine lv_if_le (tgt := 92) hx hb dL_built_85 (by decide) (fun c_124 => ?_) (fun c_124 => ?_)
          · have h := it_l c_124 h
            refine lv_iconst (v := 0) hx hb dL_built_92 (by decide) ?_
            refine W.widen (k := (169 - 24 * (fu_23 + 1)) + 8) (n := (1014 - 144 * (fu_23 + 1)) + 48) (by omega) (by omega) ?_
            exact hC_93 v_119 v_120 x7_23 x9_23 v_111 v_114 v_117 0 x6_23 w_123 _ _ _ hw_123 hP hD hS (lv_sub hl [5, 6, 1, 0, 8, 10, 4, 3, 2] rfl) h
          · have h := it_r c_124 h
            refine lv_iconst (v := 1) hx hb dL_built_88 (by decide) ?_
            refine lv_goto (tgt := 93) hx hb dL_built_89 (by decide) ?_
            refine W.widen (k := (169 - 24 * (fu_23 + 1)) + 8) (n := (1014 - 144 * (fu_23 + 1)) + 48) (by omega) (by omega) ?_
            exact hC_93 v_119 v_120 x7_23 x9_23 v_111 v_114 v_117 1 x6_23 w_123 _ _ _ hw_123 hP hD hS (lv_sub hl [5, 6, 1, 0, 8, 10, 4, 3, 2] rfl) h
  refine lv_aload_n hx hb dL_built_0 rfl (lv_at hl 0 rfl) ?_
  obtain ⟨v_126, hv_125, h⟩ := bd_l h
  refine Lo_S (As := [.ref (cA 0)]) (rest := []) (wA := w) (wr := []) 1 6 (1) (6) 228 1368 (c_L_effects l hst D k cA nA tA X w hw v_126 hv_125) ⟨hx, hb, hml, hown, hts⟩ (va_cwS 1 hts gL_built_L_effects rfl rfl rfl (by decide +kernel) ⟨Nat.le_of_ble_eq_true rfl, Nat.le_of_ble_eq_true rfl⟩) hK hG hC hP hD hS hA (List.Perm.refl _) rfl hl.1 rfl (Nat.le_of_ble_eq_true rfl) dL_built_1 ⟨rfl, rfl⟩ ⟨rfl, rfl⟩ (by omega) (by omega) (fun ov w_127 H locs hQ hP hD hS => ?_)
  obtain ⟨rfl, hw_127⟩ := hQ
  refine W.eq (g2 := F0 m 4 ls [.int v_126]) rfl ?_
  refine lv_istore_n (lv' := [(1, .int v_126), (0, .ref (cA 0))]) hx hb dL_built_4 rfl hl (by decide) rfl (fun ls hl => ?_)
  refine lv_lconst (v := 0) hx hb dL_built_5 (by decide) ?_
  refine lv_lstore_n (lv' := [(2, .long 0), (1, .int v_126), (0, .ref (cA 0))]) hx hb dL_built_6 rfl hl (by decide) rfl (fun ls hl => ?_)
  refine lv_lconst (v := 0) hx hb dL_built_7 (by decide) ?_
  refine lv_lstore (lv' := [(4, .long 0), (2, .long 0), (1, .int v_126), (0, .ref (cA 0))]) hx hb dL_built_8 hl (by decide) rfl (fun ls hl => ?_)
  refine lv_iconst (v := 0) hx hb dL_built_10 (by decide) ?_
  refine lv_istore (lv' := [(6, .int 0), (4, .long 0), (2, .long 0), (1, .int v_126), (0, .ref (cA 0))]) hx hb dL_built_11 hl (by decide) rfl (fun ls hl => ?_)
  refine lv_bipush (v := (-9)) hx hb dL_built_13 (by decide) ?_
  refine lv_istore (lv' := [(7, .int (-9)), (6, .int 0), (4, .long 0), (2, .long 0), (1, .int v_126), (0, .ref (cA 0))]) hx hb dL_built_15 hl (by decide) rfl (fun ls hl => ?_)
  refine lv_iconst (v := 1) hx hb dL_built_17 (by decide) ?_
  refine lv_istore (lv' := [(8, .int 1), (7, .int (-9)), (6, .int 0), (4, .long 0), (2, .long 0), (1, .int v_126), (0, .ref (cA 0))]) hx hb dL_built_18 hl (by decide) rfl (fun ls hl => ?_)
  refine lv_iconst (v := 0) hx hb dL_built_20 (by decide) ?_
  refine lv_istore (lv' := [(9, .int 0), (8, .int 1), (7, .int (-9)), (6, .int 0), (4, .long 0), (2, .long 0), (1, .int v_126), (0, .ref (cA 0))]) hx hb dL_built_21 hl (by decide) rfl (fun ls hl => ?_)
  refine W.widen (k := (169 - 24 * 7)) (n := (1014 - 144 * 7)) (by omega) (by omega) ?_
  exact hC_23 7 v_126 0 0 0 (-9) 1 0 w_127 _ _ _ (Nat.le_refl _) hw_127 hP hD hS (lv_sub hl [7, 6, 5, 4, 3, 2, 1, 0] rfl) h
