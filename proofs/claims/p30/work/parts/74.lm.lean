noncomputable def f_L_in (p0 : Int64) (p2 : Int64) (p4 : Int64) : Option (Int32) := if (lg_cmp p0 p2) < 0 then (some (0)) else (if 0 < (lg_cmp p0 p4) then (some (0)) else (some (1)))
set_option maxRecDepth 100000 in
set_option maxHeartbeats 4000000 in
theorem c_L_in (l : Launch) (hst : l.stackTraces = false) (D : va_G) (k : Nat → ClassId) (p0 : Int64) (p2 : Int64) (p4 : Int64) (o : Int32) (h : f_L_in p0 p2 p4 = some o) : CO l D k yL_in wsL_in ({ frames := 0, cells := 0, slots := 0, locals := 0 } : Room) [.long p0, .long p2, .long p4] ([]) (fun (ov : Option Value) (w' : va_W) => ov = some (.int o) ∧ w' = []) := by
  obtain ⟨B9, hB9⟩ : ∃ B : Option Value → va_W → Prop, B = fun (ov : Option Value) (w' : va_W) => ov = some (.int o) ∧ w' = [] := ⟨_, rfl⟩
  refine CO.of (P := B9) ?_ (fun ov w' h9 => by rw [hB9] at h9; exact h9)
  refine Cl_of0 (cc := cL_in) (maxL := 6) (ret := (some .boolean)) (by decide) rfl (Nat.le_of_ble_eq_true rfl) ?_
  intro p e s m args below meth c A ls hx hb hr hml hts hown hlocks hK hG hC hA hP hD hS hl
  have hl : lv_has ls 6 [(0, .long p0), (2, .long p2), (4, .long p4)] := hl
  unfold f_L_in at h
  refine lv_lload_n hx hb dL_in_0 rfl (lv_at hl 0 rfl) ?_
  refine lv_lload_n hx hb dL_in_1 rfl (lv_at hl 1 rfl) ?_
  refine W.lcmp hx hb dL_in_2 ?_
  refine lv_if_lt (tgt := 17) hx hb dL_in_3 (by decide) (fun c_1 => ?_) (fun c_1 => ?_)
  · have h := it_l c_1 h
    refine lv_iconst (v := 0) hx hb dL_in_17 (by decide) ?_
    cases h
    exact Cx_zret (B := B9) rfl (by rw [hB9]; exact ⟨rfl, rfl⟩) (by omega) (by omega) hx hb hr (by decide) hP hD hS dL_in_18 hlocks
  · have h := it_r c_1 h
    refine lv_lload_n hx hb dL_in_6 rfl (lv_at hl 0 rfl) ?_
    refine lv_lload hx hb dL_in_7 (lv_at hl 2 rfl) ?_
    refine W.lcmp hx hb dL_in_9 ?_
    refine lv_if_gt (tgt := 17) hx hb dL_in_10 (by decide) (fun c_2 => ?_) (fun c_2 => ?_)
    · have h := it_l c_2 h
      refine lv_iconst (v := 0) hx hb dL_in_17 (by decide) ?_
      cases h
      exact Cx_zret (B := B9) rfl (by rw [hB9]; exact ⟨rfl, rfl⟩) (by omega) (by omega) hx hb hr (by decide) hP hD hS dL_in_18 hlocks
    · have h := it_r c_2 h
      refine lv_iconst (v := 1) hx hb dL_in_13 (by decide) ?_
      refine lv_goto (tgt := 18) hx hb dL_in_14 (by decide) ?_
      cases h
      exact Cx_zret (B := B9) rfl (by rw [hB9]; exact ⟨rfl, rfl⟩) (by omega) (by omega) hx hb hr (by decide) hP hD hS dL_in_18 hlocks
noncomputable def f_L_effects (X : XV) : Option (Int32) := bd (o_about X 0) fun v_2 => some ((v_2.toInt32))
set_option maxRecDepth 100000 in
set_option maxHeartbeats 4000000 in
theorem c_L_effects (l : Launch) (hst : l.stackTraces = false) (D : va_G) (k : Nat → ClassId) (cA nA tA : Nat → Nat) (X : XV) (w : va_W) (hw : Ob k cA nA tA X w) (o : Int32) (h : f_L_effects X = some o) : CO l D k yL_effects wsL_effects ({ frames := 9, cells := 1, slots := 6, locals := 147 } : Room) [.ref (cA 0)] (w) (fun (ov : Option Value) (w' : va_W) => ov = some (.int o) ∧ Ob k cA nA tA X w') := by
  obtain ⟨B9, hB9⟩ : ∃ B : Option Value → va_W → Prop, B = fun (ov : Option Value) (w' : va_W) => ov = some (.int o) ∧ Ob k cA nA tA X w' := ⟨_, rfl⟩
  refine CO.of (P := B9) ?_ (fun ov w' h9 => by rw [hB9] at h9; exact h9)
  refine Cl_of0 (cc := cL_effects) (maxL := 1) (ret := (some .int)) (by decide) rfl (Nat.le_of_ble_eq_true rfl) ?_
  intro p e s m args below meth c A ls hx hb hr hml hts hown hlocks hK hG hC hA hP hD hS hl
  have hl : lv_has ls 1 [(0, .ref (cA 0))] := hl
  have hP := P_n hP
  have hD := D_n hD
  unfold f_L_effects at h
  refine lv_aload_n hx hb dL_effects_0 rfl (lv_at hl 0 rfl) ?_
  refine lv_iconst (v := 0) hx hb dL_effects_1 (by decide) ?_
  obtain ⟨v_2, hv_1, h⟩ := bd_l h
  refine Lo_T (As := [.ref (cA 0), .int 0]) (rest := []) (wA := w) (wr := []) 1 6 (1) (6) 1 6 (co_about l hst D k cA nA tA X w hw 0 v_2 hv_1) ⟨hx, hb, hml, hown, hts⟩ (vx_cwSW 2 hts gL_effects_L_about rfl rfl rfl (by decide +kernel) ⟨Nat.le_of_ble_eq_true rfl, Nat.le_of_ble_eq_true rfl⟩) hK hG hC hP hD hS hA (List.Perm.refl _) rfl hl.1 rfl (Nat.le_of_ble_eq_true rfl) dL_effects_2 ⟨rfl, rfl⟩ ⟨rfl, rfl⟩ (by omega) (by omega) (fun ov w_3 H locs hQ hP hD hS => ?_)
  obtain ⟨rfl, hw_3⟩ := hQ
  refine W.eq (g2 := F0 m 5 ls [.long v_2]) rfl ?_
  refine lv_l2i hx hb dL_effects_5 rfl ?_
  cases h
  exact Cx_iret (B := B9) rfl (by rw [hB9]; exact ⟨rfl, hw_3⟩) (by omega) (by omega) hx hb hr (P_l hP) (D_l hD) hS dL_effects_6 hlocks
noncomputable def f_L_now_57 (k_46 : Int64 → Int32 → Option (Int64)) (X : XV) : Nat → Int64 → Int32 → Int32 → Option (Int64)
  | 0, _, _, _ => none
  | fu + 1, x1_57, x3_57, x4_57 => if 10 ≤ x4_57 then (k_46 x1_57 (x3_57 + 1)) else (bd (o_effect X x3_57 x4_57) fun v_3 => nm (((1009 * x1_57) + v_3) - ((1009 * x1_57) + v_3) / 1000000007 * 1000000007) fun v_5 => (f_L_now_57 k_46 X fu) v_5 x3_57 (x4_57 + 1))
noncomputable def f_L_now_46 (X : XV) : Nat → Int64 → Int32 → Option (Int64)
  | 0, _, _ => none
  | fu + 1, x1_46, x3_46 => bd (f_L_effects X) fun v_7 => if v_7 ≤ x3_46 then (some (x1_46)) else (f_L_now_57 (f_L_now_46 X fu) X 11 x1_46 x3_46 0)
noncomputable def f_L_now_6 (X : XV) : Nat → Int64 → Int32 → Option (Int64)
  | 0, _, _ => none
  | fu + 1, x1_6, x3_6 => if 10 ≤ x3_6 then (f_L_now_46 X 7 x1_6 0) else (bd (o_about X x3_6) fun v_12 => bd (o_total X x3_6) fun v_15 => nm ((((1009 * x1_6) + (31 * v_12)) + v_15) - (((1009 * x1_6) + (31 * v_12)) + v_15) / 1000000007 * 1000000007) fun v_17 => (f_L_now_6 X fu) v_17 (x3_6 + 1))
noncomputable def f_L_now (X : XV) : Option (Int64) := f_L_now_6 X 11 59 0
set_option maxRecDepth 100000 in
set_option maxHeartbeats 4000000 in
theorem c_L_now (l : Launch) (hst : l.stackTraces = false) (D : va_G) (k : Nat → ClassId) (cA nA tA : Nat → Nat) (X : XV) (w : va_W) (hw : Ob k cA nA tA X w) (o : Int64) (h : f_L_now X = some o) : CO l D k yL_now wsL_now ({ frames := 10, cells := 224, slots := 1344, locals := 167 } : Room) [.ref (cA 0)] (w) (fun (ov : Option Value) (w' : va_W) => ov = some (.long o) ∧ Ob k cA nA tA X w') := by
  obtain ⟨B9, hB9⟩ : ∃ B : Option Value → va_W → Prop, B = fun (ov : Option Value) (w' : va_W) => ov = some (.long o) ∧ Ob k cA nA tA X w' := ⟨_, rfl⟩
  refine CO.of (P := B9) ?_ (fun ov w' h9 => by rw [hB9] at h9; exact h9)
  refine Cl_of0 (cc := cL_now) (maxL := 5) (ret := (some .long)) (by decide) rfl (Nat.le_of_ble_eq_true rfl) ?_
  intro p e s m args below meth c A ls hx hb hr hml hts hown hlocks hK hG hC hA hP hD hS hl
  have hl : lv_has ls 5 [(0, .ref (cA 0))] := hl
  have hP := P_n hP
  have hD := D_n hD
  have w_0 := hts (.constantLong RL 111 (1009)) (by decide +kernel)
  have w_1 := hts (.constantLong RL 117 (1000000007)) (by decide +kernel)
  have w_2 := hts (.constantLong RL 113 (31)) (by decide +kernel)
  have w_3 := hts (.constantLong RL 109 (59)) (by decide +kernel)
  unfold f_L_now at h
  have hC_46 : ∀ (fu_46 : Nat) (x1_46 : Int64) (x3_46 : Int32) (w_46 : va_W) (H : Heap) (locs : List Loc) (ls : Array Slot), fu_46 ≤ 7 → Ob k cA nA tA X w_46 → va_P D vwCl (w_46 ++ []) H → va_D A (w_46 ++ []) → va_S A s.heap H locs → lv_has ls 5 [(0, .ref (cA 0)), (1, .long x1_46), (3, .int x3_46)] → f_L_now_46 X fu_46 x1_46 x3_46 = some o → W p l e ({ frames := 10, cells := 224, slots := 1344, locals := 167 } : Room) s m args below meth c H locs ((199 - 25 * fu_46)) ((1194 - 150 * fu_46)) (vx_MQ below (Qx D A (.inr B9)) (Xx D A (w) (.inr B9)) args s 224 1344 A) (F0 m 46 ls []) := by
    intro fu_46
    induction fu_46 with
    | zero => intro x1_46 x3_46 w_46 H locs ls _ _ _ _ _ _ h; exact (no_l h).elim
    | succ fu_46 ih_46 =>
      intro x1_46 x3_46 w_46 H locs ls hfu_46 hw_46 hP hD hS hl h
      rw [f_L_now_46] at h
      have hC_57 : ∀ (fu_57 : Nat) (x1_57 : Int64) (x3_57 : Int32) (x4_57 : Int32) (w_57 : va_W) (H : Heap) (locs : List Loc) (ls : Array Slot), fu_57 ≤ 11 → Ob k cA nA tA X w_57 → va_P D vwCl (w_57 ++ []) H → va_D A (w_57 ++ []) → va_S A s.heap H locs → lv_has ls 5 [(0, .ref (cA 0)), (1, .long x1_57), (3, .int x3_57), (4, .int x4_57)] → f_L_now_57 (f_L_now_46 X fu_46) X fu_57 x1_57 x3_57 x4_57 = some o → W p l e ({ frames := 10, cells := 224, slots := 1344, locals := 167 } : Room) s m args below meth c H locs (((199 - 25 * (fu_46 + 1)) + 23 - 2 * fu_57)) (((1194 - 150 * (fu_46 + 1)) + 138 - 12 * fu_57)) (vx_MQ below (Qx D A (.inr B9)) (Xx D A (w) (.inr B9)) args s 224 1344 A) (F0 m 57 ls []) := by
        intro fu_57
        induction fu_57 with
        | zero => intro x1_57 x3_57 x4_57 w_57 H locs ls _ _ _ _ _ _ h; exact (no_l h).elim
        | succ fu_57 ih_57 =>
          intro x1_57 x3_57 x4_57 w_57 H locs ls hfu_57 hw_57 hP hD hS hl h
          rw [f_L_now_57] at h
          refine lv_iload hx hb dL_now_57 (lv_at hl 3 rfl) ?_
          refine lv_bipush (v := 10) hx hb dL_now_59 (by decide) ?_
          refine lv_icmp_ge (tgt := 88) hx hb dL_now_61 (by decide) (fun c_1 => ?_) (fun c_1 => ?_)
          · have h := it_l c_1 h
            refine lv_iinc (v := (x3_57 + 1)) (lv' := [(3, .int (x3_57 + 1)), (0, .ref (cA 0)), (1, .long x1_57), (4, .int x4_57)]) hx hb dL_now_88 hl (k := 2) rfl rfl (by decide) rfl (fun ls hl => ?_)
            refine lv_goto (tgt := 46) hx hb dL_now_91 (by decide) ?_
            refine W.widen (k := (199 - 25 * fu_46)) (n := (1194 - 150 * fu_46)) (by omega) (by omega) ?_
            exact ih_46 x1_57 (x3_57 + 1) w_57 _ _ _ (by omega) hw_57 hP hD hS (lv_sub hl [1, 2, 0] rfl) h
          · have h := it_r c_1 h
            refine lv_ldc2 (v := 1009) hx hb hown w_0 dL_now_64 ?_
            refine lv_lload_n hx hb dL_now_67 rfl (lv_at hl 1 rfl) ?_
            refine lv_lmul hx hb dL_now_68 ?_
            refine lv_aload_n hx hb dL_now_69 rfl (lv_at hl 0 rfl) ?_
            refine lv_iload_n hx hb dL_now_70 rfl (lv_at hl 2 rfl) ?_
            refine lv_iload hx hb dL_now_71 (lv_at hl 3 rfl) ?_
            obtain ⟨v_3, hv_2, h⟩ := bd_l h
            refine Lo_T (As := [.ref (cA 0), .int x3_57, .int x4_57]) (rest := [.long (1009 * x1_57)]) (wA := w_57) (wr := []) 2 12 (((199 - 25 * (fu_46 + 1)) + 23 - 2 * (fu_57 + 1)) + 2) (((1194 - 150 * (fu_46 + 1)) + 138 - 12 * (fu_57 + 1)) + 12) 224 1344 (co_effect l hst D k cA nA tA X w_57 hw_57 x3_57 x4_57 v_3 hv_2) ⟨hx, hb, hml, hown, hts⟩ (vx_cwSW 3 hts gL_now_L_effect rfl rfl rfl (by decide +kernel) ⟨Nat.le_of_ble_eq_true rfl, Nat.le_of_ble_eq_true rfl⟩) hK hG hC hP hD hS hA (List.Perm.refl _) rfl hl.1 rfl (Nat.le_of_ble_eq_true rfl) dL_now_73 ⟨rfl, rfl⟩ ⟨rfl, rfl⟩ (by omega) (by omega) (fun ov w_4 H locs hQ hP hD hS => ?_)
            obtain ⟨rfl, hw_4⟩ := hQ
            refine W.eq (g2 := F0 m 76 ls [.long v_3, .long (1009 * x1_57)]) rfl ?_
            refine lv_ladd hx hb dL_now_76 ?_
            refine lv_ldc2 (v := 1000000007) hx hb hown w_1 dL_now_77 ?_
            refine lv_lrem hx hb dL_now_80 (by decide) ?_
            refine lv_topl (fun v_5 ev_5 => ?_)
            have h := nm_l h ev_5
            refine lv_lstore_n (lv' := [(1, .long v_5), (0, .ref (cA 0)), (3, .int x3_57), (4, .int x4_57)]) hx hb dL_now_81 rfl hl (by decide) rfl (fun ls hl => ?_)
            refine lv_iinc (v := (x4_57 + 1)) (lv' := [(4, .int (x4_57 + 1)), (1, .long v_5), (0, .ref (cA 0)), (3, .int x3_57)]) hx hb dL_now_82 hl (k := 3) rfl rfl (by decide) rfl (fun ls hl => ?_)
            refine lv_goto (tgt := 57) hx hb dL_now_85 (by decide) ?_
            refine W.widen (k := ((199 - 25 * (fu_46 + 1)) + 23 - 2 * fu_57)) (n := ((1194 - 150 * (fu_46 + 1)) + 138 - 12 * fu_57)) (by omega) (by omega) ?_
            exact ih_57 v_5 x3_57 (x4_57 + 1) w_4 _ _ _ (by omega) hw_4 hP hD hS (lv_sub hl [2, 1, 3, 0] rfl) h
      refine lv_iload_n hx hb dL_now_46 rfl (lv_at hl 2 rfl) ?_
      refine lv_aload_n hx hb dL_now_47 rfl (lv_at hl 0 rfl) ?_
      obtain ⟨v_7, hv_6, h⟩ := bd_l h
      refine Lo_S (As := [.ref (cA 0)]) (rest := [.int x3_46]) (wA := w_46) (wr := []) 1 6 ((199 - 25 * (fu_46 + 1)) + 1) ((1194 - 150 * (fu_46 + 1)) + 6) 224 1344 (c_L_effects l hst D k cA nA tA X w_46 hw_46 v_7 hv_6) ⟨hx, hb, hml, hown, hts⟩ (va_cwS 1 hts gL_now_L_effects rfl rfl rfl (by decide +kernel) ⟨Nat.le_of_ble_eq_true rfl, Nat.le_of_ble_eq_true rfl⟩) hK hG hC hP hD hS hA (List.Perm.refl _) rfl hl.1 rfl (Nat.le_of_ble_eq_true rfl) dL_now_48 ⟨rfl, rfl⟩ ⟨rfl, rfl⟩ (by omega) (by omega) (fun ov w_8 H locs hQ hP hD hS => ?_)
      obtain ⟨rfl, hw_8⟩ := hQ
      refine W.eq (g2 := F0 m 51 ls [.int v_7, .int x3_46]) rfl ?_
      refine lv_icmp_ge (tgt := 94) hx hb dL_now_51 (by decide) (fun c_9 => ?_) (fun c_9 => ?_)
      · have h := it_l c_9 h
        refine lv_lload_n hx hb dL_now_94 rfl (lv_at hl 1 rfl) ?_
        cases h
        exact Cx_lret (B := B9) rfl (by rw [hB9]; exact ⟨rfl, hw_8⟩) (by omega) (by omega) hx hb hr (P_l hP) (D_l hD) hS dL_now_95 hlocks
      · have h := it_r c_9 h
        refine lv_iconst (v := 0) hx hb dL_now_54 (by decide) ?_
        refine lv_istore (lv' := [(4, .int 0), (0, .ref (cA 0)), (1, .long x1_46), (3, .int x3_46)]) hx hb dL_now_55 hl (by decide) rfl (fun ls hl => ?_)
        refine W.widen (k := ((199 - 25 * (fu_46 + 1)) + 23 - 2 * 11)) (n := ((1194 - 150 * (fu_46 + 1)) + 138 - 12 * 11)) (by omega) (by omega) ?_
        exact hC_57 11 x1_46 x3_46 0 w_8 _ _ _ (Nat.le_refl _) hw_8 hP hD hS (lv_sub hl [1, 2, 3, 0] rfl) h
  have hC_6 : ∀ (fu_6 : Nat) (x1_6 : Int64) (x3_6 : Int32) (w_6 : va_W) (H : Heap) (locs : List Loc) (ls : Array Slot), fu_6 ≤ 11 → Ob k cA nA tA X w_6 → va_P D vwCl (w_6 ++ []) H → va_D A (w_6 ++ []) → va_S A s.heap H locs → lv_has ls 5 [(0, .ref (cA 0)), (1, .long x1_6), (3, .int x3_6)] → f_L_now_6 X fu_6 x1_6 x3_6 = some o → W p l e ({ frames := 10, cells := 224, slots := 1344, locals := 167 } : Room) s m args below meth c H locs ((22 - 2 * fu_6)) ((132 - 12 * fu_6)) (vx_MQ below (Qx D A (.inr B9)) (Xx D A (w) (.inr B9)) args s 224 1344 A) (F0 m 6 ls []) := by
    intro fu_6
    induction fu_6 with
    | zero => intro x1_6 x3_6 w_6 H locs ls _ _ _ _ _ _ h; exact (no_l h).elim
    | succ fu_6 ih_6 =>
      intro x1_6 x3_6 w_6 H locs ls hfu_6 hw_6 hP hD hS hl h
      rw [f_L_now_6] at h
      refine lv_iload_n hx hb dL_now_6 rfl (lv_at hl 2 rfl) ?_
      refine lv_bipush (v := 10) hx hb dL_now_7 (by decide) ?_
      refine lv_icmp_ge (tgt := 44) hx hb dL_now_9 (by decide) (fun c_10 => ?_) (fun c_10 => ?_)
      · have h := it_l c_10 h
        refine lv_iconst (v := 0) hx hb dL_now_44 (by decide) ?_
        refine lv_istore_n (lv' := [(3, .int 0), (0, .ref (cA 0)), (1, .long x1_6)]) hx hb dL_now_45 rfl hl (by decide) rfl (fun ls hl => ?_)
        refine W.widen (k := (199 - 25 * 7)) (n := (1194 - 150 * 7)) (by omega) (by omega) ?_
        exact hC_46 7 x1_6 0 w_6 _ _ _ (Nat.le_refl _) hw_6 hP hD hS (lv_sub hl [1, 2, 0] rfl) h
      · have h := it_r c_10 h
        refine lv_ldc2 (v := 1009) hx hb hown w_0 dL_now_12 ?_
        refine lv_lload_n hx hb dL_now_15 rfl (lv_at hl 1 rfl) ?_
        refine lv_lmul hx hb dL_now_16 ?_
        refine lv_ldc2 (v := 31) hx hb hown w_2 dL_now_17 ?_
        refine lv_aload_n hx hb dL_now_20 rfl (lv_at hl 0 rfl) ?_
        refine lv_iload_n hx hb dL_now_21 rfl (lv_at hl 2 rfl) ?_
        obtain ⟨v_12, hv_11, h⟩ := bd_l h
        refine Lo_T (As := [.ref (cA 0), .int x3_6]) (rest := [.long 31, .long (1009 * x1_6)]) (wA := w_6) (wr := []) 1 6 ((22 - 2 * (fu_6 + 1)) + 1) ((132 - 12 * (fu_6 + 1)) + 6) 224 1344 (co_about l hst D k cA nA tA X w_6 hw_6 x3_6 v_12 hv_11) ⟨hx, hb, hml, hown, hts⟩ (vx_cwSW 2 hts gL_now_L_about rfl rfl rfl (by decide +kernel) ⟨Nat.le_of_ble_eq_true rfl, Nat.le_of_ble_eq_true rfl⟩) hK hG hC hP hD hS hA (List.Perm.refl _) rfl hl.1 rfl (Nat.le_of_ble_eq_true rfl) dL_now_22 ⟨rfl, rfl⟩ ⟨rfl, rfl⟩ (by omega) (by omega) (fun ov w_13 H locs hQ hP hD hS => ?_)
        obtain ⟨rfl, hw_13⟩ := hQ
        refine W.eq (g2 := F0 m 25 ls [.long v_12, .long 31, .long (1009 * x1_6)]) rfl ?_
        refine lv_lmul hx hb dL_now_25 ?_
        refine lv_ladd hx hb dL_now_26 ?_
        refine lv_aload_n hx hb dL_now_27 rfl (lv_at hl 0 rfl) ?_
        refine lv_iload_n hx hb dL_now_28 rfl (lv_at hl 2 rfl) ?_
        obtain ⟨v_15, hv_14, h⟩ := bd_l h
        refine Lo_T (As := [.ref (cA 0), .int x3_6]) (rest := [.long ((1009 * x1_6) + (31 * v_12))]) (wA := w_13) (wr := []) 1 6 ((22 - 2 * (fu_6 + 1)) + 2) ((132 - 12 * (fu_6 + 1)) + 12) 224 1344 (co_total l hst D k cA nA tA X w_13 hw_13 x3_6 v_15 hv_14) ⟨hx, hb, hml, hown, hts⟩ (vx_cwSW 2 hts gL_now_L_total rfl rfl rfl (by decide +kernel) ⟨Nat.le_of_ble_eq_true rfl, Nat.le_of_ble_eq_true rfl⟩) hK hG hC hP hD hS hA (List.Perm.refl _) rfl hl.1 rfl (Nat.le_of_ble_eq_true rfl) dL_now_29 ⟨rfl, rfl⟩ ⟨rfl, rfl⟩ (by omega) (by omega) (fun ov w_16 H locs hQ hP hD hS => ?_)
        obtain ⟨rfl, hw_16⟩ := hQ
        refine W.eq (g2 := F0 m 32 ls [.long v_15, .long ((1009 * x1_6) + (31 * v_12))]) rfl ?_
        refine lv_ladd hx hb dL_now_32 ?_
        refine lv_ldc2 (v := 1000000007) hx hb hown w_1 dL_now_33 ?_
        refine lv_lrem hx hb dL_now_36 (by decide) ?_
        refine lv_topl (fun v_17 ev_17 => ?_)
        have h := nm_l h ev_17
        refine lv_lstore_n (lv' := [(1, .long v_17), (0, .ref (cA 0)), (3, .int x3_6)]) hx hb dL_now_37 rfl hl (by decide) rfl (fun ls hl => ?_)
        refine lv_iinc (v := (x3_6 + 1)) (lv' := [(3, .int (x3_6 + 1)), (1, .long v_17), (0, .ref (cA 0))]) hx hb dL_now_38 hl (k := 2) rfl rfl (by decide) rfl (fun ls hl => ?_)
        refine lv_goto (tgt := 6) hx hb dL_now_41 (by decide) ?_
        refine W.widen (k := (22 - 2 * fu_6)) (n := (132 - 12 * fu_6)) (by omega) (by omega) ?_
        exact ih_6 v_17 (x3_6 + 1) w_16 _ _ _ (by omega) hw_16 hP hD hS (lv_sub hl [2, 1, 0] rfl) h
  refine lv_ldc2 (v := 59) hx hb hown w_3 dL_now_0 ?_
  refine lv_lstore_n (lv' := [(1, .long 59), (0, .ref (cA 0))]) hx hb dL_now_3 rfl hl (by decide) rfl (fun ls hl => ?_)
  refine lv_iconst (v := 0) hx hb dL_now_4 (by decide) ?_
  refine lv_istore_n (lv' := [(3, .int 0), (1, .long 59), (0, .ref (cA 0))]) hx hb dL_now_5 rfl hl (by decide) rfl (fun ls hl => ?_)
  refine W.widen (k := (22 - 2 * 11)) (n := (132 - 12 * 11)) (by omega) (by omega) ?_
  exact hC_6 11 59 0 w _ _ _ (Nat.le_refl _) hw hP hD hS (lv_sub hl [2, 1, 0] rfl) h
noncomputable def f_L_alike_339 (X : XV) (Y : XV) (p1 : Int32) (x4_339 : Int32) (x6_339 : Int64) : Option (Int32) := bd (o_script X 2 x6_339) fun v_2 => bd (o_script Y 2 x6_339) fun v_5 => if (lg_cmp v_2 v_5) = 0 then (bd (o_simulate X (p1.toInt64) x4_339) fun v_9 => bd (o_simulate Y (p1.toInt64) x4_339) fun v_12 => if (lg_cmp v_9 v_12) = 0 then (some (1)) else (some (0))) else (some (0))
noncomputable def f_L_alike_260 (X : XV) (Y : XV) (p1 : Int32) (x4_260 : Int32) (t0_260 : Int32) : Option (Int32) := nm ((100000 * (((10000 * (1 + (p1 - p1 / 8 * 8))) + ((p1 / 8) - (p1 / 8) / 10000 * 10000)).toInt64)) + ((p1 - p1 / 100000 * 100000).toInt64)) fun v_15 => if t0_260 = 0 then (some (0)) else (if 0 < (p1 - p1 / 4 * 4) then (f_L_alike_339 X Y p1 x4_260 v_15) else (bd (o_steamFor X (p1 - p1 / 2000 * 2000) (1 + (p1 - p1 / 9 * 9))) fun v_19 => bd (o_steamFor Y (p1 - p1 / 2000 * 2000) (1 + (p1 - p1 / 9 * 9))) fun v_22 => if (lg_cmp v_19 v_22) = 0 then (f_L_alike_339 X Y p1 x4_260 v_15) else (some (0))))
noncomputable def f_L_alike_259 (X : XV) (Y : XV) (p1 : Int32) (x4_259 : Int32) : Option (Int32) := f_L_alike_260 X Y p1 x4_259 0
noncomputable def f_L_alike_94 (X : XV) (Y : XV) (p1 : Int32) (x3_94 : Int32) (x4_94 : Int32) (t0_94 : Int32) (t1_94 : Int32) (t2_94 : Int64) : Option (Int32) := bd (o_neighbor Y t1_94 t0_94) fun v_26 => if (lg_cmp t2_94 v_26) = 0 then (bd (o_ahead X x3_94 x4_94 (p1 - p1 / 10 * 10)) fun v_30 => bd (o_ahead Y x3_94 x4_94 (p1 - p1 / 10 * 10)) fun v_33 => if (lg_cmp v_30 v_33) = 0 then (bd (o_growth X x4_94 (p1 - p1 / 10 * 10)) fun v_37 => bd (o_growth Y x4_94 (p1 - p1 / 10 * 10)) fun v_40 => if (lg_cmp v_37 v_40) = 0 then (bd (o_washGain X x3_94 (1 + (p1 - p1 / 20 * 20)) x4_94) fun v_44 => bd (o_washGain Y x3_94 (1 + (p1 - p1 / 20 * 20)) x4_94) fun v_47 => if (lg_cmp v_44 v_47) = 0 then (bd (o_scaledAfter X x3_94 (1 + (p1 - p1 / 99 * 99))) fun v_51 => bd (o_scaledAfter Y x3_94 (1 + (p1 - p1 / 99 * 99))) fun v_54 => if (lg_cmp v_51 v_54) = 0 then (bd (o_bestTurns X (1 + (p1 - p1 / 2 * 2)) 1) fun v_58 => bd (o_bestTurns Y (1 + (p1 - p1 / 2 * 2)) 1) fun v_61 => if (lg_cmp v_58 v_61) = 0 then (bd (o_bestTurns X (1 + (p1 - p1 / 2 * 2)) 0) fun v_65 => bd (o_bestTurns Y (1 + (p1 - p1 / 2 * 2)) 0) fun v_68 => if (lg_cmp v_65 v_68) = 0 then (f_L_alike_260 X Y p1 x4_94 1) else (f_L_alike_259 X Y p1 x4_94)) else (f_L_alike_259 X Y p1 x4_94)) else (f_L_alike_259 X Y p1 x4_94)) else (f_L_alike_259 X Y p1 x4_94)) else (f_L_alike_259 X Y p1 x4_94)) else (f_L_alike_259 X Y p1 x4_94)) else (f_L_alike_259 X Y p1 x4_94)
noncomputable def f_L_alike_78 (X : XV) (Y : XV) (p1 : Int32) (x3_78 : Int32) (x4_78 : Int32) (t0_78 : Int32) (t1_78 : Int32) : Option (Int32) := bd (o_neighbor X t1_78 t0_78) fun v_72 => if (p1 - p1 / 2 * 2) = 0 then (f_L_alike_94 X Y p1 x3_78 x4_78 1 x3_78 v_72) else (f_L_alike_94 X Y p1 x3_78 x4_78 0 x3_78 v_72)
noncomputable def f_L_alike (X : XV) (Y : XV) (p1 : Int32) : Option (Int32) := nm (p1 - p1 / 6 * 6) fun v_75 => nm (1 + ((p1 / 6) - (p1 / 6) / 40 * 40)) fun v_76 => bd (f_L_now X) fun v_78 => bd (f_L_now Y) fun v_81 => if (lg_cmp v_78 v_81) = 0 then (bd (o_errorPosition X) fun v_85 => bd (o_errorPosition Y) fun v_88 => if v_85 = v_88 then (bd (o_economy X) fun v_92 => bd (o_economy Y) fun v_95 => if (Op.cmpValue (FP.fcmp v_92 v_95) .l) = 0 then (bd (o_share X v_75) fun v_99 => bd (o_share Y v_75) fun v_102 => if (Op.cmpValue (FP.fcmp v_99 v_102) .l) = 0 then (if (p1 - p1 / 2 * 2) = 0 then (f_L_alike_78 X Y p1 v_75 v_76 1 v_75) else (f_L_alike_78 X Y p1 v_75 v_76 0 v_75)) else (f_L_alike_259 X Y p1 v_76)) else (f_L_alike_259 X Y p1 v_76)) else (f_L_alike_259 X Y p1 v_76)) else (f_L_alike_259 X Y p1 v_76)
set_option maxRecDepth 100000 in
set_option maxHeartbeats 4000000 in
theorem c_L_alike (l : Launch) (hst : l.stackTraces = false) (D : va_G) (k : Nat → ClassId) (cA nA tA : Nat → Nat) (X : XV) (w : va_W) (hw : Ob k cA nA tA X w) (cB nB tB : Nat → Nat) (Y : XV) (u : va_W) (hu : Ob k cB nB tB Y u) (p1 : Int32) (o : Int32) (h : f_L_alike X Y p1 = some o) : CO l D k yL_alike wsL_alike ({ frames := 14, cells := 662, slots := 4080, locals := 749 } : Room) [.ref (cA 0), .ref (cB 0), .int p1] (w ++ u) (fun (ov : Option Value) (w' : va_W) => ov = some (.int o) ∧ ∃ w1 u1 : va_W, List.Perm w' (w1 ++ u1) ∧ Ob k cA nA tA X w1 ∧ Ob k cB nB tB Y u1) := by
  obtain ⟨B9, hB9⟩ : ∃ B : Option Value → va_W → Prop, B = fun (ov : Option Value) (w' : va_W) => ov = some (.int o) ∧ ∃ w1 u1 : va_W, List.Perm w' (w1 ++ u1) ∧ Ob k cA nA tA X w1 ∧ Ob k cB nB tB Y u1 := ⟨_, rfl⟩
  refine CO.of (P := B9) ?_ (fun ov w' h9 => by rw [hB9] at h9; exact h9)
  refine Cl_of0 (cc := cL_alike) (maxL := 8) (ret := (some .boolean)) (by decide) rfl (Nat.le_of_ble_eq_true rfl) ?_
  intro p e s m args below meth c A ls hx hb hr hml hts hown hlocks hK hG hC hA hP hD hS hl
  have hl : lv_has ls 8 [(0, .ref (cA 0)), (1, .ref (cB 0)), (2, .int p1)] := hl
  have w_0 := hts (.constantLong RL 154 (100000)) (by decide +kernel)
  have w_1 := hts (.constant RL 156 (100000)) (by decide +kernel)
  unfold f_L_alike at h
  have hC_339 : ∀ (x4_339 : Int32) (x6_339 : Int64) (w_339 : va_W) (u_339 : va_W) (H : Heap) (locs : List Loc) (ls : Array Slot), Ob k cA nA tA X w_339 → Ob k cB nB tB Y u_339 → va_P D vwCl (w_339 ++ u_339) H → va_D A (w_339 ++ u_339) → va_S A s.heap H locs → lv_has ls 8 [(0, .ref (cA 0)), (1, .ref (cB 0)), (2, .int p1), (4, .int x4_339), (6, .long x6_339)] → f_L_alike_339 X Y p1 x4_339 x6_339 = some o → W p l e ({ frames := 14, cells := 662, slots := 4080, locals := 749 } : Room) s m args below meth c H locs (634) (3912) (vx_MQ below (Qx D A (.inr B9)) (Xx D A (w ++ u) (.inr B9)) args s 662 4080 A) (F0 m 339 ls []) := by
    intro x4_339 x6_339 w_339 u_339 H locs ls hw_339 hu_339 hP hD hS hl h
    unfold f_L_alike_339 at h
    refine lv_aload_n hx hb dL_alike_339 rfl (lv_at hl 0 rfl) ?_
    refine lv_iconst (v := 2) hx hb dL_alike_340 (by decide) ?_
    refine lv_lload hx hb dL_alike_341 (lv_at hl 4 rfl) ?_
    obtain ⟨v_2, hv_1, h⟩ := bd_l h
    refine Lo_T (As := [.ref (cA 0), .int 2, .long x6_339]) (rest := []) (wA := w_339) (wr := u_339) 7 42 (641) (3954) 662 4080 (co_script l hst D k cA nA tA X w_339 hw_339 2 x6_339 v_2 hv_1) ⟨hx, hb, hml, hown, hts⟩ (vx_cwSW 3 hts gL_alike_L_script rfl rfl rfl (by decide +kernel) ⟨Nat.le_of_ble_eq_true rfl, Nat.le_of_ble_eq_true rfl⟩) hK hG hC hP hD hS hA (List.Perm.refl _) rfl hl.1 rfl (Nat.le_of_ble_eq_true rfl) dL_alike_343 ⟨rfl, rfl⟩ ⟨rfl, rfl⟩ (by omega) (by omega) (fun ov w_3 H locs hQ hP hD hS => ?_)
    obtain ⟨rfl, hw_3⟩ := hQ
    refine W.eq (g2 := F0 m 346 ls [.long v_2]) rfl ?_
    refine lv_aload_n hx hb dL_alike_346 rfl (lv_at hl 1 rfl) ?_
    refine lv_iconst (v := 2) hx hb dL_alike_347 (by decide) ?_
    refine lv_lload hx hb dL_alike_348 (lv_at hl 4 rfl) ?_
    obtain ⟨v_5, hv_4, h⟩ := bd_l h
    refine Lo_T (As := [.ref (cB 0), .int 2, .long x6_339]) (rest := [.long v_2]) (wA := u_339) (wr := w_3) 7 42 (648) (3996) 662 4080 (co_script l hst D k cB nB tB Y u_339 hu_339 2 x6_339 v_5 hv_4) ⟨hx, hb, hml, hown, hts⟩ (vx_cwSW 3 hts gL_alike_L_script rfl rfl rfl (by decide +kernel) ⟨Nat.le_of_ble_eq_true rfl, Nat.le_of_ble_eq_true rfl⟩) hK hG hC hP hD hS hA (List.perm_append_comm) rfl hl.1 rfl (Nat.le_of_ble_eq_true rfl) dL_alike_350 ⟨rfl, rfl⟩ ⟨rfl, rfl⟩ (by omega) (by omega) (fun ov u_6 H locs hQ hP hD hS => ?_)
    obtain ⟨rfl, hu_6⟩ := hQ
    refine W.eq (g2 := F0 m 353 ls [.long v_5, .long v_2]) rfl ?_
    refine W.lcmp hx hb dL_alike_353 ?_
    refine lv_if_ne (tgt := 381) hx hb dL_alike_354 (by decide) (fun c_7 => ?_) (fun c_7 => ?_)
    · have h := it_r c_7 h
      refine lv_iconst (v := 0) hx hb dL_alike_381 (by decide) ?_
      cases h
      exact Cx_zret (B := B9) rfl (by rw [hB9]; exact ⟨rfl, w_3, u_6, List.perm_append_comm, hw_3, hu_6⟩) (by omega) (by omega) hx hb hr (by decide) hP hD hS dL_alike_382 hlocks
    · have h := it_l c_7 h
      refine lv_aload_n hx hb dL_alike_357 rfl (lv_at hl 0 rfl) ?_
      refine lv_iload_n hx hb dL_alike_358 rfl (lv_at hl 2 rfl) ?_
      refine lv_i2l hx hb dL_alike_359 rfl ?_
      refine lv_iload hx hb dL_alike_360 (lv_at hl 3 rfl) ?_
      obtain ⟨v_9, hv_8, h⟩ := bd_l h
      refine Lo_T (As := [.ref (cA 0), .long (p1.toInt64), .int x4_339]) (rest := []) (wA := w_3) (wr := u_6) 7 42 (655) (4038) 662 4080 (co_simulate l hst D k cA nA tA X w_3 hw_3 (p1.toInt64) x4_339 v_9 hv_8) ⟨hx, hb, hml, hown, hts⟩ (vx_cwSW 3 hts gL_alike_L_simulate rfl rfl rfl (by decide +kernel) ⟨Nat.le_of_ble_eq_true rfl, Nat.le_of_ble_eq_true rfl⟩) hK hG hC hP hD hS hA (List.perm_append_comm) rfl hl.1 rfl (Nat.le_of_ble_eq_true rfl) dL_alike_362 ⟨rfl, rfl⟩ ⟨rfl, rfl⟩ (by omega) (by omega) (fun ov w_10 H locs hQ hP hD hS => ?_)
      obtain ⟨rfl, hw_10⟩ := hQ
      refine W.eq (g2 := F0 m 365 ls [.long v_9]) rfl ?_
      refine lv_aload_n hx hb dL_alike_365 rfl (lv_at hl 1 rfl) ?_
      refine lv_iload_n hx hb dL_alike_366 rfl (lv_at hl 2 rfl) ?_
      refine lv_i2l hx hb dL_alike_367 rfl ?_
      refine lv_iload hx hb dL_alike_368 (lv_at hl 3 rfl) ?_
      obtain ⟨v_12, hv_11, h⟩ := bd_l h
      refine Lo_T (As := [.ref (cB 0), .long (p1.toInt64), .int x4_339]) (rest := [.long v_9]) (wA := u_6) (wr := w_10) 7 42 (662) (4080) 662 4080 (co_simulate l hst D k cB nB tB Y u_6 hu_6 (p1.toInt64) x4_339 v_12 hv_11) ⟨hx, hb, hml, hown, hts⟩ (vx_cwSW 3 hts gL_alike_L_simulate rfl rfl rfl (by decide +kernel) ⟨Nat.le_of_ble_eq_true rfl, Nat.le_of_ble_eq_true rfl⟩) hK hG hC hP hD hS hA (List.perm_append_comm) rfl hl.1 rfl (Nat.le_of_ble_eq_true rfl) dL_alike_370 ⟨rfl, rfl⟩ ⟨rfl, rfl⟩ (by omega) (by omega) (fun ov u_13 H locs hQ hP hD hS => ?_)
      obtain ⟨rfl, hu_13⟩ := hQ
      refine W.eq (g2 := F0 m 373 ls [.long v_12, .long v_9]) rfl ?_
      refine W.lcmp hx hb dL_alike_373 ?_
      refine lv_if_ne (tgt := 381) hx hb dL_alike_374 (by decide) (fun c_14 => ?_) (fun c_14 => ?_)
      · have h := it_r c_14 h
        refine lv_iconst (v := 0) hx hb dL_alike_381 (by decide) ?_
        cases h
        exact Cx_zret (B := B9) rfl (by rw [hB9]; exact ⟨rfl, w_10, u_13, List.perm_append_comm, hw_10, hu_13⟩) (by omega) (by omega) hx hb hr (by decide) hP hD hS dL_alike_382 hlocks
      · have h := it_l c_14 h
        refine lv_iconst (v := 1) hx hb dL_alike_377 (by decide) ?_
        refine lv_goto (tgt := 382) hx hb dL_alike_378 (by decide) ?_
        cases h
        exact Cx_zret (B := B9) rfl (by rw [hB9]; exact ⟨rfl, w_10, u_13, List.perm_append_comm, hw_10, hu_13⟩) (by omega) (by omega) hx hb hr (by decide) hP hD hS dL_alike_382 hlocks
  have hC_260 : ∀ (x4_260 : Int32) (t0_260 : Int32) (w_260 : va_W) (u_260 : va_W) (H : Heap) (locs : List Loc) (ls : Array Slot), Ob k cA nA tA X w_260 → Ob k cB nB tB Y u_260 → va_P D vwCl (w_260 ++ u_260) H → va_D A (w_260 ++ u_260) → va_S A s.heap H locs → lv_has ls 8 [(0, .ref (cA 0)), (1, .ref (cB 0)), (2, .int p1), (4, .int x4_260)] → f_L_alike_260 X Y p1 x4_260 t0_260 = some o → W p l e ({ frames := 14, cells := 662, slots := 4080, locals := 749 } : Room) s m args below meth c H locs (620) (3828) (vx_MQ below (Qx D A (.inr B9)) (Xx D A (w ++ u) (.inr B9)) args s 662 4080 A) (F0 m 260 ls [.int t0_260]) := by
    intro x4_260 t0_260 w_260 u_260 H locs ls hw_260 hu_260 hP hD hS hl h
    unfold f_L_alike_260 at h
    refine lv_istore (lv' := [(5, .int t0_260), (0, .ref (cA 0)), (1, .ref (cB 0)), (2, .int p1), (4, .int x4_260)]) hx hb dL_alike_260 hl (by decide) rfl (fun ls hl => ?_)
    refine lv_ldc2 (v := 100000) hx hb hown w_0 dL_alike_262 ?_
    refine lv_sipush (v := 10000) hx hb dL_alike_265 (by decide) ?_
    refine lv_iconst (v := 1) hx hb dL_alike_268 (by decide) ?_
    refine lv_iload_n hx hb dL_alike_269 rfl (lv_at hl 3 rfl) ?_
    refine lv_bipush (v := 8) hx hb dL_alike_270 (by decide) ?_
    refine lv_irem hx hb dL_alike_272 (by decide) ?_
    refine lv_iadd hx hb dL_alike_273 ?_
    refine lv_imul hx hb dL_alike_274 ?_
    refine lv_iload_n hx hb dL_alike_275 rfl (lv_at hl 3 rfl) ?_
    refine lv_bipush (v := 8) hx hb dL_alike_276 (by decide) ?_
    refine lv_idiv hx hb dL_alike_278 (by decide) ?_
    refine lv_sipush (v := 10000) hx hb dL_alike_279 (by decide) ?_
    refine lv_irem hx hb dL_alike_282 (by decide) ?_
    refine lv_iadd hx hb dL_alike_283 ?_
    refine lv_i2l hx hb dL_alike_284 rfl ?_
    refine lv_lmul hx hb dL_alike_285 ?_
    refine lv_iload_n hx hb dL_alike_286 rfl (lv_at hl 3 rfl) ?_
    refine lv_ldc (v := 100000) hx hb hown w_1 dL_alike_287 ?_
    refine lv_irem hx hb dL_alike_289 (by decide) ?_
    refine lv_i2l hx hb dL_alike_290 rfl ?_
    refine lv_ladd hx hb dL_alike_291 ?_
    refine lv_topl (fun v_15 ev_15 => ?_)
    have h := nm_l h ev_15
    refine lv_lstore (lv' := [(6, .long v_15), (5, .int t0_260), (0, .ref (cA 0)), (1, .ref (cB 0)), (2, .int p1), (4, .int x4_260)]) hx hb dL_alike_292 hl (by decide) rfl (fun ls hl => ?_)
    refine lv_iload hx hb dL_alike_294 (lv_at hl 1 rfl) ?_
    refine lv_if_eq (tgt := 381) hx hb dL_alike_296 (by decide) (fun c_16 => ?_) (fun c_16 => ?_)
    · have h := it_l c_16 h
      refine lv_iconst (v := 0) hx hb dL_alike_381 (by decide) ?_
      cases h
      exact Cx_zret (B := B9) rfl (by rw [hB9]; exact ⟨rfl, w_260, u_260, List.Perm.refl _, hw_260, hu_260⟩) (by omega) (by omega) hx hb hr (by decide) hP hD hS dL_alike_382 hlocks
    · have h := it_r c_16 h
      refine lv_iload_n hx hb dL_alike_299 rfl (lv_at hl 4 rfl) ?_
      refine lv_iconst (v := 4) hx hb dL_alike_300 (by decide) ?_
      refine lv_irem hx hb dL_alike_301 (by decide) ?_
      refine lv_if_gt (tgt := 339) hx hb dL_alike_302 (by decide) (fun c_17 => ?_) (fun c_17 => ?_)
      · have h := it_l c_17 h
        refine W.widen (k := 634) (n := 3912) (by omega) (by omega) ?_
        exact hC_339 x4_260 v_15 w_260 u_260 _ _ _ hw_260 hu_260 hP hD hS (lv_sub hl [2, 3, 4, 5, 0] rfl) h
      · have h := it_r c_17 h
        refine lv_aload_n hx hb dL_alike_305 rfl (lv_at hl 2 rfl) ?_
        refine lv_iload_n hx hb dL_alike_306 rfl (lv_at hl 4 rfl) ?_
        refine lv_sipush (v := 2000) hx hb dL_alike_307 (by decide) ?_
        refine lv_irem hx hb dL_alike_310 (by decide) ?_
        refine lv_iconst (v := 1) hx hb dL_alike_311 (by decide) ?_
        refine lv_iload_n hx hb dL_alike_312 rfl (lv_at hl 4 rfl) ?_
        refine lv_bipush (v := 9) hx hb dL_alike_313 (by decide) ?_
        refine lv_irem hx hb dL_alike_315 (by decide) ?_
        refine lv_iadd hx hb dL_alike_316 ?_
        obtain ⟨v_19, hv_18, h⟩ := bd_l h
        refine Lo_T (As := [.ref (cA 0), .int (p1 - p1 / 2000 * 2000), .int (1 + (p1 - p1 / 9 * 9))]) (rest := []) (wA := w_260) (wr := u_260) 7 42 (627) (3870) 662 4080 (co_steamFor l hst D k cA nA tA X w_260 hw_260 (p1 - p1 / 2000 * 2000) (1 + (p1 - p1 / 9 * 9)) v_19 hv_18) ⟨hx, hb, hml, hown, hts⟩ (vx_cwSW 3 hts gL_alike_L_steamFor rfl rfl rfl (by decide +kernel) ⟨Nat.le_of_ble_eq_true rfl, Nat.le_of_ble_eq_true rfl⟩) hK hG hC hP hD hS hA (List.Perm.refl _) rfl hl.1 rfl (Nat.le_of_ble_eq_true rfl) dL_alike_317 ⟨rfl, rfl⟩ ⟨rfl, rfl⟩ (by omega) (by omega) (fun ov w_20 H locs hQ hP hD hS => ?_)
        obtain ⟨rfl, hw_20⟩ := hQ
        refine W.eq (g2 := F0 m 320 ls [.long v_19]) rfl ?_
        refine lv_aload_n hx hb dL_alike_320 rfl (lv_at hl 3 rfl) ?_
        refine lv_iload_n hx hb dL_alike_321 rfl (lv_at hl 4 rfl) ?_
        refine lv_sipush (v := 2000) hx hb dL_alike_322 (by decide) ?_
        refine lv_irem hx hb dL_alike_325 (by decide) ?_
        refine lv_iconst (v := 1) hx hb dL_alike_326 (by decide) ?_
        refine lv_iload_n hx hb dL_alike_327 rfl (lv_at hl 4 rfl) ?_
        refine lv_bipush (v := 9) hx hb dL_alike_328 (by decide) ?_
        refine lv_irem hx hb dL_alike_330 (by decide) ?_
        refine lv_iadd hx hb dL_alike_331 ?_
        obtain ⟨v_22, hv_21, h⟩ := bd_l h
        refine Lo_T (As := [.ref (cB 0), .int (p1 - p1 / 2000 * 2000), .int (1 + (p1 - p1 / 9 * 9))]) (rest := [.long v_19]) (wA := u_260) (wr := w_20) 7 42 (634) (3912) 662 4080 (co_steamFor l hst D k cB nB tB Y u_260 hu_260 (p1 - p1 / 2000 * 2000) (1 + (p1 - p1 / 9 * 9)) v_22 hv_21) ⟨hx, hb, hml, hown, hts⟩ (vx_cwSW 3 hts gL_alike_L_steamFor rfl rfl rfl (by decide +kernel) ⟨Nat.le_of_ble_eq_true rfl, Nat.le_of_ble_eq_true rfl⟩) hK hG hC hP hD hS hA (List.perm_append_comm) rfl hl.1 rfl (Nat.le_of_ble_eq_true rfl) dL_alike_332 ⟨rfl, rfl⟩ ⟨rfl, rfl⟩ (by omega) (by omega) (fun ov u_23 H locs hQ hP hD hS => ?_)
        obtain ⟨rfl, hu_23⟩ := hQ
        refine W.eq (g2 := F0 m 335 ls [.long v_22, .long v_19]) rfl ?_
        refine W.lcmp hx hb dL_alike_335 ?_
        refine lv_if_ne (tgt := 381) hx hb dL_alike_336 (by decide) (fun c_24 => ?_) (fun c_24 => ?_)
        · have h := it_r c_24 h
          refine lv_iconst (v := 0) hx hb dL_alike_381 (by decide) ?_
          cases h
          exact Cx_zret (B := B9) rfl (by rw [hB9]; exact ⟨rfl, w_20, u_23, List.perm_append_comm, hw_20, hu_23⟩) (by omega) (by omega) hx hb hr (by decide) hP hD hS dL_alike_382 hlocks
        · have h := it_l c_24 h
          have hP : va_P D vwCl (w_20 ++ u_23) H := P_perm List.perm_append_comm hP
          have hD : va_D A (w_20 ++ u_23) := D_perm List.perm_append_comm hD
          refine W.widen (k := 634) (n := 3912) (by omega) (by omega) ?_
          exact hC_339 x4_260 v_15 w_20 u_23 _ _ _ hw_20 hu_23 hP hD hS (lv_sub hl [2, 3, 4, 5, 0] rfl) h
  have hC_259 : ∀ (x4_259 : Int32) (w_259 : va_W) (u_259 : va_W) (H : Heap) (locs : List Loc) (ls : Array Slot), Ob k cA nA tA X w_259 → Ob k cB nB tB Y u_259 → va_P D vwCl (w_259 ++ u_259) H → va_D A (w_259 ++ u_259) → va_S A s.heap H locs → lv_has ls 8 [(0, .ref (cA 0)), (1, .ref (cB 0)), (2, .int p1), (4, .int x4_259)] → f_L_alike_259 X Y p1 x4_259 = some o → W p l e ({ frames := 14, cells := 662, slots := 4080, locals := 749 } : Room) s m args below meth c H locs (620) (3828) (vx_MQ below (Qx D A (.inr B9)) (Xx D A (w ++ u) (.inr B9)) args s 662 4080 A) (F0 m 259 ls []) := by
    intro x4_259 w_259 u_259 H locs ls hw_259 hu_259 hP hD hS hl h
    unfold f_L_alike_259 at h
    refine lv_iconst (v := 0) hx hb dL_alike_259 (by decide) ?_
    refine W.widen (k := 620) (n := 3828) (by omega) (by omega) ?_
    exact hC_260 x4_259 0 w_259 u_259 _ _ _ hw_259 hu_259 hP hD hS (lv_sub hl [0, 1, 2, 3] rfl) h
  have hC_94 : ∀ (x3_94 : Int32) (x4_94 : Int32) (t0_94 : Int32) (t1_94 : Int32) (t2_94 : Int64) (w_94 : va_W) (u_94 : va_W) (H : Heap) (locs : List Loc) (ls : Array Slot), Ob k cA nA tA X w_94 → Ob k cB nB tB Y u_94 → va_P D vwCl (w_94 ++ u_94) H → va_D A (w_94 ++ u_94) → va_S A s.heap H locs → lv_has ls 8 [(0, .ref (cA 0)), (1, .ref (cB 0)), (2, .int p1), (3, .int x3_94), (4, .int x4_94)] → f_L_alike_94 X Y p1 x3_94 x4_94 t0_94 t1_94 t2_94 = some o → W p l e ({ frames := 14, cells := 662, slots := 4080, locals := 749 } : Room) s m args below meth c H locs (451) (2706) (vx_MQ below (Qx D A (.inr B9)) (Xx D A (w ++ u) (.inr B9)) args s 662 4080 A) (F0 m 94 ls [.int t0_94, .int t1_94, .ref (cB 0), .long t2_94]) := by
    intro x3_94 x4_94 t0_94 t1_94 t2_94 w_94 u_94 H locs ls hw_94 hu_94 hP hD hS hl h
    unfold f_L_alike_94 at h
    obtain ⟨v_26, hv_25, h⟩ := bd_l h
    refine Lo_T (As := [.ref (cB 0), .int t1_94, .int t0_94]) (rest := [.long t2_94]) (wA := u_94) (wr := w_94) 1 6 (452) (2712) 662 4080 (co_neighbor l hst D k cB nB tB Y u_94 hu_94 t1_94 t0_94 v_26 hv_25) ⟨hx, hb, hml, hown, hts⟩ (vx_cwSW 3 hts gL_alike_L_neighbor rfl rfl rfl (by decide +kernel) ⟨Nat.le_of_ble_eq_true rfl, Nat.le_of_ble_eq_true rfl⟩) hK hG hC hP hD hS hA (List.perm_append_comm) rfl hl.1 rfl (Nat.le_of_ble_eq_true rfl) dL_alike_94 ⟨rfl, rfl⟩ ⟨rfl, rfl⟩ (by omega) (by omega) (fun ov u_27 H locs hQ hP hD hS => ?_)
    obtain ⟨rfl, hu_27⟩ := hQ
    refine W.eq (g2 := F0 m 97 ls [.long v_26, .long t2_94]) rfl ?_
    refine W.lcmp hx hb dL_alike_97 ?_
    refine lv_if_ne (tgt := 259) hx hb dL_alike_98 (by decide) (fun c_28 => ?_) (fun c_28 => ?_)
    · have h := it_r c_28 h
      have hP : va_P D vwCl (w_94 ++ u_27) H := P_perm List.perm_append_comm hP
      have hD : va_D A (w_94 ++ u_27) := D_perm List.perm_append_comm hD
      refine W.widen (k := 620) (n := 3828) (by omega) (by omega) ?_
      exact hC_259 x4_94 w_94 u_27 _ _ _ hw_94 hu_27 hP hD hS (lv_sub hl [0, 1, 2, 4] rfl) h
    · have h := it_l c_28 h
      refine lv_aload_n hx hb dL_alike_101 rfl (lv_at hl 0 rfl) ?_
      refine lv_iload_n hx hb dL_alike_102 rfl (lv_at hl 3 rfl) ?_
      refine lv_iload hx hb dL_alike_103 (lv_at hl 4 rfl) ?_
      refine lv_iload_n hx hb dL_alike_105 rfl (lv_at hl 2 rfl) ?_
      refine lv_bipush (v := 10) hx hb dL_alike_106 (by decide) ?_
      refine lv_irem hx hb dL_alike_108 (by decide) ?_
      obtain ⟨v_30, hv_29, h⟩ := bd_l h
      refine Lo_T (As := [.ref (cA 0), .int x3_94, .int x4_94, .int (p1 - p1 / 10 * 10)]) (rest := []) (wA := w_94) (wr := u_27) 3 18 (455) (2730) 662 4080 (co_ahead l hst D k cA nA tA X w_94 hw_94 x3_94 x4_94 (p1 - p1 / 10 * 10) v_30 hv_29) ⟨hx, hb, hml, hown, hts⟩ (vx_cwSW 4 hts gL_alike_L_ahead rfl rfl rfl (by decide +kernel) ⟨Nat.le_of_ble_eq_true rfl, Nat.le_of_ble_eq_true rfl⟩) hK hG hC hP hD hS hA (List.perm_append_comm) rfl hl.1 rfl (Nat.le_of_ble_eq_true rfl) dL_alike_109 ⟨rfl, rfl⟩ ⟨rfl, rfl⟩ (by omega) (by omega) (fun ov w_31 H locs hQ hP hD hS => ?_)
      obtain ⟨rfl, hw_31⟩ := hQ
      refine W.eq (g2 := F0 m 112 ls [.long v_30]) rfl ?_
      refine lv_aload_n hx hb dL_alike_112 rfl (lv_at hl 1 rfl) ?_
      refine lv_iload_n hx hb dL_alike_113 rfl (lv_at hl 3 rfl) ?_
      refine lv_iload hx hb dL_alike_114 (lv_at hl 4 rfl) ?_
      refine lv_iload_n hx hb dL_alike_116 rfl (lv_at hl 2 rfl) ?_
      refine lv_bipush (v := 10) hx hb dL_alike_117 (by decide) ?_
      refine lv_irem hx hb dL_alike_119 (by decide) ?_
      obtain ⟨v_33, hv_32, h⟩ := bd_l h
      refine Lo_T (As := [.ref (cB 0), .int x3_94, .int x4_94, .int (p1 - p1 / 10 * 10)]) (rest := [.long v_30]) (wA := u_27) (wr := w_31) 3 18 (458) (2748) 662 4080 (co_ahead l hst D k cB nB tB Y u_27 hu_27 x3_94 x4_94 (p1 - p1 / 10 * 10) v_33 hv_32) ⟨hx, hb, hml, hown, hts⟩ (vx_cwSW 4 hts gL_alike_L_ahead rfl rfl rfl (by decide +kernel) ⟨Nat.le_of_ble_eq_true rfl, Nat.le_of_ble_eq_true rfl⟩) hK hG hC hP hD hS hA (List.perm_append_comm) rfl hl.1 rfl (Nat.le_of_ble_eq_true rfl) dL_alike_120 ⟨rfl, rfl⟩ ⟨rfl, rfl⟩ (by omega) (by omega) (fun ov u_34 H locs hQ hP hD hS => ?_)
      obtain ⟨rfl, hu_34⟩ := hQ
      refine W.eq (g2 := F0 m 123 ls [.long v_33, .long v_30]) rfl ?_
      refine W.lcmp hx hb dL_alike_123 ?_
      refine lv_if_ne (tgt := 259) hx hb dL_alike_124 (by decide) (fun c_35 => ?_) (fun c_35 => ?_)
      · have h := it_r c_35 h
        have hP : va_P D vwCl (w_31 ++ u_34) H := P_perm List.perm_append_comm hP
        have hD : va_D A (w_31 ++ u_34) := D_perm List.perm_append_comm hD
        refine W.widen (k := 620) (n := 3828) (by omega) (by omega) ?_
        exact hC_259 x4_94 w_31 u_34 _ _ _ hw_31 hu_34 hP hD hS (lv_sub hl [0, 1, 2, 4] rfl) h
      · have h := it_l c_35 h
        refine lv_aload_n hx hb dL_alike_127 rfl (lv_at hl 0 rfl) ?_
        refine lv_iload hx hb dL_alike_128 (lv_at hl 4 rfl) ?_
        refine lv_iload_n hx hb dL_alike_130 rfl (lv_at hl 2 rfl) ?_
        refine lv_bipush (v := 10) hx hb dL_alike_131 (by decide) ?_
        refine lv_irem hx hb dL_alike_133 (by decide) ?_
        obtain ⟨v_37, hv_36, h⟩ := bd_l h
        refine Lo_T (As := [.ref (cA 0), .int x4_94, .int (p1 - p1 / 10 * 10)]) (rest := []) (wA := w_31) (wr := u_34) 2 12 (460) (2760) 662 4080 (co_growth l hst D k cA nA tA X w_31 hw_31 x4_94 (p1 - p1 / 10 * 10) v_37 hv_36) ⟨hx, hb, hml, hown, hts⟩ (vx_cwSW 3 hts gL_alike_L_growth rfl rfl rfl (by decide +kernel) ⟨Nat.le_of_ble_eq_true rfl, Nat.le_of_ble_eq_true rfl⟩) hK hG hC hP hD hS hA (List.perm_append_comm) rfl hl.1 rfl (Nat.le_of_ble_eq_true rfl) dL_alike_134 ⟨rfl, rfl⟩ ⟨rfl, rfl⟩ (by omega) (by omega) (fun ov w_38 H locs hQ hP hD hS => ?_)
        obtain ⟨rfl, hw_38⟩ := hQ
        refine W.eq (g2 := F0 m 137 ls [.long v_37]) rfl ?_
        refine lv_aload_n hx hb dL_alike_137 rfl (lv_at hl 1 rfl) ?_
        refine lv_iload hx hb dL_alike_138 (lv_at hl 4 rfl) ?_
        refine lv_iload_n hx hb dL_alike_140 rfl (lv_at hl 2 rfl) ?_
        refine lv_bipush (v := 10) hx hb dL_alike_141 (by decide) ?_
        refine lv_irem hx hb dL_alike_143 (by decide) ?_
        obtain ⟨v_40, hv_39, h⟩ := bd_l h
        refine Lo_T (As := [.ref (cB 0), .int x4_94, .int (p1 - p1 / 10 * 10)]) (rest := [.long v_37]) (wA := u_34) (wr := w_38) 2 12 (462) (2772) 662 4080 (co_growth l hst D k cB nB tB Y u_34 hu_34 x4_94 (p1 - p1 / 10 * 10) v_40 hv_39) ⟨hx, hb, hml, hown, hts⟩ (vx_cwSW 3 hts gL_alike_L_growth rfl rfl rfl (by decide +kernel) ⟨Nat.le_of_ble_eq_true rfl, Nat.le_of_ble_eq_true rfl⟩) hK hG hC hP hD hS hA (List.perm_append_comm) rfl hl.1 rfl (Nat.le_of_ble_eq_true rfl) dL_alike_144 ⟨rfl, rfl⟩ ⟨rfl, rfl⟩ (by omega) (by omega) (fun ov u_41 H locs hQ hP hD hS => ?_)
        obtain ⟨rfl, hu_41⟩ := hQ
        refine W.eq (g2 := F0 m 147 ls [.long v_40, .long v_37]) rfl ?_
        refine W.lcmp hx hb dL_alike_147 ?_
        refine lv_if_ne (tgt := 259) hx hb dL_alike_148 (by decide) (fun c_42 => ?_) (fun c_42 => ?_)
        · have h := it_r c_42 h
          have hP : va_P D vwCl (w_38 ++ u_41) H := P_perm List.perm_append_comm hP
          have hD : va_D A (w_38 ++ u_41) := D_perm List.perm_append_comm hD
          refine W.widen (k := 620) (n := 3828) (by omega) (by omega) ?_
          exact hC_259 x4_94 w_38 u_41 _ _ _ hw_38 hu_41 hP hD hS (lv_sub hl [0, 1, 2, 4] rfl) h
        · have h := it_l c_42 h
          refine lv_aload_n hx hb dL_alike_151 rfl (lv_at hl 0 rfl) ?_
          refine lv_iload_n hx hb dL_alike_152 rfl (lv_at hl 3 rfl) ?_
          refine lv_iconst (v := 1) hx hb dL_alike_153 (by decide) ?_
          refine lv_iload_n hx hb dL_alike_154 rfl (lv_at hl 2 rfl) ?_
          refine lv_bipush (v := 20) hx hb dL_alike_155 (by decide) ?_
          refine lv_irem hx hb dL_alike_157 (by decide) ?_
          refine lv_iadd hx hb dL_alike_158 ?_
          refine lv_iload hx hb dL_alike_159 (lv_at hl 4 rfl) ?_
          obtain ⟨v_44, hv_43, h⟩ := bd_l h
          refine Lo_T (As := [.ref (cA 0), .int x3_94, .int (1 + (p1 - p1 / 20 * 20)), .int x4_94]) (rest := []) (wA := w_38) (wr := u_41) 4 24 (466) (2796) 662 4080 (co_washGain l hst D k cA nA tA X w_38 hw_38 x3_94 (1 + (p1 - p1 / 20 * 20)) x4_94 v_44 hv_43) ⟨hx, hb, hml, hown, hts⟩ (vx_cwSW 4 hts gL_alike_L_washGain rfl rfl rfl (by decide +kernel) ⟨Nat.le_of_ble_eq_true rfl, Nat.le_of_ble_eq_true rfl⟩) hK hG hC hP hD hS hA (List.perm_append_comm) rfl hl.1 rfl (Nat.le_of_ble_eq_true rfl) dL_alike_161 ⟨rfl, rfl⟩ ⟨rfl, rfl⟩ (by omega) (by omega) (fun ov w_45 H locs hQ hP hD hS => ?_)
          obtain ⟨rfl, hw_45⟩ := hQ
          refine W.eq (g2 := F0 m 164 ls [.long v_44]) rfl ?_
          refine lv_aload_n hx hb dL_alike_164 rfl (lv_at hl 1 rfl) ?_
          refine lv_iload_n hx hb dL_alike_165 rfl (lv_at hl 3 rfl) ?_
          refine lv_iconst (v := 1) hx hb dL_alike_166 (by decide) ?_
          refine lv_iload_n hx hb dL_alike_167 rfl (lv_at hl 2 rfl) ?_
          refine lv_bipush (v := 20) hx hb dL_alike_168 (by decide) ?_
          refine lv_irem hx hb dL_alike_170 (by decide) ?_
          refine lv_iadd hx hb dL_alike_171 ?_
          refine lv_iload hx hb dL_alike_172 (lv_at hl 4 rfl) ?_
          obtain ⟨v_47, hv_46, h⟩ := bd_l h
          refine Lo_T (As := [.ref (cB 0), .int x3_94, .int (1 + (p1 - p1 / 20 * 20)), .int x4_94]) (rest := [.long v_44]) (wA := u_41) (wr := w_45) 4 24 (470) (2820) 662 4080 (co_washGain l hst D k cB nB tB Y u_41 hu_41 x3_94 (1 + (p1 - p1 / 20 * 20)) x4_94 v_47 hv_46) ⟨hx, hb, hml, hown, hts⟩ (vx_cwSW 4 hts gL_alike_L_washGain rfl rfl rfl (by decide +kernel) ⟨Nat.le_of_ble_eq_true rfl, Nat.le_of_ble_eq_true rfl⟩) hK hG hC hP hD hS hA (List.perm_append_comm) rfl hl.1 rfl (Nat.le_of_ble_eq_true rfl) dL_alike_174 ⟨rfl, rfl⟩ ⟨rfl, rfl⟩ (by omega) (by omega) (fun ov u_48 H locs hQ hP hD hS => ?_)
          obtain ⟨rfl, hu_48⟩ := hQ
          refine W.eq (g2 := F0 m 177 ls [.long v_47, .long v_44]) rfl ?_
          refine W.lcmp hx hb dL_alike_177 ?_
          refine lv_if_ne (tgt := 259) hx hb dL_alike_178 (by decide) (fun c_49 => ?_) (fun c_49 => ?_)
          · have h := it_r c_49 h
            have hP : va_P D vwCl (w_45 ++ u_48) H := P_perm List.perm_append_comm hP
            have hD : va_D A (w_45 ++ u_48) := D_perm List.perm_append_comm hD
            refine W.widen (k := 620) (n := 3828) (by omega) (by omega) ?_
            exact hC_259 x4_94 w_45 u_48 _ _ _ hw_45 hu_48 hP hD hS (lv_sub hl [0, 1, 2, 4] rfl) h
          · have h := it_l c_49 h
            refine lv_aload_n hx hb dL_alike_181 rfl (lv_at hl 0 rfl) ?_
            refine lv_iload_n hx hb dL_alike_182 rfl (lv_at hl 3 rfl) ?_
            refine lv_iconst (v := 1) hx hb dL_alike_183 (by decide) ?_
            refine lv_iload_n hx hb dL_alike_184 rfl (lv_at hl 2 rfl) ?_
            refine lv_bipush (v := 99) hx hb dL_alike_185 (by decide) ?_
            refine lv_irem hx hb dL_alike_187 (by decide) ?_
            refine lv_iadd hx hb dL_alike_188 ?_
            obtain ⟨v_51, hv_50, h⟩ := bd_l h
            refine Lo_T (As := [.ref (cA 0), .int x3_94, .int (1 + (p1 - p1 / 99 * 99))]) (rest := []) (wA := w_45) (wr := u_48) 7 42 (477) (2862) 662 4080 (co_scaledAfter l hst D k cA nA tA X w_45 hw_45 x3_94 (1 + (p1 - p1 / 99 * 99)) v_51 hv_50) ⟨hx, hb, hml, hown, hts⟩ (vx_cwSW 3 hts gL_alike_L_scaledAfter rfl rfl rfl (by decide +kernel) ⟨Nat.le_of_ble_eq_true rfl, Nat.le_of_ble_eq_true rfl⟩) hK hG hC hP hD hS hA (List.perm_append_comm) rfl hl.1 rfl (Nat.le_of_ble_eq_true rfl) dL_alike_189 ⟨rfl, rfl⟩ ⟨rfl, rfl⟩ (by omega) (by omega) (fun ov w_52 H locs hQ hP hD hS => ?_)
            obtain ⟨rfl, hw_52⟩ := hQ
            refine W.eq (g2 := F0 m 192 ls [.long v_51]) rfl ?_
            refine lv_aload_n hx hb dL_alike_192 rfl (lv_at hl 1 rfl) ?_
            refine lv_iload_n hx hb dL_alike_193 rfl (lv_at hl 3 rfl) ?_
            refine lv_iconst (v := 1) hx hb dL_alike_194 (by decide) ?_
            refine lv_iload_n hx hb dL_alike_195 rfl (lv_at hl 2 rfl) ?_
            refine lv_bipush (v := 99) hx hb dL_alike_196 (by decide) ?_
            refine lv_irem hx hb dL_alike_198 (by decide) ?_
            refine lv_iadd hx hb dL_alike_199 ?_
            obtain ⟨v_54, hv_53, h⟩ := bd_l h
            refine Lo_T (As := [.ref (cB 0), .int x3_94, .int (1 + (p1 - p1 / 99 * 99))]) (rest := [.long v_51]) (wA := u_48) (wr := w_52) 7 42 (484) (2904) 662 4080 (co_scaledAfter l hst D k cB nB tB Y u_48 hu_48 x3_94 (1 + (p1 - p1 / 99 * 99)) v_54 hv_53) ⟨hx, hb, hml, hown, hts⟩ (vx_cwSW 3 hts gL_alike_L_scaledAfter rfl rfl rfl (by decide +kernel) ⟨Nat.le_of_ble_eq_true rfl, Nat.le_of_ble_eq_true rfl⟩) hK hG hC hP hD hS hA (List.perm_append_comm) rfl hl.1 rfl (Nat.le_of_ble_eq_true rfl) dL_alike_200 ⟨rfl, rfl⟩ ⟨rfl, rfl⟩ (by omega) (by omega) (fun ov u_55 H locs hQ hP hD hS => ?_)
            obtain ⟨rfl, hu_55⟩ := hQ
            refine W.eq (g2 := F0 m 203 ls [.long v_54, .long v_51]) rfl ?_
            refine W.lcmp hx hb dL_alike_203 ?_
            refine lv_if_ne (tgt := 259) hx hb dL_alike_204 (by decide) (fun c_56 => ?_) (fun c_56 => ?_)
            · have h := it_r c_56 h
              have hP : va_P D vwCl (w_52 ++ u_55) H := P_perm List.perm_append_comm hP
              have hD : va_D A (w_52 ++ u_55) := D_perm List.perm_append_comm hD
              refine W.widen (k := 620) (n := 3828) (by omega) (by omega) ?_
              exact hC_259 x4_94 w_52 u_55 _ _ _ hw_52 hu_55 hP hD hS (lv_sub hl [0, 1, 2, 4] rfl) h
            · have h := it_l c_56 h
              refine lv_aload_n hx hb dL_alike_207 rfl (lv_at hl 0 rfl) ?_
              refine lv_iconst (v := 1) hx hb dL_alike_208 (by decide) ?_
              refine lv_iload_n hx hb dL_alike_209 rfl (lv_at hl 2 rfl) ?_
              refine lv_iconst (v := 2) hx hb dL_alike_210 (by decide) ?_
              refine lv_irem hx hb dL_alike_211 (by decide) ?_
              refine lv_iadd hx hb dL_alike_212 ?_
              refine lv_iconst (v := 1) hx hb dL_alike_213 (by decide) ?_
              obtain ⟨v_58, hv_57, h⟩ := bd_l h
              refine Lo_T (As := [.ref (cA 0), .int (1 + (p1 - p1 / 2 * 2)), .int 1]) (rest := []) (wA := w_52) (wr := u_55) 34 231 (518) (3135) 662 4080 (co_bestTurns l hst D k cA nA tA X w_52 hw_52 (1 + (p1 - p1 / 2 * 2)) 1 v_58 hv_57) ⟨hx, hb, hml, hown, hts⟩ (vx_cwSW 3 hts gL_alike_L_bestTurns rfl rfl rfl (by decide +kernel) ⟨Nat.le_of_ble_eq_true rfl, Nat.le_of_ble_eq_true rfl⟩) hK hG hC hP hD hS hA (List.perm_append_comm) rfl hl.1 rfl (Nat.le_of_ble_eq_true rfl) dL_alike_214 ⟨rfl, rfl⟩ ⟨rfl, rfl⟩ (by omega) (by omega) (fun ov w_59 H locs hQ hP hD hS => ?_)
              obtain ⟨rfl, hw_59⟩ := hQ
              refine W.eq (g2 := F0 m 217 ls [.long v_58]) rfl ?_
              refine lv_aload_n hx hb dL_alike_217 rfl (lv_at hl 1 rfl) ?_
              refine lv_iconst (v := 1) hx hb dL_alike_218 (by decide) ?_
              refine lv_iload_n hx hb dL_alike_219 rfl (lv_at hl 2 rfl) ?_
              refine lv_iconst (v := 2) hx hb dL_alike_220 (by decide) ?_
              refine lv_irem hx hb dL_alike_221 (by decide) ?_
              refine lv_iadd hx hb dL_alike_222 ?_
              refine lv_iconst (v := 1) hx hb dL_alike_223 (by decide) ?_
              obtain ⟨v_61, hv_60, h⟩ := bd_l h
              refine Lo_T (As := [.ref (cB 0), .int (1 + (p1 - p1 / 2 * 2)), .int 1]) (rest := [.long v_58]) (wA := u_55) (wr := w_59) 34 231 (552) (3366) 662 4080 (co_bestTurns l hst D k cB nB tB Y u_55 hu_55 (1 + (p1 - p1 / 2 * 2)) 1 v_61 hv_60) ⟨hx, hb, hml, hown, hts⟩ (vx_cwSW 3 hts gL_alike_L_bestTurns rfl rfl rfl (by decide +kernel) ⟨Nat.le_of_ble_eq_true rfl, Nat.le_of_ble_eq_true rfl⟩) hK hG hC hP hD hS hA (List.perm_append_comm) rfl hl.1 rfl (Nat.le_of_ble_eq_true rfl) dL_alike_224 ⟨rfl, rfl⟩ ⟨rfl, rfl⟩ (by omega) (by omega) (fun ov u_62 H locs hQ hP hD hS => ?_)
              obtain ⟨rfl, hu_62⟩ := hQ
              refine W.eq (g2 := F0 m 227 ls [.long v_61, .long v_58]) rfl ?_
              refine W.lcmp hx hb dL_alike_227 ?_
              refine lv_if_ne (tgt := 259) hx hb dL_alike_228 (by decide) (fun c_63 => ?_) (fun c_63 => ?_)
              · have h := it_r c_63 h
                have hP : va_P D vwCl (w_59 ++ u_62) H := P_perm List.perm_append_comm hP
                have hD : va_D A (w_59 ++ u_62) := D_perm List.perm_append_comm hD
                refine W.widen (k := 620) (n := 3828) (by omega) (by omega) ?_
                exact hC_259 x4_94 w_59 u_62 _ _ _ hw_59 hu_62 hP hD hS (lv_sub hl [0, 1, 2, 4] rfl) h
              · have h := it_l c_63 h
                refine lv_aload_n hx hb dL_alike_231 rfl (lv_at hl 0 rfl) ?_
                refine lv_iconst (v := 1) hx hb dL_alike_232 (by decide) ?_
                refine lv_iload_n hx hb dL_alike_233 rfl (lv_at hl 2 rfl) ?_
                refine lv_iconst (v := 2) hx hb dL_alike_234 (by decide) ?_
                refine lv_irem hx hb dL_alike_235 (by decide) ?_
                refine lv_iadd hx hb dL_alike_236 ?_
                refine lv_iconst (v := 0) hx hb dL_alike_237 (by decide) ?_
                obtain ⟨v_65, hv_64, h⟩ := bd_l h
                refine Lo_T (As := [.ref (cA 0), .int (1 + (p1 - p1 / 2 * 2)), .int 0]) (rest := []) (wA := w_59) (wr := u_62) 34 231 (586) (3597) 662 4080 (co_bestTurns l hst D k cA nA tA X w_59 hw_59 (1 + (p1 - p1 / 2 * 2)) 0 v_65 hv_64) ⟨hx, hb, hml, hown, hts⟩ (vx_cwSW 3 hts gL_alike_L_bestTurns rfl rfl rfl (by decide +kernel) ⟨Nat.le_of_ble_eq_true rfl, Nat.le_of_ble_eq_true rfl⟩) hK hG hC hP hD hS hA (List.perm_append_comm) rfl hl.1 rfl (Nat.le_of_ble_eq_true rfl) dL_alike_238 ⟨rfl, rfl⟩ ⟨rfl, rfl⟩ (by omega) (by omega) (fun ov w_66 H locs hQ hP hD hS => ?_)
                obtain ⟨rfl, hw_66⟩ := hQ
                refine W.eq (g2 := F0 m 241 ls [.long v_65]) rfl ?_
                refine lv_aload_n hx hb dL_alike_241 rfl (lv_at hl 1 rfl) ?_
                refine lv_iconst (v := 1) hx hb dL_alike_242 (by decide) ?_
                refine lv_iload_n hx hb dL_alike_243 rfl (lv_at hl 2 rfl) ?_
                refine lv_iconst (v := 2) hx hb dL_alike_244 (by decide) ?_
                refine lv_irem hx hb dL_alike_245 (by decide) ?_
                refine lv_iadd hx hb dL_alike_246 ?_
                refine lv_iconst (v := 0) hx hb dL_alike_247 (by decide) ?_
                obtain ⟨v_68, hv_67, h⟩ := bd_l h
                refine Lo_T (As := [.ref (cB 0), .int (1 + (p1 - p1 / 2 * 2)), .int 0]) (rest := [.long v_65]) (wA := u_62) (wr := w_66) 34 231 (620) (3828) 662 4080 (co_bestTurns l hst D k cB nB tB Y u_62 hu_62 (1 + (p1 - p1 / 2 * 2)) 0 v_68 hv_67) ⟨hx, hb, hml, hown, hts⟩ (vx_cwSW 3 hts gL_alike_L_bestTurns rfl rfl rfl (by decide +kernel) ⟨Nat.le_of_ble_eq_true rfl, Nat.le_of_ble_eq_true rfl⟩) hK hG hC hP hD hS hA (List.perm_append_comm) rfl hl.1 rfl (Nat.le_of_ble_eq_true rfl) dL_alike_248 ⟨rfl, rfl⟩ ⟨rfl, rfl⟩ (by omega) (by omega) (fun ov u_69 H locs hQ hP hD hS => ?_)
                obtain ⟨rfl, hu_69⟩ := hQ
                refine W.eq (g2 := F0 m 251 ls [.long v_68, .long v_65]) rfl ?_
                refine W.lcmp hx hb dL_alike_251 ?_
                refine lv_if_ne (tgt := 259) hx hb dL_alike_252 (by decide) (fun c_70 => ?_) (fun c_70 => ?_)
                · have h := it_r c_70 h
                  have hP : va_P D vwCl (w_66 ++ u_69) H := P_perm List.perm_append_comm hP
                  have hD : va_D A (w_66 ++ u_69) := D_perm List.perm_append_comm hD
                  refine W.widen (k := 620) (n := 3828) (by omega) (by omega) ?_
                  exact hC_259 x4_94 w_66 u_69 _ _ _ hw_66 hu_69 hP hD hS (lv_sub hl [0, 1, 2, 4] rfl) h
                · have h := it_l c_70 h
                  refine lv_iconst (v := 1) hx hb dL_alike_255 (by decide) ?_
                  refine lv_goto (tgt := 260) hx hb dL_alike_256 (by decide) ?_
                  have hP : va_P D vwCl (w_66 ++ u_69) H := P_perm List.perm_append_comm hP
                  have hD : va_D A (w_66 ++ u_69) := D_perm List.perm_append_comm hD
                  refine W.widen (k := 620) (n := 3828) (by omega) (by omega) ?_
                  exact hC_260 x4_94 1 w_66 u_69 _ _ _ hw_66 hu_69 hP hD hS (lv_sub hl [0, 1, 2, 4] rfl) h
  have hC_78 : ∀ (x3_78 : Int32) (x4_78 : Int32) (t0_78 : Int32) (t1_78 : Int32) (w_78 : va_W) (u_78 : va_W) (H : Heap) (locs : List Loc) (ls : Array Slot), Ob k cA nA tA X w_78 → Ob k cB nB tB Y u_78 → va_P D vwCl (w_78 ++ u_78) H → va_D A (w_78 ++ u_78) → va_S A s.heap H locs → lv_has ls 8 [(0, .ref (cA 0)), (1, .ref (cB 0)), (2, .int p1), (3, .int x3_78), (4, .int x4_78)] → f_L_alike_78 X Y p1 x3_78 x4_78 t0_78 t1_78 = some o → W p l e ({ frames := 14, cells := 662, slots := 4080, locals := 749 } : Room) s m args below meth c H locs (450) (2700) (vx_MQ below (Qx D A (.inr B9)) (Xx D A (w ++ u) (.inr B9)) args s 662 4080 A) (F0 m 78 ls [.int t0_78, .int t1_78, .ref (cA 0)]) := by
    intro x3_78 x4_78 t0_78 t1_78 w_78 u_78 H locs ls hw_78 hu_78 hP hD hS hl h
    unfold f_L_alike_78 at h
    obtain ⟨v_72, hv_71, h⟩ := bd_l h
    refine Lo_T (As := [.ref (cA 0), .int t1_78, .int t0_78]) (rest := []) (wA := w_78) (wr := u_78) 1 6 (451) (2706) 662 4080 (co_neighbor l hst D k cA nA tA X w_78 hw_78 t1_78 t0_78 v_72 hv_71) ⟨hx, hb, hml, hown, hts⟩ (vx_cwSW 3 hts gL_alike_L_neighbor rfl rfl rfl (by decide +kernel) ⟨Nat.le_of_ble_eq_true rfl, Nat.le_of_ble_eq_true rfl⟩) hK hG hC hP hD hS hA (List.Perm.refl _) rfl hl.1 rfl (Nat.le_of_ble_eq_true rfl) dL_alike_78 ⟨rfl, rfl⟩ ⟨rfl, rfl⟩ (by omega) (by omega) (fun ov w_73 H locs hQ hP hD hS => ?_)
    obtain ⟨rfl, hw_73⟩ := hQ
    refine W.eq (g2 := F0 m 81 ls [.long v_72]) rfl ?_
    refine lv_aload_n hx hb dL_alike_81 rfl (lv_at hl 1 rfl) ?_
    refine lv_iload_n hx hb dL_alike_82 rfl (lv_at hl 3 rfl) ?_
    refine lv_iload_n hx hb dL_alike_83 rfl (lv_at hl 2 rfl) ?_
    refine lv_iconst (v := 2) hx hb dL_alike_84 (by decide) ?_
    refine lv_irem hx hb dL_alike_85 (by decide) ?_
    refine lv_if_ne (tgt := 93) hx hb dL_alike_86 (by decide) (fun c_74 => ?_) (fun c_74 => ?_)
    · have h := it_r c_74 h
      refine lv_iconst (v := 0) hx hb dL_alike_93 (by decide) ?_
      refine W.widen (k := 451) (n := 2706) (by omega) (by omega) ?_
      exact hC_94 x3_78 x4_78 0 x3_78 v_72 w_73 u_78 _ _ _ hw_73 hu_78 hP hD hS (lv_sub hl [0, 1, 2, 3, 4] rfl) h
    · have h := it_l c_74 h
      refine lv_iconst (v := 1) hx hb dL_alike_89 (by decide) ?_
      refine lv_goto (tgt := 94) hx hb dL_alike_90 (by decide) ?_
      refine W.widen (k := 451) (n := 2706) (by omega) (by omega) ?_
      exact hC_94 x3_78 x4_78 1 x3_78 v_72 w_73 u_78 _ _ _ hw_73 hu_78 hP hD hS (lv_sub hl [0, 1, 2, 3, 4] rfl) h
  refine lv_iload_n hx hb dL_alike_0 rfl (lv_at hl 2 rfl) ?_
  refine lv_bipush (v := 6) hx hb dL_alike_1 (by decide) ?_
  refine lv_irem hx hb dL_alike_3 (by decide) ?_
  refine lv_topi (fun v_75 ev_75 => ?_)
  have h := nm_l h ev_75
  refine lv_istore_n (lv' := [(3, .int v_75), (0, .ref (cA 0)), (1, .ref (cB 0)), (2, .int p1)]) hx hb dL_alike_4 rfl hl (by decide) rfl (fun ls hl => ?_)
  refine lv_iconst (v := 1) hx hb dL_alike_5 (by decide) ?_
  refine lv_iload_n hx hb dL_alike_6 rfl (lv_at hl 3 rfl) ?_
  refine lv_bipush (v := 6) hx hb dL_alike_7 (by decide) ?_
  refine lv_idiv hx hb dL_alike_9 (by decide) ?_
  refine lv_bipush (v := 40) hx hb dL_alike_10 (by decide) ?_
  refine lv_irem hx hb dL_alike_12 (by decide) ?_
  refine lv_iadd hx hb dL_alike_13 ?_
  refine lv_topi (fun v_76 ev_76 => ?_)
  have h := nm_l h ev_76
  refine lv_istore (lv' := [(4, .int v_76), (3, .int v_75), (0, .ref (cA 0)), (1, .ref (cB 0)), (2, .int p1)]) hx hb dL_alike_14 hl (by decide) rfl (fun ls hl => ?_)
  refine lv_aload_n hx hb dL_alike_16 rfl (lv_at hl 2 rfl) ?_
  obtain ⟨v_78, hv_77, h⟩ := bd_l h
  refine Lo_S (As := [.ref (cA 0)]) (rest := []) (wA := w) (wr := u) 224 1344 (224) (1344) 662 4080 (c_L_now l hst D k cA nA tA X w hw v_78 hv_77) ⟨hx, hb, hml, hown, hts⟩ (va_cwS 1 hts gL_alike_L_now rfl rfl rfl (by decide +kernel) ⟨Nat.le_of_ble_eq_true rfl, Nat.le_of_ble_eq_true rfl⟩) hK hG hC hP hD hS hA (List.Perm.refl _) rfl hl.1 rfl (Nat.le_of_ble_eq_true rfl) dL_alike_17 ⟨rfl, rfl⟩ ⟨rfl, rfl⟩ (by omega) (by omega) (fun ov w_79 H locs hQ hP hD hS => ?_)
  obtain ⟨rfl, hw_79⟩ := hQ
  refine W.eq (g2 := F0 m 20 ls [.long v_78]) rfl ?_
  refine lv_aload_n hx hb dL_alike_20 rfl (lv_at hl 3 rfl) ?_
  obtain ⟨v_81, hv_80, h⟩ := bd_l h
  refine Lo_S (As := [.ref (cB 0)]) (rest := [.long v_78]) (wA := u) (wr := w_79) 224 1344 (448) (2688) 662 4080 (c_L_now l hst D k cB nB tB Y u hu v_81 hv_80) ⟨hx, hb, hml, hown, hts⟩ (va_cwS 1 hts gL_alike_L_now rfl rfl rfl (by decide +kernel) ⟨Nat.le_of_ble_eq_true rfl, Nat.le_of_ble_eq_true rfl⟩) hK hG hC hP hD hS hA (List.perm_append_comm) rfl hl.1 rfl (Nat.le_of_ble_eq_true rfl) dL_alike_21 ⟨rfl, rfl⟩ ⟨rfl, rfl⟩ (by omega) (by omega) (fun ov u_82 H locs hQ hP hD hS => ?_)
  obtain ⟨rfl, hu_82⟩ := hQ
  refine W.eq (g2 := F0 m 24 ls [.long v_81, .long v_78]) rfl ?_
  refine W.lcmp hx hb dL_alike_24 ?_
  refine lv_if_ne (tgt := 259) hx hb dL_alike_25 (by decide) (fun c_83 => ?_) (fun c_83 => ?_)
  · have h := it_r c_83 h
    have hP : va_P D vwCl (w_79 ++ u_82) H := P_perm List.perm_append_comm hP
    have hD : va_D A (w_79 ++ u_82) := D_perm List.perm_append_comm hD
    refine W.widen (k := 620) (n := 3828) (by omega) (by omega) ?_
    exact hC_259 v_76 w_79 u_82 _ _ _ hw_79 hu_82 hP hD hS (lv_sub hl [2, 3, 4, 0] rfl) h
  · have h := it_l c_83 h
    refine lv_aload_n hx hb dL_alike_28 rfl (lv_at hl 2 rfl) ?_
    obtain ⟨v_85, hv_84, h⟩ := bd_l h
    refine Lo_V (As := []) (rest := []) (wA := w_79) (wr := u_82) 0 0 (448) (2688) 662 4080 (co_errorPosition l hst D k cA nA tA X w_79 hw_79 v_85 hv_84) ⟨hx, hb, hml, hown, hts⟩ (cwV 0 hts gL_alike_X1_errorPosition rfl rfl rfl (by decide +kernel) ⟨Nat.le_of_ble_eq_true rfl, Nat.le_of_ble_eq_true rfl⟩) hK hG hP hD hS hA (List.perm_append_comm) rfl hl.1 rfl (Nat.le_of_ble_eq_true rfl) dL_alike_29 ⟨rfl, rfl⟩ ⟨rfl, rfl⟩ (by omega) (by omega) (fun ov w_86 H locs hQ hP hD hS => ?_)
    obtain ⟨rfl, hw_86⟩ := hQ
    refine W.eq (g2 := F0 m 32 ls [.int v_85]) rfl ?_
    refine lv_aload_n hx hb dL_alike_32 rfl (lv_at hl 3 rfl) ?_
    obtain ⟨v_88, hv_87, h⟩ := bd_l h
    refine Lo_V (As := []) (rest := [.int v_85]) (wA := u_82) (wr := w_86) 0 0 (448) (2688) 662 4080 (co_errorPosition l hst D k cB nB tB Y u_82 hu_82 v_88 hv_87) ⟨hx, hb, hml, hown, hts⟩ (cwV 0 hts gL_alike_X1_errorPosition rfl rfl rfl (by decide +kernel) ⟨Nat.le_of_ble_eq_true rfl, Nat.le_of_ble_eq_true rfl⟩) hK hG hP hD hS hA (List.perm_append_comm) rfl hl.1 rfl (Nat.le_of_ble_eq_true rfl) dL_alike_33 ⟨rfl, rfl⟩ ⟨rfl, rfl⟩ (by omega) (by omega) (fun ov u_89 H locs hQ hP hD hS => ?_)
    obtain ⟨rfl, hu_89⟩ := hQ
    refine W.eq (g2 := F0 m 36 ls [.int v_88, .int v_85]) rfl ?_
    refine lv_icmp_ne (tgt := 259) hx hb dL_alike_36 (by decide) (fun c_90 => ?_) (fun c_90 => ?_)
    · have h := it_r c_90 h
      have hP : va_P D vwCl (w_86 ++ u_89) H := P_perm List.perm_append_comm hP
      have hD : va_D A (w_86 ++ u_89) := D_perm List.perm_append_comm hD
      refine W.widen (k := 620) (n := 3828) (by omega) (by omega) ?_
      exact hC_259 v_76 w_86 u_89 _ _ _ hw_86 hu_89 hP hD hS (lv_sub hl [2, 3, 4, 0] rfl) h
    · have h := it_l c_90 h
      refine lv_aload_n hx hb dL_alike_39 rfl (lv_at hl 2 rfl) ?_
      obtain ⟨v_92, hv_91, h⟩ := bd_l h
      refine Lo_V (As := []) (rest := []) (wA := w_86) (wr := u_89) 0 0 (448) (2688) 662 4080 (co_economy l hst D k cA nA tA X w_86 hw_86 v_92 hv_91) ⟨hx, hb, hml, hown, hts⟩ (cwV 0 hts gL_alike_X1_economy rfl rfl rfl (by decide +kernel) ⟨Nat.le_of_ble_eq_true rfl, Nat.le_of_ble_eq_true rfl⟩) hK hG hP hD hS hA (List.perm_append_comm) rfl hl.1 rfl (Nat.le_of_ble_eq_true rfl) dL_alike_40 ⟨rfl, rfl⟩ ⟨rfl, rfl⟩ (by omega) (by omega) (fun ov w_93 H locs hQ hP hD hS => ?_)
      obtain ⟨rfl, hw_93⟩ := hQ
      refine W.eq (g2 := F0 m 43 ls [.float v_92]) rfl ?_
      refine lv_aload_n hx hb dL_alike_43 rfl (lv_at hl 3 rfl) ?_
      obtain ⟨v_95, hv_94, h⟩ := bd_l h
      refine Lo_V (As := []) (rest := [.float v_92]) (wA := u_89) (wr := w_93) 0 0 (448) (2688) 662 4080 (co_economy l hst D k cB nB tB Y u_89 hu_89 v_95 hv_94) ⟨hx, hb, hml, hown, hts⟩ (cwV 0 hts gL_alike_X1_economy rfl rfl rfl (by decide +kernel) ⟨Nat.le_of_ble_eq_true rfl, Nat.le_of_ble_eq_true rfl⟩) hK hG hP hD hS hA (List.perm_append_comm) rfl hl.1 rfl (Nat.le_of_ble_eq_true rfl) dL_alike_44 ⟨rfl, rfl⟩ ⟨rfl, rfl⟩ (by omega) (by omega) (fun ov u_96 H locs hQ hP hD hS => ?_)
      obtain ⟨rfl, hu_96⟩ := hQ
      refine W.eq (g2 := F0 m 47 ls [.float v_95, .float v_92]) rfl ?_
      refine lv_fcmp hx hb dL_alike_47 ?_
      refine lv_if_ne (tgt := 259) hx hb dL_alike_48 (by decide) (fun c_97 => ?_) (fun c_97 => ?_)
      · have h := it_r c_97 h
        have hP : va_P D vwCl (w_93 ++ u_96) H := P_perm List.perm_append_comm hP
        have hD : va_D A (w_93 ++ u_96) := D_perm List.perm_append_comm hD
        refine W.widen (k := 620) (n := 3828) (by omega) (by omega) ?_
        exact hC_259 v_76 w_93 u_96 _ _ _ hw_93 hu_96 hP hD hS (lv_sub hl [2, 3, 4, 0] rfl) h
      · have h := it_l c_97 h
        refine lv_aload_n hx hb dL_alike_51 rfl (lv_at hl 2 rfl) ?_
        refine lv_iload_n hx hb dL_alike_52 rfl (lv_at hl 1 rfl) ?_
        obtain ⟨v_99, hv_98, h⟩ := bd_l h
        refine Lo_T (As := [.ref (cA 0), .int v_75]) (rest := []) (wA := w_93) (wr := u_96) 1 6 (449) (2694) 662 4080 (co_share l hst D k cA nA tA X w_93 hw_93 v_75 v_99 hv_98) ⟨hx, hb, hml, hown, hts⟩ (vx_cwSW 2 hts gL_alike_L_share rfl rfl rfl (by decide +kernel) ⟨Nat.le_of_ble_eq_true rfl, Nat.le_of_ble_eq_true rfl⟩) hK hG hC hP hD hS hA (List.perm_append_comm) rfl hl.1 rfl (Nat.le_of_ble_eq_true rfl) dL_alike_53 ⟨rfl, rfl⟩ ⟨rfl, rfl⟩ (by omega) (by omega) (fun ov w_100 H locs hQ hP hD hS => ?_)
        obtain ⟨rfl, hw_100⟩ := hQ
        refine W.eq (g2 := F0 m 56 ls [.float v_99]) rfl ?_
        refine lv_aload_n hx hb dL_alike_56 rfl (lv_at hl 3 rfl) ?_
        refine lv_iload_n hx hb dL_alike_57 rfl (lv_at hl 1 rfl) ?_
        obtain ⟨v_102, hv_101, h⟩ := bd_l h
        refine Lo_T (As := [.ref (cB 0), .int v_75]) (rest := [.float v_99]) (wA := u_96) (wr := w_100) 1 6 (450) (2700) 662 4080 (co_share l hst D k cB nB tB Y u_96 hu_96 v_75 v_102 hv_101) ⟨hx, hb, hml, hown, hts⟩ (vx_cwSW 2 hts gL_alike_L_share rfl rfl rfl (by decide +kernel) ⟨Nat.le_of_ble_eq_true rfl, Nat.le_of_ble_eq_true rfl⟩) hK hG hC hP hD hS hA (List.perm_append_comm) rfl hl.1 rfl (Nat.le_of_ble_eq_true rfl) dL_alike_58 ⟨rfl, rfl⟩ ⟨rfl, rfl⟩ (by omega) (by omega) (fun ov u_103 H locs hQ hP hD hS => ?_)
        obtain ⟨rfl, hu_103⟩ := hQ
        refine W.eq (g2 := F0 m 61 ls [.float v_102, .float v_99]) rfl ?_
        refine lv_fcmp hx hb dL_alike_61 ?_
        refine lv_if_ne (tgt := 259) hx hb dL_alike_62 (by decide) (fun c_104 => ?_) (fun c_104 => ?_)
        · have h := it_r c_104 h
          have hP : va_P D vwCl (w_100 ++ u_103) H := P_perm List.perm_append_comm hP
          have hD : va_D A (w_100 ++ u_103) := D_perm List.perm_append_comm hD
          refine W.widen (k := 620) (n := 3828) (by omega) (by omega) ?_
          exact hC_259 v_76 w_100 u_103 _ _ _ hw_100 hu_103 hP hD hS (lv_sub hl [2, 3, 4, 0] rfl) h
        · have h := it_l c_104 h
          refine lv_aload_n hx hb dL_alike_65 rfl (lv_at hl 2 rfl) ?_
          refine lv_iload_n hx hb dL_alike_66 rfl (lv_at hl 1 rfl) ?_
          refine lv_iload_n hx hb dL_alike_67 rfl (lv_at hl 4 rfl) ?_
          refine lv_iconst (v := 2) hx hb dL_alike_68 (by decide) ?_
          refine lv_irem hx hb dL_alike_69 (by decide) ?_
          refine lv_if_ne (tgt := 77) hx hb dL_alike_70 (by decide) (fun c_105 => ?_) (fun c_105 => ?_)
          · have h := it_r c_105 h
            refine lv_iconst (v := 0) hx hb dL_alike_77 (by decide) ?_
            have hP : va_P D vwCl (w_100 ++ u_103) H := P_perm List.perm_append_comm hP
            have hD : va_D A (w_100 ++ u_103) := D_perm List.perm_append_comm hD
            refine W.widen (k := 450) (n := 2700) (by omega) (by omega) ?_
            exact hC_78 v_75 v_76 0 v_75 w_100 u_103 _ _ _ hw_100 hu_103 hP hD hS (lv_sub hl [2, 3, 4, 1, 0] rfl) h
          · have h := it_l c_105 h
            refine lv_iconst (v := 1) hx hb dL_alike_73 (by decide) ?_
            refine lv_goto (tgt := 78) hx hb dL_alike_74 (by decide) ?_
            have hP : va_P D vwCl (w_100 ++ u_103) H := P_perm List.perm_append_comm hP
            have hD : va_D A (w_100 ++ u_103) := D_perm List.perm_append_comm hD
            refine W.widen (k := 450) (n := 2700) (by omega) (by omega) ?_
            exact hC_78 v_75 v_76 1 v_75 w_100 u_103 _ _ _ hw_100 hu_103 hP hD hS (lv_sub hl [2, 3, 4, 1, 0] rfl) h
noncomputable def f_L_errors_444 (x1_444 : Int64) (x3_444 : Int32) (x4_444 : Int32) (X_444 : XV) : Option (Int32 × XV) := if x4_444 = 0 then (some (0, X_444)) else (bd (o_ahead X_444 x3_444 1 99) fun v_3 => if (lg_cmp v_3 (-9000000000000000001)) = 0 then (bd (o_ahead X_444 0 100 0) fun v_7 => if (lg_cmp v_7 (-9000000000000000002)) = 0 then (bd (o_ahead X_444 0 0 10) fun v_11 => if (lg_cmp v_11 (-9000000000000000002)) = 0 then (bd (o_growth X_444 0 0) fun v_15 => if (lg_cmp v_15 (-9000000000000000002)) = 0 then (bd (o_growth X_444 1 10) fun v_19 => if (lg_cmp v_19 (-9000000000000000002)) = 0 then (bd (o_washGain X_444 x3_444 0 0) fun v_23 => if (lg_cmp v_23 (-9000000000000000001)) = 0 then (bd (o_washGain X_444 0 1 100) fun v_27 => if (lg_cmp v_27 (-9000000000000000002)) = 0 then (bd (o_bestTurns X_444 0 1) fun v_31 => if (lg_cmp v_31 (-9000000000000000002)) = 0 then (bd (o_bestTurns X_444 4 0) fun v_35 => if (lg_cmp v_35 (-9000000000000000002)) = 0 then (bd (o_scaledAfter X_444 x3_444 0) fun v_39 => if (lg_cmp v_39 (-9000000000000000001)) = 0 then (bd (o_scaledAfter X_444 0 100) fun v_43 => if (lg_cmp v_43 (-9000000000000000002)) = 0 then (bd (o_steamFor X_444 10000 1) fun v_47 => if (lg_cmp v_47 (-9000000000000000002)) = 0 then (bd (o_steamFor X_444 1 21) fun v_51 => if (lg_cmp v_51 (-9000000000000000002)) = 0 then (bd (o_script X_444 4 0) fun v_55 => if (lg_cmp v_55 (-9000000000000000002)) = 0 then (bd (o_script X_444 1 100000) fun v_59 => if (lg_cmp v_59 (-9000000000000000002)) = 0 then (bd (o_script X_444 1 90000) fun v_63 => if (lg_cmp v_63 0) = 0 then (bd (o_simulate X_444 1 100) fun v_67 => if (lg_cmp v_67 (-9000000000000000002)) = 0 then (bd (o_save X_444 2) fun ⟨v_71, X_73⟩ => if (lg_cmp v_71 (-9000000000000000001)) = 0 then (bd (o_restore X_73 (-1)) fun ⟨v_76, X_78⟩ => if (lg_cmp v_76 (-9000000000000000001)) = 0 then (bd (f_L_now X_78) fun v_81 => if (lg_cmp v_81 x1_444) = 0 then (some (1, X_78)) else (some (0, X_78))) else (some (0, X_78))) else (some (0, X_73))) else (some (0, X_444))) else (some (0, X_444))) else (some (0, X_444))) else (some (0, X_444))) else (some (0, X_444))) else (some (0, X_444))) else (some (0, X_444))) else (some (0, X_444))) else (some (0, X_444))) else (some (0, X_444))) else (some (0, X_444))) else (some (0, X_444))) else (some (0, X_444))) else (some (0, X_444))) else (some (0, X_444))) else (some (0, X_444))) else (some (0, X_444)))
noncomputable def f_L_errors_342 : Nat → Int64 → Int32 → Int32 → Int32 → XV → Option (Int32 × XV)
  | 0, _, _, _, _, _ => none
  | fu + 1, x1_342, x3_342, x4_342, x5_342, X_342 => if x3_342 ≤ x5_342 then (f_L_errors_444 x1_342 x3_342 x4_342 X_342) else (if x4_342 = 0 then (f_L_errors_444 x1_342 x3_342 x4_342 X_342) else (bd (o_effect X_342 x5_342 7) fun v_87 => if (lg_cmp v_87 0) ≤ 0 then (bd (o_endWash X_342 x5_342) fun ⟨v_91, X_93⟩ => if (lg_cmp v_91 (-9000000000000000003)) = 0 then (bd (o_washGain X_93 x5_342 0 5) fun v_96 => if (lg_cmp v_96 (-9000000000000000002)) = 0 then ((f_L_errors_342 fu) x1_342 x3_342 1 (x5_342 + 1) X_93) else ((f_L_errors_342 fu) x1_342 x3_342 0 (x5_342 + 1) X_93)) else ((f_L_errors_342 fu) x1_342 x3_342 0 (x5_342 + 1) X_93)) else (bd (o_wash X_342 x5_342 5) fun ⟨v_100, X_102⟩ => if (lg_cmp v_100 (-9000000000000000003)) = 0 then (bd (o_washGain X_102 x5_342 5 5) fun v_105 => if (lg_cmp v_105 (-9000000000000000003)) = 0 then ((f_L_errors_342 fu) x1_342 x3_342 1 (x5_342 + 1) X_102) else ((f_L_errors_342 fu) x1_342 x3_342 0 (x5_342 + 1) X_102)) else ((f_L_errors_342 fu) x1_342 x3_342 0 (x5_342 + 1) X_102))))
noncomputable def f_L_errors (X : XV) : Option (Int32 × XV) := bd (f_L_now X) fun v_109 => bd (f_L_effects X) fun v_112 => bd (o_append X (-1)) fun ⟨v_115, X_117⟩ => if (lg_cmp v_115 (-9000000000000000002)) = 0 then (bd (o_append X_117 256) fun ⟨v_120, X_122⟩ => if (lg_cmp v_120 (-9000000000000000002)) = 0 then (bd (o_about X_122 10) fun v_125 => if (lg_cmp v_125 (-9000000000000000002)) = 0 then (bd (o_total X_122 10) fun v_129 => if (lg_cmp v_129 (-9000000000000000002)) = 0 then (bd (o_effect X_122 v_112 99) fun v_133 => if (lg_cmp v_133 (-9000000000000000001)) = 0 then (bd (o_effect X_122 0 10) fun v_137 => if (lg_cmp v_137 (-9000000000000000002)) = 0 then (bd (o_neighbor X_122 v_112 1) fun v_141 => if (lg_cmp v_141 (-9000000000000000001)) = 0 then (bd (o_share X_122 (-1)) fun v_145 => if (Op.cmpValue (FP.fcmp v_145 3239051264) .l) = 0 then (bd (o_tick X_122 0) fun ⟨v_149, X_151⟩ => if (lg_cmp v_149 (-9000000000000000002)) = 0 then (bd (o_tick X_151 100) fun ⟨v_154, X_156⟩ => if (lg_cmp v_154 (-9000000000000000002)) = 0 then (bd (o_set X_156 5 1) fun ⟨v_159, X_161⟩ => if (lg_cmp v_159 (-9000000000000000002)) = 0 then (bd (o_set X_161 0 1000) fun ⟨v_164, X_166⟩ => if (lg_cmp v_164 (-9000000000000000002)) = 0 then (bd (o_set X_166 1 (-1)) fun ⟨v_169, X_171⟩ => if (lg_cmp v_169 (-9000000000000000002)) = 0 then (bd (o_set X_171 2 100) fun ⟨v_174, X_176⟩ => if (lg_cmp v_174 (-9000000000000000002)) = 0 then (bd (o_set X_176 3 100) fun ⟨v_179, X_181⟩ => if (lg_cmp v_179 (-9000000000000000002)) = 0 then (bd (o_set X_181 4 0) fun ⟨v_184, X_186⟩ => if (lg_cmp v_184 (-9000000000000000002)) = 0 then (bd (o_set X_186 4 21) fun ⟨v_189, X_191⟩ => if (lg_cmp v_189 (-9000000000000000002)) = 0 then (bd (o_setValve X_191 v_112 1000) fun ⟨v_194, X_196⟩ => if (lg_cmp v_194 (-9000000000000000001)) = 0 then (bd (o_setValve X_196 0 1000) fun ⟨v_199, X_201⟩ => if (lg_cmp v_199 (-9000000000000000002)) = 0 then (bd (o_setBleed X_201 (-1) 91) fun ⟨v_204, X_206⟩ => if (lg_cmp v_204 (-9000000000000000001)) = 0 then (bd (o_setBleed X_206 0 91) fun ⟨v_209, X_211⟩ => if (lg_cmp v_209 (-9000000000000000002)) = 0 then (bd (o_wash X_211 v_112 0) fun ⟨v_214, X_216⟩ => if (lg_cmp v_214 (-9000000000000000001)) = 0 then (bd (o_wash X_216 0 21) fun ⟨v_219, X_221⟩ => if (lg_cmp v_219 (-9000000000000000002)) = 0 then (bd (o_endWash X_221 v_112) fun ⟨v_224, X_226⟩ => if (lg_cmp v_224 (-9000000000000000001)) = 0 then (f_L_errors_342 7 v_109 v_112 1 0 X_226) else (f_L_errors_342 7 v_109 v_112 0 0 X_226)) else (f_L_errors_342 7 v_109 v_112 0 0 X_221)) else (f_L_errors_342 7 v_109 v_112 0 0 X_216)) else (f_L_errors_342 7 v_109 v_112 0 0 X_211)) else (f_L_errors_342 7 v_109 v_112 0 0 X_206)) else (f_L_errors_342 7 v_109 v_112 0 0 X_201)) else (f_L_errors_342 7 v_109 v_112 0 0 X_196)) else (f_L_errors_342 7 v_109 v_112 0 0 X_191)) else (f_L_errors_342 7 v_109 v_112 0 0 X_186)) else (f_L_errors_342 7 v_109 v_112 0 0 X_181)) else (f_L_errors_342 7 v_109 v_112 0 0 X_176)) else (f_L_errors_342 7 v_109 v_112 0 0 X_171)) else (f_L_errors_342 7 v_109 v_112 0 0 X_166)) else (f_L_errors_342 7 v_109 v_112 0 0 X_161)) else (f_L_errors_342 7 v_109 v_112 0 0 X_156)) else (f_L_errors_342 7 v_109 v_112 0 0 X_151)) else (f_L_errors_342 7 v_109 v_112 0 0 X_122)) else (f_L_errors_342 7 v_109 v_112 0 0 X_122)) else (f_L_errors_342 7 v_109 v_112 0 0 X_122)) else (f_L_errors_342 7 v_109 v_112 0 0 X_122)) else (f_L_errors_342 7 v_109 v_112 0 0 X_122)) else (f_L_errors_342 7 v_109 v_112 0 0 X_122)) else (f_L_errors_342 7 v_109 v_112 0 0 X_122)) else (f_L_errors_342 7 v_109 v_112 0 0 X_117)
set_option maxRecDepth 100000 in
set_option maxHeartbeats 4000000 in
theorem c_L_errors (l : Launch) (hst : l.stackTraces = false) (D : va_G) (k : Nat → ClassId) (cA nA tA : Nat → Nat) (X : XV) (w : va_W) (hw : Ob k cA nA tA X w) (o : Int32 × XV) (h : f_L_errors X = some o) : CO l D k yL_errors wsL_errors ({ frames := 14, cells := 997, slots := 6270, locals := 749 } : Room) [.ref (cA 0)] (w) (fun (ov : Option Value) (w' : va_W) => ov = some (.int o.1) ∧ Ob k cA nA tA o.2 w') := by
  obtain ⟨B9, hB9⟩ : ∃ B : Option Value → va_W → Prop, B = fun (ov : Option Value) (w' : va_W) => ov = some (.int o.1) ∧ Ob k cA nA tA o.2 w' := ⟨_, rfl⟩
  refine CO.of (P := B9) ?_ (fun ov w' h9 => by rw [hB9] at h9; exact h9)
  refine Cl_of0 (cc := cL_errors) (maxL := 6) (ret := (some .boolean)) (by decide) rfl (Nat.le_of_ble_eq_true rfl) ?_
  intro p e s m args below meth c A ls hx hb hr hml hts hown hlocks hK hG hC hA hP hD hS hl
  have hl : lv_has ls 6 [(0, .ref (cA 0))] := hl
  have hP := P_n hP
  have hD := D_n hD
  have w_0 := hts (.constantLong RL 39 (-9000000000000000001)) (by decide +kernel)
  have w_1 := hts (.constantLong RL 17 (-9000000000000000002)) (by decide +kernel)
  have w_2 := hts (.constantLong RL 154 (100000)) (by decide +kernel)
  have w_3 := hts (.constantLong RL 180 (90000)) (by decide +kernel)
  have w_4 := hts (.constantLong RL 21 (-9000000000000000003)) (by decide +kernel)
  have w_5 := hts (.constantFloat RL 103 3239051264) (by decide +kernel)
  unfold f_L_errors at h
  have hC_444 : ∀ (x1_444 : Int64) (x3_444 : Int32) (x4_444 : Int32) (X_444 : XV) (w_444 : va_W) (H : Heap) (locs : List Loc) (ls : Array Slot), Ob k cA nA tA X_444 w_444 → va_P D vwCl (w_444 ++ []) H → va_D A (w_444 ++ []) → va_S A s.heap H locs → lv_has ls 6 [(0, .ref (cA 0)), (1, .long x1_444), (3, .int x3_444), (4, .int x4_444)] → f_L_errors_444 x1_444 x3_444 x4_444 X_444 = some o → W p l e ({ frames := 14, cells := 997, slots := 6270, locals := 749 } : Room) s m args below meth c H locs (604) (3840) (vx_MQ below (Qx D A (.inr B9)) (Xx D A (w) (.inr B9)) args s 997 6270 A) (F0 m 444 ls []) := by
    intro x1_444 x3_444 x4_444 X_444 w_444 H locs ls hw_444 hP hD hS hl h
    unfold f_L_errors_444 at h
    refine lv_iload hx hb dL_errors_444 (lv_at hl 3 rfl) ?_
    refine lv_if_eq (tgt := 724) hx hb dL_errors_446 (by decide) (fun c_1 => ?_) (fun c_1 => ?_)
    · have h := it_l c_1 h
      refine lv_iconst (v := 0) hx hb dL_errors_724 (by decide) ?_
      cases h
      exact Cx_zret (B := B9) rfl (by rw [hB9]; exact ⟨rfl, hw_444⟩) (by omega) (by omega) hx hb hr (by decide) (P_l hP) (D_l hD) hS dL_errors_725 hlocks
    · have h := it_r c_1 h
      refine lv_aload_n hx hb dL_errors_449 rfl (lv_at hl 0 rfl) ?_
      refine lv_iload_n hx hb dL_errors_450 rfl (lv_at hl 2 rfl) ?_
      refine lv_iconst (v := 1) hx hb dL_errors_451 (by decide) ?_
      refine lv_bipush (v := 99) hx hb dL_errors_452 (by decide) ?_
      obtain ⟨v_3, hv_2, h⟩ := bd_l h
      refine Lo_T (As := [.ref (cA 0), .int x3_444, .int 1, .int 99]) (rest := []) (wA := w_444) (wr := []) 3 18 (607) (3858) 997 6270 (co_ahead l hst D k cA nA tA X_444 w_444 hw_444 x3_444 1 99 v_3 hv_2) ⟨hx, hb, hml, hown, hts⟩ (vx_cwSW 4 hts gL_errors_L_ahead rfl rfl rfl (by decide +kernel) ⟨Nat.le_of_ble_eq_true rfl, Nat.le_of_ble_eq_true rfl⟩) hK hG hC hP hD hS hA (List.Perm.refl _) rfl hl.1 rfl (Nat.le_of_ble_eq_true rfl) dL_errors_454 ⟨rfl, rfl⟩ ⟨rfl, rfl⟩ (by omega) (by omega) (fun ov w_4 H locs hQ hP hD hS => ?_)
      obtain ⟨rfl, hw_4⟩ := hQ
      refine W.eq (g2 := F0 m 457 ls [.long v_3]) rfl ?_
      refine lv_ldc2 (v := -9000000000000000001) hx hb hown w_0 dL_errors_457 ?_
      refine W.lcmp hx hb dL_errors_460 ?_
      refine lv_if_ne (tgt := 724) hx hb dL_errors_461 (by decide) (fun c_5 => ?_) (fun c_5 => ?_)
      · have h := it_r c_5 h
        refine lv_iconst (v := 0) hx hb dL_errors_724 (by decide) ?_
        cases h
        exact Cx_zret (B := B9) rfl (by rw [hB9]; exact ⟨rfl, hw_4⟩) (by omega) (by omega) hx hb hr (by decide) (P_l hP) (D_l hD) hS dL_errors_725 hlocks
      · have h := it_l c_5 h
        refine lv_aload_n hx hb dL_errors_464 rfl (lv_at hl 0 rfl) ?_
        refine lv_iconst (v := 0) hx hb dL_errors_465 (by decide) ?_
        refine lv_bipush (v := 100) hx hb dL_errors_466 (by decide) ?_
        refine lv_iconst (v := 0) hx hb dL_errors_468 (by decide) ?_
        obtain ⟨v_7, hv_6, h⟩ := bd_l h
        refine Lo_T (As := [.ref (cA 0), .int 0, .int 100, .int 0]) (rest := []) (wA := w_4) (wr := []) 3 18 (610) (3876) 997 6270 (co_ahead l hst D k cA nA tA X_444 w_4 hw_4 0 100 0 v_7 hv_6) ⟨hx, hb, hml, hown, hts⟩ (vx_cwSW 4 hts gL_errors_L_ahead rfl rfl rfl (by decide +kernel) ⟨Nat.le_of_ble_eq_true rfl, Nat.le_of_ble_eq_true rfl⟩) hK hG hC hP hD hS hA (List.Perm.refl _) rfl hl.1 rfl (Nat.le_of_ble_eq_true rfl) dL_errors_469 ⟨rfl, rfl⟩ ⟨rfl, rfl⟩ (by omega) (by omega) (fun ov w_8 H locs hQ hP hD hS => ?_)
        obtain ⟨rfl, hw_8⟩ := hQ
        refine W.eq (g2 := F0 m 472 ls [.long v_7]) rfl ?_
        refine lv_ldc2 (v := -9000000000000000002) hx hb hown w_1 dL_errors_472 ?_
        refine W.lcmp hx hb dL_errors_475 ?_
        refine lv_if_ne (tgt := 724) hx hb dL_errors_476 (by decide) (fun c_9 => ?_) (fun c_9 => ?_)
        · have h := it_r c_9 h
          refine lv_iconst (v := 0) hx hb dL_errors_724 (by decide) ?_
          cases h
          exact Cx_zret (B := B9) rfl (by rw [hB9]; exact ⟨rfl, hw_8⟩) (by omega) (by omega) hx hb hr (by decide) (P_l hP) (D_l hD) hS dL_errors_725 hlocks
        · have h := it_l c_9 h
          refine lv_aload_n hx hb dL_errors_479 rfl (lv_at hl 0 rfl) ?_
          refine lv_iconst (v := 0) hx hb dL_errors_480 (by decide) ?_
          refine lv_iconst (v := 0) hx hb dL_errors_481 (by decide) ?_
          refine lv_bipush (v := 10) hx hb dL_errors_482 (by decide) ?_
          obtain ⟨v_11, hv_10, h⟩ := bd_l h
          refine Lo_T (As := [.ref (cA 0), .int 0, .int 0, .int 10]) (rest := []) (wA := w_8) (wr := []) 3 18 (613) (3894) 997 6270 (co_ahead l hst D k cA nA tA X_444 w_8 hw_8 0 0 10 v_11 hv_10) ⟨hx, hb, hml, hown, hts⟩ (vx_cwSW 4 hts gL_errors_L_ahead rfl rfl rfl (by decide +kernel) ⟨Nat.le_of_ble_eq_true rfl, Nat.le_of_ble_eq_true rfl⟩) hK hG hC hP hD hS hA (List.Perm.refl _) rfl hl.1 rfl (Nat.le_of_ble_eq_true rfl) dL_errors_484 ⟨rfl, rfl⟩ ⟨rfl, rfl⟩ (by omega) (by omega) (fun ov w_12 H locs hQ hP hD hS => ?_)
          obtain ⟨rfl, hw_12⟩ := hQ
          refine W.eq (g2 := F0 m 487 ls [.long v_11]) rfl ?_
          refine lv_ldc2 (v := -9000000000000000002) hx hb hown w_1 dL_errors_487 ?_
          refine W.lcmp hx hb dL_errors_490 ?_
          refine lv_if_ne (tgt := 724) hx hb dL_errors_491 (by decide) (fun c_13 => ?_) (fun c_13 => ?_)
          · have h := it_r c_13 h
            refine lv_iconst (v := 0) hx hb dL_errors_724 (by decide) ?_
            cases h
            exact Cx_zret (B := B9) rfl (by rw [hB9]; exact ⟨rfl, hw_12⟩) (by omega) (by omega) hx hb hr (by decide) (P_l hP) (D_l hD) hS dL_errors_725 hlocks
          · have h := it_l c_13 h
            refine lv_aload_n hx hb dL_errors_494 rfl (lv_at hl 0 rfl) ?_
            refine lv_iconst (v := 0) hx hb dL_errors_495 (by decide) ?_
            refine lv_iconst (v := 0) hx hb dL_errors_496 (by decide) ?_
            obtain ⟨v_15, hv_14, h⟩ := bd_l h
            refine Lo_T (As := [.ref (cA 0), .int 0, .int 0]) (rest := []) (wA := w_12) (wr := []) 2 12 (615) (3906) 997 6270 (co_growth l hst D k cA nA tA X_444 w_12 hw_12 0 0 v_15 hv_14) ⟨hx, hb, hml, hown, hts⟩ (vx_cwSW 3 hts gL_errors_L_growth rfl rfl rfl (by decide +kernel) ⟨Nat.le_of_ble_eq_true rfl, Nat.le_of_ble_eq_true rfl⟩) hK hG hC hP hD hS hA (List.Perm.refl _) rfl hl.1 rfl (Nat.le_of_ble_eq_true rfl) dL_errors_497 ⟨rfl, rfl⟩ ⟨rfl, rfl⟩ (by omega) (by omega) (fun ov w_16 H locs hQ hP hD hS => ?_)
            obtain ⟨rfl, hw_16⟩ := hQ
            refine W.eq (g2 := F0 m 500 ls [.long v_15]) rfl ?_
            refine lv_ldc2 (v := -9000000000000000002) hx hb hown w_1 dL_errors_500 ?_
            refine W.lcmp hx hb dL_errors_503 ?_
            refine lv_if_ne (tgt := 724) hx hb dL_errors_504 (by decide) (fun c_17 => ?_) (fun c_17 => ?_)
            · have h := it_r c_17 h
              refine lv_iconst (v := 0) hx hb dL_errors_724 (by decide) ?_
              cases h
              exact Cx_zret (B := B9) rfl (by rw [hB9]; exact ⟨rfl, hw_16⟩) (by omega) (by omega) hx hb hr (by decide) (P_l hP) (D_l hD) hS dL_errors_725 hlocks
            · have h := it_l c_17 h
              refine lv_aload_n hx hb dL_errors_507 rfl (lv_at hl 0 rfl) ?_
              refine lv_iconst (v := 1) hx hb dL_errors_508 (by decide) ?_
              refine lv_bipush (v := 10) hx hb dL_errors_509 (by decide) ?_
              obtain ⟨v_19, hv_18, h⟩ := bd_l h
              refine Lo_T (As := [.ref (cA 0), .int 1, .int 10]) (rest := []) (wA := w_16) (wr := []) 2 12 (617) (3918) 997 6270 (co_growth l hst D k cA nA tA X_444 w_16 hw_16 1 10 v_19 hv_18) ⟨hx, hb, hml, hown, hts⟩ (vx_cwSW 3 hts gL_errors_L_growth rfl rfl rfl (by decide +kernel) ⟨Nat.le_of_ble_eq_true rfl, Nat.le_of_ble_eq_true rfl⟩) hK hG hC hP hD hS hA (List.Perm.refl _) rfl hl.1 rfl (Nat.le_of_ble_eq_true rfl) dL_errors_511 ⟨rfl, rfl⟩ ⟨rfl, rfl⟩ (by omega) (by omega) (fun ov w_20 H locs hQ hP hD hS => ?_)
              obtain ⟨rfl, hw_20⟩ := hQ
              refine W.eq (g2 := F0 m 514 ls [.long v_19]) rfl ?_
              refine lv_ldc2 (v := -9000000000000000002) hx hb hown w_1 dL_errors_514 ?_
              refine W.lcmp hx hb dL_errors_517 ?_
              refine lv_if_ne (tgt := 724) hx hb dL_errors_518 (by decide) (fun c_21 => ?_) (fun c_21 => ?_)
              · have h := it_r c_21 h
                refine lv_iconst (v := 0) hx hb dL_errors_724 (by decide) ?_
                cases h
                exact Cx_zret (B := B9) rfl (by rw [hB9]; exact ⟨rfl, hw_20⟩) (by omega) (by omega) hx hb hr (by decide) (P_l hP) (D_l hD) hS dL_errors_725 hlocks
              · have h := it_l c_21 h
                refine lv_aload_n hx hb dL_errors_521 rfl (lv_at hl 0 rfl) ?_
                refine lv_iload_n hx hb dL_errors_522 rfl (lv_at hl 2 rfl) ?_
                refine lv_iconst (v := 0) hx hb dL_errors_523 (by decide) ?_
                refine lv_iconst (v := 0) hx hb dL_errors_524 (by decide) ?_
                obtain ⟨v_23, hv_22, h⟩ := bd_l h
                refine Lo_T (As := [.ref (cA 0), .int x3_444, .int 0, .int 0]) (rest := []) (wA := w_20) (wr := []) 4 24 (621) (3942) 997 6270 (co_washGain l hst D k cA nA tA X_444 w_20 hw_20 x3_444 0 0 v_23 hv_22) ⟨hx, hb, hml, hown, hts⟩ (vx_cwSW 4 hts gL_errors_L_washGain rfl rfl rfl (by decide +kernel) ⟨Nat.le_of_ble_eq_true rfl, Nat.le_of_ble_eq_true rfl⟩) hK hG hC hP hD hS hA (List.Perm.refl _) rfl hl.1 rfl (Nat.le_of_ble_eq_true rfl) dL_errors_525 ⟨rfl, rfl⟩ ⟨rfl, rfl⟩ (by omega) (by omega) (fun ov w_24 H locs hQ hP hD hS => ?_)
                obtain ⟨rfl, hw_24⟩ := hQ
                refine W.eq (g2 := F0 m 528 ls [.long v_23]) rfl ?_
                refine lv_ldc2 (v := -9000000000000000001) hx hb hown w_0 dL_errors_528 ?_
                refine W.lcmp hx hb dL_errors_531 ?_
                refine lv_if_ne (tgt := 724) hx hb dL_errors_532 (by decide) (fun c_25 => ?_) (fun c_25 => ?_)
                · have h := it_r c_25 h
                  refine lv_iconst (v := 0) hx hb dL_errors_724 (by decide) ?_
                  cases h
                  exact Cx_zret (B := B9) rfl (by rw [hB9]; exact ⟨rfl, hw_24⟩) (by omega) (by omega) hx hb hr (by decide) (P_l hP) (D_l hD) hS dL_errors_725 hlocks
                · have h := it_l c_25 h
                  refine lv_aload_n hx hb dL_errors_535 rfl (lv_at hl 0 rfl) ?_
                  refine lv_iconst (v := 0) hx hb dL_errors_536 (by decide) ?_
                  refine lv_iconst (v := 1) hx hb dL_errors_537 (by decide) ?_
                  refine lv_bipush (v := 100) hx hb dL_errors_538 (by decide) ?_
                  obtain ⟨v_27, hv_26, h⟩ := bd_l h
                  refine Lo_T (As := [.ref (cA 0), .int 0, .int 1, .int 100]) (rest := []) (wA := w_24) (wr := []) 4 24 (625) (3966) 997 6270 (co_washGain l hst D k cA nA tA X_444 w_24 hw_24 0 1 100 v_27 hv_26) ⟨hx, hb, hml, hown, hts⟩ (vx_cwSW 4 hts gL_errors_L_washGain rfl rfl rfl (by decide +kernel) ⟨Nat.le_of_ble_eq_true rfl, Nat.le_of_ble_eq_true rfl⟩) hK hG hC hP hD hS hA (List.Perm.refl _) rfl hl.1 rfl (Nat.le_of_ble_eq_true rfl) dL_errors_540 ⟨rfl, rfl⟩ ⟨rfl, rfl⟩ (by omega) (by omega) (fun ov w_28 H locs hQ hP hD hS => ?_)
                  obtain ⟨rfl, hw_28⟩ := hQ
                  refine W.eq (g2 := F0 m 543 ls [.long v_27]) rfl ?_
                  refine lv_ldc2 (v := -9000000000000000002) hx hb hown w_1 dL_errors_543 ?_
                  refine W.lcmp hx hb dL_errors_546 ?_
                  refine lv_if_ne (tgt := 724) hx hb dL_errors_547 (by decide) (fun c_29 => ?_) (fun c_29 => ?_)
                  · have h := it_r c_29 h
                    refine lv_iconst (v := 0) hx hb dL_errors_724 (by decide) ?_
                    cases h
                    exact Cx_zret (B := B9) rfl (by rw [hB9]; exact ⟨rfl, hw_28⟩) (by omega) (by omega) hx hb hr (by decide) (P_l hP) (D_l hD) hS dL_errors_725 hlocks
                  · have h := it_l c_29 h
                    refine lv_aload_n hx hb dL_errors_550 rfl (lv_at hl 0 rfl) ?_
                    refine lv_iconst (v := 0) hx hb dL_errors_551 (by decide) ?_
                    refine lv_iconst (v := 1) hx hb dL_errors_552 (by decide) ?_
                    obtain ⟨v_31, hv_30, h⟩ := bd_l h
                    refine Lo_T (As := [.ref (cA 0), .int 0, .int 1]) (rest := []) (wA := w_28) (wr := []) 34 231 (659) (4197) 997 6270 (co_bestTurns l hst D k cA nA tA X_444 w_28 hw_28 0 1 v_31 hv_30) ⟨hx, hb, hml, hown, hts⟩ (vx_cwSW 3 hts gL_errors_L_bestTurns rfl rfl rfl (by decide +kernel) ⟨Nat.le_of_ble_eq_true rfl, Nat.le_of_ble_eq_true rfl⟩) hK hG hC hP hD hS hA (List.Perm.refl _) rfl hl.1 rfl (Nat.le_of_ble_eq_true rfl) dL_errors_553 ⟨rfl, rfl⟩ ⟨rfl, rfl⟩ (by omega) (by omega) (fun ov w_32 H locs hQ hP hD hS => ?_)
                    obtain ⟨rfl, hw_32⟩ := hQ
                    refine W.eq (g2 := F0 m 556 ls [.long v_31]) rfl ?_
                    refine lv_ldc2 (v := -9000000000000000002) hx hb hown w_1 dL_errors_556 ?_
                    refine W.lcmp hx hb dL_errors_559 ?_
                    refine lv_if_ne (tgt := 724) hx hb dL_errors_560 (by decide) (fun c_33 => ?_) (fun c_33 => ?_)
                    · have h := it_r c_33 h
                      refine lv_iconst (v := 0) hx hb dL_errors_724 (by decide) ?_
                      cases h
                      exact Cx_zret (B := B9) rfl (by rw [hB9]; exact ⟨rfl, hw_32⟩) (by omega) (by omega) hx hb hr (by decide) (P_l hP) (D_l hD) hS dL_errors_725 hlocks
                    · have h := it_l c_33 h
                      refine lv_aload_n hx hb dL_errors_563 rfl (lv_at hl 0 rfl) ?_
                      refine lv_iconst (v := 4) hx hb dL_errors_564 (by decide) ?_
                      refine lv_iconst (v := 0) hx hb dL_errors_565 (by decide) ?_
                      obtain ⟨v_35, hv_34, h⟩ := bd_l h
                      refine Lo_T (As := [.ref (cA 0), .int 4, .int 0]) (rest := []) (wA := w_32) (wr := []) 34 231 (693) (4428) 997 6270 (co_bestTurns l hst D k cA nA tA X_444 w_32 hw_32 4 0 v_35 hv_34) ⟨hx, hb, hml, hown, hts⟩ (vx_cwSW 3 hts gL_errors_L_bestTurns rfl rfl rfl (by decide +kernel) ⟨Nat.le_of_ble_eq_true rfl, Nat.le_of_ble_eq_true rfl⟩) hK hG hC hP hD hS hA (List.Perm.refl _) rfl hl.1 rfl (Nat.le_of_ble_eq_true rfl) dL_errors_566 ⟨rfl, rfl⟩ ⟨rfl, rfl⟩ (by omega) (by omega) (fun ov w_36 H locs hQ hP hD hS => ?_)
                      obtain ⟨rfl, hw_36⟩ := hQ
                      refine W.eq (g2 := F0 m 569 ls [.long v_35]) rfl ?_
                      refine lv_ldc2 (v := -9000000000000000002) hx hb hown w_1 dL_errors_569 ?_
                      refine W.lcmp hx hb dL_errors_572 ?_
                      refine lv_if_ne (tgt := 724) hx hb dL_errors_573 (by decide) (fun c_37 => ?_) (fun c_37 => ?_)
                      · have h := it_r c_37 h
                        refine lv_iconst (v := 0) hx hb dL_errors_724 (by decide) ?_
                        cases h
                        exact Cx_zret (B := B9) rfl (by rw [hB9]; exact ⟨rfl, hw_36⟩) (by omega) (by omega) hx hb hr (by decide) (P_l hP) (D_l hD) hS dL_errors_725 hlocks
                      · have h := it_l c_37 h
                        refine lv_aload_n hx hb dL_errors_576 rfl (lv_at hl 0 rfl) ?_
                        refine lv_iload_n hx hb dL_errors_577 rfl (lv_at hl 2 rfl) ?_
                        refine lv_iconst (v := 0) hx hb dL_errors_578 (by decide) ?_
                        obtain ⟨v_39, hv_38, h⟩ := bd_l h
                        refine Lo_T (As := [.ref (cA 0), .int x3_444, .int 0]) (rest := []) (wA := w_36) (wr := []) 7 42 (700) (4470) 997 6270 (co_scaledAfter l hst D k cA nA tA X_444 w_36 hw_36 x3_444 0 v_39 hv_38) ⟨hx, hb, hml, hown, hts⟩ (vx_cwSW 3 hts gL_errors_L_scaledAfter rfl rfl rfl (by decide +kernel) ⟨Nat.le_of_ble_eq_true rfl, Nat.le_of_ble_eq_true rfl⟩) hK hG hC hP hD hS hA (List.Perm.refl _) rfl hl.1 rfl (Nat.le_of_ble_eq_true rfl) dL_errors_579 ⟨rfl, rfl⟩ ⟨rfl, rfl⟩ (by omega) (by omega) (fun ov w_40 H locs hQ hP hD hS => ?_)
                        obtain ⟨rfl, hw_40⟩ := hQ
                        refine W.eq (g2 := F0 m 582 ls [.long v_39]) rfl ?_
                        refine lv_ldc2 (v := -9000000000000000001) hx hb hown w_0 dL_errors_582 ?_
                        refine W.lcmp hx hb dL_errors_585 ?_
                        refine lv_if_ne (tgt := 724) hx hb dL_errors_586 (by decide) (fun c_41 => ?_) (fun c_41 => ?_)
                        · have h := it_r c_41 h
                          refine lv_iconst (v := 0) hx hb dL_errors_724 (by decide) ?_
                          cases h
                          exact Cx_zret (B := B9) rfl (by rw [hB9]; exact ⟨rfl, hw_40⟩) (by omega) (by omega) hx hb hr (by decide) (P_l hP) (D_l hD) hS dL_errors_725 hlocks
                        · have h := it_l c_41 h
                          refine lv_aload_n hx hb dL_errors_589 rfl (lv_at hl 0 rfl) ?_
                          refine lv_iconst (v := 0) hx hb dL_errors_590 (by decide) ?_
                          refine lv_bipush (v := 100) hx hb dL_errors_591 (by decide) ?_
                          obtain ⟨v_43, hv_42, h⟩ := bd_l h
                          refine Lo_T (As := [.ref (cA 0), .int 0, .int 100]) (rest := []) (wA := w_40) (wr := []) 7 42 (707) (4512) 997 6270 (co_scaledAfter l hst D k cA nA tA X_444 w_40 hw_40 0 100 v_43 hv_42) ⟨hx, hb, hml, hown, hts⟩ (vx_cwSW 3 hts gL_errors_L_scaledAfter rfl rfl rfl (by decide +kernel) ⟨Nat.le_of_ble_eq_true rfl, Nat.le_of_ble_eq_true rfl⟩) hK hG hC hP hD hS hA (List.Perm.refl _) rfl hl.1 rfl (Nat.le_of_ble_eq_true rfl) dL_errors_593 ⟨rfl, rfl⟩ ⟨rfl, rfl⟩ (by omega) (by omega) (fun ov w_44 H locs hQ hP hD hS => ?_)
                          obtain ⟨rfl, hw_44⟩ := hQ
                          refine W.eq (g2 := F0 m 596 ls [.long v_43]) rfl ?_
                          refine lv_ldc2 (v := -9000000000000000002) hx hb hown w_1 dL_errors_596 ?_
                          refine W.lcmp hx hb dL_errors_599 ?_
                          refine lv_if_ne (tgt := 724) hx hb dL_errors_600 (by decide) (fun c_45 => ?_) (fun c_45 => ?_)
                          · have h := it_r c_45 h
                            refine lv_iconst (v := 0) hx hb dL_errors_724 (by decide) ?_
                            cases h
                            exact Cx_zret (B := B9) rfl (by rw [hB9]; exact ⟨rfl, hw_44⟩) (by omega) (by omega) hx hb hr (by decide) (P_l hP) (D_l hD) hS dL_errors_725 hlocks
                          · have h := it_l c_45 h
                            refine lv_aload_n hx hb dL_errors_603 rfl (lv_at hl 0 rfl) ?_
                            refine lv_sipush (v := 10000) hx hb dL_errors_604 (by decide) ?_
                            refine lv_iconst (v := 1) hx hb dL_errors_607 (by decide) ?_
                            obtain ⟨v_47, hv_46, h⟩ := bd_l h
                            refine Lo_T (As := [.ref (cA 0), .int 10000, .int 1]) (rest := []) (wA := w_44) (wr := []) 7 42 (714) (4554) 997 6270 (co_steamFor l hst D k cA nA tA X_444 w_44 hw_44 10000 1 v_47 hv_46) ⟨hx, hb, hml, hown, hts⟩ (vx_cwSW 3 hts gL_errors_L_steamFor rfl rfl rfl (by decide +kernel) ⟨Nat.le_of_ble_eq_true rfl, Nat.le_of_ble_eq_true rfl⟩) hK hG hC hP hD hS hA (List.Perm.refl _) rfl hl.1 rfl (Nat.le_of_ble_eq_true rfl) dL_errors_608 ⟨rfl, rfl⟩ ⟨rfl, rfl⟩ (by omega) (by omega) (fun ov w_48 H locs hQ hP hD hS => ?_)
                            obtain ⟨rfl, hw_48⟩ := hQ
                            refine W.eq (g2 := F0 m 611 ls [.long v_47]) rfl ?_
                            refine lv_ldc2 (v := -9000000000000000002) hx hb hown w_1 dL_errors_611 ?_
                            refine W.lcmp hx hb dL_errors_614 ?_
                            refine lv_if_ne (tgt := 724) hx hb dL_errors_615 (by decide) (fun c_49 => ?_) (fun c_49 => ?_)
                            · have h := it_r c_49 h
                              refine lv_iconst (v := 0) hx hb dL_errors_724 (by decide) ?_
                              cases h
                              exact Cx_zret (B := B9) rfl (by rw [hB9]; exact ⟨rfl, hw_48⟩) (by omega) (by omega) hx hb hr (by decide) (P_l hP) (D_l hD) hS dL_errors_725 hlocks
                            · have h := it_l c_49 h
                              refine lv_aload_n hx hb dL_errors_618 rfl (lv_at hl 0 rfl) ?_
                              refine lv_iconst (v := 1) hx hb dL_errors_619 (by decide) ?_
                              refine lv_bipush (v := 21) hx hb dL_errors_620 (by decide) ?_
                              obtain ⟨v_51, hv_50, h⟩ := bd_l h
                              refine Lo_T (As := [.ref (cA 0), .int 1, .int 21]) (rest := []) (wA := w_48) (wr := []) 7 42 (721) (4596) 997 6270 (co_steamFor l hst D k cA nA tA X_444 w_48 hw_48 1 21 v_51 hv_50) ⟨hx, hb, hml, hown, hts⟩ (vx_cwSW 3 hts gL_errors_L_steamFor rfl rfl rfl (by decide +kernel) ⟨Nat.le_of_ble_eq_true rfl, Nat.le_of_ble_eq_true rfl⟩) hK hG hC hP hD hS hA (List.Perm.refl _) rfl hl.1 rfl (Nat.le_of_ble_eq_true rfl) dL_errors_622 ⟨rfl, rfl⟩ ⟨rfl, rfl⟩ (by omega) (by omega) (fun ov w_52 H locs hQ hP hD hS => ?_)
                              obtain ⟨rfl, hw_52⟩ := hQ
                              refine W.eq (g2 := F0 m 625 ls [.long v_51]) rfl ?_
                              refine lv_ldc2 (v := -9000000000000000002) hx hb hown w_1 dL_errors_625 ?_
                              refine W.lcmp hx hb dL_errors_628 ?_
                              refine lv_if_ne (tgt := 724) hx hb dL_errors_629 (by decide) (fun c_53 => ?_) (fun c_53 => ?_)
                              · have h := it_r c_53 h
                                refine lv_iconst (v := 0) hx hb dL_errors_724 (by decide) ?_
                                cases h
                                exact Cx_zret (B := B9) rfl (by rw [hB9]; exact ⟨rfl, hw_52⟩) (by omega) (by omega) hx hb hr (by decide) (P_l hP) (D_l hD) hS dL_errors_725 hlocks
                              · have h := it_l c_53 h
                                refine lv_aload_n hx hb dL_errors_632 rfl (lv_at hl 0 rfl) ?_
                                refine lv_iconst (v := 4) hx hb dL_errors_633 (by decide) ?_
                                refine lv_lconst (v := 0) hx hb dL_errors_634 (by decide) ?_
                                obtain ⟨v_55, hv_54, h⟩ := bd_l h
                                refine Lo_T (As := [.ref (cA 0), .int 4, .long 0]) (rest := []) (wA := w_52) (wr := []) 7 42 (728) (4638) 997 6270 (co_script l hst D k cA nA tA X_444 w_52 hw_52 4 0 v_55 hv_54) ⟨hx, hb, hml, hown, hts⟩ (vx_cwSW 3 hts gL_errors_L_script rfl rfl rfl (by decide +kernel) ⟨Nat.le_of_ble_eq_true rfl, Nat.le_of_ble_eq_true rfl⟩) hK hG hC hP hD hS hA (List.Perm.refl _) rfl hl.1 rfl (Nat.le_of_ble_eq_true rfl) dL_errors_635 ⟨rfl, rfl⟩ ⟨rfl, rfl⟩ (by omega) (by omega) (fun ov w_56 H locs hQ hP hD hS => ?_)
                                obtain ⟨rfl, hw_56⟩ := hQ
                                refine W.eq (g2 := F0 m 638 ls [.long v_55]) rfl ?_
                                refine lv_ldc2 (v := -9000000000000000002) hx hb hown w_1 dL_errors_638 ?_
                                refine W.lcmp hx hb dL_errors_641 ?_
                                refine lv_if_ne (tgt := 724) hx hb dL_errors_642 (by decide) (fun c_57 => ?_) (fun c_57 => ?_)
                                · have h := it_r c_57 h
                                  refine lv_iconst (v := 0) hx hb dL_errors_724 (by decide) ?_
                                  cases h
                                  exact Cx_zret (B := B9) rfl (by rw [hB9]; exact ⟨rfl, hw_56⟩) (by omega) (by omega) hx hb hr (by decide) (P_l hP) (D_l hD) hS dL_errors_725 hlocks
                                · have h := it_l c_57 h
                                  refine lv_aload_n hx hb dL_errors_645 rfl (lv_at hl 0 rfl) ?_
                                  refine lv_iconst (v := 1) hx hb dL_errors_646 (by decide) ?_
                                  refine lv_ldc2 (v := 100000) hx hb hown w_2 dL_errors_647 ?_
                                  obtain ⟨v_59, hv_58, h⟩ := bd_l h
                                  refine Lo_T (As := [.ref (cA 0), .int 1, .long 100000]) (rest := []) (wA := w_56) (wr := []) 7 42 (735) (4680) 997 6270 (co_script l hst D k cA nA tA X_444 w_56 hw_56 1 100000 v_59 hv_58) ⟨hx, hb, hml, hown, hts⟩ (vx_cwSW 3 hts gL_errors_L_script rfl rfl rfl (by decide +kernel) ⟨Nat.le_of_ble_eq_true rfl, Nat.le_of_ble_eq_true rfl⟩) hK hG hC hP hD hS hA (List.Perm.refl _) rfl hl.1 rfl (Nat.le_of_ble_eq_true rfl) dL_errors_650 ⟨rfl, rfl⟩ ⟨rfl, rfl⟩ (by omega) (by omega) (fun ov w_60 H locs hQ hP hD hS => ?_)
                                  obtain ⟨rfl, hw_60⟩ := hQ
                                  refine W.eq (g2 := F0 m 653 ls [.long v_59]) rfl ?_
                                  refine lv_ldc2 (v := -9000000000000000002) hx hb hown w_1 dL_errors_653 ?_
                                  refine W.lcmp hx hb dL_errors_656 ?_
                                  refine lv_if_ne (tgt := 724) hx hb dL_errors_657 (by decide) (fun c_61 => ?_) (fun c_61 => ?_)
                                  · have h := it_r c_61 h
                                    refine lv_iconst (v := 0) hx hb dL_errors_724 (by decide) ?_
                                    cases h
                                    exact Cx_zret (B := B9) rfl (by rw [hB9]; exact ⟨rfl, hw_60⟩) (by omega) (by omega) hx hb hr (by decide) (P_l hP) (D_l hD) hS dL_errors_725 hlocks
                                  · have h := it_l c_61 h
                                    refine lv_aload_n hx hb dL_errors_660 rfl (lv_at hl 0 rfl) ?_
                                    refine lv_iconst (v := 1) hx hb dL_errors_661 (by decide) ?_
                                    refine lv_ldc2 (v := 90000) hx hb hown w_3 dL_errors_662 ?_
                                    obtain ⟨v_63, hv_62, h⟩ := bd_l h
                                    refine Lo_T (As := [.ref (cA 0), .int 1, .long 90000]) (rest := []) (wA := w_60) (wr := []) 7 42 (742) (4722) 997 6270 (co_script l hst D k cA nA tA X_444 w_60 hw_60 1 90000 v_63 hv_62) ⟨hx, hb, hml, hown, hts⟩ (vx_cwSW 3 hts gL_errors_L_script rfl rfl rfl (by decide +kernel) ⟨Nat.le_of_ble_eq_true rfl, Nat.le_of_ble_eq_true rfl⟩) hK hG hC hP hD hS hA (List.Perm.refl _) rfl hl.1 rfl (Nat.le_of_ble_eq_true rfl) dL_errors_665 ⟨rfl, rfl⟩ ⟨rfl, rfl⟩ (by omega) (by omega) (fun ov w_64 H locs hQ hP hD hS => ?_)
                                    obtain ⟨rfl, hw_64⟩ := hQ
                                    refine W.eq (g2 := F0 m 668 ls [.long v_63]) rfl ?_
                                    refine lv_lconst (v := 0) hx hb dL_errors_668 (by decide) ?_
                                    refine W.lcmp hx hb dL_errors_669 ?_
                                    refine lv_if_ne (tgt := 724) hx hb dL_errors_670 (by decide) (fun c_65 => ?_) (fun c_65 => ?_)
                                    · have h := it_r c_65 h
                                      refine lv_iconst (v := 0) hx hb dL_errors_724 (by decide) ?_
                                      cases h
                                      exact Cx_zret (B := B9) rfl (by rw [hB9]; exact ⟨rfl, hw_64⟩) (by omega) (by omega) hx hb hr (by decide) (P_l hP) (D_l hD) hS dL_errors_725 hlocks
                                    · have h := it_l c_65 h
                                      refine lv_aload_n hx hb dL_errors_673 rfl (lv_at hl 0 rfl) ?_
                                      refine lv_lconst (v := 1) hx hb dL_errors_674 (by decide) ?_
                                      refine lv_bipush (v := 100) hx hb dL_errors_675 (by decide) ?_
                                      obtain ⟨v_67, hv_66, h⟩ := bd_l h
                                      refine Lo_T (As := [.ref (cA 0), .long 1, .int 100]) (rest := []) (wA := w_64) (wr := []) 7 42 (749) (4764) 997 6270 (co_simulate l hst D k cA nA tA X_444 w_64 hw_64 1 100 v_67 hv_66) ⟨hx, hb, hml, hown, hts⟩ (vx_cwSW 3 hts gL_errors_L_simulate rfl rfl rfl (by decide +kernel) ⟨Nat.le_of_ble_eq_true rfl, Nat.le_of_ble_eq_true rfl⟩) hK hG hC hP hD hS hA (List.Perm.refl _) rfl hl.1 rfl (Nat.le_of_ble_eq_true rfl) dL_errors_677 ⟨rfl, rfl⟩ ⟨rfl, rfl⟩ (by omega) (by omega) (fun ov w_68 H locs hQ hP hD hS => ?_)
                                      obtain ⟨rfl, hw_68⟩ := hQ
                                      refine W.eq (g2 := F0 m 680 ls [.long v_67]) rfl ?_
                                      refine lv_ldc2 (v := -9000000000000000002) hx hb hown w_1 dL_errors_680 ?_
                                      refine W.lcmp hx hb dL_errors_683 ?_
                                      refine lv_if_ne (tgt := 724) hx hb dL_errors_684 (by decide) (fun c_69 => ?_) (fun c_69 => ?_)
                                      · have h := it_r c_69 h
                                        refine lv_iconst (v := 0) hx hb dL_errors_724 (by decide) ?_
                                        cases h
                                        exact Cx_zret (B := B9) rfl (by rw [hB9]; exact ⟨rfl, hw_68⟩) (by omega) (by omega) hx hb hr (by decide) (P_l hP) (D_l hD) hS dL_errors_725 hlocks
                                      · have h := it_l c_69 h
                                        refine lv_aload_n hx hb dL_errors_687 rfl (lv_at hl 0 rfl) ?_
                                        refine lv_iconst (v := 2) hx hb dL_errors_688 (by decide) ?_
                                        obtain ⟨⟨v_71, X_73⟩, hv_70, h⟩ := bd_l h
                                        refine Lo_T (As := [.ref (cA 0), .int 2]) (rest := []) (wA := w_68) (wr := []) 12 81 (761) (4845) 997 6270 (co_save l hst D k cA nA tA X_444 w_68 hw_68 2 (v_71, X_73) hv_70) ⟨hx, hb, hml, hown, hts⟩ (vx_cwSW 2 hts gL_errors_L_save rfl rfl rfl (by decide +kernel) ⟨Nat.le_of_ble_eq_true rfl, Nat.le_of_ble_eq_true rfl⟩) hK hG hC hP hD hS hA (List.Perm.refl _) rfl hl.1 rfl (Nat.le_of_ble_eq_true rfl) dL_errors_689 ⟨rfl, rfl⟩ ⟨rfl, rfl⟩ (by omega) (by omega) (fun ov w_72 H locs hQ hP hD hS => ?_)
                                        obtain ⟨rfl, hw_72⟩ := hQ
                                        refine W.eq (g2 := F0 m 692 ls [.long v_71]) rfl ?_
                                        refine lv_ldc2 (v := -9000000000000000001) hx hb hown w_0 dL_errors_692 ?_
                                        refine W.lcmp hx hb dL_errors_695 ?_
                                        refine lv_if_ne (tgt := 724) hx hb dL_errors_696 (by decide) (fun c_74 => ?_) (fun c_74 => ?_)
                                        · have h := it_r c_74 h
                                          refine lv_iconst (v := 0) hx hb dL_errors_724 (by decide) ?_
                                          cases h
                                          exact Cx_zret (B := B9) rfl (by rw [hB9]; exact ⟨rfl, hw_72⟩) (by omega) (by omega) hx hb hr (by decide) (P_l hP) (D_l hD) hS dL_errors_725 hlocks
                                        · have h := it_l c_74 h
                                          refine lv_aload_n hx hb dL_errors_699 rfl (lv_at hl 0 rfl) ?_
                                          refine lv_iconst (v := (-1)) hx hb dL_errors_700 (by decide) ?_
                                          obtain ⟨⟨v_76, X_78⟩, hv_75, h⟩ := bd_l h
                                          refine Lo_T (As := [.ref (cA 0), .int (-1)]) (rest := []) (wA := w_72) (wr := []) 12 81 (773) (4926) 997 6270 (co_restore l hst D k cA nA tA X_73 w_72 hw_72 (-1) (v_76, X_78) hv_75) ⟨hx, hb, hml, hown, hts⟩ (vx_cwSW 2 hts gL_errors_L_restore rfl rfl rfl (by decide +kernel) ⟨Nat.le_of_ble_eq_true rfl, Nat.le_of_ble_eq_true rfl⟩) hK hG hC hP hD hS hA (List.Perm.refl _) rfl hl.1 rfl (Nat.le_of_ble_eq_true rfl) dL_errors_701 ⟨rfl, rfl⟩ ⟨rfl, rfl⟩ (by omega) (by omega) (fun ov w_77 H locs hQ hP hD hS => ?_)
                                          obtain ⟨rfl, hw_77⟩ := hQ
                                          refine W.eq (g2 := F0 m 704 ls [.long v_76]) rfl ?_
                                          refine lv_ldc2 (v := -9000000000000000001) hx hb hown w_0 dL_errors_704 ?_
                                          refine W.lcmp hx hb dL_errors_707 ?_
                                          refine lv_if_ne (tgt := 724) hx hb dL_errors_708 (by decide) (fun c_79 => ?_) (fun c_79 => ?_)
                                          · have h := it_r c_79 h
                                            refine lv_iconst (v := 0) hx hb dL_errors_724 (by decide) ?_
                                            cases h
                                            exact Cx_zret (B := B9) rfl (by rw [hB9]; exact ⟨rfl, hw_77⟩) (by omega) (by omega) hx hb hr (by decide) (P_l hP) (D_l hD) hS dL_errors_725 hlocks
                                          · have h := it_l c_79 h
                                            refine lv_aload_n hx hb dL_errors_711 rfl (lv_at hl 0 rfl) ?_
                                            obtain ⟨v_81, hv_80, h⟩ := bd_l h
                                            refine Lo_S (As := [.ref (cA 0)]) (rest := []) (wA := w_77) (wr := []) 224 1344 (997) (6270) 997 6270 (c_L_now l hst D k cA nA tA X_78 w_77 hw_77 v_81 hv_80) ⟨hx, hb, hml, hown, hts⟩ (va_cwS 1 hts gL_errors_L_now rfl rfl rfl (by decide +kernel) ⟨Nat.le_of_ble_eq_true rfl, Nat.le_of_ble_eq_true rfl⟩) hK hG hC hP hD hS hA (List.Perm.refl _) rfl hl.1 rfl (Nat.le_of_ble_eq_true rfl) dL_errors_712 ⟨rfl, rfl⟩ ⟨rfl, rfl⟩ (by omega) (by omega) (fun ov w_82 H locs hQ hP hD hS => ?_)
                                            obtain ⟨rfl, hw_82⟩ := hQ
                                            refine W.eq (g2 := F0 m 715 ls [.long v_81]) rfl ?_
                                            refine lv_lload_n hx hb dL_errors_715 rfl (lv_at hl 1 rfl) ?_
                                            refine W.lcmp hx hb dL_errors_716 ?_
                                            refine lv_if_ne (tgt := 724) hx hb dL_errors_717 (by decide) (fun c_83 => ?_) (fun c_83 => ?_)
                                            · have h := it_r c_83 h
                                              refine lv_iconst (v := 0) hx hb dL_errors_724 (by decide) ?_
                                              cases h
                                              exact Cx_zret (B := B9) rfl (by rw [hB9]; exact ⟨rfl, hw_82⟩) (by omega) (by omega) hx hb hr (by decide) (P_l hP) (D_l hD) hS dL_errors_725 hlocks
                                            · have h := it_l c_83 h
                                              refine lv_iconst (v := 1) hx hb dL_errors_720 (by decide) ?_
                                              refine lv_goto (tgt := 725) hx hb dL_errors_721 (by decide) ?_
                                              cases h
                                              exact Cx_zret (B := B9) rfl (by rw [hB9]; exact ⟨rfl, hw_82⟩) (by omega) (by omega) hx hb hr (by decide) (P_l hP) (D_l hD) hS dL_errors_725 hlocks
  have hC_342 : ∀ (fu_342 : Nat) (x1_342 : Int64) (x3_342 : Int32) (x4_342 : Int32) (x5_342 : Int32) (X_342 : XV) (w_342 : va_W) (H : Heap) (locs : List Loc) (ls : Array Slot), fu_342 ≤ 7 → Ob k cA nA tA X_342 w_342 → va_P D vwCl (w_342 ++ []) H → va_D A (w_342 ++ []) → va_S A s.heap H locs → lv_has ls 6 [(0, .ref (cA 0)), (1, .long x1_342), (3, .int x3_342), (4, .int x4_342), (5, .int x5_342)] → f_L_errors_342 fu_342 x1_342 x3_342 x4_342 x5_342 X_342 = some o → W p l e ({ frames := 14, cells := 997, slots := 6270, locals := 749 } : Room) s m args below meth c H locs ((584 - 20 * fu_342)) ((3711 - 129 * fu_342)) (vx_MQ below (Qx D A (.inr B9)) (Xx D A (w) (.inr B9)) args s 997 6270 A) (F0 m 342 ls []) := by
    intro fu_342
    induction fu_342 with
    | zero => intro x1_342 x3_342 x4_342 x5_342 X_342 w_342 H locs ls _ _ _ _ _ _ h; exact (no_l h).elim
    | succ fu_342 ih_342 =>
      intro x1_342 x3_342 x4_342 x5_342 X_342 w_342 H locs ls hfu_342 hw_342 hP hD hS hl h
      rw [f_L_errors_342] at h
      refine lv_iload hx hb dL_errors_342 (lv_at hl 4 rfl) ?_
      refine lv_iload_n hx hb dL_errors_344 rfl (lv_at hl 2 rfl) ?_
      refine lv_icmp_ge (tgt := 444) hx hb dL_errors_345 (by decide) (fun c_84 => ?_) (fun c_84 => ?_)
      · have h := it_l c_84 h
        refine W.widen (k := 604) (n := 3840) (by omega) (by omega) ?_
        exact hC_444 x1_342 x3_342 x4_342 X_342 w_342 _ _ _ hw_342 hP hD hS (lv_sub hl [0, 1, 2, 3] rfl) h
      · have h := it_r c_84 h
        refine lv_iload hx hb dL_errors_348 (lv_at hl 3 rfl) ?_
        refine lv_if_eq (tgt := 444) hx hb dL_errors_350 (by decide) (fun c_85 => ?_) (fun c_85 => ?_)
        · have h := it_l c_85 h
          refine W.widen (k := 604) (n := 3840) (by omega) (by omega) ?_
          exact hC_444 x1_342 x3_342 x4_342 X_342 w_342 _ _ _ hw_342 hP hD hS (lv_sub hl [0, 1, 2, 3] rfl) h
        · have h := it_r c_85 h
          refine lv_aload_n hx hb dL_errors_353 rfl (lv_at hl 0 rfl) ?_
          refine lv_iload hx hb dL_errors_354 (lv_at hl 4 rfl) ?_
          refine lv_bipush (v := 7) hx hb dL_errors_356 (by decide) ?_
          obtain ⟨v_87, hv_86, h⟩ := bd_l h
          refine Lo_T (As := [.ref (cA 0), .int x5_342, .int 7]) (rest := []) (wA := w_342) (wr := []) 2 12 ((584 - 20 * (fu_342 + 1)) + 2) ((3711 - 129 * (fu_342 + 1)) + 12) 997 6270 (co_effect l hst D k cA nA tA X_342 w_342 hw_342 x5_342 7 v_87 hv_86) ⟨hx, hb, hml, hown, hts⟩ (vx_cwSW 3 hts gL_errors_L_effect rfl rfl rfl (by decide +kernel) ⟨Nat.le_of_ble_eq_true rfl, Nat.le_of_ble_eq_true rfl⟩) hK hG hC hP hD hS hA (List.Perm.refl _) rfl hl.1 rfl (Nat.le_of_ble_eq_true rfl) dL_errors_358 ⟨rfl, rfl⟩ ⟨rfl, rfl⟩ (by omega) (by omega) (fun ov w_88 H locs hQ hP hD hS => ?_)
          obtain ⟨rfl, hw_88⟩ := hQ
          refine W.eq (g2 := F0 m 361 ls [.long v_87]) rfl ?_
          refine lv_lconst (v := 0) hx hb dL_errors_361 (by decide) ?_
          refine W.lcmp hx hb dL_errors_362 ?_
          refine lv_if_le (tgt := 403) hx hb dL_errors_363 (by decide) (fun c_89 => ?_) (fun c_89 => ?_)
          · have h := it_l c_89 h
            refine lv_aload_n hx hb dL_errors_403 rfl (lv_at hl 0 rfl) ?_
            refine lv_iload hx hb dL_errors_404 (lv_at hl 4 rfl) ?_
            obtain ⟨⟨v_91, X_93⟩, hv_90, h⟩ := bd_l h
            refine Lo_T (As := [.ref (cA 0), .int x5_342]) (rest := []) (wA := w_88) (wr := []) 12 81 ((584 - 20 * (fu_342 + 1)) + 14) ((3711 - 129 * (fu_342 + 1)) + 93) 997 6270 (co_endWash l hst D k cA nA tA X_342 w_88 hw_88 x5_342 (v_91, X_93) hv_90) ⟨hx, hb, hml, hown, hts⟩ (vx_cwSW 2 hts gL_errors_L_endWash rfl rfl rfl (by decide +kernel) ⟨Nat.le_of_ble_eq_true rfl, Nat.le_of_ble_eq_true rfl⟩) hK hG hC hP hD hS hA (List.Perm.refl _) rfl hl.1 rfl (Nat.le_of_ble_eq_true rfl) dL_errors_406 ⟨rfl, rfl⟩ ⟨rfl, rfl⟩ (by omega) (by omega) (fun ov w_92 H locs hQ hP hD hS => ?_)
            obtain ⟨rfl, hw_92⟩ := hQ
            refine W.eq (g2 := F0 m 409 ls [.long v_91]) rfl ?_
            refine lv_ldc2 (v := -9000000000000000003) hx hb hown w_4 dL_errors_409 ?_
            refine W.lcmp hx hb dL_errors_412 ?_
            refine lv_if_ne (tgt := 435) hx hb dL_errors_413 (by decide) (fun c_94 => ?_) (fun c_94 => ?_)
            · have h := it_r c_94 h
              refine lv_iconst (v := 0) hx hb dL_errors_435 (by decide) ?_
              refine lv_istore (lv' := [(4, .int 0), (0, .ref (cA 0)), (1, .long x1_342), (3, .int x3_342), (5, .int x5_342)]) hx hb dL_errors_436 hl (by decide) rfl (fun ls hl => ?_)
              refine lv_iinc (v := (x5_342 + 1)) (lv' := [(5, .int (x5_342 + 1)), (4, .int 0), (0, .ref (cA 0)), (1, .long x1_342), (3, .int x3_342)]) hx hb dL_errors_438 hl (k := 4) rfl rfl (by decide) rfl (fun ls hl => ?_)
              refine lv_goto (tgt := 342) hx hb dL_errors_441 (by decide) ?_
              refine W.widen (k := (584 - 20 * fu_342)) (n := (3711 - 129 * fu_342)) (by omega) (by omega) ?_
              exact ih_342 x1_342 x3_342 0 (x5_342 + 1) X_93 w_92 _ _ _ (by omega) hw_92 hP hD hS (lv_sub hl [2, 3, 4, 1, 0] rfl) h
            · have h := it_l c_94 h
              refine lv_aload_n hx hb dL_errors_416 rfl (lv_at hl 0 rfl) ?_
              refine lv_iload hx hb dL_errors_417 (lv_at hl 4 rfl) ?_
              refine lv_iconst (v := 0) hx hb dL_errors_419 (by decide) ?_
              refine lv_iconst (v := 5) hx hb dL_errors_420 (by decide) ?_
              obtain ⟨v_96, hv_95, h⟩ := bd_l h
              refine Lo_T (As := [.ref (cA 0), .int x5_342, .int 0, .int 5]) (rest := []) (wA := w_92) (wr := []) 4 24 ((584 - 20 * (fu_342 + 1)) + 18) ((3711 - 129 * (fu_342 + 1)) + 117) 997 6270 (co_washGain l hst D k cA nA tA X_93 w_92 hw_92 x5_342 0 5 v_96 hv_95) ⟨hx, hb, hml, hown, hts⟩ (vx_cwSW 4 hts gL_errors_L_washGain rfl rfl rfl (by decide +kernel) ⟨Nat.le_of_ble_eq_true rfl, Nat.le_of_ble_eq_true rfl⟩) hK hG hC hP hD hS hA (List.Perm.refl _) rfl hl.1 rfl (Nat.le_of_ble_eq_true rfl) dL_errors_421 ⟨rfl, rfl⟩ ⟨rfl, rfl⟩ (by omega) (by omega) (fun ov w_97 H locs hQ hP hD hS => ?_)
              obtain ⟨rfl, hw_97⟩ := hQ
              refine W.eq (g2 := F0 m 424 ls [.long v_96]) rfl ?_
              refine lv_ldc2 (v := -9000000000000000002) hx hb hown w_1 dL_errors_424 ?_
              refine W.lcmp hx hb dL_errors_427 ?_
              refine lv_if_ne (tgt := 435) hx hb dL_errors_428 (by decide) (fun c_98 => ?_) (fun c_98 => ?_)
              · have h := it_r c_98 h
                refine lv_iconst (v := 0) hx hb dL_errors_435 (by decide) ?_
                refine lv_istore (lv' := [(4, .int 0), (0, .ref (cA 0)), (1, .long x1_342), (3, .int x3_342), (5, .int x5_342)]) hx hb dL_errors_436 hl (by decide) rfl (fun ls hl => ?_)
                refine lv_iinc (v := (x5_342 + 1)) (lv' := [(5, .int (x5_342 + 1)), (4, .int 0), (0, .ref (cA 0)), (1, .long x1_342), (3, .int x3_342)]) hx hb dL_errors_438 hl (k := 4) rfl rfl (by decide) rfl (fun ls hl => ?_)
                refine lv_goto (tgt := 342) hx hb dL_errors_441 (by decide) ?_
                refine W.widen (k := (584 - 20 * fu_342)) (n := (3711 - 129 * fu_342)) (by omega) (by omega) ?_
                exact ih_342 x1_342 x3_342 0 (x5_342 + 1) X_93 w_97 _ _ _ (by omega) hw_97 hP hD hS (lv_sub hl [2, 3, 4, 1, 0] rfl) h
              · have h := it_l c_98 h
                refine lv_iconst (v := 1) hx hb dL_errors_431 (by decide) ?_
                refine lv_goto (tgt := 436) hx hb dL_errors_432 (by decide) ?_
                refine lv_istore (lv' := [(4, .int 1), (0, .ref (cA 0)), (1, .long x1_342), (3, .int x3_342), (5, .int x5_342)]) hx hb dL_errors_436 hl (by decide) rfl (fun ls hl => ?_)
                refine lv_iinc (v := (x5_342 + 1)) (lv' := [(5, .int (x5_342 + 1)), (4, .int 1), (0, .ref (cA 0)), (1, .long x1_342), (3, .int x3_342)]) hx hb dL_errors_438 hl (k := 4) rfl rfl (by decide) rfl (fun ls hl => ?_)
                refine lv_goto (tgt := 342) hx hb dL_errors_441 (by decide) ?_
                refine W.widen (k := (584 - 20 * fu_342)) (n := (3711 - 129 * fu_342)) (by omega) (by omega) ?_
                exact ih_342 x1_342 x3_342 1 (x5_342 + 1) X_93 w_97 _ _ _ (by omega) hw_97 hP hD hS (lv_sub hl [2, 3, 4, 1, 0] rfl) h
          · have h := it_r c_89 h
            refine lv_aload_n hx hb dL_errors_366 rfl (lv_at hl 0 rfl) ?_
            refine lv_iload hx hb dL_errors_367 (lv_at hl 4 rfl) ?_
            refine lv_iconst (v := 5) hx hb dL_errors_369 (by decide) ?_
            obtain ⟨⟨v_100, X_102⟩, hv_99, h⟩ := bd_l h
            refine Lo_T (As := [.ref (cA 0), .int x5_342, .int 5]) (rest := []) (wA := w_88) (wr := []) 14 93 ((584 - 20 * (fu_342 + 1)) + 16) ((3711 - 129 * (fu_342 + 1)) + 105) 997 6270 (co_wash l hst D k cA nA tA X_342 w_88 hw_88 x5_342 5 (v_100, X_102) hv_99) ⟨hx, hb, hml, hown, hts⟩ (vx_cwSW 3 hts gL_errors_L_wash rfl rfl rfl (by decide +kernel) ⟨Nat.le_of_ble_eq_true rfl, Nat.le_of_ble_eq_true rfl⟩) hK hG hC hP hD hS hA (List.Perm.refl _) rfl hl.1 rfl (Nat.le_of_ble_eq_true rfl) dL_errors_370 ⟨rfl, rfl⟩ ⟨rfl, rfl⟩ (by omega) (by omega) (fun ov w_101 H locs hQ hP hD hS => ?_)
            obtain ⟨rfl, hw_101⟩ := hQ
            refine W.eq (g2 := F0 m 373 ls [.long v_100]) rfl ?_
            refine lv_ldc2 (v := -9000000000000000003) hx hb hown w_4 dL_errors_373 ?_
            refine W.lcmp hx hb dL_errors_376 ?_
            refine lv_if_ne (tgt := 399) hx hb dL_errors_377 (by decide) (fun c_103 => ?_) (fun c_103 => ?_)
            · have h := it_r c_103 h
              refine lv_iconst (v := 0) hx hb dL_errors_399 (by decide) ?_
              refine lv_goto (tgt := 436) hx hb dL_errors_400 (by decide) ?_
              refine lv_istore (lv' := [(4, .int 0), (0, .ref (cA 0)), (1, .long x1_342), (3, .int x3_342), (5, .int x5_342)]) hx hb dL_errors_436 hl (by decide) rfl (fun ls hl => ?_)
              refine lv_iinc (v := (x5_342 + 1)) (lv' := [(5, .int (x5_342 + 1)), (4, .int 0), (0, .ref (cA 0)), (1, .long x1_342), (3, .int x3_342)]) hx hb dL_errors_438 hl (k := 4) rfl rfl (by decide) rfl (fun ls hl => ?_)
              refine lv_goto (tgt := 342) hx hb dL_errors_441 (by decide) ?_
              refine W.widen (k := (584 - 20 * fu_342)) (n := (3711 - 129 * fu_342)) (by omega) (by omega) ?_
              exact ih_342 x1_342 x3_342 0 (x5_342 + 1) X_102 w_101 _ _ _ (by omega) hw_101 hP hD hS (lv_sub hl [2, 3, 4, 1, 0] rfl) h
            · have h := it_l c_103 h
              refine lv_aload_n hx hb dL_errors_380 rfl (lv_at hl 0 rfl) ?_
              refine lv_iload hx hb dL_errors_381 (lv_at hl 4 rfl) ?_
              refine lv_iconst (v := 5) hx hb dL_errors_383 (by decide) ?_
              refine lv_iconst (v := 5) hx hb dL_errors_384 (by decide) ?_
              obtain ⟨v_105, hv_104, h⟩ := bd_l h
              refine Lo_T (As := [.ref (cA 0), .int x5_342, .int 5, .int 5]) (rest := []) (wA := w_101) (wr := []) 4 24 ((584 - 20 * (fu_342 + 1)) + 20) ((3711 - 129 * (fu_342 + 1)) + 129) 997 6270 (co_washGain l hst D k cA nA tA X_102 w_101 hw_101 x5_342 5 5 v_105 hv_104) ⟨hx, hb, hml, hown, hts⟩ (vx_cwSW 4 hts gL_errors_L_washGain rfl rfl rfl (by decide +kernel) ⟨Nat.le_of_ble_eq_true rfl, Nat.le_of_ble_eq_true rfl⟩) hK hG hC hP hD hS hA (List.Perm.refl _) rfl hl.1 rfl (Nat.le_of_ble_eq_true rfl) dL_errors_385 ⟨rfl, rfl⟩ ⟨rfl, rfl⟩ (by omega) (by omega) (fun ov w_106 H locs hQ hP hD hS => ?_)
              obtain ⟨rfl, hw_106⟩ := hQ
              refine W.eq (g2 := F0 m 388 ls [.long v_105]) rfl ?_
              refine lv_ldc2 (v := -9000000000000000003) hx hb hown w_4 dL_errors_388 ?_
              refine W.lcmp hx hb dL_errors_391 ?_
              refine lv_if_ne (tgt := 399) hx hb dL_errors_392 (by decide) (fun c_107 => ?_) (fun c_107 => ?_)
              · have h := it_r c_107 h
                refine lv_iconst (v := 0) hx hb dL_errors_399 (by decide) ?_
                refine lv_goto (tgt := 436) hx hb dL_errors_400 (by decide) ?_
                refine lv_istore (lv' := [(4, .int 0), (0, .ref (cA 0)), (1, .long x1_342), (3, .int x3_342), (5, .int x5_342)]) hx hb dL_errors_436 hl (by decide) rfl (fun ls hl => ?_)
                refine lv_iinc (v := (x5_342 + 1)) (lv' := [(5, .int (x5_342 + 1)), (4, .int 0), (0, .ref (cA 0)), (1, .long x1_342), (3, .int x3_342)]) hx hb dL_errors_438 hl (k := 4) rfl rfl (by decide) rfl (fun ls hl => ?_)
                refine lv_goto (tgt := 342) hx hb dL_errors_441 (by decide) ?_
                refine W.widen (k := (584 - 20 * fu_342)) (n := (3711 - 129 * fu_342)) (by omega) (by omega) ?_
                exact ih_342 x1_342 x3_342 0 (x5_342 + 1) X_102 w_106 _ _ _ (by omega) hw_106 hP hD hS (lv_sub hl [2, 3, 4, 1, 0] rfl) h
              · have h := it_l c_107 h
                refine lv_iconst (v := 1) hx hb dL_errors_395 (by decide) ?_
                refine lv_goto (tgt := 436) hx hb dL_errors_396 (by decide) ?_
                refine lv_istore (lv' := [(4, .int 1), (0, .ref (cA 0)), (1, .long x1_342), (3, .int x3_342), (5, .int x5_342)]) hx hb dL_errors_436 hl (by decide) rfl (fun ls hl => ?_)
                refine lv_iinc (v := (x5_342 + 1)) (lv' := [(5, .int (x5_342 + 1)), (4, .int 1), (0, .ref (cA 0)), (1, .long x1_342), (3, .int x3_342)]) hx hb dL_errors_438 hl (k := 4) rfl rfl (by decide) rfl (fun ls hl => ?_)
                refine lv_goto (tgt := 342) hx hb dL_errors_441 (by decide) ?_
                refine W.widen (k := (584 - 20 * fu_342)) (n := (3711 - 129 * fu_342)) (by omega) (by omega) ?_
                exact ih_342 x1_342 x3_342 1 (x5_342 + 1) X_102 w_106 _ _ _ (by omega) hw_106 hP hD hS (lv_sub hl [2, 3, 4, 1, 0] rfl) h
  refine lv_aload_n hx hb dL_errors_0 rfl (lv_at hl 0 rfl) ?_
  obtain ⟨v_109, hv_108, h⟩ := bd_l h
  refine Lo_S (As := [.ref (cA 0)]) (rest := []) (wA := w) (wr := []) 224 1344 (224) (1344) 997 6270 (c_L_now l hst D k cA nA tA X w hw v_109 hv_108) ⟨hx, hb, hml, hown, hts⟩ (va_cwS 1 hts gL_errors_L_now rfl rfl rfl (by decide +kernel) ⟨Nat.le_of_ble_eq_true rfl, Nat.le_of_ble_eq_true rfl⟩) hK hG hC hP hD hS hA (List.Perm.refl _) rfl hl.1 rfl (Nat.le_of_ble_eq_true rfl) dL_errors_1 ⟨rfl, rfl⟩ ⟨rfl, rfl⟩ (by omega) (by omega) (fun ov w_110 H locs hQ hP hD hS => ?_)
  obtain ⟨rfl, hw_110⟩ := hQ
  refine W.eq (g2 := F0 m 4 ls [.long v_109]) rfl ?_
  refine lv_lstore_n (lv' := [(1, .long v_109), (0, .ref (cA 0))]) hx hb dL_errors_4 rfl hl (by decide) rfl (fun ls hl => ?_)
  refine lv_aload_n hx hb dL_errors_5 rfl (lv_at hl 1 rfl) ?_
  obtain ⟨v_112, hv_111, h⟩ := bd_l h
  refine Lo_S (As := [.ref (cA 0)]) (rest := []) (wA := w_110) (wr := []) 1 6 (225) (1350) 997 6270 (c_L_effects l hst D k cA nA tA X w_110 hw_110 v_112 hv_111) ⟨hx, hb, hml, hown, hts⟩ (va_cwS 1 hts gL_errors_L_effects rfl rfl rfl (by decide +kernel) ⟨Nat.le_of_ble_eq_true rfl, Nat.le_of_ble_eq_true rfl⟩) hK hG hC hP hD hS hA (List.Perm.refl _) rfl hl.1 rfl (Nat.le_of_ble_eq_true rfl) dL_errors_6 ⟨rfl, rfl⟩ ⟨rfl, rfl⟩ (by omega) (by omega) (fun ov w_113 H locs hQ hP hD hS => ?_)
  obtain ⟨rfl, hw_113⟩ := hQ
  refine W.eq (g2 := F0 m 9 ls [.int v_112]) rfl ?_
  refine lv_istore_n (lv' := [(3, .int v_112), (1, .long v_109), (0, .ref (cA 0))]) hx hb dL_errors_9 rfl hl (by decide) rfl (fun ls hl => ?_)
  refine lv_aload_n hx hb dL_errors_10 rfl (lv_at hl 2 rfl) ?_
  refine lv_iconst (v := (-1)) hx hb dL_errors_11 (by decide) ?_
  obtain ⟨⟨v_115, X_117⟩, hv_114, h⟩ := bd_l h
  refine Lo_T (As := [.ref (cA 0), .int (-1)]) (rest := []) (wA := w_113) (wr := []) 2 12 (227) (1362) 997 6270 (co_append l hst D k cA nA tA X w_113 hw_113 (-1) (v_115, X_117) hv_114) ⟨hx, hb, hml, hown, hts⟩ (vx_cwSW 2 hts gL_errors_L_append rfl rfl rfl (by decide +kernel) ⟨Nat.le_of_ble_eq_true rfl, Nat.le_of_ble_eq_true rfl⟩) hK hG hC hP hD hS hA (List.Perm.refl _) rfl hl.1 rfl (Nat.le_of_ble_eq_true rfl) dL_errors_12 ⟨rfl, rfl⟩ ⟨rfl, rfl⟩ (by omega) (by omega) (fun ov w_116 H locs hQ hP hD hS => ?_)
  obtain ⟨rfl, hw_116⟩ := hQ
  refine W.eq (g2 := F0 m 15 ls [.long v_115]) rfl ?_
  refine lv_ldc2 (v := -9000000000000000002) hx hb hown w_1 dL_errors_15 ?_
  refine W.lcmp hx hb dL_errors_18 ?_
  refine lv_if_ne (tgt := 336) hx hb dL_errors_19 (by decide) (fun c_118 => ?_) (fun c_118 => ?_)
  · have h := it_r c_118 h
    refine lv_iconst (v := 0) hx hb dL_errors_336 (by decide) ?_
    refine lv_istore (lv' := [(4, .int 0), (3, .int v_112), (1, .long v_109), (0, .ref (cA 0))]) hx hb dL_errors_337 hl (by decide) rfl (fun ls hl => ?_)
    refine lv_iconst (v := 0) hx hb dL_errors_339 (by decide) ?_
    refine lv_istore (lv' := [(5, .int 0), (4, .int 0), (3, .int v_112), (1, .long v_109), (0, .ref (cA 0))]) hx hb dL_errors_340 hl (by decide) rfl (fun ls hl => ?_)
    refine W.widen (k := (584 - 20 * 7)) (n := (3711 - 129 * 7)) (by omega) (by omega) ?_
    exact hC_342 7 v_109 v_112 0 0 X_117 w_116 _ _ _ (Nat.le_refl _) hw_116 hP hD hS (lv_sub hl [4, 3, 2, 1, 0] rfl) h
  · have h := it_l c_118 h
    refine lv_aload_n hx hb dL_errors_22 rfl (lv_at hl 2 rfl) ?_
    refine lv_sipush (v := 256) hx hb dL_errors_23 (by decide) ?_
    obtain ⟨⟨v_120, X_122⟩, hv_119, h⟩ := bd_l h
    refine Lo_T (As := [.ref (cA 0), .int 256]) (rest := []) (wA := w_116) (wr := []) 2 12 (229) (1374) 997 6270 (co_append l hst D k cA nA tA X_117 w_116 hw_116 256 (v_120, X_122) hv_119) ⟨hx, hb, hml, hown, hts⟩ (vx_cwSW 2 hts gL_errors_L_append rfl rfl rfl (by decide +kernel) ⟨Nat.le_of_ble_eq_true rfl, Nat.le_of_ble_eq_true rfl⟩) hK hG hC hP hD hS hA (List.Perm.refl _) rfl hl.1 rfl (Nat.le_of_ble_eq_true rfl) dL_errors_26 ⟨rfl, rfl⟩ ⟨rfl, rfl⟩ (by omega) (by omega) (fun ov w_121 H locs hQ hP hD hS => ?_)
    obtain ⟨rfl, hw_121⟩ := hQ
    refine W.eq (g2 := F0 m 29 ls [.long v_120]) rfl ?_
    refine lv_ldc2 (v := -9000000000000000002) hx hb hown w_1 dL_errors_29 ?_
    refine W.lcmp hx hb dL_errors_32 ?_
    refine lv_if_ne (tgt := 336) hx hb dL_errors_33 (by decide) (fun c_123 => ?_) (fun c_123 => ?_)
    · have h := it_r c_123 h
      refine lv_iconst (v := 0) hx hb dL_errors_336 (by decide) ?_
      refine lv_istore (lv' := [(4, .int 0), (3, .int v_112), (1, .long v_109), (0, .ref (cA 0))]) hx hb dL_errors_337 hl (by decide) rfl (fun ls hl => ?_)
      refine lv_iconst (v := 0) hx hb dL_errors_339 (by decide) ?_
      refine lv_istore (lv' := [(5, .int 0), (4, .int 0), (3, .int v_112), (1, .long v_109), (0, .ref (cA 0))]) hx hb dL_errors_340 hl (by decide) rfl (fun ls hl => ?_)
      refine W.widen (k := (584 - 20 * 7)) (n := (3711 - 129 * 7)) (by omega) (by omega) ?_
      exact hC_342 7 v_109 v_112 0 0 X_122 w_121 _ _ _ (Nat.le_refl _) hw_121 hP hD hS (lv_sub hl [4, 3, 2, 1, 0] rfl) h
    · have h := it_l c_123 h
      refine lv_aload_n hx hb dL_errors_36 rfl (lv_at hl 2 rfl) ?_
      refine lv_bipush (v := 10) hx hb dL_errors_37 (by decide) ?_
      obtain ⟨v_125, hv_124, h⟩ := bd_l h
      refine Lo_T (As := [.ref (cA 0), .int 10]) (rest := []) (wA := w_121) (wr := []) 1 6 (230) (1380) 997 6270 (co_about l hst D k cA nA tA X_122 w_121 hw_121 10 v_125 hv_124) ⟨hx, hb, hml, hown, hts⟩ (vx_cwSW 2 hts gL_errors_L_about rfl rfl rfl (by decide +kernel) ⟨Nat.le_of_ble_eq_true rfl, Nat.le_of_ble_eq_true rfl⟩) hK hG hC hP hD hS hA (List.Perm.refl _) rfl hl.1 rfl (Nat.le_of_ble_eq_true rfl) dL_errors_39 ⟨rfl, rfl⟩ ⟨rfl, rfl⟩ (by omega) (by omega) (fun ov w_126 H locs hQ hP hD hS => ?_)
      obtain ⟨rfl, hw_126⟩ := hQ
      refine W.eq (g2 := F0 m 42 ls [.long v_125]) rfl ?_
      refine lv_ldc2 (v := -9000000000000000002) hx hb hown w_1 dL_errors_42 ?_
      refine W.lcmp hx hb dL_errors_45 ?_
      refine lv_if_ne (tgt := 336) hx hb dL_errors_46 (by decide) (fun c_127 => ?_) (fun c_127 => ?_)
      · have h := it_r c_127 h
        refine lv_iconst (v := 0) hx hb dL_errors_336 (by decide) ?_
        refine lv_istore (lv' := [(4, .int 0), (3, .int v_112), (1, .long v_109), (0, .ref (cA 0))]) hx hb dL_errors_337 hl (by decide) rfl (fun ls hl => ?_)
        refine lv_iconst (v := 0) hx hb dL_errors_339 (by decide) ?_
        refine lv_istore (lv' := [(5, .int 0), (4, .int 0), (3, .int v_112), (1, .long v_109), (0, .ref (cA 0))]) hx hb dL_errors_340 hl (by decide) rfl (fun ls hl => ?_)
        refine W.widen (k := (584 - 20 * 7)) (n := (3711 - 129 * 7)) (by omega) (by omega) ?_
        exact hC_342 7 v_109 v_112 0 0 X_122 w_126 _ _ _ (Nat.le_refl _) hw_126 hP hD hS (lv_sub hl [4, 3, 2, 1, 0] rfl) h
      · have h := it_l c_127 h
        refine lv_aload_n hx hb dL_errors_49 rfl (lv_at hl 2 rfl) ?_
        refine lv_bipush (v := 10) hx hb dL_errors_50 (by decide) ?_
        obtain ⟨v_129, hv_128, h⟩ := bd_l h
        refine Lo_T (As := [.ref (cA 0), .int 10]) (rest := []) (wA := w_126) (wr := []) 1 6 (231) (1386) 997 6270 (co_total l hst D k cA nA tA X_122 w_126 hw_126 10 v_129 hv_128) ⟨hx, hb, hml, hown, hts⟩ (vx_cwSW 2 hts gL_errors_L_total rfl rfl rfl (by decide +kernel) ⟨Nat.le_of_ble_eq_true rfl, Nat.le_of_ble_eq_true rfl⟩) hK hG hC hP hD hS hA (List.Perm.refl _) rfl hl.1 rfl (Nat.le_of_ble_eq_true rfl) dL_errors_52 ⟨rfl, rfl⟩ ⟨rfl, rfl⟩ (by omega) (by omega) (fun ov w_130 H locs hQ hP hD hS => ?_)
        obtain ⟨rfl, hw_130⟩ := hQ
        refine W.eq (g2 := F0 m 55 ls [.long v_129]) rfl ?_
        refine lv_ldc2 (v := -9000000000000000002) hx hb hown w_1 dL_errors_55 ?_
        refine W.lcmp hx hb dL_errors_58 ?_
        refine lv_if_ne (tgt := 336) hx hb dL_errors_59 (by decide) (fun c_131 => ?_) (fun c_131 => ?_)
        · have h := it_r c_131 h
          refine lv_iconst (v := 0) hx hb dL_errors_336 (by decide) ?_
          refine lv_istore (lv' := [(4, .int 0), (3, .int v_112), (1, .long v_109), (0, .ref (cA 0))]) hx hb dL_errors_337 hl (by decide) rfl (fun ls hl => ?_)
          refine lv_iconst (v := 0) hx hb dL_errors_339 (by decide) ?_
          refine lv_istore (lv' := [(5, .int 0), (4, .int 0), (3, .int v_112), (1, .long v_109), (0, .ref (cA 0))]) hx hb dL_errors_340 hl (by decide) rfl (fun ls hl => ?_)
          refine W.widen (k := (584 - 20 * 7)) (n := (3711 - 129 * 7)) (by omega) (by omega) ?_
          exact hC_342 7 v_109 v_112 0 0 X_122 w_130 _ _ _ (Nat.le_refl _) hw_130 hP hD hS (lv_sub hl [4, 3, 2, 1, 0] rfl) h
        · have h := it_l c_131 h
          refine lv_aload_n hx hb dL_errors_62 rfl (lv_at hl 2 rfl) ?_
          refine lv_iload_n hx hb dL_errors_63 rfl (lv_at hl 0 rfl) ?_
          refine lv_bipush (v := 99) hx hb dL_errors_64 (by decide) ?_
          obtain ⟨v_133, hv_132, h⟩ := bd_l h
          refine Lo_T (As := [.ref (cA 0), .int v_112, .int 99]) (rest := []) (wA := w_130) (wr := []) 2 12 (233) (1398) 997 6270 (co_effect l hst D k cA nA tA X_122 w_130 hw_130 v_112 99 v_133 hv_132) ⟨hx, hb, hml, hown, hts⟩ (vx_cwSW 3 hts gL_errors_L_effect rfl rfl rfl (by decide +kernel) ⟨Nat.le_of_ble_eq_true rfl, Nat.le_of_ble_eq_true rfl⟩) hK hG hC hP hD hS hA (List.Perm.refl _) rfl hl.1 rfl (Nat.le_of_ble_eq_true rfl) dL_errors_66 ⟨rfl, rfl⟩ ⟨rfl, rfl⟩ (by omega) (by omega) (fun ov w_134 H locs hQ hP hD hS => ?_)
          obtain ⟨rfl, hw_134⟩ := hQ
          refine W.eq (g2 := F0 m 69 ls [.long v_133]) rfl ?_
          refine lv_ldc2 (v := -9000000000000000001) hx hb hown w_0 dL_errors_69 ?_
          refine W.lcmp hx hb dL_errors_72 ?_
          refine lv_if_ne (tgt := 336) hx hb dL_errors_73 (by decide) (fun c_135 => ?_) (fun c_135 => ?_)
          · have h := it_r c_135 h
            refine lv_iconst (v := 0) hx hb dL_errors_336 (by decide) ?_
            refine lv_istore (lv' := [(4, .int 0), (3, .int v_112), (1, .long v_109), (0, .ref (cA 0))]) hx hb dL_errors_337 hl (by decide) rfl (fun ls hl => ?_)
            refine lv_iconst (v := 0) hx hb dL_errors_339 (by decide) ?_
            refine lv_istore (lv' := [(5, .int 0), (4, .int 0), (3, .int v_112), (1, .long v_109), (0, .ref (cA 0))]) hx hb dL_errors_340 hl (by decide) rfl (fun ls hl => ?_)
            refine W.widen (k := (584 - 20 * 7)) (n := (3711 - 129 * 7)) (by omega) (by omega) ?_
            exact hC_342 7 v_109 v_112 0 0 X_122 w_134 _ _ _ (Nat.le_refl _) hw_134 hP hD hS (lv_sub hl [4, 3, 2, 1, 0] rfl) h
          · have h := it_l c_135 h
            refine lv_aload_n hx hb dL_errors_76 rfl (lv_at hl 2 rfl) ?_
            refine lv_iconst (v := 0) hx hb dL_errors_77 (by decide) ?_
            refine lv_bipush (v := 10) hx hb dL_errors_78 (by decide) ?_
            obtain ⟨v_137, hv_136, h⟩ := bd_l h
            refine Lo_T (As := [.ref (cA 0), .int 0, .int 10]) (rest := []) (wA := w_134) (wr := []) 2 12 (235) (1410) 997 6270 (co_effect l hst D k cA nA tA X_122 w_134 hw_134 0 10 v_137 hv_136) ⟨hx, hb, hml, hown, hts⟩ (vx_cwSW 3 hts gL_errors_L_effect rfl rfl rfl (by decide +kernel) ⟨Nat.le_of_ble_eq_true rfl, Nat.le_of_ble_eq_true rfl⟩) hK hG hC hP hD hS hA (List.Perm.refl _) rfl hl.1 rfl (Nat.le_of_ble_eq_true rfl) dL_errors_80 ⟨rfl, rfl⟩ ⟨rfl, rfl⟩ (by omega) (by omega) (fun ov w_138 H locs hQ hP hD hS => ?_)
            obtain ⟨rfl, hw_138⟩ := hQ
            refine W.eq (g2 := F0 m 83 ls [.long v_137]) rfl ?_
            refine lv_ldc2 (v := -9000000000000000002) hx hb hown w_1 dL_errors_83 ?_
            refine W.lcmp hx hb dL_errors_86 ?_
            refine lv_if_ne (tgt := 336) hx hb dL_errors_87 (by decide) (fun c_139 => ?_) (fun c_139 => ?_)
            · have h := it_r c_139 h
              refine lv_iconst (v := 0) hx hb dL_errors_336 (by decide) ?_
              refine lv_istore (lv' := [(4, .int 0), (3, .int v_112), (1, .long v_109), (0, .ref (cA 0))]) hx hb dL_errors_337 hl (by decide) rfl (fun ls hl => ?_)
              refine lv_iconst (v := 0) hx hb dL_errors_339 (by decide) ?_
              refine lv_istore (lv' := [(5, .int 0), (4, .int 0), (3, .int v_112), (1, .long v_109), (0, .ref (cA 0))]) hx hb dL_errors_340 hl (by decide) rfl (fun ls hl => ?_)
              refine W.widen (k := (584 - 20 * 7)) (n := (3711 - 129 * 7)) (by omega) (by omega) ?_
              exact hC_342 7 v_109 v_112 0 0 X_122 w_138 _ _ _ (Nat.le_refl _) hw_138 hP hD hS (lv_sub hl [4, 3, 2, 1, 0] rfl) h
            · have h := it_l c_139 h
              refine lv_aload_n hx hb dL_errors_90 rfl (lv_at hl 2 rfl) ?_
              refine lv_iload_n hx hb dL_errors_91 rfl (lv_at hl 0 rfl) ?_
              refine lv_iconst (v := 1) hx hb dL_errors_92 (by decide) ?_
              obtain ⟨v_141, hv_140, h⟩ := bd_l h
              refine Lo_T (As := [.ref (cA 0), .int v_112, .int 1]) (rest := []) (wA := w_138) (wr := []) 1 6 (236) (1416) 997 6270 (co_neighbor l hst D k cA nA tA X_122 w_138 hw_138 v_112 1 v_141 hv_140) ⟨hx, hb, hml, hown, hts⟩ (vx_cwSW 3 hts gL_errors_L_neighbor rfl rfl rfl (by decide +kernel) ⟨Nat.le_of_ble_eq_true rfl, Nat.le_of_ble_eq_true rfl⟩) hK hG hC hP hD hS hA (List.Perm.refl _) rfl hl.1 rfl (Nat.le_of_ble_eq_true rfl) dL_errors_93 ⟨rfl, rfl⟩ ⟨rfl, rfl⟩ (by omega) (by omega) (fun ov w_142 H locs hQ hP hD hS => ?_)
              obtain ⟨rfl, hw_142⟩ := hQ
              refine W.eq (g2 := F0 m 96 ls [.long v_141]) rfl ?_
              refine lv_ldc2 (v := -9000000000000000001) hx hb hown w_0 dL_errors_96 ?_
              refine W.lcmp hx hb dL_errors_99 ?_
              refine lv_if_ne (tgt := 336) hx hb dL_errors_100 (by decide) (fun c_143 => ?_) (fun c_143 => ?_)
              · have h := it_r c_143 h
                refine lv_iconst (v := 0) hx hb dL_errors_336 (by decide) ?_
                refine lv_istore (lv' := [(4, .int 0), (3, .int v_112), (1, .long v_109), (0, .ref (cA 0))]) hx hb dL_errors_337 hl (by decide) rfl (fun ls hl => ?_)
                refine lv_iconst (v := 0) hx hb dL_errors_339 (by decide) ?_
                refine lv_istore (lv' := [(5, .int 0), (4, .int 0), (3, .int v_112), (1, .long v_109), (0, .ref (cA 0))]) hx hb dL_errors_340 hl (by decide) rfl (fun ls hl => ?_)
                refine W.widen (k := (584 - 20 * 7)) (n := (3711 - 129 * 7)) (by omega) (by omega) ?_
                exact hC_342 7 v_109 v_112 0 0 X_122 w_142 _ _ _ (Nat.le_refl _) hw_142 hP hD hS (lv_sub hl [4, 3, 2, 1, 0] rfl) h
              · have h := it_l c_143 h
                refine lv_aload_n hx hb dL_errors_103 rfl (lv_at hl 2 rfl) ?_
                refine lv_iconst (v := (-1)) hx hb dL_errors_104 (by decide) ?_
                obtain ⟨v_145, hv_144, h⟩ := bd_l h
                refine Lo_T (As := [.ref (cA 0), .int (-1)]) (rest := []) (wA := w_142) (wr := []) 1 6 (237) (1422) 997 6270 (co_share l hst D k cA nA tA X_122 w_142 hw_142 (-1) v_145 hv_144) ⟨hx, hb, hml, hown, hts⟩ (vx_cwSW 2 hts gL_errors_L_share rfl rfl rfl (by decide +kernel) ⟨Nat.le_of_ble_eq_true rfl, Nat.le_of_ble_eq_true rfl⟩) hK hG hC hP hD hS hA (List.Perm.refl _) rfl hl.1 rfl (Nat.le_of_ble_eq_true rfl) dL_errors_105 ⟨rfl, rfl⟩ ⟨rfl, rfl⟩ (by omega) (by omega) (fun ov w_146 H locs hQ hP hD hS => ?_)
                obtain ⟨rfl, hw_146⟩ := hQ
                refine W.eq (g2 := F0 m 108 ls [.float v_145]) rfl ?_
                refine lv_ldcf (v := 3239051264) hx hb hown w_5 dL_errors_108 ?_
                refine lv_fcmp hx hb dL_errors_110 ?_
                refine lv_if_ne (tgt := 336) hx hb dL_errors_111 (by decide) (fun c_147 => ?_) (fun c_147 => ?_)
                · have h := it_r c_147 h
                  refine lv_iconst (v := 0) hx hb dL_errors_336 (by decide) ?_
                  refine lv_istore (lv' := [(4, .int 0), (3, .int v_112), (1, .long v_109), (0, .ref (cA 0))]) hx hb dL_errors_337 hl (by decide) rfl (fun ls hl => ?_)
                  refine lv_iconst (v := 0) hx hb dL_errors_339 (by decide) ?_
                  refine lv_istore (lv' := [(5, .int 0), (4, .int 0), (3, .int v_112), (1, .long v_109), (0, .ref (cA 0))]) hx hb dL_errors_340 hl (by decide) rfl (fun ls hl => ?_)
                  refine W.widen (k := (584 - 20 * 7)) (n := (3711 - 129 * 7)) (by omega) (by omega) ?_
                  exact hC_342 7 v_109 v_112 0 0 X_122 w_146 _ _ _ (Nat.le_refl _) hw_146 hP hD hS (lv_sub hl [4, 3, 2, 1, 0] rfl) h
                · have h := it_l c_147 h
                  refine lv_aload_n hx hb dL_errors_114 rfl (lv_at hl 2 rfl) ?_
                  refine lv_iconst (v := 0) hx hb dL_errors_115 (by decide) ?_
                  obtain ⟨⟨v_149, X_151⟩, hv_148, h⟩ := bd_l h
                  refine Lo_T (As := [.ref (cA 0), .int 0]) (rest := []) (wA := w_146) (wr := []) 12 81 (249) (1503) 997 6270 (co_tick l hst D k cA nA tA X_122 w_146 hw_146 0 (v_149, X_151) hv_148) ⟨hx, hb, hml, hown, hts⟩ (vx_cwSW 2 hts gL_errors_L_tick rfl rfl rfl (by decide +kernel) ⟨Nat.le_of_ble_eq_true rfl, Nat.le_of_ble_eq_true rfl⟩) hK hG hC hP hD hS hA (List.Perm.refl _) rfl hl.1 rfl (Nat.le_of_ble_eq_true rfl) dL_errors_116 ⟨rfl, rfl⟩ ⟨rfl, rfl⟩ (by omega) (by omega) (fun ov w_150 H locs hQ hP hD hS => ?_)
                  obtain ⟨rfl, hw_150⟩ := hQ
                  refine W.eq (g2 := F0 m 119 ls [.long v_149]) rfl ?_
                  refine lv_ldc2 (v := -9000000000000000002) hx hb hown w_1 dL_errors_119 ?_
                  refine W.lcmp hx hb dL_errors_122 ?_
                  refine lv_if_ne (tgt := 336) hx hb dL_errors_123 (by decide) (fun c_152 => ?_) (fun c_152 => ?_)
                  · have h := it_r c_152 h
                    refine lv_iconst (v := 0) hx hb dL_errors_336 (by decide) ?_
                    refine lv_istore (lv' := [(4, .int 0), (3, .int v_112), (1, .long v_109), (0, .ref (cA 0))]) hx hb dL_errors_337 hl (by decide) rfl (fun ls hl => ?_)
                    refine lv_iconst (v := 0) hx hb dL_errors_339 (by decide) ?_
                    refine lv_istore (lv' := [(5, .int 0), (4, .int 0), (3, .int v_112), (1, .long v_109), (0, .ref (cA 0))]) hx hb dL_errors_340 hl (by decide) rfl (fun ls hl => ?_)
                    refine W.widen (k := (584 - 20 * 7)) (n := (3711 - 129 * 7)) (by omega) (by omega) ?_
                    exact hC_342 7 v_109 v_112 0 0 X_151 w_150 _ _ _ (Nat.le_refl _) hw_150 hP hD hS (lv_sub hl [4, 3, 2, 1, 0] rfl) h
                  · have h := it_l c_152 h
                    refine lv_aload_n hx hb dL_errors_126 rfl (lv_at hl 2 rfl) ?_
                    refine lv_bipush (v := 100) hx hb dL_errors_127 (by decide) ?_
                    obtain ⟨⟨v_154, X_156⟩, hv_153, h⟩ := bd_l h
                    refine Lo_T (As := [.ref (cA 0), .int 100]) (rest := []) (wA := w_150) (wr := []) 12 81 (261) (1584) 997 6270 (co_tick l hst D k cA nA tA X_151 w_150 hw_150 100 (v_154, X_156) hv_153) ⟨hx, hb, hml, hown, hts⟩ (vx_cwSW 2 hts gL_errors_L_tick rfl rfl rfl (by decide +kernel) ⟨Nat.le_of_ble_eq_true rfl, Nat.le_of_ble_eq_true rfl⟩) hK hG hC hP hD hS hA (List.Perm.refl _) rfl hl.1 rfl (Nat.le_of_ble_eq_true rfl) dL_errors_129 ⟨rfl, rfl⟩ ⟨rfl, rfl⟩ (by omega) (by omega) (fun ov w_155 H locs hQ hP hD hS => ?_)
                    obtain ⟨rfl, hw_155⟩ := hQ
                    refine W.eq (g2 := F0 m 132 ls [.long v_154]) rfl ?_
                    refine lv_ldc2 (v := -9000000000000000002) hx hb hown w_1 dL_errors_132 ?_
                    refine W.lcmp hx hb dL_errors_135 ?_
                    refine lv_if_ne (tgt := 336) hx hb dL_errors_136 (by decide) (fun c_157 => ?_) (fun c_157 => ?_)
                    · have h := it_r c_157 h
                      refine lv_iconst (v := 0) hx hb dL_errors_336 (by decide) ?_
                      refine lv_istore (lv' := [(4, .int 0), (3, .int v_112), (1, .long v_109), (0, .ref (cA 0))]) hx hb dL_errors_337 hl (by decide) rfl (fun ls hl => ?_)
                      refine lv_iconst (v := 0) hx hb dL_errors_339 (by decide) ?_
                      refine lv_istore (lv' := [(5, .int 0), (4, .int 0), (3, .int v_112), (1, .long v_109), (0, .ref (cA 0))]) hx hb dL_errors_340 hl (by decide) rfl (fun ls hl => ?_)
                      refine W.widen (k := (584 - 20 * 7)) (n := (3711 - 129 * 7)) (by omega) (by omega) ?_
                      exact hC_342 7 v_109 v_112 0 0 X_156 w_155 _ _ _ (Nat.le_refl _) hw_155 hP hD hS (lv_sub hl [4, 3, 2, 1, 0] rfl) h
                    · have h := it_l c_157 h
                      refine lv_aload_n hx hb dL_errors_139 rfl (lv_at hl 2 rfl) ?_
                      refine lv_iconst (v := 5) hx hb dL_errors_140 (by decide) ?_
                      refine lv_iconst (v := 1) hx hb dL_errors_141 (by decide) ?_
                      obtain ⟨⟨v_159, X_161⟩, hv_158, h⟩ := bd_l h
                      refine Lo_T (As := [.ref (cA 0), .int 5, .int 1]) (rest := []) (wA := w_155) (wr := []) 13 87 (274) (1671) 997 6270 (co_set l hst D k cA nA tA X_156 w_155 hw_155 5 1 (v_159, X_161) hv_158) ⟨hx, hb, hml, hown, hts⟩ (vx_cwSW 3 hts gL_errors_L_set rfl rfl rfl (by decide +kernel) ⟨Nat.le_of_ble_eq_true rfl, Nat.le_of_ble_eq_true rfl⟩) hK hG hC hP hD hS hA (List.Perm.refl _) rfl hl.1 rfl (Nat.le_of_ble_eq_true rfl) dL_errors_142 ⟨rfl, rfl⟩ ⟨rfl, rfl⟩ (by omega) (by omega) (fun ov w_160 H locs hQ hP hD hS => ?_)
                      obtain ⟨rfl, hw_160⟩ := hQ
                      refine W.eq (g2 := F0 m 145 ls [.long v_159]) rfl ?_
                      refine lv_ldc2 (v := -9000000000000000002) hx hb hown w_1 dL_errors_145 ?_
                      refine W.lcmp hx hb dL_errors_148 ?_
                      refine lv_if_ne (tgt := 336) hx hb dL_errors_149 (by decide) (fun c_162 => ?_) (fun c_162 => ?_)
                      · have h := it_r c_162 h
                        refine lv_iconst (v := 0) hx hb dL_errors_336 (by decide) ?_
                        refine lv_istore (lv' := [(4, .int 0), (3, .int v_112), (1, .long v_109), (0, .ref (cA 0))]) hx hb dL_errors_337 hl (by decide) rfl (fun ls hl => ?_)
                        refine lv_iconst (v := 0) hx hb dL_errors_339 (by decide) ?_
                        refine lv_istore (lv' := [(5, .int 0), (4, .int 0), (3, .int v_112), (1, .long v_109), (0, .ref (cA 0))]) hx hb dL_errors_340 hl (by decide) rfl (fun ls hl => ?_)
                        refine W.widen (k := (584 - 20 * 7)) (n := (3711 - 129 * 7)) (by omega) (by omega) ?_
                        exact hC_342 7 v_109 v_112 0 0 X_161 w_160 _ _ _ (Nat.le_refl _) hw_160 hP hD hS (lv_sub hl [4, 3, 2, 1, 0] rfl) h
                      · have h := it_l c_162 h
                        refine lv_aload_n hx hb dL_errors_152 rfl (lv_at hl 2 rfl) ?_
                        refine lv_iconst (v := 0) hx hb dL_errors_153 (by decide) ?_
                        refine lv_sipush (v := 1000) hx hb dL_errors_154 (by decide) ?_
                        obtain ⟨⟨v_164, X_166⟩, hv_163, h⟩ := bd_l h
                        refine Lo_T (As := [.ref (cA 0), .int 0, .int 1000]) (rest := []) (wA := w_160) (wr := []) 13 87 (287) (1758) 997 6270 (co_set l hst D k cA nA tA X_161 w_160 hw_160 0 1000 (v_164, X_166) hv_163) ⟨hx, hb, hml, hown, hts⟩ (vx_cwSW 3 hts gL_errors_L_set rfl rfl rfl (by decide +kernel) ⟨Nat.le_of_ble_eq_true rfl, Nat.le_of_ble_eq_true rfl⟩) hK hG hC hP hD hS hA (List.Perm.refl _) rfl hl.1 rfl (Nat.le_of_ble_eq_true rfl) dL_errors_157 ⟨rfl, rfl⟩ ⟨rfl, rfl⟩ (by omega) (by omega) (fun ov w_165 H locs hQ hP hD hS => ?_)
                        obtain ⟨rfl, hw_165⟩ := hQ
                        refine W.eq (g2 := F0 m 160 ls [.long v_164]) rfl ?_
                        refine lv_ldc2 (v := -9000000000000000002) hx hb hown w_1 dL_errors_160 ?_
                        refine W.lcmp hx hb dL_errors_163 ?_
                        refine lv_if_ne (tgt := 336) hx hb dL_errors_164 (by decide) (fun c_167 => ?_) (fun c_167 => ?_)
                        · have h := it_r c_167 h
                          refine lv_iconst (v := 0) hx hb dL_errors_336 (by decide) ?_
                          refine lv_istore (lv' := [(4, .int 0), (3, .int v_112), (1, .long v_109), (0, .ref (cA 0))]) hx hb dL_errors_337 hl (by decide) rfl (fun ls hl => ?_)
                          refine lv_iconst (v := 0) hx hb dL_errors_339 (by decide) ?_
                          refine lv_istore (lv' := [(5, .int 0), (4, .int 0), (3, .int v_112), (1, .long v_109), (0, .ref (cA 0))]) hx hb dL_errors_340 hl (by decide) rfl (fun ls hl => ?_)
                          refine W.widen (k := (584 - 20 * 7)) (n := (3711 - 129 * 7)) (by omega) (by omega) ?_
                          exact hC_342 7 v_109 v_112 0 0 X_166 w_165 _ _ _ (Nat.le_refl _) hw_165 hP hD hS (lv_sub hl [4, 3, 2, 1, 0] rfl) h
                        · have h := it_l c_167 h
                          refine lv_aload_n hx hb dL_errors_167 rfl (lv_at hl 2 rfl) ?_
                          refine lv_iconst (v := 1) hx hb dL_errors_168 (by decide) ?_
                          refine lv_iconst (v := (-1)) hx hb dL_errors_169 (by decide) ?_
                          obtain ⟨⟨v_169, X_171⟩, hv_168, h⟩ := bd_l h
                          refine Lo_T (As := [.ref (cA 0), .int 1, .int (-1)]) (rest := []) (wA := w_165) (wr := []) 13 87 (300) (1845) 997 6270 (co_set l hst D k cA nA tA X_166 w_165 hw_165 1 (-1) (v_169, X_171) hv_168) ⟨hx, hb, hml, hown, hts⟩ (vx_cwSW 3 hts gL_errors_L_set rfl rfl rfl (by decide +kernel) ⟨Nat.le_of_ble_eq_true rfl, Nat.le_of_ble_eq_true rfl⟩) hK hG hC hP hD hS hA (List.Perm.refl _) rfl hl.1 rfl (Nat.le_of_ble_eq_true rfl) dL_errors_170 ⟨rfl, rfl⟩ ⟨rfl, rfl⟩ (by omega) (by omega) (fun ov w_170 H locs hQ hP hD hS => ?_)
                          obtain ⟨rfl, hw_170⟩ := hQ
                          refine W.eq (g2 := F0 m 173 ls [.long v_169]) rfl ?_
                          refine lv_ldc2 (v := -9000000000000000002) hx hb hown w_1 dL_errors_173 ?_
                          refine W.lcmp hx hb dL_errors_176 ?_
                          refine lv_if_ne (tgt := 336) hx hb dL_errors_177 (by decide) (fun c_172 => ?_) (fun c_172 => ?_)
                          · have h := it_r c_172 h
                            refine lv_iconst (v := 0) hx hb dL_errors_336 (by decide) ?_
                            refine lv_istore (lv' := [(4, .int 0), (3, .int v_112), (1, .long v_109), (0, .ref (cA 0))]) hx hb dL_errors_337 hl (by decide) rfl (fun ls hl => ?_)
                            refine lv_iconst (v := 0) hx hb dL_errors_339 (by decide) ?_
                            refine lv_istore (lv' := [(5, .int 0), (4, .int 0), (3, .int v_112), (1, .long v_109), (0, .ref (cA 0))]) hx hb dL_errors_340 hl (by decide) rfl (fun ls hl => ?_)
                            refine W.widen (k := (584 - 20 * 7)) (n := (3711 - 129 * 7)) (by omega) (by omega) ?_
                            exact hC_342 7 v_109 v_112 0 0 X_171 w_170 _ _ _ (Nat.le_refl _) hw_170 hP hD hS (lv_sub hl [4, 3, 2, 1, 0] rfl) h
                          · have h := it_l c_172 h
                            refine lv_aload_n hx hb dL_errors_180 rfl (lv_at hl 2 rfl) ?_
                            refine lv_iconst (v := 2) hx hb dL_errors_181 (by decide) ?_
                            refine lv_bipush (v := 100) hx hb dL_errors_182 (by decide) ?_
                            obtain ⟨⟨v_174, X_176⟩, hv_173, h⟩ := bd_l h
                            refine Lo_T (As := [.ref (cA 0), .int 2, .int 100]) (rest := []) (wA := w_170) (wr := []) 13 87 (313) (1932) 997 6270 (co_set l hst D k cA nA tA X_171 w_170 hw_170 2 100 (v_174, X_176) hv_173) ⟨hx, hb, hml, hown, hts⟩ (vx_cwSW 3 hts gL_errors_L_set rfl rfl rfl (by decide +kernel) ⟨Nat.le_of_ble_eq_true rfl, Nat.le_of_ble_eq_true rfl⟩) hK hG hC hP hD hS hA (List.Perm.refl _) rfl hl.1 rfl (Nat.le_of_ble_eq_true rfl) dL_errors_184 ⟨rfl, rfl⟩ ⟨rfl, rfl⟩ (by omega) (by omega) (fun ov w_175 H locs hQ hP hD hS => ?_)
                            obtain ⟨rfl, hw_175⟩ := hQ
                            refine W.eq (g2 := F0 m 187 ls [.long v_174]) rfl ?_
                            refine lv_ldc2 (v := -9000000000000000002) hx hb hown w_1 dL_errors_187 ?_
                            refine W.lcmp hx hb dL_errors_190 ?_
                            refine lv_if_ne (tgt := 336) hx hb dL_errors_191 (by decide) (fun c_177 => ?_) (fun c_177 => ?_)
                            · have h := it_r c_177 h
                              refine lv_iconst (v := 0) hx hb dL_errors_336 (by decide) ?_
                              refine lv_istore (lv' := [(4, .int 0), (3, .int v_112), (1, .long v_109), (0, .ref (cA 0))]) hx hb dL_errors_337 hl (by decide) rfl (fun ls hl => ?_)
                              refine lv_iconst (v := 0) hx hb dL_errors_339 (by decide) ?_
                              refine lv_istore (lv' := [(5, .int 0), (4, .int 0), (3, .int v_112), (1, .long v_109), (0, .ref (cA 0))]) hx hb dL_errors_340 hl (by decide) rfl (fun ls hl => ?_)
                              refine W.widen (k := (584 - 20 * 7)) (n := (3711 - 129 * 7)) (by omega) (by omega) ?_
                              exact hC_342 7 v_109 v_112 0 0 X_176 w_175 _ _ _ (Nat.le_refl _) hw_175 hP hD hS (lv_sub hl [4, 3, 2, 1, 0] rfl) h
                            · have h := it_l c_177 h
                              refine lv_aload_n hx hb dL_errors_194 rfl (lv_at hl 2 rfl) ?_
                              refine lv_iconst (v := 3) hx hb dL_errors_195 (by decide) ?_
                              refine lv_bipush (v := 100) hx hb dL_errors_196 (by decide) ?_
                              obtain ⟨⟨v_179, X_181⟩, hv_178, h⟩ := bd_l h
                              refine Lo_T (As := [.ref (cA 0), .int 3, .int 100]) (rest := []) (wA := w_175) (wr := []) 13 87 (326) (2019) 997 6270 (co_set l hst D k cA nA tA X_176 w_175 hw_175 3 100 (v_179, X_181) hv_178) ⟨hx, hb, hml, hown, hts⟩ (vx_cwSW 3 hts gL_errors_L_set rfl rfl rfl (by decide +kernel) ⟨Nat.le_of_ble_eq_true rfl, Nat.le_of_ble_eq_true rfl⟩) hK hG hC hP hD hS hA (List.Perm.refl _) rfl hl.1 rfl (Nat.le_of_ble_eq_true rfl) dL_errors_198 ⟨rfl, rfl⟩ ⟨rfl, rfl⟩ (by omega) (by omega) (fun ov w_180 H locs hQ hP hD hS => ?_)
                              obtain ⟨rfl, hw_180⟩ := hQ
                              refine W.eq (g2 := F0 m 201 ls [.long v_179]) rfl ?_
                              refine lv_ldc2 (v := -9000000000000000002) hx hb hown w_1 dL_errors_201 ?_
                              refine W.lcmp hx hb dL_errors_204 ?_
                              refine lv_if_ne (tgt := 336) hx hb dL_errors_205 (by decide) (fun c_182 => ?_) (fun c_182 => ?_)
                              · have h := it_r c_182 h
                                refine lv_iconst (v := 0) hx hb dL_errors_336 (by decide) ?_
                                refine lv_istore (lv' := [(4, .int 0), (3, .int v_112), (1, .long v_109), (0, .ref (cA 0))]) hx hb dL_errors_337 hl (by decide) rfl (fun ls hl => ?_)
                                refine lv_iconst (v := 0) hx hb dL_errors_339 (by decide) ?_
                                refine lv_istore (lv' := [(5, .int 0), (4, .int 0), (3, .int v_112), (1, .long v_109), (0, .ref (cA 0))]) hx hb dL_errors_340 hl (by decide) rfl (fun ls hl => ?_)
                                refine W.widen (k := (584 - 20 * 7)) (n := (3711 - 129 * 7)) (by omega) (by omega) ?_
                                exact hC_342 7 v_109 v_112 0 0 X_181 w_180 _ _ _ (Nat.le_refl _) hw_180 hP hD hS (lv_sub hl [4, 3, 2, 1, 0] rfl) h
                              · have h := it_l c_182 h
                                refine lv_aload_n hx hb dL_errors_208 rfl (lv_at hl 2 rfl) ?_
                                refine lv_iconst (v := 4) hx hb dL_errors_209 (by decide) ?_
                                refine lv_iconst (v := 0) hx hb dL_errors_210 (by decide) ?_
                                obtain ⟨⟨v_184, X_186⟩, hv_183, h⟩ := bd_l h
                                refine Lo_T (As := [.ref (cA 0), .int 4, .int 0]) (rest := []) (wA := w_180) (wr := []) 13 87 (339) (2106) 997 6270 (co_set l hst D k cA nA tA X_181 w_180 hw_180 4 0 (v_184, X_186) hv_183) ⟨hx, hb, hml, hown, hts⟩ (vx_cwSW 3 hts gL_errors_L_set rfl rfl rfl (by decide +kernel) ⟨Nat.le_of_ble_eq_true rfl, Nat.le_of_ble_eq_true rfl⟩) hK hG hC hP hD hS hA (List.Perm.refl _) rfl hl.1 rfl (Nat.le_of_ble_eq_true rfl) dL_errors_211 ⟨rfl, rfl⟩ ⟨rfl, rfl⟩ (by omega) (by omega) (fun ov w_185 H locs hQ hP hD hS => ?_)
                                obtain ⟨rfl, hw_185⟩ := hQ
                                refine W.eq (g2 := F0 m 214 ls [.long v_184]) rfl ?_
                                refine lv_ldc2 (v := -9000000000000000002) hx hb hown w_1 dL_errors_214 ?_
                                refine W.lcmp hx hb dL_errors_217 ?_
                                refine lv_if_ne (tgt := 336) hx hb dL_errors_218 (by decide) (fun c_187 => ?_) (fun c_187 => ?_)
                                · have h := it_r c_187 h
                                  refine lv_iconst (v := 0) hx hb dL_errors_336 (by decide) ?_
                                  refine lv_istore (lv' := [(4, .int 0), (3, .int v_112), (1, .long v_109), (0, .ref (cA 0))]) hx hb dL_errors_337 hl (by decide) rfl (fun ls hl => ?_)
                                  refine lv_iconst (v := 0) hx hb dL_errors_339 (by decide) ?_
                                  refine lv_istore (lv' := [(5, .int 0), (4, .int 0), (3, .int v_112), (1, .long v_109), (0, .ref (cA 0))]) hx hb dL_errors_340 hl (by decide) rfl (fun ls hl => ?_)
                                  refine W.widen (k := (584 - 20 * 7)) (n := (3711 - 129 * 7)) (by omega) (by omega) ?_
                                  exact hC_342 7 v_109 v_112 0 0 X_186 w_185 _ _ _ (Nat.le_refl _) hw_185 hP hD hS (lv_sub hl [4, 3, 2, 1, 0] rfl) h
                                · have h := it_l c_187 h
                                  refine lv_aload_n hx hb dL_errors_221 rfl (lv_at hl 2 rfl) ?_
                                  refine lv_iconst (v := 4) hx hb dL_errors_222 (by decide) ?_
                                  refine lv_bipush (v := 21) hx hb dL_errors_223 (by decide) ?_
                                  obtain ⟨⟨v_189, X_191⟩, hv_188, h⟩ := bd_l h
                                  refine Lo_T (As := [.ref (cA 0), .int 4, .int 21]) (rest := []) (wA := w_185) (wr := []) 13 87 (352) (2193) 997 6270 (co_set l hst D k cA nA tA X_186 w_185 hw_185 4 21 (v_189, X_191) hv_188) ⟨hx, hb, hml, hown, hts⟩ (vx_cwSW 3 hts gL_errors_L_set rfl rfl rfl (by decide +kernel) ⟨Nat.le_of_ble_eq_true rfl, Nat.le_of_ble_eq_true rfl⟩) hK hG hC hP hD hS hA (List.Perm.refl _) rfl hl.1 rfl (Nat.le_of_ble_eq_true rfl) dL_errors_225 ⟨rfl, rfl⟩ ⟨rfl, rfl⟩ (by omega) (by omega) (fun ov w_190 H locs hQ hP hD hS => ?_)
                                  obtain ⟨rfl, hw_190⟩ := hQ
                                  refine W.eq (g2 := F0 m 228 ls [.long v_189]) rfl ?_
                                  refine lv_ldc2 (v := -9000000000000000002) hx hb hown w_1 dL_errors_228 ?_
                                  refine W.lcmp hx hb dL_errors_231 ?_
                                  refine lv_if_ne (tgt := 336) hx hb dL_errors_232 (by decide) (fun c_192 => ?_) (fun c_192 => ?_)
                                  · have h := it_r c_192 h
                                    refine lv_iconst (v := 0) hx hb dL_errors_336 (by decide) ?_
                                    refine lv_istore (lv' := [(4, .int 0), (3, .int v_112), (1, .long v_109), (0, .ref (cA 0))]) hx hb dL_errors_337 hl (by decide) rfl (fun ls hl => ?_)
                                    refine lv_iconst (v := 0) hx hb dL_errors_339 (by decide) ?_
                                    refine lv_istore (lv' := [(5, .int 0), (4, .int 0), (3, .int v_112), (1, .long v_109), (0, .ref (cA 0))]) hx hb dL_errors_340 hl (by decide) rfl (fun ls hl => ?_)
                                    refine W.widen (k := (584 - 20 * 7)) (n := (3711 - 129 * 7)) (by omega) (by omega) ?_
                                    exact hC_342 7 v_109 v_112 0 0 X_191 w_190 _ _ _ (Nat.le_refl _) hw_190 hP hD hS (lv_sub hl [4, 3, 2, 1, 0] rfl) h
                                  · have h := it_l c_192 h
                                    refine lv_aload_n hx hb dL_errors_235 rfl (lv_at hl 2 rfl) ?_
                                    refine lv_iload_n hx hb dL_errors_236 rfl (lv_at hl 0 rfl) ?_
                                    refine lv_sipush (v := 1000) hx hb dL_errors_237 (by decide) ?_
                                    obtain ⟨⟨v_194, X_196⟩, hv_193, h⟩ := bd_l h
                                    refine Lo_T (As := [.ref (cA 0), .int v_112, .int 1000]) (rest := []) (wA := w_190) (wr := []) 13 87 (365) (2280) 997 6270 (co_setValve l hst D k cA nA tA X_191 w_190 hw_190 v_112 1000 (v_194, X_196) hv_193) ⟨hx, hb, hml, hown, hts⟩ (vx_cwSW 3 hts gL_errors_L_setValve rfl rfl rfl (by decide +kernel) ⟨Nat.le_of_ble_eq_true rfl, Nat.le_of_ble_eq_true rfl⟩) hK hG hC hP hD hS hA (List.Perm.refl _) rfl hl.1 rfl (Nat.le_of_ble_eq_true rfl) dL_errors_240 ⟨rfl, rfl⟩ ⟨rfl, rfl⟩ (by omega) (by omega) (fun ov w_195 H locs hQ hP hD hS => ?_)
                                    obtain ⟨rfl, hw_195⟩ := hQ
                                    refine W.eq (g2 := F0 m 243 ls [.long v_194]) rfl ?_
                                    refine lv_ldc2 (v := -9000000000000000001) hx hb hown w_0 dL_errors_243 ?_
                                    refine W.lcmp hx hb dL_errors_246 ?_
                                    refine lv_if_ne (tgt := 336) hx hb dL_errors_247 (by decide) (fun c_197 => ?_) (fun c_197 => ?_)
                                    · have h := it_r c_197 h
                                      refine lv_iconst (v := 0) hx hb dL_errors_336 (by decide) ?_
                                      refine lv_istore (lv' := [(4, .int 0), (3, .int v_112), (1, .long v_109), (0, .ref (cA 0))]) hx hb dL_errors_337 hl (by decide) rfl (fun ls hl => ?_)
                                      refine lv_iconst (v := 0) hx hb dL_errors_339 (by decide) ?_
                                      refine lv_istore (lv' := [(5, .int 0), (4, .int 0), (3, .int v_112), (1, .long v_109), (0, .ref (cA 0))]) hx hb dL_errors_340 hl (by decide) rfl (fun ls hl => ?_)
                                      refine W.widen (k := (584 - 20 * 7)) (n := (3711 - 129 * 7)) (by omega) (by omega) ?_
                                      exact hC_342 7 v_109 v_112 0 0 X_196 w_195 _ _ _ (Nat.le_refl _) hw_195 hP hD hS (lv_sub hl [4, 3, 2, 1, 0] rfl) h
                                    · have h := it_l c_197 h
                                      refine lv_aload_n hx hb dL_errors_250 rfl (lv_at hl 2 rfl) ?_
                                      refine lv_iconst (v := 0) hx hb dL_errors_251 (by decide) ?_
                                      refine lv_sipush (v := 1000) hx hb dL_errors_252 (by decide) ?_
                                      obtain ⟨⟨v_199, X_201⟩, hv_198, h⟩ := bd_l h
                                      refine Lo_T (As := [.ref (cA 0), .int 0, .int 1000]) (rest := []) (wA := w_195) (wr := []) 13 87 (378) (2367) 997 6270 (co_setValve l hst D k cA nA tA X_196 w_195 hw_195 0 1000 (v_199, X_201) hv_198) ⟨hx, hb, hml, hown, hts⟩ (vx_cwSW 3 hts gL_errors_L_setValve rfl rfl rfl (by decide +kernel) ⟨Nat.le_of_ble_eq_true rfl, Nat.le_of_ble_eq_true rfl⟩) hK hG hC hP hD hS hA (List.Perm.refl _) rfl hl.1 rfl (Nat.le_of_ble_eq_true rfl) dL_errors_255 ⟨rfl, rfl⟩ ⟨rfl, rfl⟩ (by omega) (by omega) (fun ov w_200 H locs hQ hP hD hS => ?_)
                                      obtain ⟨rfl, hw_200⟩ := hQ
                                      refine W.eq (g2 := F0 m 258 ls [.long v_199]) rfl ?_
                                      refine lv_ldc2 (v := -9000000000000000002) hx hb hown w_1 dL_errors_258 ?_
                                      refine W.lcmp hx hb dL_errors_261 ?_
                                      refine lv_if_ne (tgt := 336) hx hb dL_errors_262 (by decide) (fun c_202 => ?_) (fun c_202 => ?_)
                                      · have h := it_r c_202 h
                                        refine lv_iconst (v := 0) hx hb dL_errors_336 (by decide) ?_
                                        refine lv_istore (lv' := [(4, .int 0), (3, .int v_112), (1, .long v_109), (0, .ref (cA 0))]) hx hb dL_errors_337 hl (by decide) rfl (fun ls hl => ?_)
                                        refine lv_iconst (v := 0) hx hb dL_errors_339 (by decide) ?_
                                        refine lv_istore (lv' := [(5, .int 0), (4, .int 0), (3, .int v_112), (1, .long v_109), (0, .ref (cA 0))]) hx hb dL_errors_340 hl (by decide) rfl (fun ls hl => ?_)
                                        refine W.widen (k := (584 - 20 * 7)) (n := (3711 - 129 * 7)) (by omega) (by omega) ?_
                                        exact hC_342 7 v_109 v_112 0 0 X_201 w_200 _ _ _ (Nat.le_refl _) hw_200 hP hD hS (lv_sub hl [4, 3, 2, 1, 0] rfl) h
                                      · have h := it_l c_202 h
                                        refine lv_aload_n hx hb dL_errors_265 rfl (lv_at hl 2 rfl) ?_
                                        refine lv_iconst (v := (-1)) hx hb dL_errors_266 (by decide) ?_
                                        refine lv_bipush (v := 91) hx hb dL_errors_267 (by decide) ?_
                                        obtain ⟨⟨v_204, X_206⟩, hv_203, h⟩ := bd_l h
                                        refine Lo_T (As := [.ref (cA 0), .int (-1), .int 91]) (rest := []) (wA := w_200) (wr := []) 13 87 (391) (2454) 997 6270 (co_setBleed l hst D k cA nA tA X_201 w_200 hw_200 (-1) 91 (v_204, X_206) hv_203) ⟨hx, hb, hml, hown, hts⟩ (vx_cwSW 3 hts gL_errors_L_setBleed rfl rfl rfl (by decide +kernel) ⟨Nat.le_of_ble_eq_true rfl, Nat.le_of_ble_eq_true rfl⟩) hK hG hC hP hD hS hA (List.Perm.refl _) rfl hl.1 rfl (Nat.le_of_ble_eq_true rfl) dL_errors_269 ⟨rfl, rfl⟩ ⟨rfl, rfl⟩ (by omega) (by omega) (fun ov w_205 H locs hQ hP hD hS => ?_)
                                        obtain ⟨rfl, hw_205⟩ := hQ
                                        refine W.eq (g2 := F0 m 272 ls [.long v_204]) rfl ?_
                                        refine lv_ldc2 (v := -9000000000000000001) hx hb hown w_0 dL_errors_272 ?_
                                        refine W.lcmp hx hb dL_errors_275 ?_
                                        refine lv_if_ne (tgt := 336) hx hb dL_errors_276 (by decide) (fun c_207 => ?_) (fun c_207 => ?_)
                                        · have h := it_r c_207 h
                                          refine lv_iconst (v := 0) hx hb dL_errors_336 (by decide) ?_
                                          refine lv_istore (lv' := [(4, .int 0), (3, .int v_112), (1, .long v_109), (0, .ref (cA 0))]) hx hb dL_errors_337 hl (by decide) rfl (fun ls hl => ?_)
                                          refine lv_iconst (v := 0) hx hb dL_errors_339 (by decide) ?_
                                          refine lv_istore (lv' := [(5, .int 0), (4, .int 0), (3, .int v_112), (1, .long v_109), (0, .ref (cA 0))]) hx hb dL_errors_340 hl (by decide) rfl (fun ls hl => ?_)
                                          refine W.widen (k := (584 - 20 * 7)) (n := (3711 - 129 * 7)) (by omega) (by omega) ?_
                                          exact hC_342 7 v_109 v_112 0 0 X_206 w_205 _ _ _ (Nat.le_refl _) hw_205 hP hD hS (lv_sub hl [4, 3, 2, 1, 0] rfl) h
                                        · have h := it_l c_207 h
                                          refine lv_aload_n hx hb dL_errors_279 rfl (lv_at hl 2 rfl) ?_
                                          refine lv_iconst (v := 0) hx hb dL_errors_280 (by decide) ?_
                                          refine lv_bipush (v := 91) hx hb dL_errors_281 (by decide) ?_
                                          obtain ⟨⟨v_209, X_211⟩, hv_208, h⟩ := bd_l h
                                          refine Lo_T (As := [.ref (cA 0), .int 0, .int 91]) (rest := []) (wA := w_205) (wr := []) 13 87 (404) (2541) 997 6270 (co_setBleed l hst D k cA nA tA X_206 w_205 hw_205 0 91 (v_209, X_211) hv_208) ⟨hx, hb, hml, hown, hts⟩ (vx_cwSW 3 hts gL_errors_L_setBleed rfl rfl rfl (by decide +kernel) ⟨Nat.le_of_ble_eq_true rfl, Nat.le_of_ble_eq_true rfl⟩) hK hG hC hP hD hS hA (List.Perm.refl _) rfl hl.1 rfl (Nat.le_of_ble_eq_true rfl) dL_errors_283 ⟨rfl, rfl⟩ ⟨rfl, rfl⟩ (by omega) (by omega) (fun ov w_210 H locs hQ hP hD hS => ?_)
                                          obtain ⟨rfl, hw_210⟩ := hQ
                                          refine W.eq (g2 := F0 m 286 ls [.long v_209]) rfl ?_
                                          refine lv_ldc2 (v := -9000000000000000002) hx hb hown w_1 dL_errors_286 ?_
                                          refine W.lcmp hx hb dL_errors_289 ?_
                                          refine lv_if_ne (tgt := 336) hx hb dL_errors_290 (by decide) (fun c_212 => ?_) (fun c_212 => ?_)
                                          · have h := it_r c_212 h
                                            refine lv_iconst (v := 0) hx hb dL_errors_336 (by decide) ?_
                                            refine lv_istore (lv' := [(4, .int 0), (3, .int v_112), (1, .long v_109), (0, .ref (cA 0))]) hx hb dL_errors_337 hl (by decide) rfl (fun ls hl => ?_)
                                            refine lv_iconst (v := 0) hx hb dL_errors_339 (by decide) ?_
                                            refine lv_istore (lv' := [(5, .int 0), (4, .int 0), (3, .int v_112), (1, .long v_109), (0, .ref (cA 0))]) hx hb dL_errors_340 hl (by decide) rfl (fun ls hl => ?_)
                                            refine W.widen (k := (584 - 20 * 7)) (n := (3711 - 129 * 7)) (by omega) (by omega) ?_
                                            exact hC_342 7 v_109 v_112 0 0 X_211 w_210 _ _ _ (Nat.le_refl _) hw_210 hP hD hS (lv_sub hl [4, 3, 2, 1, 0] rfl) h
                                          · have h := it_l c_212 h
                                            refine lv_aload_n hx hb dL_errors_293 rfl (lv_at hl 2 rfl) ?_
                                            refine lv_iload_n hx hb dL_errors_294 rfl (lv_at hl 0 rfl) ?_
                                            refine lv_iconst (v := 0) hx hb dL_errors_295 (by decide) ?_
                                            obtain ⟨⟨v_214, X_216⟩, hv_213, h⟩ := bd_l h
                                            refine Lo_T (As := [.ref (cA 0), .int v_112, .int 0]) (rest := []) (wA := w_210) (wr := []) 14 93 (418) (2634) 997 6270 (co_wash l hst D k cA nA tA X_211 w_210 hw_210 v_112 0 (v_214, X_216) hv_213) ⟨hx, hb, hml, hown, hts⟩ (vx_cwSW 3 hts gL_errors_L_wash rfl rfl rfl (by decide +kernel) ⟨Nat.le_of_ble_eq_true rfl, Nat.le_of_ble_eq_true rfl⟩) hK hG hC hP hD hS hA (List.Perm.refl _) rfl hl.1 rfl (Nat.le_of_ble_eq_true rfl) dL_errors_296 ⟨rfl, rfl⟩ ⟨rfl, rfl⟩ (by omega) (by omega) (fun ov w_215 H locs hQ hP hD hS => ?_)
                                            obtain ⟨rfl, hw_215⟩ := hQ
                                            refine W.eq (g2 := F0 m 299 ls [.long v_214]) rfl ?_
                                            refine lv_ldc2 (v := -9000000000000000001) hx hb hown w_0 dL_errors_299 ?_
                                            refine W.lcmp hx hb dL_errors_302 ?_
                                            refine lv_if_ne (tgt := 336) hx hb dL_errors_303 (by decide) (fun c_217 => ?_) (fun c_217 => ?_)
                                            · have h := it_r c_217 h
                                              refine lv_iconst (v := 0) hx hb dL_errors_336 (by decide) ?_
                                              refine lv_istore (lv' := [(4, .int 0), (3, .int v_112), (1, .long v_109), (0, .ref (cA 0))]) hx hb dL_errors_337 hl (by decide) rfl (fun ls hl => ?_)
                                              refine lv_iconst (v := 0) hx hb dL_errors_339 (by decide) ?_
                                              refine lv_istore (lv' := [(5, .int 0), (4, .int 0), (3, .int v_112), (1, .long v_109), (0, .ref (cA 0))]) hx hb dL_errors_340 hl (by decide) rfl (fun ls hl => ?_)
                                              refine W.widen (k := (584 - 20 * 7)) (n := (3711 - 129 * 7)) (by omega) (by omega) ?_
                                              exact hC_342 7 v_109 v_112 0 0 X_216 w_215 _ _ _ (Nat.le_refl _) hw_215 hP hD hS (lv_sub hl [4, 3, 2, 1, 0] rfl) h
                                            · have h := it_l c_217 h
                                              refine lv_aload_n hx hb dL_errors_306 rfl (lv_at hl 2 rfl) ?_
                                              refine lv_iconst (v := 0) hx hb dL_errors_307 (by decide) ?_
                                              refine lv_bipush (v := 21) hx hb dL_errors_308 (by decide) ?_
                                              obtain ⟨⟨v_219, X_221⟩, hv_218, h⟩ := bd_l h
                                              refine Lo_T (As := [.ref (cA 0), .int 0, .int 21]) (rest := []) (wA := w_215) (wr := []) 14 93 (432) (2727) 997 6270 (co_wash l hst D k cA nA tA X_216 w_215 hw_215 0 21 (v_219, X_221) hv_218) ⟨hx, hb, hml, hown, hts⟩ (vx_cwSW 3 hts gL_errors_L_wash rfl rfl rfl (by decide +kernel) ⟨Nat.le_of_ble_eq_true rfl, Nat.le_of_ble_eq_true rfl⟩) hK hG hC hP hD hS hA (List.Perm.refl _) rfl hl.1 rfl (Nat.le_of_ble_eq_true rfl) dL_errors_310 ⟨rfl, rfl⟩ ⟨rfl, rfl⟩ (by omega) (by omega) (fun ov w_220 H locs hQ hP hD hS => ?_)
                                              obtain ⟨rfl, hw_220⟩ := hQ
                                              refine W.eq (g2 := F0 m 313 ls [.long v_219]) rfl ?_
                                              refine lv_ldc2 (v := -9000000000000000002) hx hb hown w_1 dL_errors_313 ?_
                                              refine W.lcmp hx hb dL_errors_316 ?_
                                              refine lv_if_ne (tgt := 336) hx hb dL_errors_317 (by decide) (fun c_222 => ?_) (fun c_222 => ?_)
                                              · have h := it_r c_222 h
                                                refine lv_iconst (v := 0) hx hb dL_errors_336 (by decide) ?_
                                                refine lv_istore (lv' := [(4, .int 0), (3, .int v_112), (1, .long v_109), (0, .ref (cA 0))]) hx hb dL_errors_337 hl (by decide) rfl (fun ls hl => ?_)
                                                refine lv_iconst (v := 0) hx hb dL_errors_339 (by decide) ?_
                                                refine lv_istore (lv' := [(5, .int 0), (4, .int 0), (3, .int v_112), (1, .long v_109), (0, .ref (cA 0))]) hx hb dL_errors_340 hl (by decide) rfl (fun ls hl => ?_)
                                                refine W.widen (k := (584 - 20 * 7)) (n := (3711 - 129 * 7)) (by omega) (by omega) ?_
                                                exact hC_342 7 v_109 v_112 0 0 X_221 w_220 _ _ _ (Nat.le_refl _) hw_220 hP hD hS (lv_sub hl [4, 3, 2, 1, 0] rfl) h
                                              · have h := it_l c_222 h
                                                refine lv_aload_n hx hb dL_errors_320 rfl (lv_at hl 2 rfl) ?_
                                                refine lv_iload_n hx hb dL_errors_321 rfl (lv_at hl 0 rfl) ?_
                                                obtain ⟨⟨v_224, X_226⟩, hv_223, h⟩ := bd_l h
                                                refine Lo_T (As := [.ref (cA 0), .int v_112]) (rest := []) (wA := w_220) (wr := []) 12 81 (444) (2808) 997 6270 (co_endWash l hst D k cA nA tA X_221 w_220 hw_220 v_112 (v_224, X_226) hv_223) ⟨hx, hb, hml, hown, hts⟩ (vx_cwSW 2 hts gL_errors_L_endWash rfl rfl rfl (by decide +kernel) ⟨Nat.le_of_ble_eq_true rfl, Nat.le_of_ble_eq_true rfl⟩) hK hG hC hP hD hS hA (List.Perm.refl _) rfl hl.1 rfl (Nat.le_of_ble_eq_true rfl) dL_errors_322 ⟨rfl, rfl⟩ ⟨rfl, rfl⟩ (by omega) (by omega) (fun ov w_225 H locs hQ hP hD hS => ?_)
                                                obtain ⟨rfl, hw_225⟩ := hQ
                                                refine W.eq (g2 := F0 m 325 ls [.long v_224]) rfl ?_
                                                refine lv_ldc2 (v := -9000000000000000001) hx hb hown w_0 dL_errors_325 ?_
                                                refine W.lcmp hx hb dL_errors_328 ?_
                                                refine lv_if_ne (tgt := 336) hx hb dL_errors_329 (by decide) (fun c_227 => ?_) (fun c_227 => ?_)
                                                · have h := it_r c_227 h
                                                  refine lv_iconst (v := 0) hx hb dL_errors_336 (by decide) ?_
                                                  refine lv_istore (lv' := [(4, .int 0), (3, .int v_112), (1, .long v_109), (0, .ref (cA 0))]) hx hb dL_errors_337 hl (by decide) rfl (fun ls hl => ?_)
                                                  refine lv_iconst (v := 0) hx hb dL_errors_339 (by decide) ?_
                                                  refine lv_istore (lv' := [(5, .int 0), (4, .int 0), (3, .int v_112), (1, .long v_109), (0, .ref (cA 0))]) hx hb dL_errors_340 hl (by decide) rfl (fun ls hl => ?_)
                                                  refine W.widen (k := (584 - 20 * 7)) (n := (3711 - 129 * 7)) (by omega) (by omega) ?_
                                                  exact hC_342 7 v_109 v_112 0 0 X_226 w_225 _ _ _ (Nat.le_refl _) hw_225 hP hD hS (lv_sub hl [4, 3, 2, 1, 0] rfl) h
                                                · have h := it_l c_227 h
                                                  refine lv_iconst (v := 1) hx hb dL_errors_332 (by decide) ?_
                                                  refine lv_goto (tgt := 337) hx hb dL_errors_333 (by decide) ?_
                                                  refine lv_istore (lv' := [(4, .int 1), (3, .int v_112), (1, .long v_109), (0, .ref (cA 0))]) hx hb dL_errors_337 hl (by decide) rfl (fun ls hl => ?_)
                                                  refine lv_iconst (v := 0) hx hb dL_errors_339 (by decide) ?_
                                                  refine lv_istore (lv' := [(5, .int 0), (4, .int 1), (3, .int v_112), (1, .long v_109), (0, .ref (cA 0))]) hx hb dL_errors_340 hl (by decide) rfl (fun ls hl => ?_)
                                                  refine W.widen (k := (584 - 20 * 7)) (n := (3711 - 129 * 7)) (by omega) (by omega) ?_
                                                  exact hC_342 7 v_109 v_112 1 0 X_226 w_225 _ _ _ (Nat.le_refl _) hw_225 hP hD hS (lv_sub hl [4, 3, 2, 1, 0] rfl) h
noncomputable def f_L_built_408 (X : XV) (x2_408 : Int64) (x4_408 : Int64) (x6_408 : Int32) (x8_408 : Int32) : Option (Int32) := if x8_408 = 0 then (some (0)) else (bd (o_about X 7) fun v_3 => if (lg_cmp v_3 (x6_408.toInt64)) = 0 then (bd (o_about X 8) fun v_7 => if (lg_cmp v_7 x2_408) = 0 then (bd (o_about X 9) fun v_11 => if (lg_cmp v_11 x4_408) = 0 then (bd (o_total X 2) fun v_15 => bd (o_total X 1) fun v_18 => if 0 < (lg_cmp v_15 v_18) then (some (0)) else (bd (o_total X 3) fun v_22 => bd (o_total X 1) fun v_25 => if 0 < (lg_cmp v_22 v_25) then (some (0)) else (bd (o_total X 0) fun v_29 => bd (o_total X 2) fun v_32 => bd (o_total X 3) fun v_35 => bd (o_total X 4) fun v_38 => if (lg_cmp v_29 ((v_32 + v_35) + v_38)) = 0 then (some (1)) else (some (0))))) else (some (0))) else (some (0))) else (some (0)))
noncomputable def f_L_built_378 (k_349 : Int64 → Int64 → Int32 → Int32 → Int32 → Int32 → Option (Int32)) (X : XV) (x2_349 : Int64) (x4_349 : Int64) (x6_349 : Int32) (x9_378 : Int32) (x10_378 : Int32) (t0_378 : Int32) : Option (Int32) := bd (o_effect X x10_378 7) fun v_42 => if (lg_cmp v_42 0) = 0 then (k_349 x2_349 x4_349 x6_349 t0_378 x10_378 (x10_378 + (-1))) else (k_349 x2_349 x4_349 x6_349 t0_378 x9_378 (x10_378 + (-1)))
noncomputable def f_L_built_349 (X : XV) : Nat → Int64 → Int64 → Int32 → Int32 → Int32 → Int32 → Option (Int32)
  | 0, _, _, _, _, _, _ => none
  | fu + 1, x2_349, x4_349, x6_349, x8_349, x9_349, x10_349 => if x10_349 < 0 then (f_L_built_408 X x2_349 x4_349 x6_349 x8_349) else (if x8_349 = 0 then (f_L_built_408 X x2_349 x4_349 x6_349 x8_349) else (bd (o_neighbor X x10_349 1) fun v_48 => if (lg_cmp v_48 (x9_349.toInt64)) = 0 then (f_L_built_378 (f_L_built_349 X fu) X x2_349 x4_349 x6_349 x9_349 x10_349 1) else (f_L_built_378 (f_L_built_349 X fu) X x2_349 x4_349 x6_349 x9_349 x10_349 0)))
noncomputable def f_L_built_310 (k_23 : Int32 → Int64 → Int64 → Int32 → Int32 → Int32 → Int32 → Option (Int32)) (X : XV) (x1_23 : Int32) (x2_310 : Int64) (x4_310 : Int64) (x6_310 : Int32) (x7_310 : Int32) (x9_310 : Int32) (t0_310 : Int32) : Option (Int32) := bd (o_effect X x9_310 7) fun v_52 => if (lg_cmp v_52 0) = 0 then (k_23 x1_23 x2_310 x4_310 x6_310 x9_310 t0_310 (x9_310 + 1)) else (k_23 x1_23 x2_310 x4_310 x6_310 x7_310 t0_310 (x9_310 + 1))
noncomputable def f_L_built_309 (k_23 : Int32 → Int64 → Int64 → Int32 → Int32 → Int32 → Int32 → Option (Int32)) (X : XV) (x1_23 : Int32) (x2_309 : Int64) (x4_309 : Int64) (x6_309 : Int32) (x7_309 : Int32) (x9_309 : Int32) : Option (Int32) := f_L_built_310 k_23 X x1_23 x2_309 x4_309 x6_309 x7_309 x9_309 0
noncomputable def f_L_built_302 (k_23 : Int32 → Int64 → Int64 → Int32 → Int32 → Int32 → Int32 → Option (Int32)) (X : XV) (x1_23 : Int32) (x2_302 : Int64) (x4_302 : Int64) (x6_302 : Int32) (x7_302 : Int32) (x9_302 : Int32) (t0_302 : Int32) (t1_302 : Int32) : Option (Int32) := if t1_302 = t0_302 then (f_L_built_310 k_23 X x1_23 x2_302 x4_302 x6_302 x7_302 x9_302 1) else (f_L_built_309 k_23 X x1_23 x2_302 x4_302 x6_302 x7_302 x9_302)
noncomputable def f_L_built_290 (k_23 : Int32 → Int64 → Int64 → Int32 → Int32 → Int32 → Int32 → Option (Int32)) (X : XV) (x1_23 : Int32) (x2_290 : Int64) (x4_290 : Int64) (x6_290 : Int32) (x7_290 : Int32) (x9_290 : Int32) (x12_290 : Int64) (t0_290 : Int32) : Option (Int32) := if (lg_cmp x12_290 0) = 0 then (f_L_built_302 k_23 X x1_23 x2_290 x4_290 x6_290 x7_290 x9_290 1 t0_290) else (f_L_built_302 k_23 X x1_23 x2_290 x4_290 x6_290 x7_290 x9_290 0 t0_290)
noncomputable def f_L_built_204 (k_23 : Int32 → Int64 → Int64 → Int32 → Int32 → Int32 → Int32 → Option (Int32)) (X : XV) (x1_23 : Int32) (x2_204 : Int64) (x4_204 : Int64) (x6_204 : Int32) (x7_204 : Int32) (x9_204 : Int32) (x12_204 : Int64) (x14_204 : Int64) (t0_204 : Int64) (t1_204 : Int64) : Option (Int32) := if (lg_cmp t1_204 t0_204) = 0 then (bd (o_effect X x9_204 9) fun v_59 => bd (o_effect X x9_204 0) fun v_62 => gb (nzl (10 + x14_204)) <| if (lg_cmp v_59 ((100 * v_62) / (10 + x14_204))) = 0 then (bd (o_neighbor X x9_204 0) fun v_67 => if (lg_cmp v_67 (x7_204.toInt64)) = 0 then (bd (o_share X x9_204) fun v_71 => if (Op.cmpValue (FP.fcmp v_71 FP.fconst0) .l) < 0 then (f_L_built_309 k_23 X x1_23 x2_204 x4_204 x6_204 x7_204 x9_204) else (bd (o_share X x9_204) fun v_75 => if 0 < (Op.cmpValue (FP.fcmp v_75 FP.fconst1) .g) then (f_L_built_309 k_23 X x1_23 x2_204 x4_204 x6_204 x7_204 x9_204) else (bd (o_share X x9_204) fun v_79 => if (Op.cmpValue (FP.fcmp v_79 FP.fconst0) .l) = 0 then (f_L_built_290 k_23 X x1_23 x2_204 x4_204 x6_204 x7_204 x9_204 x12_204 1) else (f_L_built_290 k_23 X x1_23 x2_204 x4_204 x6_204 x7_204 x9_204 x12_204 0)))) else (f_L_built_309 k_23 X x1_23 x2_204 x4_204 x6_204 x7_204 x9_204)) else (f_L_built_309 k_23 X x1_23 x2_204 x4_204 x6_204 x7_204 x9_204)) else (f_L_built_309 k_23 X x1_23 x2_204 x4_204 x6_204 x7_204 x9_204)
noncomputable def f_L_built_93 (k_23 : Int32 → Int64 → Int64 → Int32 → Int32 → Int32 → Int32 → Option (Int32)) (X : XV) (x1_23 : Int32) (x2_93 : Int64) (x4_93 : Int64) (x7_93 : Int32) (x9_93 : Int32) (x10_93 : Int64) (x12_93 : Int64) (x14_93 : Int64) (t0_93 : Int32) (t1_93 : Int32) : Option (Int32) := nm (t1_93 + t0_93) fun v_82 => if (lg_cmp x10_93 0) < 0 then (f_L_built_309 k_23 X x1_23 x2_93 x4_93 v_82 x7_93 x9_93) else (if (lg_cmp x12_93 0) < 0 then (f_L_built_309 k_23 X x1_23 x2_93 x4_93 v_82 x7_93 x9_93) else (if 0 < (lg_cmp (x10_93 + x12_93) 5000) then (f_L_built_309 k_23 X x1_23 x2_93 x4_93 v_82 x7_93 x9_93) else (bd (f_L_in x14_93 0 99) fun v_87 => if v_87 = 0 then (f_L_built_309 k_23 X x1_23 x2_93 x4_93 v_82 x7_93 x9_93) else (bd (o_effect X x9_93 6) fun v_90 => bd (f_L_in v_90 0 999) fun v_93 => if v_93 = 0 then (f_L_built_309 k_23 X x1_23 x2_93 x4_93 v_82 x7_93 x9_93) else (bd (o_effect X x9_93 7) fun v_96 => bd (f_L_in v_96 0 20) fun v_99 => if v_99 = 0 then (f_L_built_309 k_23 X x1_23 x2_93 x4_93 v_82 x7_93 x9_93) else (bd (o_effect X x9_93 8) fun v_102 => if (lg_cmp (x10_93 + x12_93) 0) = 0 then (f_L_built_204 k_23 X x1_23 x2_93 x4_93 v_82 x7_93 x9_93 x12_93 x14_93 0 v_102) else (gb (nzl (x10_93 + x12_93)) <| f_L_built_204 k_23 X x1_23 x2_93 x4_93 v_82 x7_93 x9_93 x12_93 x14_93 ((100 * x12_93) / (x10_93 + x12_93)) v_102)))))))
noncomputable def f_L_built_23 (X : XV) : Nat → Int32 → Int64 → Int64 → Int32 → Int32 → Int32 → Int32 → Option (Int32)
  | 0, _, _, _, _, _, _, _ => none
  | fu + 1, x1_23, x2_23, x4_23, x6_23, x7_23, x8_23, x9_23 => if x1_23 ≤ x9_23 then (nm (x1_23 - 1) fun v_107 => f_L_built_349 X 7 x2_23 x4_23 x6_23 x8_23 (-9) v_107) else (if x8_23 = 0 then (nm (x1_23 - 1) fun v_109 => f_L_built_349 X 7 x2_23 x4_23 x6_23 x8_23 (-9) v_109) else (bd (o_effect X x9_23 1) fun v_111 => bd (o_effect X x9_23 2) fun v_114 => bd (o_effect X x9_23 5) fun v_117 => nm (x2_23 + v_111) fun v_119 => nm (x4_23 + v_114) fun v_120 => bd (o_effect X x9_23 7) fun v_122 => if (lg_cmp v_122 0) ≤ 0 then (f_L_built_93 (f_L_built_23 X fu) X x1_23 v_119 v_120 x7_23 x9_23 v_111 v_114 v_117 0 x6_23) else (f_L_built_93 (f_L_built_23 X fu) X x1_23 v_119 v_120 x7_23 x9_23 v_111 v_114 v_117 1 x6_23)))
noncomputable def f_L_built (X : XV) : Option (Int32) := bd (f_L_effects X) fun v_126 => f_L_built_23 X 7 v_126 0 0 0 (-9) 1 0
set_option maxRecDepth 100000 in
set_option maxHeartbeats 4000000 in
theorem c_L_built (l : Launch) (hst : l.stackTraces = false) (D : va_G) (k : Nat → ClassId) (cA nA tA : Nat → Nat) (X : XV) (w : va_W) (hw : Ob k cA nA tA X w) (o : Int32) (h : f_L_built X = some o) : CO l D k yL_built wsL_built ({ frames := 10, cells := 228, slots := 1368, locals := 167 } : Room) [.ref (cA 0)] (w) (fun (ov : Option Value) (w' : va_W) => ov = some (.int o) ∧ Ob k cA nA tA X w') := by
  obtain ⟨B9, hB9⟩ : ∃ B : Option Value → va_W → Prop, B = fun (ov : Option Value) (w' : va_W) => ov = some (.int o) ∧ Ob k cA nA tA X w' := ⟨_, rfl⟩
  refine CO.of (P := B9) ?_ (fun ov w' h9 => by rw [hB9] at h9; exact h9)
  refine Cl_of0 (cc := cL_built) (maxL := 16) (ret := (some .boolean)) (by decide) rfl (Nat.le_of_ble_eq_true rfl) ?_
  intro p e s m args below meth c A ls hx hb hr hml hts hown hlocks hK hG hC hA hP hD hS hl
  have hl : lv_has ls 16 [(0, .ref (cA 0))] := hl
  have hP := P_n hP
  have hD := D_n hD
  have w_0 := hts (.constantLong RL 198 (100)) (by decide +kernel)
  have w_1 := hts (.constantLong RL 200 (10)) (by decide +kernel)
  have w_2 := hts (.constantLong RL 186 (5000)) (by decide +kernel)
  have w_3 := hts (.constantLong RL 188 (99)) (by decide +kernel)
  have w_4 := hts (.constantLong RL 194 (999)) (by decide +kernel)
  have w_5 := hts (.constantLong RL 196 (20)) (by decide +kernel)
  unfold f_L_built at h
  have hC_408 : ∀ (x2_408 : Int64) (x4_408 : Int64) (x6_408 : Int32) (x8_408 : Int32) (w_408 : va_W) (H : Heap) (locs : List Loc) (ls : Array Slot), Ob k cA nA tA X w_408 → va_P D vwCl (w_408 ++ []) H → va_D A (w_408 ++ []) → va_S A s.heap H locs → lv_has ls 16 [(0, .ref (cA 0)), (2, .long x2_408), (4, .long x4_408), (6, .int x6_408), (8, .int x8_408)] → f_L_built_408 X x2_408 x4_408 x6_408 x8_408 = some o → W p l e ({ frames := 10, cells := 228, slots := 1368, locals := 167 } : Room) s m args below meth c H locs (217) (1302) (vx_MQ below (Qx D A (.inr B9)) (Xx D A (w) (.inr B9)) args s 228 1368 A) (F0 m 408 ls []) := by
    intro x2_408 x4_408 x6_408 x8_408 w_408 H locs ls hw_408 hP hD hS hl h
    unfold f_L_built_408 at h
    refine lv_iload hx hb dL_built_408 (lv_at hl 4 rfl) ?_
    refine lv_if_eq (tgt := 507) hx hb dL_built_410 (by decide) (fun c_1 => ?_) (fun c_1 => ?_)
    · have h := it_l c_1 h
      refine lv_iconst (v := 0) hx hb dL_built_507 (by decide) ?_
      cases h
      exact Cx_zret (B := B9) rfl (by rw [hB9]; exact ⟨rfl, hw_408⟩) (by omega) (by omega) hx hb hr (by decide) (P_l hP) (D_l hD) hS dL_built_508 hlocks
    · have h := it_r c_1 h
      refine lv_aload_n hx hb dL_built_413 rfl (lv_at hl 0 rfl) ?_
      refine lv_bipush (v := 7) hx hb dL_built_414 (by decide) ?_
      obtain ⟨v_3, hv_2, h⟩ := bd_l h
      refine Lo_T (As := [.ref (cA 0), .int 7]) (rest := []) (wA := w_408) (wr := []) 1 6 (218) (1308) 228 1368 (co_about l hst D k cA nA tA X w_408 hw_408 7 v_3 hv_2) ⟨hx, hb, hml, hown, hts⟩ (vx_cwSW 2 hts gL_built_L_about rfl rfl rfl (by decide +kernel) ⟨Nat.le_of_ble_eq_true rfl, Nat.le_of_ble_eq_true rfl⟩) hK hG hC hP hD hS hA (List.Perm.refl _) rfl hl.1 rfl (Nat.le_of_ble_eq_true rfl) dL_built_416 ⟨rfl, rfl⟩ ⟨rfl, rfl⟩ (by omega) (by omega) (fun ov w_4 H locs hQ hP hD hS => ?_)
      obtain ⟨rfl, hw_4⟩ := hQ
      refine W.eq (g2 := F0 m 419 ls [.long v_3]) rfl ?_
      refine lv_iload hx hb dL_built_419 (lv_at hl 3 rfl) ?_
      refine lv_i2l hx hb dL_built_421 rfl ?_
      refine W.lcmp hx hb dL_built_422 ?_
      refine lv_if_ne (tgt := 507) hx hb dL_built_423 (by decide) (fun c_5 => ?_) (fun c_5 => ?_)
      · have h := it_r c_5 h
        refine lv_iconst (v := 0) hx hb dL_built_507 (by decide) ?_
        cases h
        exact Cx_zret (B := B9) rfl (by rw [hB9]; exact ⟨rfl, hw_4⟩) (by omega) (by omega) hx hb hr (by decide) (P_l hP) (D_l hD) hS dL_built_508 hlocks
      · have h := it_l c_5 h
        refine lv_aload_n hx hb dL_built_426 rfl (lv_at hl 0 rfl) ?_
        refine lv_bipush (v := 8) hx hb dL_built_427 (by decide) ?_
        obtain ⟨v_7, hv_6, h⟩ := bd_l h
        refine Lo_T (As := [.ref (cA 0), .int 8]) (rest := []) (wA := w_4) (wr := []) 1 6 (219) (1314) 228 1368 (co_about l hst D k cA nA tA X w_4 hw_4 8 v_7 hv_6) ⟨hx, hb, hml, hown, hts⟩ (vx_cwSW 2 hts gL_built_L_about rfl rfl rfl (by decide +kernel) ⟨Nat.le_of_ble_eq_true rfl, Nat.le_of_ble_eq_true rfl⟩) hK hG hC hP hD hS hA (List.Perm.refl _) rfl hl.1 rfl (Nat.le_of_ble_eq_true rfl) dL_built_429 ⟨rfl, rfl⟩ ⟨rfl, rfl⟩ (by omega) (by omega) (fun ov w_8 H locs hQ hP hD hS => ?_)
        obtain ⟨rfl, hw_8⟩ := hQ
        refine W.eq (g2 := F0 m 432 ls [.long v_7]) rfl ?_
        refine lv_lload_n hx hb dL_built_432 rfl (lv_at hl 1 rfl) ?_
        refine W.lcmp hx hb dL_built_433 ?_
        refine lv_if_ne (tgt := 507) hx hb dL_built_434 (by decide) (fun c_9 => ?_) (fun c_9 => ?_)
        · have h := it_r c_9 h
          refine lv_iconst (v := 0) hx hb dL_built_507 (by decide) ?_
          cases h
          exact Cx_zret (B := B9) rfl (by rw [hB9]; exact ⟨rfl, hw_8⟩) (by omega) (by omega) hx hb hr (by decide) (P_l hP) (D_l hD) hS dL_built_508 hlocks
        · have h := it_l c_9 h
          refine lv_aload_n hx hb dL_built_437 rfl (lv_at hl 0 rfl) ?_
          refine lv_bipush (v := 9) hx hb dL_built_438 (by decide) ?_
          obtain ⟨v_11, hv_10, h⟩ := bd_l h
          refine Lo_T (As := [.ref (cA 0), .int 9]) (rest := []) (wA := w_8) (wr := []) 1 6 (220) (1320) 228 1368 (co_about l hst D k cA nA tA X w_8 hw_8 9 v_11 hv_10) ⟨hx, hb, hml, hown, hts⟩ (vx_cwSW 2 hts gL_built_L_about rfl rfl rfl (by decide +kernel) ⟨Nat.le_of_ble_eq_true rfl, Nat.le_of_ble_eq_true rfl⟩) hK hG hC hP hD hS hA (List.Perm.refl _) rfl hl.1 rfl (Nat.le_of_ble_eq_true rfl) dL_built_440 ⟨rfl, rfl⟩ ⟨rfl, rfl⟩ (by omega) (by omega) (fun ov w_12 H locs hQ hP hD hS => ?_)
          obtain ⟨rfl, hw_12⟩ := hQ
          refine W.eq (g2 := F0 m 443 ls [.long v_11]) rfl ?_
          refine lv_lload hx hb dL_built_443 (lv_at hl 2 rfl) ?_
          refine W.lcmp hx hb dL_built_445 ?_
          refine lv_if_ne (tgt := 507) hx hb dL_built_446 (by decide) (fun c_13 => ?_) (fun c_13 => ?_)
          · have h := it_r c_13 h
            refine lv_iconst (v := 0) hx hb dL_built_507 (by decide) ?_
            cases h
            exact Cx_zret (B := B9) rfl (by rw [hB9]; exact ⟨rfl, hw_12⟩) (by omega) (by omega) hx hb hr (by decide) (P_l hP) (D_l hD) hS dL_built_508 hlocks
          · have h := it_l c_13 h
            refine lv_aload_n hx hb dL_built_449 rfl (lv_at hl 0 rfl) ?_
            refine lv_iconst (v := 2) hx hb dL_built_450 (by decide) ?_
            obtain ⟨v_15, hv_14, h⟩ := bd_l h
            refine Lo_T (As := [.ref (cA 0), .int 2]) (rest := []) (wA := w_12) (wr := []) 1 6 (221) (1326) 228 1368 (co_total l hst D k cA nA tA X w_12 hw_12 2 v_15 hv_14) ⟨hx, hb, hml, hown, hts⟩ (vx_cwSW 2 hts gL_built_L_total rfl rfl rfl (by decide +kernel) ⟨Nat.le_of_ble_eq_true rfl, Nat.le_of_ble_eq_true rfl⟩) hK hG hC hP hD hS hA (List.Perm.refl _) rfl hl.1 rfl (Nat.le_of_ble_eq_true rfl) dL_built_451 ⟨rfl, rfl⟩ ⟨rfl, rfl⟩ (by omega) (by omega) (fun ov w_16 H locs hQ hP hD hS => ?_)
            obtain ⟨rfl, hw_16⟩ := hQ
            refine W.eq (g2 := F0 m 454 ls [.long v_15]) rfl ?_
            refine lv_aload_n hx hb dL_built_454 rfl (lv_at hl 0 rfl) ?_
            refine lv_iconst (v := 1) hx hb dL_built_455 (by decide) ?_
            obtain ⟨v_18, hv_17, h⟩ := bd_l h
            refine Lo_T (As := [.ref (cA 0), .int 1]) (rest := [.long v_15]) (wA := w_16) (wr := []) 1 6 (222) (1332) 228 1368 (co_total l hst D k cA nA tA X w_16 hw_16 1 v_18 hv_17) ⟨hx, hb, hml, hown, hts⟩ (vx_cwSW 2 hts gL_built_L_total rfl rfl rfl (by decide +kernel) ⟨Nat.le_of_ble_eq_true rfl, Nat.le_of_ble_eq_true rfl⟩) hK hG hC hP hD hS hA (List.Perm.refl _) rfl hl.1 rfl (Nat.le_of_ble_eq_true rfl) dL_built_456 ⟨rfl, rfl⟩ ⟨rfl, rfl⟩ (by omega) (by omega) (fun ov w_19 H locs hQ hP hD hS => ?_)
            obtain ⟨rfl, hw_19⟩ := hQ
            refine W.eq (g2 := F0 m 459 ls [.long v_18, .long v_15]) rfl ?_
            refine W.lcmp hx hb dL_built_459 ?_
            refine lv_if_gt (tgt := 507) hx hb dL_built_460 (by decide) (fun c_20 => ?_) (fun c_20 => ?_)
            · have h := it_l c_20 h
              refine lv_iconst (v := 0) hx hb dL_built_507 (by decide) ?_
              cases h
              exact Cx_zret (B := B9) rfl (by rw [hB9]; exact ⟨rfl, hw_19⟩) (by omega) (by omega) hx hb hr (by decide) (P_l hP) (D_l hD) hS dL_built_508 hlocks
            · have h := it_r c_20 h
              refine lv_aload_n hx hb dL_built_463 rfl (lv_at hl 0 rfl) ?_
              refine lv_iconst (v := 3) hx hb dL_built_464 (by decide) ?_
              obtain ⟨v_22, hv_21, h⟩ := bd_l h
              refine Lo_T (As := [.ref (cA 0), .int 3]) (rest := []) (wA := w_19) (wr := []) 1 6 (223) (1338) 228 1368 (co_total l hst D k cA nA tA X w_19 hw_19 3 v_22 hv_21) ⟨hx, hb, hml, hown, hts⟩ (vx_cwSW 2 hts gL_built_L_total rfl rfl rfl (by decide +kernel) ⟨Nat.le_of_ble_eq_true rfl, Nat.le_of_ble_eq_true rfl⟩) hK hG hC hP hD hS hA (List.Perm.refl _) rfl hl.1 rfl (Nat.le_of_ble_eq_true rfl) dL_built_465 ⟨rfl, rfl⟩ ⟨rfl, rfl⟩ (by omega) (by omega) (fun ov w_23 H locs hQ hP hD hS => ?_)
              obtain ⟨rfl, hw_23⟩ := hQ
              refine W.eq (g2 := F0 m 468 ls [.long v_22]) rfl ?_
              refine lv_aload_n hx hb dL_built_468 rfl (lv_at hl 0 rfl) ?_
              refine lv_iconst (v := 1) hx hb dL_built_469 (by decide) ?_
              obtain ⟨v_25, hv_24, h⟩ := bd_l h
              refine Lo_T (As := [.ref (cA 0), .int 1]) (rest := [.long v_22]) (wA := w_23) (wr := []) 1 6 (224) (1344) 228 1368 (co_total l hst D k cA nA tA X w_23 hw_23 1 v_25 hv_24) ⟨hx, hb, hml, hown, hts⟩ (vx_cwSW 2 hts gL_built_L_total rfl rfl rfl (by decide +kernel) ⟨Nat.le_of_ble_eq_true rfl, Nat.le_of_ble_eq_true rfl⟩) hK hG hC hP hD hS hA (List.Perm.refl _) rfl hl.1 rfl (Nat.le_of_ble_eq_true rfl) dL_built_470 ⟨rfl, rfl⟩ ⟨rfl, rfl⟩ (by omega) (by omega) (fun ov w_26 H locs hQ hP hD hS => ?_)
              obtain ⟨rfl, hw_26⟩ := hQ
              refine W.eq (g2 := F0 m 473 ls [.long v_25, .long v_22]) rfl ?_
              refine W.lcmp hx hb dL_built_473 ?_
              refine lv_if_gt (tgt := 507) hx hb dL_built_474 (by decide) (fun c_27 => ?_) (fun c_27 => ?_)
              · have h := it_l c_27 h
                refine lv_iconst (v := 0) hx hb dL_built_507 (by decide) ?_
                cases h
                exact Cx_zret (B := B9) rfl (by rw [hB9]; exact ⟨rfl, hw_26⟩) (by omega) (by omega) hx hb hr (by decide) (P_l hP) (D_l hD) hS dL_built_508 hlocks
              · have h := it_r c_27 h
                refine lv_aload_n hx hb dL_built_477 rfl (lv_at hl 0 rfl) ?_
                refine lv_iconst (v := 0) hx hb dL_built_478 (by decide) ?_
                obtain ⟨v_29, hv_28, h⟩ := bd_l h
                refine Lo_T (As := [.ref (cA 0), .int 0]) (rest := []) (wA := w_26) (wr := []) 1 6 (225) (1350) 228 1368 (co_total l hst D k cA nA tA X w_26 hw_26 0 v_29 hv_28) ⟨hx, hb, hml, hown, hts⟩ (vx_cwSW 2 hts gL_built_L_total rfl rfl rfl (by decide +kernel) ⟨Nat.le_of_ble_eq_true rfl, Nat.le_of_ble_eq_true rfl⟩) hK hG hC hP hD hS hA (List.Perm.refl _) rfl hl.1 rfl (Nat.le_of_ble_eq_true rfl) dL_built_479 ⟨rfl, rfl⟩ ⟨rfl, rfl⟩ (by omega) (by omega) (fun ov w_30 H locs hQ hP hD hS => ?_)
                obtain ⟨rfl, hw_30⟩ := hQ
                refine W.eq (g2 := F0 m 482 ls [.long v_29]) rfl ?_
                refine lv_aload_n hx hb dL_built_482 rfl (lv_at hl 0 rfl) ?_
                refine lv_iconst (v := 2) hx hb dL_built_483 (by decide) ?_
                obtain ⟨v_32, hv_31, h⟩ := bd_l h
                refine Lo_T (As := [.ref (cA 0), .int 2]) (rest := [.long v_29]) (wA := w_30) (wr := []) 1 6 (226) (1356) 228 1368 (co_total l hst D k cA nA tA X w_30 hw_30 2 v_32 hv_31) ⟨hx, hb, hml, hown, hts⟩ (vx_cwSW 2 hts gL_built_L_total rfl rfl rfl (by decide +kernel) ⟨Nat.le_of_ble_eq_true rfl, Nat.le_of_ble_eq_true rfl⟩) hK hG hC hP hD hS hA (List.Perm.refl _) rfl hl.1 rfl (Nat.le_of_ble_eq_true rfl) dL_built_484 ⟨rfl, rfl⟩ ⟨rfl, rfl⟩ (by omega) (by omega) (fun ov w_33 H locs hQ hP hD hS => ?_)
                obtain ⟨rfl, hw_33⟩ := hQ
                refine W.eq (g2 := F0 m 487 ls [.long v_32, .long v_29]) rfl ?_
                refine lv_aload_n hx hb dL_built_487 rfl (lv_at hl 0 rfl) ?_
                refine lv_iconst (v := 3) hx hb dL_built_488 (by decide) ?_
                obtain ⟨v_35, hv_34, h⟩ := bd_l h
                refine Lo_T (As := [.ref (cA 0), .int 3]) (rest := [.long v_32, .long v_29]) (wA := w_33) (wr := []) 1 6 (227) (1362) 228 1368 (co_total l hst D k cA nA tA X w_33 hw_33 3 v_35 hv_34) ⟨hx, hb, hml, hown, hts⟩ (vx_cwSW 2 hts gL_built_L_total rfl rfl rfl (by decide +kernel) ⟨Nat.le_of_ble_eq_true rfl, Nat.le_of_ble_eq_true rfl⟩) hK hG hC hP hD hS hA (List.Perm.refl _) rfl hl.1 rfl (Nat.le_of_ble_eq_true rfl) dL_built_489 ⟨rfl, rfl⟩ ⟨rfl, rfl⟩ (by omega) (by omega) (fun ov w_36 H locs hQ hP hD hS => ?_)
                obtain ⟨rfl, hw_36⟩ := hQ
                refine W.eq (g2 := F0 m 492 ls [.long v_35, .long v_32, .long v_29]) rfl ?_
                refine lv_ladd hx hb dL_built_492 ?_
                refine lv_aload_n hx hb dL_built_493 rfl (lv_at hl 0 rfl) ?_
                refine lv_iconst (v := 4) hx hb dL_built_494 (by decide) ?_
                obtain ⟨v_38, hv_37, h⟩ := bd_l h
                refine Lo_T (As := [.ref (cA 0), .int 4]) (rest := [.long (v_32 + v_35), .long v_29]) (wA := w_36) (wr := []) 1 6 (228) (1368) 228 1368 (co_total l hst D k cA nA tA X w_36 hw_36 4 v_38 hv_37) ⟨hx, hb, hml, hown, hts⟩ (vx_cwSW 2 hts gL_built_L_total rfl rfl rfl (by decide +kernel) ⟨Nat.le_of_ble_eq_true rfl, Nat.le_of_ble_eq_true rfl⟩) hK hG hC hP hD hS hA (List.Perm.refl _) rfl hl.1 rfl (Nat.le_of_ble_eq_true rfl) dL_built_495 ⟨rfl, rfl⟩ ⟨rfl, rfl⟩ (by omega) (by omega) (fun ov w_39 H locs hQ hP hD hS => ?_)
                obtain ⟨rfl, hw_39⟩ := hQ
                refine W.eq (g2 := F0 m 498 ls [.long v_38, .long (v_32 + v_35), .long v_29]) rfl ?_
                refine lv_ladd hx hb dL_built_498 ?_
                refine W.lcmp hx hb dL_built_499 ?_
                refine lv_if_ne (tgt := 507) hx hb dL_built_500 (by decide) (fun c_40 => ?_) (fun c_40 => ?_)
                · have h := it_r c_40 h
                  refine lv_iconst (v := 0) hx hb dL_built_507 (by decide) ?_
                  cases h
                  exact Cx_zret (B := B9) rfl (by rw [hB9]; exact ⟨rfl, hw_39⟩) (by omega) (by omega) hx hb hr (by decide) (P_l hP) (D_l hD) hS dL_built_508 hlocks
                · have h := it_l c_40 h
                  refine lv_iconst (v := 1) hx hb dL_built_503 (by decide) ?_
                  refine lv_goto (tgt := 508) hx hb dL_built_504 (by decide) ?_
                  cases h
                  exact Cx_zret (B := B9) rfl (by rw [hB9]; exact ⟨rfl, hw_39⟩) (by omega) (by omega) hx hb hr (by decide) (P_l hP) (D_l hD) hS dL_built_508 hlocks
  have hC_349 : ∀ (fu_349 : Nat) (x2_349 : Int64) (x4_349 : Int64) (x6_349 : Int32) (x8_349 : Int32) (x9_349 : Int32) (x10_349 : Int32) (w_349 : va_W) (H : Heap) (locs : List Loc) (ls : Array Slot), fu_349 ≤ 7 → Ob k cA nA tA X w_349 → va_P D vwCl (w_349 ++ []) H → va_D A (w_349 ++ []) → va_S A s.heap H locs → lv_has ls 16 [(0, .ref (cA 0)), (2, .long x2_349), (4, .long x4_349), (6, .int x6_349), (8, .int x8_349), (9, .int x9_349), (10, .int x10_349)] → f_L_built_349 X fu_349 x2_349 x4_349 x6_349 x8_349 x9_349 x10_349 = some o → W p l e ({ frames := 10, cells := 228, slots := 1368, locals := 167 } : Room) s m args below meth c H locs ((214 - 3 * fu_349)) ((1284 - 18 * fu_349)) (vx_MQ below (Qx D A (.inr B9)) (Xx D A (w) (.inr B9)) args s 228 1368 A) (F0 m 349 ls []) := by
    intro fu_349
    induction fu_349 with
    | zero => intro x2_349 x4_349 x6_349 x8_349 x9_349 x10_349 w_349 H locs ls _ _ _ _ _ _ h; exact (no_l h).elim
    | succ fu_349 ih_349 =>
      intro x2_349 x4_349 x6_349 x8_349 x9_349 x10_349 w_349 H locs ls hfu_349 hw_349 hP hD hS hl h
      rw [f_L_built_349] at h
      have hC_378 : ∀ (x9_378 : Int32) (x10_378 : Int32) (t0_378 : Int32) (w_378 : va_W) (H : Heap) (locs : List Loc) (ls : Array Slot), Ob k cA nA tA X w_378 → va_P D vwCl (w_378 ++ []) H → va_D A (w_378 ++ []) → va_S A s.heap H locs → lv_has ls 16 [(0, .ref (cA 0)), (2, .long x2_349), (4, .long x4_349), (6, .int x6_349), (9, .int x9_378), (10, .int x10_378)] → f_L_built_378 (f_L_built_349 X fu_349) X x2_349 x4_349 x6_349 x9_378 x10_378 t0_378 = some o → W p l e ({ frames := 10, cells := 228, slots := 1368, locals := 167 } : Room) s m args below meth c H locs ((214 - 3 * (fu_349 + 1)) + 1) ((1284 - 18 * (fu_349 + 1)) + 6) (vx_MQ below (Qx D A (.inr B9)) (Xx D A (w) (.inr B9)) args s 228 1368 A) (F0 m 378 ls [.int t0_378]) := by
        intro x9_378 x10_378 t0_378 w_378 H locs ls hw_378 hP hD hS hl h
        unfold f_L_built_378 at h
        refine lv_istore (lv' := [(8, .int t0_378), (0, .ref (cA 0)), (2, .long x2_349), (4, .long x4_349), (6, .int x6_349), (9, .int x9_378), (10, .int x10_378)]) hx hb dL_built_378 hl (by decide) rfl (fun ls hl => ?_)
        refine lv_aload_n hx hb dL_built_380 rfl (lv_at hl 1 rfl) ?_
        refine lv_iload hx hb dL_built_381 (lv_at hl 6 rfl) ?_
        refine lv_bipush (v := 7) hx hb dL_built_383 (by decide) ?_
        obtain ⟨v_42, hv_41, h⟩ := bd_l h
        refine Lo_T (As := [.ref (cA 0), .int x10_378, .int 7]) (rest := []) (wA := w_378) (wr := []) 2 12 ((214 - 3 * (fu_349 + 1)) + 3) ((1284 - 18 * (fu_349 + 1)) + 18) 228 1368 (co_effect l hst D k cA nA tA X w_378 hw_378 x10_378 7 v_42 hv_41) ⟨hx, hb, hml, hown, hts⟩ (vx_cwSW 3 hts gL_built_L_effect rfl rfl rfl (by decide +kernel) ⟨Nat.le_of_ble_eq_true rfl, Nat.le_of_ble_eq_true rfl⟩) hK hG hC hP hD hS hA (List.Perm.refl _) rfl hl.1 rfl (Nat.le_of_ble_eq_true rfl) dL_built_385 ⟨rfl, rfl⟩ ⟨rfl, rfl⟩ (by omega) (by omega) (fun ov w_43 H locs hQ hP hD hS => ?_)
        obtain ⟨rfl, hw_43⟩ := hQ
        refine W.eq (g2 := F0 m 388 ls [.long v_42]) rfl ?_
        refine lv_lconst (v := 0) hx hb dL_built_388 (by decide) ?_
        refine W.lcmp hx hb dL_built_389 ?_
        refine lv_if_ne (tgt := 398) hx hb dL_built_390 (by decide) (fun c_44 => ?_) (fun c_44 => ?_)
        · have h := it_r c_44 h
          refine lv_iload hx hb dL_built_398 (lv_at hl 5 rfl) ?_
          refine lv_istore (lv' := [(9, .int x9_378), (8, .int t0_378), (0, .ref (cA 0)), (2, .long x2_349), (4, .long x4_349), (6, .int x6_349), (10, .int x10_378)]) hx hb dL_built_400 hl (by decide) rfl (fun ls hl => ?_)
          refine lv_iinc (v := (x10_378 + (-1))) (lv' := [(10, .int (x10_378 + (-1))), (9, .int x9_378), (8, .int t0_378), (0, .ref (cA 0)), (2, .long x2_349), (4, .long x4_349), (6, .int x6_349)]) hx hb dL_built_402 hl (k := 6) rfl rfl (by decide) rfl (fun ls hl => ?_)
          refine lv_goto (tgt := 349) hx hb dL_built_405 (by decide) ?_
          refine W.widen (k := (214 - 3 * fu_349)) (n := (1284 - 18 * fu_349)) (by omega) (by omega) ?_
          exact ih_349 x2_349 x4_349 x6_349 t0_378 x9_378 (x10_378 + (-1)) w_43 _ _ _ (by omega) hw_43 hP hD hS (lv_sub hl [3, 4, 5, 6, 2, 1, 0] rfl) h
        · have h := it_l c_44 h
          refine lv_iload hx hb dL_built_393 (lv_at hl 6 rfl) ?_
          refine lv_goto (tgt := 400) hx hb dL_built_395 (by decide) ?_
          refine lv_istore (lv' := [(9, .int x10_378), (8, .int t0_378), (0, .ref (cA 0)), (2, .long x2_349), (4, .long x4_349), (6, .int x6_349), (10, .int x10_378)]) hx hb dL_built_400 hl (by decide) rfl (fun ls hl => ?_)
          refine lv_iinc (v := (x10_378 + (-1))) (lv' := [(10, .int (x10_378 + (-1))), (9, .int x10_378), (8, .int t0_378), (0, .ref (cA 0)), (2, .long x2_349), (4, .long x4_349), (6, .int x6_349)]) hx hb dL_built_402 hl (k := 6) rfl rfl (by decide) rfl (fun ls hl => ?_)
          refine lv_goto (tgt := 349) hx hb dL_built_405 (by decide) ?_
          refine W.widen (k := (214 - 3 * fu_349)) (n := (1284 - 18 * fu_349)) (by omega) (by omega) ?_
          exact ih_349 x2_349 x4_349 x6_349 t0_378 x10_378 (x10_378 + (-1)) w_43 _ _ _ (by omega) hw_43 hP hD hS (lv_sub hl [3, 4, 5, 6, 2, 1, 0] rfl) h
      refine lv_iload hx hb dL_built_349 (lv_at hl 6 rfl) ?_
      refine lv_if_lt (tgt := 408) hx hb dL_built_351 (by decide) (fun c_45 => ?_) (fun c_45 => ?_)
      · have h := it_l c_45 h
        refine W.widen (k := 217) (n := 1302) (by omega) (by omega) ?_
        exact hC_408 x2_349 x4_349 x6_349 x8_349 w_349 _ _ _ hw_349 hP hD hS (lv_sub hl [0, 1, 2, 3, 4] rfl) h
      · have h := it_r c_45 h
        refine lv_iload hx hb dL_built_354 (lv_at hl 4 rfl) ?_
        refine lv_if_eq (tgt := 408) hx hb dL_built_356 (by decide) (fun c_46 => ?_) (fun c_46 => ?_)
        · have h := it_l c_46 h
          refine W.widen (k := 217) (n := 1302) (by omega) (by omega) ?_
          exact hC_408 x2_349 x4_349 x6_349 x8_349 w_349 _ _ _ hw_349 hP hD hS (lv_sub hl [0, 1, 2, 3, 4] rfl) h
        · have h := it_r c_46 h
          refine lv_aload_n hx hb dL_built_359 rfl (lv_at hl 0 rfl) ?_
          refine lv_iload hx hb dL_built_360 (lv_at hl 6 rfl) ?_
          refine lv_iconst (v := 1) hx hb dL_built_362 (by decide) ?_
          obtain ⟨v_48, hv_47, h⟩ := bd_l h
          refine Lo_T (As := [.ref (cA 0), .int x10_349, .int 1]) (rest := []) (wA := w_349) (wr := []) 1 6 ((214 - 3 * (fu_349 + 1)) + 1) ((1284 - 18 * (fu_349 + 1)) + 6) 228 1368 (co_neighbor l hst D k cA nA tA X w_349 hw_349 x10_349 1 v_48 hv_47) ⟨hx, hb, hml, hown, hts⟩ (vx_cwSW 3 hts gL_built_L_neighbor rfl rfl rfl (by decide +kernel) ⟨Nat.le_of_ble_eq_true rfl, Nat.le_of_ble_eq_true rfl⟩) hK hG hC hP hD hS hA (List.Perm.refl _) rfl hl.1 rfl (Nat.le_of_ble_eq_true rfl) dL_built_363 ⟨rfl, rfl⟩ ⟨rfl, rfl⟩ (by omega) (by omega) (fun ov w_49 H locs hQ hP hD hS => ?_)
          obtain ⟨rfl, hw_49⟩ := hQ
          refine W.eq (g2 := F0 m 366 ls [.long v_48]) rfl ?_
          refine lv_iload hx hb dL_built_366 (lv_at hl 5 rfl) ?_
          refine lv_i2l hx hb dL_built_368 rfl ?_
          refine W.lcmp hx hb dL_built_369 ?_
          refine lv_if_ne (tgt := 377) hx hb dL_built_370 (by decide) (fun c_50 => ?_) (fun c_50 => ?_)
          · have h := it_r c_50 h
            refine lv_iconst (v := 0) hx hb dL_built_377 (by decide) ?_
            refine W.widen (k := (214 - 3 * (fu_349 + 1)) + 1) (n := (1284 - 18 * (fu_349 + 1)) + 6) (by omega) (by omega) ?_
            exact hC_378 x9_349 x10_349 0 w_49 _ _ _ hw_49 hP hD hS (lv_sub hl [0, 1, 2, 3, 5, 6] rfl) h
          · have h := it_l c_50 h
            refine lv_iconst (v := 1) hx hb dL_built_373 (by decide) ?_
            refine lv_goto (tgt := 378) hx hb dL_built_374 (by decide) ?_
            refine W.widen (k := (214 - 3 * (fu_349 + 1)) + 1) (n := (1284 - 18 * (fu_349 + 1)) + 6) (by omega) (by omega) ?_
            exact hC_378 x9_349 x10_349 1 w_49 _ _ _ hw_49 hP hD hS (lv_sub hl [0, 1, 2, 3, 5, 6] rfl) h
  have hC_23 : ∀ (fu_23 : Nat) (x1_23 : Int32) (x2_23 : Int64) (x4_23 : Int64) (x6_23 : Int32) (x7_23 : Int32) (x8_23 : Int32) (x9_23 : Int32) (w_23 : va_W) (H : Heap) (locs : List Loc) (ls : Array Slot), fu_23 ≤ 7 → Ob k cA nA tA X w_23 → va_P D vwCl (w_23 ++ []) H → va_D A (w_23 ++ []) → va_S A s.heap H locs → lv_has ls 16 [(0, .ref (cA 0)), (1, .int x1_23), (2, .long x2_23), (4, .long x4_23), (6, .int x6_23), (7, .int x7_23), (8, .int x8_23), (9, .int x9_23)] → f_L_built_23 X fu_23 x1_23 x2_23 x4_23 x6_23 x7_23 x8_23 x9_23 = some o → W p l e ({ frames := 10, cells := 228, slots := 1368, locals := 167 } : Room) s m args below meth c H locs ((169 - 24 * fu_23)) ((1014 - 144 * fu_23)) (vx_MQ below (Qx D A (.inr B9)) (Xx D A (w) (.inr B9)) args s 228 1368 A) (F0 m 23 ls []) := by
    intro fu_23
    induction fu_23 with
    | zero => intro x1_23 x2_23 x4_23 x6_23 x7_23 x8_23 x9_23 w_23 H locs ls _ _ _ _ _ _ h; exact (no_l h).elim
    | succ fu_23 ih_23 =>
      intro x1_23 x2_23 x4_23 x6_23 x7_23 x8_23 x9_23 w_23 H locs ls hfu_23 hw_23 hP hD hS hl h
      rw [f_L_built_23] at h
      have hC_310 : ∀ (x2_310 : Int64) (x4_310 : Int64) (x6_310 : Int32) (x7_310 : Int32) (x9_310 : Int32) (t0_310 : Int32) (w_310 : va_W) (H : Heap) (locs : List Loc) (ls : Array Slot), Ob k cA nA tA X w_310 → va_P D vwCl (w_310 ++ []) H → va_D A (w_310 ++ []) → va_S A s.heap H locs → lv_has ls 16 [(0, .ref (cA 0)), (1, .int x1_23), (2, .long x2_310), (4, .long x4_310), (6, .int x6_310), (7, .int x7_310), (9, .int x9_310)] → f_L_built_310 (f_L_built_23 X fu_23) X x1_23 x2_310 x4_310 x6_310 x7_310 x9_310 t0_310 = some o → W p l e ({ frames := 10, cells := 228, slots := 1368, locals := 167 } : Room) s m args below meth c H locs ((169 - 24 * (fu_23 + 1)) + 22) ((1014 - 144 * (fu_23 + 1)) + 132) (vx_MQ below (Qx D A (.inr B9)) (Xx D A (w) (.inr B9)) args s 228 1368 A) (F0 m 310 ls [.int t0_310]) := by
        intro x2_310 x4_310 x6_310 x7_310 x9_310 t0_310 w_310 H locs ls hw_310 hP hD hS hl h
        unfold f_L_built_310 at h
        refine lv_istore (lv' := [(8, .int t0_310), (0, .ref (cA 0)), (1, .int x1_23), (2, .long x2_310), (4, .long x4_310), (6, .int x6_310), (7, .int x7_310), (9, .int x9_310)]) hx hb dL_built_310 hl (by decide) rfl (fun ls hl => ?_)
        refine lv_aload_n hx hb dL_built_312 rfl (lv_at hl 1 rfl) ?_
        refine lv_iload hx hb dL_built_313 (lv_at hl 7 rfl) ?_
        refine lv_bipush (v := 7) hx hb dL_built_315 (by decide) ?_
        obtain ⟨v_52, hv_51, h⟩ := bd_l h
        refine Lo_T (As := [.ref (cA 0), .int x9_310, .int 7]) (rest := []) (wA := w_310) (wr := []) 2 12 ((169 - 24 * (fu_23 + 1)) + 24) ((1014 - 144 * (fu_23 + 1)) + 144) 228 1368 (co_effect l hst D k cA nA tA X w_310 hw_310 x9_310 7 v_52 hv_51) ⟨hx, hb, hml, hown, hts⟩ (vx_cwSW 3 hts gL_built_L_effect rfl rfl rfl (by decide +kernel) ⟨Nat.le_of_ble_eq_true rfl, Nat.le_of_ble_eq_true rfl⟩) hK hG hC hP hD hS hA (List.Perm.refl _) rfl hl.1 rfl (Nat.le_of_ble_eq_true rfl) dL_built_317 ⟨rfl, rfl⟩ ⟨rfl, rfl⟩ (by omega) (by omega) (fun ov w_53 H locs hQ hP hD hS => ?_)
        obtain ⟨rfl, hw_53⟩ := hQ
        refine W.eq (g2 := F0 m 320 ls [.long v_52]) rfl ?_
        refine lv_lconst (v := 0) hx hb dL_built_320 (by decide) ?_
        refine W.lcmp hx hb dL_built_321 ?_
        refine lv_if_ne (tgt := 330) hx hb dL_built_322 (by decide) (fun c_54 => ?_) (fun c_54 => ?_)
        · have h := it_r c_54 h
          refine lv_iload hx hb dL_built_330 (lv_at hl 6 rfl) ?_
          refine lv_istore (lv' := [(7, .int x7_310), (8, .int t0_310), (0, .ref (cA 0)), (1, .int x1_23), (2, .long x2_310), (4, .long x4_310), (6, .int x6_310), (9, .int x9_310)]) hx hb dL_built_332 hl (by decide) rfl (fun ls hl => ?_)
          refine lv_iinc (v := (x9_310 + 1)) (lv' := [(9, .int (x9_310 + 1)), (7, .int x7_310), (8, .int t0_310), (0, .ref (cA 0)), (1, .int x1_23), (2, .long x2_310), (4, .long x4_310), (6, .int x6_310)]) hx hb dL_built_334 hl (k := 7) rfl rfl (by decide) rfl (fun ls hl => ?_)
          refine lv_goto (tgt := 23) hx hb dL_built_337 (by decide) ?_
          refine W.widen (k := (169 - 24 * fu_23)) (n := (1014 - 144 * fu_23)) (by omega) (by omega) ?_
          exact ih_23 x1_23 x2_310 x4_310 x6_310 x7_310 t0_310 (x9_310 + 1) w_53 _ _ _ (by omega) hw_53 hP hD hS (lv_sub hl [3, 4, 5, 6, 7, 1, 2, 0] rfl) h
        · have h := it_l c_54 h
          refine lv_iload hx hb dL_built_325 (lv_at hl 7 rfl) ?_
          refine lv_goto (tgt := 332) hx hb dL_built_327 (by decide) ?_
          refine lv_istore (lv' := [(7, .int x9_310), (8, .int t0_310), (0, .ref (cA 0)), (1, .int x1_23), (2, .long x2_310), (4, .long x4_310), (6, .int x6_310), (9, .int x9_310)]) hx hb dL_built_332 hl (by decide) rfl (fun ls hl => ?_)
          refine lv_iinc (v := (x9_310 + 1)) (lv' := [(9, .int (x9_310 + 1)), (7, .int x9_310), (8, .int t0_310), (0, .ref (cA 0)), (1, .int x1_23), (2, .long x2_310), (4, .long x4_310), (6, .int x6_310)]) hx hb dL_built_334 hl (k := 7) rfl rfl (by decide) rfl (fun ls hl => ?_)
          refine lv_goto (tgt := 23) hx hb dL_built_337 (by decide) ?_
          refine W.widen (k := (169 - 24 * fu_23)) (n := (1014 - 144 * fu_23)) (by omega) (by omega) ?_
          exact ih_23 x1_23 x2_310 x4_310 x6_310 x9_310 t0_310 (x9_310 + 1) w_53 _ _ _ (by omega) hw_53 hP hD hS (lv_sub hl [3, 4, 5, 6, 7, 1, 2, 0] rfl) h
      have hC_309 : ∀ (x2_309 : Int64) (x4_309 : Int64) (x6_309 : Int32) (x7_309 : Int32) (x9_309 : Int32) (w_309 : va_W) (H : Heap) (locs : List Loc) (ls : Array Slot), Ob k cA nA tA X w_309 → va_P D vwCl (w_309 ++ []) H → va_D A (w_309 ++ []) → va_S A s.heap H locs → lv_has ls 16 [(0, .ref (cA 0)), (1, .int x1_23), (2, .long x2_309), (4, .long x4_309), (6, .int x6_309), (7, .int x7_309), (9, .int x9_309)] → f_L_built_309 (f_L_built_23 X fu_23) X x1_23 x2_309 x4_309 x6_309 x7_309 x9_309 = some o → W p l e ({ frames := 10, cells := 228, slots := 1368, locals := 167 } : Room) s m args below meth c H locs ((169 - 24 * (fu_23 + 1)) + 22) ((1014 - 144 * (fu_23 + 1)) + 132) (vx_MQ below (Qx D A (.inr B9)) (Xx D A (w) (.inr B9)) args s 228 1368 A) (F0 m 309 ls []) := by
        intro x2_309 x4_309 x6_309 x7_309 x9_309 w_309 H locs ls hw_309 hP hD hS hl h
        unfold f_L_built_309 at h
        refine lv_iconst (v := 0) hx hb dL_built_309 (by decide) ?_
        refine W.widen (k := (169 - 24 * (fu_23 + 1)) + 22) (n := (1014 - 144 * (fu_23 + 1)) + 132) (by omega) (by omega) ?_
        exact hC_310 x2_309 x4_309 x6_309 x7_309 x9_309 0 w_309 _ _ _ hw_309 hP hD hS (lv_sub hl [0, 1, 2, 3, 4, 5, 6] rfl) h
      have hC_302 : ∀ (x2_302 : Int64) (x4_302 : Int64) (x6_302 : Int32) (x7_302 : Int32) (x9_302 : Int32) (t0_302 : Int32) (t1_302 : Int32) (w_302 : va_W) (H : Heap) (locs : List Loc) (ls : Array Slot), Ob k cA nA tA X w_302 → va_P D vwCl (w_302 ++ []) H → va_D A (w_302 ++ []) → va_S A s.heap H locs → lv_has ls 16 [(0, .ref (cA 0)), (1, .int x1_23), (2, .long x2_302), (4, .long x4_302), (6, .int x6_302), (7, .int x7_302), (9, .int x9_302)] → f_L_built_302 (f_L_built_23 X fu_23) X x1_23 x2_302 x4_302 x6_302 x7_302 x9_302 t0_302 t1_302 = some o → W p l e ({ frames := 10, cells := 228, slots := 1368, locals := 167 } : Room) s m args below meth c H locs ((169 - 24 * (fu_23 + 1)) + 22) ((1014 - 144 * (fu_23 + 1)) + 132) (vx_MQ below (Qx D A (.inr B9)) (Xx D A (w) (.inr B9)) args s 228 1368 A) (F0 m 302 ls [.int t0_302, .int t1_302]) := by
        intro x2_302 x4_302 x6_302 x7_302 x9_302 t0_302 t1_302 w_302 H locs ls hw_302 hP hD hS hl h
        unfold f_L_built_302 at h
        refine lv_icmp_ne (tgt := 309) hx hb dL_built_302 (by decide) (fun c_55 => ?_) (fun c_55 => ?_)
        · have h := it_r c_55 h
          refine W.widen (k := (169 - 24 * (fu_23 + 1)) + 22) (n := (1014 - 144 * (fu_23 + 1)) + 132) (by omega) (by omega) ?_
          exact hC_309 x2_302 x4_302 x6_302 x7_302 x9_302 w_302 _ _ _ hw_302 hP hD hS (lv_sub hl [0, 1, 2, 3, 4, 5, 6] rfl) h
        · have h := it_l c_55 h
          refine lv_iconst (v := 1) hx hb dL_built_305 (by decide) ?_
          refine lv_goto (tgt := 310) hx hb dL_built_306 (by decide) ?_
          refine W.widen (k := (169 - 24 * (fu_23 + 1)) + 22) (n := (1014 - 144 * (fu_23 + 1)) + 132) (by omega) (by omega) ?_
          exact hC_310 x2_302 x4_302 x6_302 x7_302 x9_302 1 w_302 _ _ _ hw_302 hP hD hS (lv_sub hl [0, 1, 2, 3, 4, 5, 6] rfl) h
      have hC_290 : ∀ (x2_290 : Int64) (x4_290 : Int64) (x6_290 : Int32) (x7_290 : Int32) (x9_290 : Int32) (x12_290 : Int64) (t0_290 : Int32) (w_290 : va_W) (H : Heap) (locs : List Loc) (ls : Array Slot), Ob k cA nA tA X w_290 → va_P D vwCl (w_290 ++ []) H → va_D A (w_290 ++ []) → va_S A s.heap H locs → lv_has ls 16 [(0, .ref (cA 0)), (1, .int x1_23), (2, .long x2_290), (4, .long x4_290), (6, .int x6_290), (7, .int x7_290), (9, .int x9_290), (12, .long x12_290)] → f_L_built_290 (f_L_built_23 X fu_23) X x1_23 x2_290 x4_290 x6_290 x7_290 x9_290 x12_290 t0_290 = some o → W p l e ({ frames := 10, cells := 228, slots := 1368, locals := 167 } : Room) s m args below meth c H locs ((169 - 24 * (fu_23 + 1)) + 22) ((1014 - 144 * (fu_23 + 1)) + 132) (vx_MQ below (Qx D A (.inr B9)) (Xx D A (w) (.inr B9)) args s 228 1368 A) (F0 m 290 ls [.int t0_290]) := by
        intro x2_290 x4_290 x6_290 x7_290 x9_290 x12_290 t0_290 w_290 H locs ls hw_290 hP hD hS hl h
        unfold f_L_built_290 at h
        refine lv_lload hx hb dL_built_290 (lv_at hl 7 rfl) ?_
        refine lv_lconst (v := 0) hx hb dL_built_292 (by decide) ?_
        refine W.lcmp hx hb dL_built_293 ?_
        refine lv_if_ne (tgt := 301) hx hb dL_built_294 (by decide) (fun c_56 => ?_) (fun c_56 => ?_)
        · have h := it_r c_56 h
          refine lv_iconst (v := 0) hx hb dL_built_301 (by decide) ?_
          refine W.widen (k := (169 - 24 * (fu_23 + 1)) + 22) (n := (1014 - 144 * (fu_23 + 1)) + 132) (by omega) (by omega) ?_
          exact hC_302 x2_290 x4_290 x6_290 x7_290 x9_290 0 t0_290 w_290 _ _ _ hw_290 hP hD hS (lv_sub hl [0, 1, 2, 3, 4, 5, 6] rfl) h
        · have h := it_l c_56 h
          refine lv_iconst (v := 1) hx hb dL_built_297 (by decide) ?_
          refine lv_goto (tgt := 302) hx hb dL_built_298 (by decide) ?_
          refine W.widen (k := (169 - 24 * (fu_23 + 1)) + 22) (n := (1014 - 144 * (fu_23 + 1)) + 132) (by omega) (by omega) ?_
          exact hC_302 x2_290 x4_290 x6_290 x7_290 x9_290 1 t0_290 w_290 _ _ _ hw_290 hP hD hS (lv_sub hl [0, 1, 2, 3, 4, 5, 6] rfl) h
      have hC_204 : ∀ (x2_204 : Int64) (x4_204 : Int64) (x6_204 : Int32) (x7_204 : Int32) (x9_204 : Int32) (x12_204 : Int64) (x14_204 : Int64) (t0_204 : Int64) (t1_204 : Int64) (w_204 : va_W) (H : Heap) (locs : List Loc) (ls : Array Slot), Ob k cA nA tA X w_204 → va_P D vwCl (w_204 ++ []) H → va_D A (w_204 ++ []) → va_S A s.heap H locs → lv_has ls 16 [(0, .ref (cA 0)), (1, .int x1_23), (2, .long x2_204), (4, .long x4_204), (6, .int x6_204), (7, .int x7_204), (9, .int x9_204), (12, .long x12_204), (14, .long x14_204)] → f_L_built_204 (f_L_built_23 X fu_23) X x1_23 x2_204 x4_204 x6_204 x7_204 x9_204 x12_204 x14_204 t0_204 t1_204 = some o → W p l e ({ frames := 10, cells := 228, slots := 1368, locals := 167 } : Room) s m args below meth c H locs ((169 - 24 * (fu_23 + 1)) + 14) ((1014 - 144 * (fu_23 + 1)) + 84) (vx_MQ below (Qx D A (.inr B9)) (Xx D A (w) (.inr B9)) args s 228 1368 A) (F0 m 204 ls [.long t0_204, .long t1_204]) := by
        intro x2_204 x4_204 x6_204 x7_204 x9_204 x12_204 x14_204 t0_204 t1_204 w_204 H locs ls hw_204 hP hD hS hl h
        unfold f_L_built_204 at h
        refine W.lcmp hx hb dL_built_204 ?_
        refine lv_if_ne (tgt := 309) hx hb dL_built_205 (by decide) (fun c_57 => ?_) (fun c_57 => ?_)
        · have h := it_r c_57 h
          refine W.widen (k := (169 - 24 * (fu_23 + 1)) + 22) (n := (1014 - 144 * (fu_23 + 1)) + 132) (by omega) (by omega) ?_
          exact hC_309 x2_204 x4_204 x6_204 x7_204 x9_204 w_204 _ _ _ hw_204 hP hD hS (lv_sub hl [0, 1, 2, 3, 4, 5, 6] rfl) h
        · have h := it_l c_57 h
          refine lv_aload_n hx hb dL_built_208 rfl (lv_at hl 0 rfl) ?_
          refine lv_iload hx hb dL_built_209 (lv_at hl 6 rfl) ?_
          refine lv_bipush (v := 9) hx hb dL_built_211 (by decide) ?_
          obtain ⟨v_59, hv_58, h⟩ := bd_l h
          refine Lo_T (As := [.ref (cA 0), .int x9_204, .int 9]) (rest := []) (wA := w_204) (wr := []) 2 12 ((169 - 24 * (fu_23 + 1)) + 16) ((1014 - 144 * (fu_23 + 1)) + 96) 228 1368 (co_effect l hst D k cA nA tA X w_204 hw_204 x9_204 9 v_59 hv_58) ⟨hx, hb, hml, hown, hts⟩ (vx_cwSW 3 hts gL_built_L_effect rfl rfl rfl (by decide +kernel) ⟨Nat.le_of_ble_eq_true rfl, Nat.le_of_ble_eq_true rfl⟩) hK hG hC hP hD hS hA (List.Perm.refl _) rfl hl.1 rfl (Nat.le_of_ble_eq_true rfl) dL_built_213 ⟨rfl, rfl⟩ ⟨rfl, rfl⟩ (by omega) (by omega) (fun ov w_60 H locs hQ hP hD hS => ?_)
          obtain ⟨rfl, hw_60⟩ := hQ
          refine W.eq (g2 := F0 m 216 ls [.long v_59]) rfl ?_
          refine lv_ldc2 (v := 100) hx hb hown w_0 dL_built_216 ?_
          refine lv_aload_n hx hb dL_built_219 rfl (lv_at hl 0 rfl) ?_
          refine lv_iload hx hb dL_built_220 (lv_at hl 6 rfl) ?_
          refine lv_iconst (v := 0) hx hb dL_built_222 (by decide) ?_
          obtain ⟨v_62, hv_61, h⟩ := bd_l h
          refine Lo_T (As := [.ref (cA 0), .int x9_204, .int 0]) (rest := [.long 100, .long v_59]) (wA := w_60) (wr := []) 2 12 ((169 - 24 * (fu_23 + 1)) + 18) ((1014 - 144 * (fu_23 + 1)) + 108) 228 1368 (co_effect l hst D k cA nA tA X w_60 hw_60 x9_204 0 v_62 hv_61) ⟨hx, hb, hml, hown, hts⟩ (vx_cwSW 3 hts gL_built_L_effect rfl rfl rfl (by decide +kernel) ⟨Nat.le_of_ble_eq_true rfl, Nat.le_of_ble_eq_true rfl⟩) hK hG hC hP hD hS hA (List.Perm.refl _) rfl hl.1 rfl (Nat.le_of_ble_eq_true rfl) dL_built_223 ⟨rfl, rfl⟩ ⟨rfl, rfl⟩ (by omega) (by omega) (fun ov w_63 H locs hQ hP hD hS => ?_)
          obtain ⟨rfl, hw_63⟩ := hQ
          refine W.eq (g2 := F0 m 226 ls [.long v_62, .long 100, .long v_59]) rfl ?_
          refine lv_lmul hx hb dL_built_226 ?_
          refine lv_ldc2 (v := 10) hx hb hown w_1 dL_built_227 ?_
          refine lv_lload hx hb dL_built_230 (lv_at hl 8 rfl) ?_
          refine lv_ladd hx hb dL_built_232 ?_
          have g_64 := nzl_l (gb_l h)
          have h := gb_r h
          refine lv_ldiv hx hb dL_built_233 g_64 ?_
          refine W.lcmp hx hb dL_built_234 ?_
          refine lv_if_ne (tgt := 309) hx hb dL_built_235 (by decide) (fun c_65 => ?_) (fun c_65 => ?_)
          · have h := it_r c_65 h
            refine W.widen (k := (169 - 24 * (fu_23 + 1)) + 22) (n := (1014 - 144 * (fu_23 + 1)) + 132) (by omega) (by omega) ?_
            exact hC_309 x2_204 x4_204 x6_204 x7_204 x9_204 w_63 _ _ _ hw_63 hP hD hS (lv_sub hl [0, 1, 2, 3, 4, 5, 6] rfl) h
          · have h := it_l c_65 h
            refine lv_aload_n hx hb dL_built_238 rfl (lv_at hl 0 rfl) ?_
            refine lv_iload hx hb dL_built_239 (lv_at hl 6 rfl) ?_
            refine lv_iconst (v := 0) hx hb dL_built_241 (by decide) ?_
            obtain ⟨v_67, hv_66, h⟩ := bd_l h
            refine Lo_T (As := [.ref (cA 0), .int x9_204, .int 0]) (rest := []) (wA := w_63) (wr := []) 1 6 ((169 - 24 * (fu_23 + 1)) + 19) ((1014 - 144 * (fu_23 + 1)) + 114) 228 1368 (co_neighbor l hst D k cA nA tA X w_63 hw_63 x9_204 0 v_67 hv_66) ⟨hx, hb, hml, hown, hts⟩ (vx_cwSW 3 hts gL_built_L_neighbor rfl rfl rfl (by decide +kernel) ⟨Nat.le_of_ble_eq_true rfl, Nat.le_of_ble_eq_true rfl⟩) hK hG hC hP hD hS hA (List.Perm.refl _) rfl hl.1 rfl (Nat.le_of_ble_eq_true rfl) dL_built_242 ⟨rfl, rfl⟩ ⟨rfl, rfl⟩ (by omega) (by omega) (fun ov w_68 H locs hQ hP hD hS => ?_)
            obtain ⟨rfl, hw_68⟩ := hQ
            refine W.eq (g2 := F0 m 245 ls [.long v_67]) rfl ?_
            refine lv_iload hx hb dL_built_245 (lv_at hl 5 rfl) ?_
            refine lv_i2l hx hb dL_built_247 rfl ?_
            refine W.lcmp hx hb dL_built_248 ?_
            refine lv_if_ne (tgt := 309) hx hb dL_built_249 (by decide) (fun c_69 => ?_) (fun c_69 => ?_)
            · have h := it_r c_69 h
              refine W.widen (k := (169 - 24 * (fu_23 + 1)) + 22) (n := (1014 - 144 * (fu_23 + 1)) + 132) (by omega) (by omega) ?_
              exact hC_309 x2_204 x4_204 x6_204 x7_204 x9_204 w_68 _ _ _ hw_68 hP hD hS (lv_sub hl [0, 1, 2, 3, 4, 5, 6] rfl) h
            · have h := it_l c_69 h
              refine lv_aload_n hx hb dL_built_252 rfl (lv_at hl 0 rfl) ?_
              refine lv_iload hx hb dL_built_253 (lv_at hl 6 rfl) ?_
              obtain ⟨v_71, hv_70, h⟩ := bd_l h
              refine Lo_T (As := [.ref (cA 0), .int x9_204]) (rest := []) (wA := w_68) (wr := []) 1 6 ((169 - 24 * (fu_23 + 1)) + 20) ((1014 - 144 * (fu_23 + 1)) + 120) 228 1368 (co_share l hst D k cA nA tA X w_68 hw_68 x9_204 v_71 hv_70) ⟨hx, hb, hml, hown, hts⟩ (vx_cwSW 2 hts gL_built_L_share rfl rfl rfl (by decide +kernel) ⟨Nat.le_of_ble_eq_true rfl, Nat.le_of_ble_eq_true rfl⟩) hK hG hC hP hD hS hA (List.Perm.refl _) rfl hl.1 rfl (Nat.le_of_ble_eq_true rfl) dL_built_255 ⟨rfl, rfl⟩ ⟨rfl, rfl⟩ (by omega) (by omega) (fun ov w_72 H locs hQ hP hD hS => ?_)
              obtain ⟨rfl, hw_72⟩ := hQ
              refine W.eq (g2 := F0 m 258 ls [.float v_71]) rfl ?_
              refine lv_fconst0 hx hb dL_built_258 ?_
              refine lv_fcmp hx hb dL_built_259 ?_
              refine lv_if_lt (tgt := 309) hx hb dL_built_260 (by decide) (fun c_73 => ?_) (fun c_73 => ?_)
              · have h := it_l c_73 h
                refine W.widen (k := (169 - 24 * (fu_23 + 1)) + 22) (n := (1014 - 144 * (fu_23 + 1)) + 132) (by omega) (by omega) ?_
                exact hC_309 x2_204 x4_204 x6_204 x7_204 x9_204 w_72 _ _ _ hw_72 hP hD hS (lv_sub hl [0, 1, 2, 3, 4, 5, 6] rfl) h
              · have h := it_r c_73 h
                refine lv_aload_n hx hb dL_built_263 rfl (lv_at hl 0 rfl) ?_
                refine lv_iload hx hb dL_built_264 (lv_at hl 6 rfl) ?_
                obtain ⟨v_75, hv_74, h⟩ := bd_l h
                refine Lo_T (As := [.ref (cA 0), .int x9_204]) (rest := []) (wA := w_72) (wr := []) 1 6 ((169 - 24 * (fu_23 + 1)) + 21) ((1014 - 144 * (fu_23 + 1)) + 126) 228 1368 (co_share l hst D k cA nA tA X w_72 hw_72 x9_204 v_75 hv_74) ⟨hx, hb, hml, hown, hts⟩ (vx_cwSW 2 hts gL_built_L_share rfl rfl rfl (by decide +kernel) ⟨Nat.le_of_ble_eq_true rfl, Nat.le_of_ble_eq_true rfl⟩) hK hG hC hP hD hS hA (List.Perm.refl _) rfl hl.1 rfl (Nat.le_of_ble_eq_true rfl) dL_built_266 ⟨rfl, rfl⟩ ⟨rfl, rfl⟩ (by omega) (by omega) (fun ov w_76 H locs hQ hP hD hS => ?_)
                obtain ⟨rfl, hw_76⟩ := hQ
                refine W.eq (g2 := F0 m 269 ls [.float v_75]) rfl ?_
                refine lv_fconst1 hx hb dL_built_269 ?_
                refine lv_fcmp hx hb dL_built_270 ?_
                refine lv_if_gt (tgt := 309) hx hb dL_built_271 (by decide) (fun c_77 => ?_) (fun c_77 => ?_)
                · have h := it_l c_77 h
                  refine W.widen (k := (169 - 24 * (fu_23 + 1)) + 22) (n := (1014 - 144 * (fu_23 + 1)) + 132) (by omega) (by omega) ?_
                  exact hC_309 x2_204 x4_204 x6_204 x7_204 x9_204 w_76 _ _ _ hw_76 hP hD hS (lv_sub hl [0, 1, 2, 3, 4, 5, 6] rfl) h
                · have h := it_r c_77 h
                  refine lv_aload_n hx hb dL_built_274 rfl (lv_at hl 0 rfl) ?_
                  refine lv_iload hx hb dL_built_275 (lv_at hl 6 rfl) ?_
                  obtain ⟨v_79, hv_78, h⟩ := bd_l h
                  refine Lo_T (As := [.ref (cA 0), .int x9_204]) (rest := []) (wA := w_76) (wr := []) 1 6 ((169 - 24 * (fu_23 + 1)) + 22) ((1014 - 144 * (fu_23 + 1)) + 132) 228 1368 (co_share l hst D k cA nA tA X w_76 hw_76 x9_204 v_79 hv_78) ⟨hx, hb, hml, hown, hts⟩ (vx_cwSW 2 hts gL_built_L_share rfl rfl rfl (by decide +kernel) ⟨Nat.le_of_ble_eq_true rfl, Nat.le_of_ble_eq_true rfl⟩) hK hG hC hP hD hS hA (List.Perm.refl _) rfl hl.1 rfl (Nat.le_of_ble_eq_true rfl) dL_built_277 ⟨rfl, rfl⟩ ⟨rfl, rfl⟩ (by omega) (by omega) (fun ov w_80 H locs hQ hP hD hS => ?_)
                  obtain ⟨rfl, hw_80⟩ := hQ
                  refine W.eq (g2 := F0 m 280 ls [.float v_79]) rfl ?_
                  refine lv_fconst0 hx hb dL_built_280 ?_
                  refine lv_fcmp hx hb dL_built_281 ?_
                  refine lv_if_ne (tgt := 289) hx hb dL_built_282 (by decide) (fun c_81 => ?_) (fun c_81 => ?_)
                  · have h := it_r c_81 h
                    refine lv_iconst (v := 0) hx hb dL_built_289 (by decide) ?_
                    refine W.widen (k := (169 - 24 * (fu_23 + 1)) + 22) (n := (1014 - 144 * (fu_23 + 1)) + 132) (by omega) (by omega) ?_
                    exact hC_290 x2_204 x4_204 x6_204 x7_204 x9_204 x12_204 0 w_80 _ _ _ hw_80 hP hD hS (lv_sub hl [0, 1, 2, 3, 4, 5, 6, 7] rfl) h
                  · have h := it_l c_81 h
                    refine lv_iconst (v := 1) hx hb dL_built_285 (by decide) ?_
                    refine lv_goto (tgt := 290) hx hb dL_built_286 (by decide) ?_
                    refine W.widen (k := (169 - 24 * (fu_23 + 1)) + 22) (n := (1014 - 144 * (fu_23 + 1)) + 132) (by omega) (by omega) ?_
                    exact hC_290 x2_204 x4_204 x6_204 x7_204 x9_204 x12_204 1 w_80 _ _ _ hw_80 hP hD hS (lv_sub hl [0, 1, 2, 3, 4, 5, 6, 7] rfl) h
      have hC_93 : ∀ (x2_93 : Int64) (x4_93 : Int64) (x7_93 : Int32) (x9_93 : Int32) (x10_93 : Int64) (x12_93 : Int64) (x14_93 : Int64) (t0_93 : Int32) (t1_93 : Int32) (w_93 : va_W) (H : Heap) (locs : List Loc) (ls : Array Slot), Ob k cA nA tA X w_93 → va_P D vwCl (w_93 ++ []) H → va_D A (w_93 ++ []) → va_S A s.heap H locs → lv_has ls 16 [(0, .ref (cA 0)), (1, .int x1_23), (2, .long x2_93), (4, .long x4_93), (7, .int x7_93), (9, .int x9_93), (10, .long x10_93), (12, .long x12_93), (14, .long x14_93)] → f_L_built_93 (f_L_built_23 X fu_23) X x1_23 x2_93 x4_93 x7_93 x9_93 x10_93 x12_93 x14_93 t0_93 t1_93 = some o → W p l e ({ frames := 10, cells := 228, slots := 1368, locals := 167 } : Room) s m args below meth c H locs ((169 - 24 * (fu_23 + 1)) + 8) ((1014 - 144 * (fu_23 + 1)) + 48) (vx_MQ below (Qx D A (.inr B9)) (Xx D A (w) (.inr B9)) args s 228 1368 A) (F0 m 93 ls [.int t0_93, .int t1_93]) := by
        intro x2_93 x4_93 x7_93 x9_93 x10_93 x12_93 x14_93 t0_93 t1_93 w_93 H locs ls hw_93 hP hD hS hl h
        unfold f_L_built_93 at h
        refine lv_iadd hx hb dL_built_93 ?_
        refine lv_topi (fun v_82 ev_82 => ?_)
        have h := nm_l h ev_82
        refine lv_istore (lv' := [(6, .int v_82), (0, .ref (cA 0)), (1, .int x1_23), (2, .long x2_93), (4, .long x4_93), (7, .int x7_93), (9, .int x9_93), (10, .long x10_93), (12, .long x12_93), (14, .long x14_93)]) hx hb dL_built_94 hl (by decide) rfl (fun ls hl => ?_)
        refine lv_lload hx hb dL_built_96 (lv_at hl 7 rfl) ?_
        refine lv_lconst (v := 0) hx hb dL_built_98 (by decide) ?_
        refine W.lcmp hx hb dL_built_99 ?_
        refine lv_if_lt (tgt := 309) hx hb dL_built_100 (by decide) (fun c_83 => ?_) (fun c_83 => ?_)
        · have h := it_l c_83 h
          refine W.widen (k := (169 - 24 * (fu_23 + 1)) + 22) (n := (1014 - 144 * (fu_23 + 1)) + 132) (by omega) (by omega) ?_
          exact hC_309 x2_93 x4_93 v_82 x7_93 x9_93 w_93 _ _ _ hw_93 hP hD hS (lv_sub hl [1, 2, 3, 4, 0, 5, 6] rfl) h
        · have h := it_r c_83 h
          refine lv_lload hx hb dL_built_103 (lv_at hl 8 rfl) ?_
          refine lv_lconst (v := 0) hx hb dL_built_105 (by decide) ?_
          refine W.lcmp hx hb dL_built_106 ?_
          refine lv_if_lt (tgt := 309) hx hb dL_built_107 (by decide) (fun c_84 => ?_) (fun c_84 => ?_)
          · have h := it_l c_84 h
            refine W.widen (k := (169 - 24 * (fu_23 + 1)) + 22) (n := (1014 - 144 * (fu_23 + 1)) + 132) (by omega) (by omega) ?_
            exact hC_309 x2_93 x4_93 v_82 x7_93 x9_93 w_93 _ _ _ hw_93 hP hD hS (lv_sub hl [1, 2, 3, 4, 0, 5, 6] rfl) h
          · have h := it_r c_84 h
            refine lv_lload hx hb dL_built_110 (lv_at hl 7 rfl) ?_
            refine lv_lload hx hb dL_built_112 (lv_at hl 8 rfl) ?_
            refine lv_ladd hx hb dL_built_114 ?_
            refine lv_ldc2 (v := 5000) hx hb hown w_2 dL_built_115 ?_
            refine W.lcmp hx hb dL_built_118 ?_
            refine lv_if_gt (tgt := 309) hx hb dL_built_119 (by decide) (fun c_85 => ?_) (fun c_85 => ?_)
            · have h := it_l c_85 h
              refine W.widen (k := (169 - 24 * (fu_23 + 1)) + 22) (n := (1014 - 144 * (fu_23 + 1)) + 132) (by omega) (by omega) ?_
              exact hC_309 x2_93 x4_93 v_82 x7_93 x9_93 w_93 _ _ _ hw_93 hP hD hS (lv_sub hl [1, 2, 3, 4, 0, 5, 6] rfl) h
            · have h := it_r c_85 h
              refine lv_lload hx hb dL_built_122 (lv_at hl 9 rfl) ?_
              refine lv_lconst (v := 0) hx hb dL_built_124 (by decide) ?_
              refine lv_ldc2 (v := 99) hx hb hown w_3 dL_built_125 ?_
              obtain ⟨v_87, hv_86, h⟩ := bd_l h
              refine Lo_S (As := [.long x14_93, .long 0, .long 99]) (rest := []) (wA := []) (wr := w_93 ++ []) 0 0 ((169 - 24 * (fu_23 + 1)) + 8) ((1014 - 144 * (fu_23 + 1)) + 48) 228 1368 (c_L_in l hst D k x14_93 0 99 v_87 hv_86) ⟨hx, hb, hml, hown, hts⟩ (va_cwS 3 hts gL_built_L_in rfl rfl rfl (by decide +kernel) ⟨Nat.le_of_ble_eq_true rfl, Nat.le_of_ble_eq_true rfl⟩) hK hG hC hP hD hS hA (List.Perm.refl _) rfl hl.1 rfl (Nat.le_of_ble_eq_true rfl) dL_built_128 ⟨rfl, rfl⟩ ⟨rfl, rfl⟩ (by omega) (by omega) (fun ov w9 H locs hQ hP hD hS => ?_)
              obtain ⟨rfl, rfl⟩ := hQ
              have hP : va_P D vwCl (w_93 ++ []) H := hP
              have hD : va_D A (w_93 ++ []) := hD
              refine W.eq (g2 := F0 m 131 ls [.int v_87]) rfl ?_
              refine lv_if_eq (tgt := 309) hx hb dL_built_131 (by decide) (fun c_88 => ?_) (fun c_88 => ?_)
              · have h := it_l c_88 h
                refine W.widen (k := (169 - 24 * (fu_23 + 1)) + 22) (n := (1014 - 144 * (fu_23 + 1)) + 132) (by omega) (by omega) ?_
                exact hC_309 x2_93 x4_93 v_82 x7_93 x9_93 w_93 _ _ _ hw_93 hP hD hS (lv_sub hl [1, 2, 3, 4, 0, 5, 6] rfl) h
              · have h := it_r c_88 h
                refine lv_aload_n hx hb dL_built_134 rfl (lv_at hl 1 rfl) ?_
                refine lv_iload hx hb dL_built_135 (lv_at hl 6 rfl) ?_
                refine lv_bipush (v := 6) hx hb dL_built_137 (by decide) ?_
                obtain ⟨v_90, hv_89, h⟩ := bd_l h
                refine Lo_T (As := [.ref (cA 0), .int x9_93, .int 6]) (rest := []) (wA := w_93) (wr := []) 2 12 ((169 - 24 * (fu_23 + 1)) + 10) ((1014 - 144 * (fu_23 + 1)) + 60) 228 1368 (co_effect l hst D k cA nA tA X w_93 hw_93 x9_93 6 v_90 hv_89) ⟨hx, hb, hml, hown, hts⟩ (vx_cwSW 3 hts gL_built_L_effect rfl rfl rfl (by decide +kernel) ⟨Nat.le_of_ble_eq_true rfl, Nat.le_of_ble_eq_true rfl⟩) hK hG hC hP hD hS hA (List.Perm.refl _) rfl hl.1 rfl (Nat.le_of_ble_eq_true rfl) dL_built_139 ⟨rfl, rfl⟩ ⟨rfl, rfl⟩ (by omega) (by omega) (fun ov w_91 H locs hQ hP hD hS => ?_)
                obtain ⟨rfl, hw_91⟩ := hQ
                refine W.eq (g2 := F0 m 142 ls [.long v_90]) rfl ?_
                refine lv_lconst (v := 0) hx hb dL_built_142 (by decide) ?_
                refine lv_ldc2 (v := 999) hx hb hown w_4 dL_built_143 ?_
                obtain ⟨v_93, hv_92, h⟩ := bd_l h
                refine Lo_S (As := [.long v_90, .long 0, .long 999]) (rest := []) (wA := []) (wr := w_91 ++ []) 0 0 ((169 - 24 * (fu_23 + 1)) + 10) ((1014 - 144 * (fu_23 + 1)) + 60) 228 1368 (c_L_in l hst D k v_90 0 999 v_93 hv_92) ⟨hx, hb, hml, hown, hts⟩ (va_cwS 3 hts gL_built_L_in rfl rfl rfl (by decide +kernel) ⟨Nat.le_of_ble_eq_true rfl, Nat.le_of_ble_eq_true rfl⟩) hK hG hC hP hD hS hA (List.Perm.refl _) rfl hl.1 rfl (Nat.le_of_ble_eq_true rfl) dL_built_146 ⟨rfl, rfl⟩ ⟨rfl, rfl⟩ (by omega) (by omega) (fun ov w9 H locs hQ hP hD hS => ?_)
                obtain ⟨rfl, rfl⟩ := hQ
                have hP : va_P D vwCl (w_91 ++ []) H := hP
                have hD : va_D A (w_91 ++ []) := hD
                refine W.eq (g2 := F0 m 149 ls [.int v_93]) rfl ?_
                refine lv_if_eq (tgt := 309) hx hb dL_built_149 (by decide) (fun c_94 => ?_) (fun c_94 => ?_)
                · have h := it_l c_94 h
                  refine W.widen (k := (169 - 24 * (fu_23 + 1)) + 22) (n := (1014 - 144 * (fu_23 + 1)) + 132) (by omega) (by omega) ?_
                  exact hC_309 x2_93 x4_93 v_82 x7_93 x9_93 w_91 _ _ _ hw_91 hP hD hS (lv_sub hl [1, 2, 3, 4, 0, 5, 6] rfl) h
                · have h := it_r c_94 h
                  refine lv_aload_n hx hb dL_built_152 rfl (lv_at hl 1 rfl) ?_
                  refine lv_iload hx hb dL_built_153 (lv_at hl 6 rfl) ?_
                  refine lv_bipush (v := 7) hx hb dL_built_155 (by decide) ?_
                  obtain ⟨v_96, hv_95, h⟩ := bd_l h
                  refine Lo_T (As := [.ref (cA 0), .int x9_93, .int 7]) (rest := []) (wA := w_91) (wr := []) 2 12 ((169 - 24 * (fu_23 + 1)) + 12) ((1014 - 144 * (fu_23 + 1)) + 72) 228 1368 (co_effect l hst D k cA nA tA X w_91 hw_91 x9_93 7 v_96 hv_95) ⟨hx, hb, hml, hown, hts⟩ (vx_cwSW 3 hts gL_built_L_effect rfl rfl rfl (by decide +kernel) ⟨Nat.le_of_ble_eq_true rfl, Nat.le_of_ble_eq_true rfl⟩) hK hG hC hP hD hS hA (List.Perm.refl _) rfl hl.1 rfl (Nat.le_of_ble_eq_true rfl) dL_built_157 ⟨rfl, rfl⟩ ⟨rfl, rfl⟩ (by omega) (by omega) (fun ov w_97 H locs hQ hP hD hS => ?_)
                  obtain ⟨rfl, hw_97⟩ := hQ
                  refine W.eq (g2 := F0 m 160 ls [.long v_96]) rfl ?_
                  refine lv_lconst (v := 0) hx hb dL_built_160 (by decide) ?_
                  refine lv_ldc2 (v := 20) hx hb hown w_5 dL_built_161 ?_
                  obtain ⟨v_99, hv_98, h⟩ := bd_l h
                  refine Lo_S (As := [.long v_96, .long 0, .long 20]) (rest := []) (wA := []) (wr := w_97 ++ []) 0 0 ((169 - 24 * (fu_23 + 1)) + 12) ((1014 - 144 * (fu_23 + 1)) + 72) 228 1368 (c_L_in l hst D k v_96 0 20 v_99 hv_98) ⟨hx, hb, hml, hown, hts⟩ (va_cwS 3 hts gL_built_L_in rfl rfl rfl (by decide +kernel) ⟨Nat.le_of_ble_eq_true rfl, Nat.le_of_ble_eq_true rfl⟩) hK hG hC hP hD hS hA (List.Perm.refl _) rfl hl.1 rfl (Nat.le_of_ble_eq_true rfl) dL_built_164 ⟨rfl, rfl⟩ ⟨rfl, rfl⟩ (by omega) (by omega) (fun ov w9 H locs hQ hP hD hS => ?_)
                  obtain ⟨rfl, rfl⟩ := hQ
                  have hP : va_P D vwCl (w_97 ++ []) H := hP
                  have hD : va_D A (w_97 ++ []) := hD
                  refine W.eq (g2 := F0 m 167 ls [.int v_99]) rfl ?_
                  refine lv_if_eq (tgt := 309) hx hb dL_built_167 (by decide) (fun c_100 => ?_) (fun c_100 => ?_)
                  · have h := it_l c_100 h
                    refine W.widen (k := (169 - 24 * (fu_23 + 1)) + 22) (n := (1014 - 144 * (fu_23 + 1)) + 132) (by omega) (by omega) ?_
                    exact hC_309 x2_93 x4_93 v_82 x7_93 x9_93 w_97 _ _ _ hw_97 hP hD hS (lv_sub hl [1, 2, 3, 4, 0, 5, 6] rfl) h
                  · have h := it_r c_100 h
                    refine lv_aload_n hx hb dL_built_170 rfl (lv_at hl 1 rfl) ?_
                    refine lv_iload hx hb dL_built_171 (lv_at hl 6 rfl) ?_
                    refine lv_bipush (v := 8) hx hb dL_built_173 (by decide) ?_
                    obtain ⟨v_102, hv_101, h⟩ := bd_l h
                    refine Lo_T (As := [.ref (cA 0), .int x9_93, .int 8]) (rest := []) (wA := w_97) (wr := []) 2 12 ((169 - 24 * (fu_23 + 1)) + 14) ((1014 - 144 * (fu_23 + 1)) + 84) 228 1368 (co_effect l hst D k cA nA tA X w_97 hw_97 x9_93 8 v_102 hv_101) ⟨hx, hb, hml, hown, hts⟩ (vx_cwSW 3 hts gL_built_L_effect rfl rfl rfl (by decide +kernel) ⟨Nat.le_of_ble_eq_true rfl, Nat.le_of_ble_eq_true rfl⟩) hK hG hC hP hD hS hA (List.Perm.refl _) rfl hl.1 rfl (Nat.le_of_ble_eq_true rfl) dL_built_175 ⟨rfl, rfl⟩ ⟨rfl, rfl⟩ (by omega) (by omega) (fun ov w_103 H locs hQ hP hD hS => ?_)
                    obtain ⟨rfl, hw_103⟩ := hQ
                    refine W.eq (g2 := F0 m 178 ls [.long v_102]) rfl ?_
                    refine lv_lload hx hb dL_built_178 (lv_at hl 7 rfl) ?_
                    refine lv_lload hx hb dL_built_180 (lv_at hl 8 rfl) ?_
                    refine lv_ladd hx hb dL_built_182 ?_
                    refine lv_lconst (v := 0) hx hb dL_built_183 (by decide) ?_
                    refine W.lcmp hx hb dL_built_184 ?_
                    refine lv_if_ne (tgt := 192) hx hb dL_built_185 (by decide) (fun c_104 => ?_) (fun c_104 => ?_)
                    · have h := it_r c_104 h
                      refine lv_ldc2 (v := 100) hx hb hown w_0 dL_built_192 ?_
                      refine lv_lload hx hb dL_built_195 (lv_at hl 8 rfl) ?_
                      refine lv_lmul hx hb dL_built_197 ?_
                      refine lv_lload hx hb dL_built_198 (lv_at hl 7 rfl) ?_
                      refine lv_lload hx hb dL_built_200 (lv_at hl 8 rfl) ?_
                      refine lv_ladd hx hb dL_built_202 ?_
                      have g_105 := nzl_l (gb_l h)
                      have h := gb_r h
                      refine lv_ldiv hx hb dL_built_203 g_105 ?_
                      refine W.widen (k := (169 - 24 * (fu_23 + 1)) + 14) (n := (1014 - 144 * (fu_23 + 1)) + 84) (by omega) (by omega) ?_
                      exact hC_204 x2_93 x4_93 v_82 x7_93 x9_93 x12_93 x14_93 ((100 * x12_93) / (x10_93 + x12_93)) v_102 w_103 _ _ _ hw_103 hP hD hS (lv_sub hl [1, 2, 3, 4, 0, 5, 6, 8, 9] rfl) h
                    · have h := it_l c_104 h
                      refine lv_lconst (v := 0) hx hb dL_built_188 (by decide) ?_
                      refine lv_goto (tgt := 204) hx hb dL_built_189 (by decide) ?_
                      refine W.widen (k := (169 - 24 * (fu_23 + 1)) + 14) (n := (1014 - 144 * (fu_23 + 1)) + 84) (by omega) (by omega) ?_
                      exact hC_204 x2_93 x4_93 v_82 x7_93 x9_93 x12_93 x14_93 0 v_102 w_103 _ _ _ hw_103 hP hD hS (lv_sub hl [1, 2, 3, 4, 0, 5, 6, 8, 9] rfl) h
      refine lv_iload hx hb dL_built_23 (lv_at hl 7 rfl) ?_
      refine lv_iload_n hx hb dL_built_25 rfl (lv_at hl 1 rfl) ?_
      refine lv_icmp_ge (tgt := 340) hx hb dL_built_26 (by decide) (fun c_106 => ?_) (fun c_106 => ?_)
      · have h := it_l c_106 h
        refine lv_bipush (v := (-9)) hx hb dL_built_340 (by decide) ?_
        refine lv_istore (lv' := [(9, .int (-9)), (0, .ref (cA 0)), (1, .int x1_23), (2, .long x2_23), (4, .long x4_23), (6, .int x6_23), (7, .int x7_23), (8, .int x8_23)]) hx hb dL_built_342 hl (by decide) rfl (fun ls hl => ?_)
        refine lv_iload_n hx hb dL_built_344 rfl (lv_at hl 2 rfl) ?_
        refine lv_iconst (v := 1) hx hb dL_built_345 (by decide) ?_
        refine lv_isub hx hb dL_built_346 ?_
        refine lv_topi (fun v_107 ev_107 => ?_)
        have h := nm_l h ev_107
        refine lv_istore (lv' := [(10, .int v_107), (9, .int (-9)), (0, .ref (cA 0)), (1, .int x1_23), (2, .long x2_23), (4, .long x4_23), (6, .int x6_23), (7, .int x7_23), (8, .int x8_23)]) hx hb dL_built_347 hl (by decide) rfl (fun ls hl => ?_)
        refine W.widen (k := (214 - 3 * 7)) (n := (1284 - 18 * 7)) (by omega) (by omega) ?_
        exact hC_349 7 x2_23 x4_23 x6_23 x8_23 (-9) v_107 w_23 _ _ _ (Nat.le_refl _) hw_23 hP hD hS (lv_sub hl [2, 4, 5, 6, 8, 1, 0] rfl) h
      · have h := it_r c_106 h
        refine lv_iload hx hb dL_built_29 (lv_at hl 6 rfl) ?_
        refine lv_if_eq (tgt := 340) hx hb dL_built_31 (by decide) (fun c_108 => ?_) (fun c_108 => ?_)
        · have h := it_l c_108 h
          refine lv_bipush (v := (-9)) hx hb dL_built_340 (by decide) ?_
          refine lv_istore (lv' := [(9, .int (-9)), (0, .ref (cA 0)), (1, .int x1_23), (2, .long x2_23), (4, .long x4_23), (6, .int x6_23), (7, .int x7_23), (8, .int x8_23)]) hx hb dL_built_342 hl (by decide) rfl (fun ls hl => ?_)
          refine lv_iload_n hx hb dL_built_344 rfl (lv_at hl 2 rfl) ?_
          refine lv_iconst (v := 1) hx hb dL_built_345 (by decide) ?_
          refine lv_isub hx hb dL_built_346 ?_
          refine lv_topi (fun v_109 ev_109 => ?_)
          have h := nm_l h ev_109
          refine lv_istore (lv' := [(10, .int v_109), (9, .int (-9)), (0, .ref (cA 0)), (1, .int x1_23), (2, .long x2_23), (4, .long x4_23), (6, .int x6_23), (7, .int x7_23), (8, .int x8_23)]) hx hb dL_built_347 hl (by decide) rfl (fun ls hl => ?_)
          refine W.widen (k := (214 - 3 * 7)) (n := (1284 - 18 * 7)) (by omega) (by omega) ?_
          exact hC_349 7 x2_23 x4_23 x6_23 x8_23 (-9) v_109 w_23 _ _ _ (Nat.le_refl _) hw_23 hP hD hS (lv_sub hl [2, 4, 5, 6, 8, 1, 0] rfl) h
        · have h := it_r c_108 h
          refine lv_aload_n hx hb dL_built_34 rfl (lv_at hl 0 rfl) ?_
          refine lv_iload hx hb dL_built_35 (lv_at hl 7 rfl) ?_
          refine lv_iconst (v := 1) hx hb dL_built_37 (by decide) ?_
          obtain ⟨v_111, hv_110, h⟩ := bd_l h
          refine Lo_T (As := [.ref (cA 0), .int x9_23, .int 1]) (rest := []) (wA := w_23) (wr := []) 2 12 ((169 - 24 * (fu_23 + 1)) + 2) ((1014 - 144 * (fu_23 + 1)) + 12) 228 1368 (co_effect l hst D k cA nA tA X w_23 hw_23 x9_23 1 v_111 hv_110) ⟨hx, hb, hml, hown, hts⟩ (vx_cwSW 3 hts gL_built_L_effect rfl rfl rfl (by decide +kernel) ⟨Nat.le_of_ble_eq_true rfl, Nat.le_of_ble_eq_true rfl⟩) hK hG hC hP hD hS hA (List.Perm.refl _) rfl hl.1 rfl (Nat.le_of_ble_eq_true rfl) dL_built_38 ⟨rfl, rfl⟩ ⟨rfl, rfl⟩ (by omega) (by omega) (fun ov w_112 H locs hQ hP hD hS => ?_)
          obtain ⟨rfl, hw_112⟩ := hQ
          refine W.eq (g2 := F0 m 41 ls [.long v_111]) rfl ?_
          refine lv_lstore (lv' := [(10, .long v_111), (0, .ref (cA 0)), (1, .int x1_23), (2, .long x2_23), (4, .long x4_23), (6, .int x6_23), (7, .int x7_23), (8, .int x8_23), (9, .int x9_23)]) hx hb dL_built_41 hl (by decide) rfl (fun ls hl => ?_)
          refine lv_aload_n hx hb dL_built_43 rfl (lv_at hl 1 rfl) ?_
          refine lv_iload hx hb dL_built_44 (lv_at hl 8 rfl) ?_
          refine lv_iconst (v := 2) hx hb dL_built_46 (by decide) ?_
          obtain ⟨v_114, hv_113, h⟩ := bd_l h
          refine Lo_T (As := [.ref (cA 0), .int x9_23, .int 2]) (rest := []) (wA := w_112) (wr := []) 2 12 ((169 - 24 * (fu_23 + 1)) + 4) ((1014 - 144 * (fu_23 + 1)) + 24) 228 1368 (co_effect l hst D k cA nA tA X w_112 hw_112 x9_23 2 v_114 hv_113) ⟨hx, hb, hml, hown, hts⟩ (vx_cwSW 3 hts gL_built_L_effect rfl rfl rfl (by decide +kernel) ⟨Nat.le_of_ble_eq_true rfl, Nat.le_of_ble_eq_true rfl⟩) hK hG hC hP hD hS hA (List.Perm.refl _) rfl hl.1 rfl (Nat.le_of_ble_eq_true rfl) dL_built_47 ⟨rfl, rfl⟩ ⟨rfl, rfl⟩ (by omega) (by omega) (fun ov w_115 H locs hQ hP hD hS => ?_)
          obtain ⟨rfl, hw_115⟩ := hQ
          refine W.eq (g2 := F0 m 50 ls [.long v_114]) rfl ?_
          refine lv_lstore (lv' := [(12, .long v_114), (10, .long v_111), (0, .ref (cA 0)), (1, .int x1_23), (2, .long x2_23), (4, .long x4_23), (6, .int x6_23), (7, .int x7_23), (8, .int x8_23), (9, .int x9_23)]) hx hb dL_built_50 hl (by decide) rfl (fun ls hl => ?_)
          refine lv_aload_n hx hb dL_built_52 rfl (lv_at hl 2 rfl) ?_
          refine lv_iload hx hb dL_built_53 (lv_at hl 9 rfl) ?_
          refine lv_iconst (v := 5) hx hb dL_built_55 (by decide) ?_
          obtain ⟨v_117, hv_116, h⟩ := bd_l h
          refine Lo_T (As := [.ref (cA 0), .int x9_23, .int 5]) (rest := []) (wA := w_115) (wr := []) 2 12 ((169 - 24 * (fu_23 + 1)) + 6) ((1014 - 144 * (fu_23 + 1)) + 36) 228 1368 (co_effect l hst D k cA nA tA X w_115 hw_115 x9_23 5 v_117 hv_116) ⟨hx, hb, hml, hown, hts⟩ (vx_cwSW 3 hts gL_built_L_effect rfl rfl rfl (by decide +kernel) ⟨Nat.le_of_ble_eq_true rfl, Nat.le_of_ble_eq_true rfl⟩) hK hG hC hP hD hS hA (List.Perm.refl _) rfl hl.1 rfl (Nat.le_of_ble_eq_true rfl) dL_built_56 ⟨rfl, rfl⟩ ⟨rfl, rfl⟩ (by omega) (by omega) (fun ov w_118 H locs hQ hP hD hS => ?_)
          obtain ⟨rfl, hw_118⟩ := hQ
          refine W.eq (g2 := F0 m 59 ls [.long v_117]) rfl ?_
          refine lv_lstore (lv' := [(14, .long v_117), (12, .long v_114), (10, .long v_111), (0, .ref (cA 0)), (1, .int x1_23), (2, .long x2_23), (4, .long x4_23), (6, .int x6_23), (7, .int x7_23), (8, .int x8_23), (9, .int x9_23)]) hx hb dL_built_59 hl (by decide) rfl (fun ls hl => ?_)
          refine lv_lload_n hx hb dL_built_61 rfl (lv_at hl 5 rfl) ?_
          refine lv_lload hx hb dL_built_62 (lv_at hl 2 rfl) ?_
          refine lv_ladd hx hb dL_built_64 ?_
          refine lv_topl (fun v_119 ev_119 => ?_)
          have h := nm_l h ev_119
          refine lv_lstore_n (lv' := [(2, .long v_119), (14, .long v_117), (12, .long v_114), (10, .long v_111), (0, .ref (cA 0)), (1, .int x1_23), (4, .long x4_23), (6, .int x6_23), (7, .int x7_23), (8, .int x8_23), (9, .int x9_23)]) hx hb dL_built_65 rfl hl (by decide) rfl (fun ls hl => ?_)
          refine lv_lload hx hb dL_built_66 (lv_at hl 6 rfl) ?_
          refine lv_lload hx hb dL_built_68 (lv_at hl 2 rfl) ?_
          refine lv_ladd hx hb dL_built_70 ?_
          refine lv_topl (fun v_120 ev_120 => ?_)
          have h := nm_l h ev_120
          refine lv_lstore (lv' := [(4, .long v_120), (2, .long v_119), (14, .long v_117), (12, .long v_114), (10, .long v_111), (0, .ref (cA 0)), (1, .int x1_23), (6, .int x6_23), (7, .int x7_23), (8, .int x8_23), (9, .int x9_23)]) hx hb dL_built_71 hl (by decide) rfl (fun ls hl => ?_)
          refine lv_iload hx hb dL_built_73 (lv_at hl 7 rfl) ?_
          refine lv_aload_n hx hb dL_built_75 rfl (lv_at hl 5 rfl) ?_
          refine lv_iload hx hb dL_built_76 (lv_at hl 10 rfl) ?_
          refine lv_bipush (v := 7) hx hb dL_built_78 (by decide) ?_
          obtain ⟨v_122, hv_121, h⟩ := bd_l h
          refine Lo_T (As := [.ref (cA 0), .int x9_23, .int 7]) (rest := [.int x6_23]) (wA := w_118) (wr := []) 2 12 ((169 - 24 * (fu_23 + 1)) + 8) ((1014 - 144 * (fu_23 + 1)) + 48) 228 1368 (co_effect l hst D k cA nA tA X w_118 hw_118 x9_23 7 v_122 hv_121) ⟨hx, hb, hml, hown, hts⟩ (vx_cwSW 3 hts gL_built_L_effect rfl rfl rfl (by decide +kernel) ⟨Nat.le_of_ble_eq_true rfl, Nat.le_of_ble_eq_true rfl⟩) hK hG hC hP hD hS hA (List.Perm.refl _) rfl hl.1 rfl (Nat.le_of_ble_eq_true rfl) dL_built_80 ⟨rfl, rfl⟩ ⟨rfl, rfl⟩ (by omega) (by omega) (fun ov w_123 H locs hQ hP hD hS => ?_)
          obtain ⟨rfl, hw_123⟩ := hQ
          refine W.eq (g2 := F0 m 83 ls [.long v_122, .int x6_23]) rfl ?_
          refine lv_lconst (v := 0) hx hb dL_built_83 (by decide) ?_
          refine W.lcmp hx hb dL_built_84 ?_
          refine lv_if_le (tgt := 92) hx hb dL_built_85 (by decide) (fun c_124 => ?_) (fun c_124 => ?_)
          · have h := it_l c_124 h
            refine lv_iconst (v := 0) hx hb dL_built_92 (by decide) ?_
            refine W.widen (k := (169 - 24 * (fu_23 + 1)) + 8) (n := (1014 - 144 * (fu_23 + 1)) + 48) (by omega) (by omega) ?_
            exact hC_93 v_119 v_120 x7_23 x9_23 v_111 v_114 v_117 0 x6_23 w_123 _ _ _ hw_123 hP hD hS (lv_sub hl [5, 6, 1, 0, 8, 10, 4, 3, 2] rfl) h
          · have h := it_r c_124 h
            refine lv_iconst (v := 1) hx hb dL_built_88 (by decide) ?_
            refine lv_goto (tgt := 93) hx hb dL_built_89 (by decide) ?_
            refine W.widen (k := (169 - 24 * (fu_23 + 1)) + 8) (n := (1014 - 144 * (fu_23 + 1)) + 48) (by omega) (by omega) ?_
            exact hC_93 v_119 v_120 x7_23 x9_23 v_111 v_114 v_117 1 x6_23 w_123 _ _ _ hw_123 hP hD hS (lv_sub hl [5, 6, 1, 0, 8, 10, 4, 3, 2] rfl) h
  refine lv_aload_n hx hb dL_built_0 rfl (lv_at hl 0 rfl) ?_
  obtain ⟨v_126, hv_125, h⟩ := bd_l h
  refine Lo_S (As := [.ref (cA 0)]) (rest := []) (wA := w) (wr := []) 1 6 (1) (6) 228 1368 (c_L_effects l hst D k cA nA tA X w hw v_126 hv_125) ⟨hx, hb, hml, hown, hts⟩ (va_cwS 1 hts gL_built_L_effects rfl rfl rfl (by decide +kernel) ⟨Nat.le_of_ble_eq_true rfl, Nat.le_of_ble_eq_true rfl⟩) hK hG hC hP hD hS hA (List.Perm.refl _) rfl hl.1 rfl (Nat.le_of_ble_eq_true rfl) dL_built_1 ⟨rfl, rfl⟩ ⟨rfl, rfl⟩ (by omega) (by omega) (fun ov w_127 H locs hQ hP hD hS => ?_)
  obtain ⟨rfl, hw_127⟩ := hQ
  refine W.eq (g2 := F0 m 4 ls [.int v_126]) rfl ?_
  refine lv_istore_n (lv' := [(1, .int v_126), (0, .ref (cA 0))]) hx hb dL_built_4 rfl hl (by decide) rfl (fun ls hl => ?_)
  refine lv_lconst (v := 0) hx hb dL_built_5 (by decide) ?_
  refine lv_lstore_n (lv' := [(2, .long 0), (1, .int v_126), (0, .ref (cA 0))]) hx hb dL_built_6 rfl hl (by decide) rfl (fun ls hl => ?_)
  refine lv_lconst (v := 0) hx hb dL_built_7 (by decide) ?_
  refine lv_lstore (lv' := [(4, .long 0), (2, .long 0), (1, .int v_126), (0, .ref (cA 0))]) hx hb dL_built_8 hl (by decide) rfl (fun ls hl => ?_)
  refine lv_iconst (v := 0) hx hb dL_built_10 (by decide) ?_
  refine lv_istore (lv' := [(6, .int 0), (4, .long 0), (2, .long 0), (1, .int v_126), (0, .ref (cA 0))]) hx hb dL_built_11 hl (by decide) rfl (fun ls hl => ?_)
  refine lv_bipush (v := (-9)) hx hb dL_built_13 (by decide) ?_
  refine lv_istore (lv' := [(7, .int (-9)), (6, .int 0), (4, .long 0), (2, .long 0), (1, .int v_126), (0, .ref (cA 0))]) hx hb dL_built_15 hl (by decide) rfl (fun ls hl => ?_)
  refine lv_iconst (v := 1) hx hb dL_built_17 (by decide) ?_
  refine lv_istore (lv' := [(8, .int 1), (7, .int (-9)), (6, .int 0), (4, .long 0), (2, .long 0), (1, .int v_126), (0, .ref (cA 0))]) hx hb dL_built_18 hl (by decide) rfl (fun ls hl => ?_)
  refine lv_iconst (v := 0) hx hb dL_built_20 (by decide) ?_
  refine lv_istore (lv' := [(9, .int 0), (8, .int 1), (7, .int (-9)), (6, .int 0), (4, .long 0), (2, .long 0), (1, .int v_126), (0, .ref (cA 0))]) hx hb dL_built_21 hl (by decide) rfl (fun ls hl => ?_)
  refine W.widen (k := (169 - 24 * 7)) (n := (1014 - 144 * 7)) (by omega) (by omega) ?_
  exact hC_23 7 v_126 0 0 0 (-9) 1 0 w_127 _ _ _ (Nat.le_refl _) hw_127 hP hD hS (lv_sub hl [7, 6, 5, 4, 3, 2, 1, 0] rfl) h
noncomputable def f_L_follows_923 (x2_923 : Int64) (x7_923 : Int64) (t0_923 : Int32) (X_923 : XV) : Option (Int32 × XV) := if t0_923 = 0 then (some (0, X_923)) else (bd (f_L_now X_923) fun v_3 => if (lg_cmp v_3 x2_923) = 0 then (bd (o_restore X_923 1) fun ⟨v_7, X_9⟩ => if (lg_cmp v_7 x7_923) = 0 then (bd (f_L_now X_9) fun v_12 => if (lg_cmp v_12 x2_923) = 0 then (bd (o_undo X_9) fun ⟨v_16, X_18⟩ => if (lg_cmp v_16 (-9000000000000000003)) = 0 then (some (1, X_18)) else (some (0, X_18))) else (some (0, X_9))) else (some (0, X_9))) else (some (0, X_923)))
noncomputable def f_L_follows_922 (x2_922 : Int64) (x7_922 : Int64) (X_922 : XV) : Option (Int32 × XV) := f_L_follows_923 x2_922 x7_922 0 X_922
noncomputable def f_L_follows_918 (x2_918 : Int64) (x7_918 : Int64) (X_918 : XV) : Option (Int32 × XV) := f_L_follows_923 x2_918 x7_918 1 X_918
noncomputable def f_L_follows_868 (x2_868 : Int64) (x7_868 : Int64) (x9_868 : Int32) (X_868 : XV) : Option (Int32 × XV) := bd (o_economy X_868) fun v_21 => if x9_868 = 0 then (f_L_follows_922 x2_868 x7_868 X_868) else (bd (o_total X_868 0) fun v_25 => if (lg_cmp v_25 0) = 0 then (if (Op.cmpValue (FP.fcmp v_21 FP.fconst0) .l) = 0 then (f_L_follows_918 x2_868 x7_868 X_868) else (f_L_follows_922 x2_868 x7_868 X_868)) else (bd (o_total X_868 1) fun v_29 => bd (o_total X_868 0) fun v_32 => gb (nn32 (FP.fdiv (FP.l2f v_29) (FP.l2f v_32))) <| if (Op.cmpValue (FP.fcmp v_21 (FP.fdiv (FP.l2f v_29) (FP.l2f v_32))) .l) = 0 then (f_L_follows_918 x2_868 x7_868 X_868) else (f_L_follows_922 x2_868 x7_868 X_868)))
noncomputable def f_L_follows_866 (x2_866 : Int64) (x7_866 : Int64) (t0_866 : Int32) (X_866 : XV) : Option (Int32 × XV) := f_L_follows_868 x2_866 x7_866 t0_866 X_866
noncomputable def f_L_follows_865 (x2_865 : Int64) (x7_865 : Int64) (X_865 : XV) : Option (Int32 × XV) := f_L_follows_866 x2_865 x7_865 0 X_865
noncomputable def f_L_follows_861 (x2_861 : Int64) (x7_861 : Int64) (X_861 : XV) : Option (Int32 × XV) := f_L_follows_866 x2_861 x7_861 1 X_861
noncomputable def f_L_follows_734 (p1 : Int32) (x2_734 : Int64) (x7_734 : Int64) (x9_734 : Int32) (X_734 : XV) : Option (Int32 × XV) := if (p1 - p1 / 3 * 3) = 0 then (if x9_734 = 0 then (f_L_follows_868 x2_734 x7_734 x9_734 X_734) else (nm ((p1 / 7) - (p1 / 7) / 900 * 900) fun v_39 => bd (o_steamFor X_734 v_39 3) fun v_41 => bd (o_about X_734 1) fun v_44 => if (lg_cmp v_41 (-9)) = 0 then (f_L_follows_861 x2_734 x7_734 X_734) else (bd (o_set X_734 0 (v_41.toInt32)) fun ⟨v_48, X_50⟩ => if (lg_cmp v_48 v_44) = 0 then (bd (o_growth X_50 3 1) fun v_53 => if (lg_cmp v_53 (v_39.toInt64)) < 0 then (f_L_follows_865 x2_734 x7_734 X_50) else (bd (o_undo X_50) fun ⟨v_57, X_59⟩ => if (lg_cmp v_57 0) < 0 then (f_L_follows_865 x2_734 x7_734 X_59) else (if (lg_cmp v_41 0) = 0 then (f_L_follows_861 x2_734 x7_734 X_59) else (bd (o_set X_59 0 ((v_41.toInt32) - 1)) fun ⟨v_63, X_65⟩ => if (lg_cmp v_63 v_44) = 0 then (bd (o_growth X_65 3 1) fun v_68 => if 0 ≤ (lg_cmp v_68 (v_39.toInt64)) then (f_L_follows_865 x2_734 x7_734 X_65) else (bd (o_undo X_65) fun ⟨v_72, X_74⟩ => if (lg_cmp v_72 0) < 0 then (f_L_follows_865 x2_734 x7_734 X_74) else (f_L_follows_861 x2_734 x7_734 X_74))) else (f_L_follows_865 x2_734 x7_734 X_65))))) else (f_L_follows_865 x2_734 x7_734 X_50)))) else (f_L_follows_868 x2_734 x7_734 x9_734 X_734)
noncomputable def f_L_follows_675 (p1 : Int32) : Nat → Int64 → Int32 → Int64 → Int32 → Int64 → Int32 → XV → Option (Int32 × XV)
  | 0, _, _, _, _, _, _, _ => none
  | fu + 1, x2_675, x4_675, x7_675, x9_675, x29_675, x32_675, X_675 => if x4_675 ≤ x32_675 then (f_L_follows_734 p1 x2_675 x7_675 x9_675 X_675) else (if x9_675 = 0 then (f_L_follows_734 p1 x2_675 x7_675 x9_675 X_675) else (bd (o_effect X_675 x32_675 7) fun v_79 => if 0 < (lg_cmp v_79 0) then ((f_L_follows_675 p1 fu) x2_675 x4_675 x7_675 1 x29_675 (x32_675 + 1) X_675) else (bd (o_growth X_675 5 1) fun v_83 => bd (o_washGain X_675 x32_675 5 5) fun v_86 => if 0 < (lg_cmp (v_83 + v_86) x29_675) then ((f_L_follows_675 p1 fu) x2_675 x4_675 x7_675 0 x29_675 (x32_675 + 1) X_675) else ((f_L_follows_675 p1 fu) x2_675 x4_675 x7_675 1 x29_675 (x32_675 + 1) X_675))))
noncomputable def f_L_follows_648 (p1 : Int32) (x2_648 : Int64) (x4_648 : Int32) (x7_648 : Int64) (x29_648 : Int64) (X_648 : XV) : Option (Int32 × XV) := bd (o_bestTurns X_648 2 0) fun v_90 => bd (o_growth X_648 10 1) fun v_93 => if (lg_cmp v_90 v_93) < 0 then (f_L_follows_675 p1 7 x2_648 x4_648 x7_648 0 x29_648 0 X_648) else (f_L_follows_675 p1 7 x2_648 x4_648 x7_648 1 x29_648 0 X_648)
noncomputable def f_L_follows_559 (p1 : Int32) (x2_559 : Int64) (x4_559 : Int32) (x7_559 : Int64) (t0_559 : Int32) (X_559 : XV) : Option (Int32 × XV) := bd (o_bestTurns X_559 1 0) fun v_97 => bd (o_bestTurns X_559 1 1) fun v_100 => nm (v_100.toInt32) fun v_102 => if t0_559 = 0 then (f_L_follows_675 p1 7 x2_559 x4_559 x7_559 0 v_97 0 X_559) else (bd (o_growth X_559 5 1) fun v_105 => if 0 < (lg_cmp v_105 v_97) then (f_L_follows_675 p1 7 x2_559 x4_559 x7_559 0 v_97 0 X_559) else (if v_102 < 0 then (bd (o_growth X_559 5 1) fun v_110 => if (lg_cmp v_110 v_97) = 0 then (f_L_follows_648 p1 x2_559 x4_559 x7_559 v_97 X_559) else (f_L_follows_675 p1 7 x2_559 x4_559 x7_559 0 v_97 0 X_559)) else (bd (o_growth X_559 5 1) fun v_114 => if 0 ≤ (lg_cmp v_114 v_97) then (f_L_follows_675 p1 7 x2_559 x4_559 x7_559 0 v_97 0 X_559) else (bd (o_growth X_559 5 1) fun v_118 => bd (o_washGain X_559 v_102 5 5) fun v_121 => if (lg_cmp (v_118 + v_121) v_97) = 0 then (f_L_follows_648 p1 x2_559 x4_559 x7_559 v_97 X_559) else (f_L_follows_675 p1 7 x2_559 x4_559 x7_559 0 v_97 0 X_559)))))
noncomputable def f_L_follows_558 (p1 : Int32) (x2_558 : Int64) (x4_558 : Int32) (x7_558 : Int64) (X_558 : XV) : Option (Int32 × XV) := f_L_follows_559 p1 x2_558 x4_558 x7_558 0 X_558
noncomputable def f_L_follows_545 (p1 : Int32) (x2_545 : Int64) (x4_545 : Int32) (x7_545 : Int64) (X_545 : XV) : Option (Int32 × XV) := bd (f_L_now X_545) fun v_125 => if (lg_cmp v_125 x2_545) = 0 then (f_L_follows_559 p1 x2_545 x4_545 x7_545 1 X_545) else (f_L_follows_558 p1 x2_545 x4_545 x7_545 X_545)
noncomputable def f_L_follows_474 (p1 : Int32) (x2_474 : Int64) (x4_474 : Int32) (x5_474 : Int32) (x6_474 : Int32) (x7_474 : Int64) (x22_474 : Int32) (x25_474 : Int64) (x27_474 : Int64) (t0_474 : Int64) (t1_474 : Int64) (X_474 : XV) : Option (Int32 × XV) := if (lg_cmp t1_474 t0_474) = 0 then (if x22_474 = 0 then (f_L_follows_545 p1 x2_474 x4_474 x7_474 X_474) else (bd (o_growth X_474 x5_474 1) fun v_131 => if (lg_cmp (v_131 - x27_474) x25_474) = 0 then (bd (o_effect X_474 x6_474 7) fun v_135 => if (lg_cmp v_135 5) = 0 then (bd (o_endWash X_474 x6_474) fun ⟨v_139, X_141⟩ => if (lg_cmp v_139 5) = 0 then (bd (o_undo X_141) fun ⟨v_144, X_146⟩ => if (lg_cmp v_144 0) < 0 then (f_L_follows_558 p1 x2_474 x4_474 x7_474 X_146) else (bd (o_undo X_146) fun ⟨v_149, X_151⟩ => if (lg_cmp v_149 0) < 0 then (f_L_follows_558 p1 x2_474 x4_474 x7_474 X_151) else (f_L_follows_545 p1 x2_474 x4_474 x7_474 X_151))) else (f_L_follows_558 p1 x2_474 x4_474 x7_474 X_141)) else (f_L_follows_558 p1 x2_474 x4_474 x7_474 X_474)) else (f_L_follows_558 p1 x2_474 x4_474 x7_474 X_474))) else (f_L_follows_558 p1 x2_474 x4_474 x7_474 X_474)
noncomputable def f_L_follows_417 (p1 : Int32) (x2_417 : Int64) (x4_417 : Int32) (x5_417 : Int32) (x6_417 : Int32) (x7_417 : Int64) (x9_417 : Int32) (t0_417 : Int32) (X_417 : XV) : Option (Int32 × XV) := bd (o_about X_417 7) fun v_154 => bd (o_washGain X_417 x6_417 5 x5_417) fun v_157 => bd (o_growth X_417 x5_417 1) fun v_160 => if x9_417 = 0 then (f_L_follows_558 p1 x2_417 x4_417 x7_417 X_417) else (bd (o_wash X_417 x6_417 5) fun ⟨v_164, X_166⟩ => if t0_417 = 0 then (f_L_follows_474 p1 x2_417 x4_417 x5_417 x6_417 x7_417 t0_417 v_157 v_160 (-9000000000000000003) v_164 X_166) else (f_L_follows_474 p1 x2_417 x4_417 x5_417 x6_417 x7_417 t0_417 v_157 v_160 (v_154 + 1) v_164 X_166))
noncomputable def f_L_follows_397 (p1 : Int32) (x2_397 : Int64) (x4_397 : Int32) (x5_397 : Int32) (x6_397 : Int32) (x7_397 : Int64) (t0_397 : Int32) (X_397 : XV) : Option (Int32 × XV) := bd (o_effect X_397 x6_397 7) fun v_169 => if (lg_cmp v_169 0) = 0 then (f_L_follows_417 p1 x2_397 x4_397 x5_397 x6_397 x7_397 t0_397 1 X_397) else (f_L_follows_417 p1 x2_397 x4_397 x5_397 x6_397 x7_397 t0_397 0 X_397)
noncomputable def f_L_follows_396 (p1 : Int32) (x2_396 : Int64) (x4_396 : Int32) (x5_396 : Int32) (x6_396 : Int32) (x7_396 : Int64) (X_396 : XV) : Option (Int32 × XV) := f_L_follows_397 p1 x2_396 x4_396 x5_396 x6_396 x7_396 0 X_396
noncomputable def f_L_follows_305 (p1 : Int32) (x2_305 : Int64) (x4_305 : Int32) (x5_305 : Int32) (x6_305 : Int32) (x7_305 : Int64) (x9_305 : Int32) (x12_305 : Int64) (x14_305 : Int64) (X_305 : XV) (g0_305 : Nat → Int64) (g1_305 : Nat → Int64) : Option (Int32 × XV) := if x9_305 = 0 then (f_L_follows_396 p1 x2_305 x4_305 x5_305 x6_305 x7_305 X_305) else (bd (o_about X_305 8) fun v_174 => if (lg_cmp v_174 (((x12_305 + (g1_305 5)) - (g1_305 7)) - (g1_305 1))) = 0 then (bd (o_about X_305 9) fun v_178 => if (lg_cmp v_178 ((x14_305 + (g1_305 6)) - (g1_305 8))) = 0 then (if 0 < (lg_cmp (g1_305 9) (x5_305.toInt64)) then (f_L_follows_396 p1 x2_305 x4_305 x5_305 x6_305 x7_305 X_305) else (bd (o_undo X_305) fun ⟨v_183, X_185⟩ => if (lg_cmp v_183 0) < 0 then (f_L_follows_396 p1 x2_305 x4_305 x5_305 x6_305 x7_305 X_185) else (bd (f_L_now X_185) fun v_188 => if (lg_cmp v_188 x2_305) = 0 then (f_L_follows_397 p1 x2_305 x4_305 x5_305 x6_305 x7_305 1 X_185) else (f_L_follows_396 p1 x2_305 x4_305 x5_305 x6_305 x7_305 X_185)))) else (f_L_follows_396 p1 x2_305 x4_305 x5_305 x6_305 x7_305 X_305)) else (f_L_follows_396 p1 x2_305 x4_305 x5_305 x6_305 x7_305 X_305))
noncomputable def f_L_follows_249 (p1 : Int32) : Nat → Int64 → Int32 → Int32 → Int32 → Int64 → Int32 → Int64 → Int64 → Int32 → XV → (Nat → Int64) → (Nat → Int64) → Option (Int32 × XV)
  | 0, _, _, _, _, _, _, _, _, _, _, _, _ => none
  | fu + 1, x2_249, x4_249, x5_249, x6_249, x7_249, x9_249, x12_249, x14_249, x22_249, X_249, g0_249, g1_249 => if 10 ≤ x22_249 then (f_L_follows_305 p1 x2_249 x4_249 x5_249 x6_249 x7_249 x9_249 x12_249 x14_249 X_249 g0_249 g1_249) else (if x9_249 = 0 then (f_L_follows_305 p1 x2_249 x4_249 x5_249 x6_249 x7_249 x9_249 x12_249 x14_249 X_249 g0_249 g1_249) else (bd (o_total X_249 x22_249) fun v_194 => gb (inb x22_249 10) <| gb (inb x22_249 10) <| if (lg_cmp v_194 ((g0_249 x22_249.toNatClampNeg) + (g1_249 x22_249.toNatClampNeg))) = 0 then (gb (inb x22_249 10) <| if (lg_cmp (g1_249 x22_249.toNatClampNeg) 0) < 0 then ((f_L_follows_249 p1 fu) x2_249 x4_249 x5_249 x6_249 x7_249 0 x12_249 x14_249 (x22_249 + 1) X_249 g0_249 g1_249) else ((f_L_follows_249 p1 fu) x2_249 x4_249 x5_249 x6_249 x7_249 1 x12_249 x14_249 (x22_249 + 1) X_249 g0_249 g1_249)) else ((f_L_follows_249 p1 fu) x2_249 x4_249 x5_249 x6_249 x7_249 0 x12_249 x14_249 (x22_249 + 1) X_249 g0_249 g1_249)))
noncomputable def f_L_follows_164 (p1 : Int32) (x2_164 : Int64) (x4_164 : Int32) (x5_164 : Int32) (x6_164 : Int32) (x7_164 : Int64) (x9_164 : Int32) (x12_164 : Int64) (x14_164 : Int64) (x16_164 : Int64) (x18_164 : Int64) (t0_164 : Int64) (X_164 : XV) (g0_164 : Nat → Int64) (g1_164 : Nat → Int64) : Option (Int32 × XV) := if x9_164 = 0 then (f_L_follows_249 p1 11 x2_164 x4_164 x5_164 x6_164 x7_164 0 x12_164 x14_164 0 X_164 g0_164 g1_164) else (bd (o_tick X_164 x5_164) fun ⟨v_203, X_205⟩ => if (lg_cmp v_203 (g1_164 1)) = 0 then (bd (o_about X_205 6) fun v_208 => if (lg_cmp v_208 (x7_164 + (x5_164.toInt64))) = 0 then (bd (o_effect X_205 x6_164 5) fun v_212 => if (lg_cmp v_212 x16_164) = 0 then (bd (o_effect X_205 x6_164 1) fun v_216 => if (lg_cmp v_216 x18_164) = 0 then (bd (f_L_in t0_164 0 (x5_164.toInt64)) fun v_220 => if v_220 = 0 then (f_L_follows_249 p1 11 x2_164 x4_164 x5_164 x6_164 x7_164 0 x12_164 x14_164 0 X_205 g0_164 g1_164) else (f_L_follows_249 p1 11 x2_164 x4_164 x5_164 x6_164 x7_164 1 x12_164 x14_164 0 X_205 g0_164 g1_164)) else (f_L_follows_249 p1 11 x2_164 x4_164 x5_164 x6_164 x7_164 0 x12_164 x14_164 0 X_205 g0_164 g1_164)) else (f_L_follows_249 p1 11 x2_164 x4_164 x5_164 x6_164 x7_164 0 x12_164 x14_164 0 X_205 g0_164 g1_164)) else (f_L_follows_249 p1 11 x2_164 x4_164 x5_164 x6_164 x7_164 0 x12_164 x14_164 0 X_205 g0_164 g1_164)) else (f_L_follows_249 p1 11 x2_164 x4_164 x5_164 x6_164 x7_164 0 x12_164 x14_164 0 X_205 g0_164 g1_164))
noncomputable def f_L_follows_69 (p1 : Int32) : Nat → Int64 → Int32 → Int32 → Int32 → Int64 → Int32 → Int32 → XV → (Nat → Int64) → (Nat → Int64) → Option (Int32 × XV)
  | 0, _, _, _, _, _, _, _, _, _, _ => none
  | fu + 1, x2_69, x4_69, x5_69, x6_69, x7_69, x9_69, x12_69, X_69, g0_69, g1_69 => if 10 ≤ x12_69 then (bd (o_about X_69 8) fun v_224 => bd (o_about X_69 9) fun v_227 => bd (o_ahead X_69 x6_69 x5_69 5) fun v_230 => bd (o_ahead X_69 x6_69 x5_69 1) fun v_233 => if (lg_cmp v_230 0) = 0 then (f_L_follows_164 p1 x2_69 x4_69 x5_69 x6_69 x7_69 x9_69 v_224 v_227 v_230 v_233 0 X_69 g0_69 g1_69) else (bd (o_scaledAfter X_69 x6_69 (v_230.toInt32)) fun v_237 => f_L_follows_164 p1 x2_69 x4_69 x5_69 x6_69 x7_69 x9_69 v_224 v_227 v_230 v_233 v_237 X_69 g0_69 g1_69)) else (bd (o_total X_69 x12_69) fun v_240 => gb (inb x12_69 10) <| nm (vp_updL g0_69 x12_69.toNatClampNeg v_240) fun g_243 => bd (o_growth X_69 x5_69 x12_69) fun v_245 => gb (inb x12_69 10) <| nm (vp_updL g1_69 x12_69.toNatClampNeg v_245) fun g_248 => (f_L_follows_69 p1 fu) x2_69 x4_69 x5_69 x6_69 x7_69 x9_69 (x12_69 + 1) X_69 g_243 g_248)
noncomputable def f_L_follows (X : XV) (p1 : Int32) : Option (Int32 × XV) := bd (f_L_now X) fun v_250 => bd (f_L_effects X) fun v_253 => nm (1 + (p1 - p1 / 50 * 50)) fun v_255 => gb (nz v_253) <| nm ((p1 / 50) - (p1 / 50) / v_253 * v_253) fun v_257 => bd (o_about X 6) fun v_259 => bd (o_save X 1) fun ⟨v_262, X_264⟩ => if (lg_cmp v_262 v_259) = 0 then (f_L_follows_69 p1 11 v_250 v_253 v_255 v_257 v_259 1 0 X_264 (fun _ => 0) (fun _ => 0)) else (f_L_follows_69 p1 11 v_250 v_253 v_255 v_257 v_259 0 0 X_264 (fun _ => 0) (fun _ => 0))
set_option maxRecDepth 100000 in
set_option maxHeartbeats 4000000 in
theorem c_L_follows (l : Launch) (hst : l.stackTraces = false) (D : va_G) (k : Nat → ClassId) (cA nA tA : Nat → Nat) (X : XV) (w : va_W) (hw : Ob k cA nA tA X w) (p1 : Int32) (o : Int32 × XV) (h : f_L_follows X p1 = some o) : CO l D k yL_follows wsL_follows ({ frames := 14, cells := 1554, slots := 9530, locals := 749 } : Room) [.ref (cA 0), .int p1] (w) (fun (ov : Option Value) (w' : va_W) => ov = some (.int o.1) ∧ Ob k cA nA tA o.2 w') := by
  obtain ⟨B9, hB9⟩ : ∃ B : Option Value → va_W → Prop, B = fun (ov : Option Value) (w' : va_W) => ov = some (.int o.1) ∧ Ob k cA nA tA o.2 w' := ⟨_, rfl⟩
  refine CO.of (P := B9) ?_ (fun ov w' h9 => by rw [hB9] at h9; exact h9)
  refine Cl_of0 (cc := cL_follows) (maxL := 37) (ret := (some .boolean)) (by decide) rfl (Nat.le_of_ble_eq_true rfl) ?_
  intro p e s m args below meth c A ls hx hb hr hml hts hown hlocks hK hG hC hA hP hD hS hl
  have hl : lv_has ls 37 [(0, .ref (cA 0)), (1, .int p1)] := hl
  have hP := P_n hP
  have hD := D_n hD
  have w_0 := hts (.constantLong RL 21 (-9000000000000000003)) (by decide +kernel)
  have w_1 := hts (.constantLong RL 206 (-9)) (by decide +kernel)
  have w_2 := hts (.constantLong RL 204 (5)) (by decide +kernel)
  have w_3 := hts (.arrayClass .long) (by decide +kernel)
  unfold f_L_follows at h
  have hC_923 : ∀ (x2_923 : Int64) (x7_923 : Int64) (t0_923 : Int32) (X_923 : XV) (w_923 : va_W) (H : Heap) (locs : List Loc) (ls : Array Slot), Ob k cA nA tA X_923 w_923 → va_P D vwCl (w_923 ++ []) H → va_D A (w_923 ++ []) → va_S A s.heap H locs → lv_has ls 37 [(0, .ref (cA 0)), (2, .long x2_923), (7, .long x7_923)] → f_L_follows_923 x2_923 x7_923 t0_923 X_923 = some o → W p l e ({ frames := 14, cells := 1554, slots := 9530, locals := 749 } : Room) s m args below meth c H locs (1083) (6686) (vx_MQ below (Qx D A (.inr B9)) (Xx D A (w) (.inr B9)) args s 1554 9530 A) (F0 m 923 ls [.int t0_923]) := by
    intro x2_923 x7_923 t0_923 X_923 w_923 H locs ls hw_923 hP hD hS hl h
    unfold f_L_follows_923 at h
    refine lv_istore (lv' := [(9, .int t0_923), (0, .ref (cA 0)), (2, .long x2_923), (7, .long x7_923)]) hx hb dL_follows_923 hl (by decide) rfl (fun ls hl => ?_)
    refine lv_iload hx hb dL_follows_925 (lv_at hl 0 rfl) ?_
    refine lv_if_eq (tgt := 974) hx hb dL_follows_927 (by decide) (fun c_1 => ?_) (fun c_1 => ?_)
    · have h := it_l c_1 h
      refine lv_iconst (v := 0) hx hb dL_follows_974 (by decide) ?_
      cases h
      exact Cx_zret (B := B9) rfl (by rw [hB9]; exact ⟨rfl, hw_923⟩) (by omega) (by omega) hx hb hr (by decide) (P_l hP) (D_l hD) hS dL_follows_975 hlocks
    · have h := it_r c_1 h
      refine lv_aload_n hx hb dL_follows_930 rfl (lv_at hl 1 rfl) ?_
      obtain ⟨v_3, hv_2, h⟩ := bd_l h
      refine Lo_S (As := [.ref (cA 0)]) (rest := []) (wA := w_923) (wr := []) 224 1344 (1307) (8030) 1554 9530 (c_L_now l hst D k cA nA tA X_923 w_923 hw_923 v_3 hv_2) ⟨hx, hb, hml, hown, hts⟩ (va_cwS 1 hts gL_follows_L_now rfl rfl rfl (by decide +kernel) ⟨Nat.le_of_ble_eq_true rfl, Nat.le_of_ble_eq_true rfl⟩) hK hG hC hP hD hS hA (List.Perm.refl _) rfl hl.1 rfl (Nat.le_of_ble_eq_true rfl) dL_follows_931 ⟨rfl, rfl⟩ ⟨rfl, rfl⟩ (by omega) (by omega) (fun ov w_4 H locs hQ hP hD hS => ?_)
      obtain ⟨rfl, hw_4⟩ := hQ
      refine W.eq (g2 := F0 m 934 ls [.long v_3]) rfl ?_
      refine lv_lload_n hx hb dL_follows_934 rfl (lv_at hl 2 rfl) ?_
      refine W.lcmp hx hb dL_follows_935 ?_
      refine lv_if_ne (tgt := 974) hx hb dL_follows_936 (by decide) (fun c_5 => ?_) (fun c_5 => ?_)
      · have h := it_r c_5 h
        refine lv_iconst (v := 0) hx hb dL_follows_974 (by decide) ?_
        cases h
        exact Cx_zret (B := B9) rfl (by rw [hB9]; exact ⟨rfl, hw_4⟩) (by omega) (by omega) hx hb hr (by decide) (P_l hP) (D_l hD) hS dL_follows_975 hlocks
      · have h := it_l c_5 h
        refine lv_aload_n hx hb dL_follows_939 rfl (lv_at hl 1 rfl) ?_
        refine lv_iconst (v := 1) hx hb dL_follows_940 (by decide) ?_
        obtain ⟨⟨v_7, X_9⟩, hv_6, h⟩ := bd_l h
        refine Lo_T (As := [.ref (cA 0), .int 1]) (rest := []) (wA := w_4) (wr := []) 12 81 (1319) (8111) 1554 9530 (co_restore l hst D k cA nA tA X_923 w_4 hw_4 1 (v_7, X_9) hv_6) ⟨hx, hb, hml, hown, hts⟩ (vx_cwSW 2 hts gL_follows_L_restore rfl rfl rfl (by decide +kernel) ⟨Nat.le_of_ble_eq_true rfl, Nat.le_of_ble_eq_true rfl⟩) hK hG hC hP hD hS hA (List.Perm.refl _) rfl hl.1 rfl (Nat.le_of_ble_eq_true rfl) dL_follows_941 ⟨rfl, rfl⟩ ⟨rfl, rfl⟩ (by omega) (by omega) (fun ov w_8 H locs hQ hP hD hS => ?_)
        obtain ⟨rfl, hw_8⟩ := hQ
        refine W.eq (g2 := F0 m 944 ls [.long v_7]) rfl ?_
        refine lv_lload hx hb dL_follows_944 (lv_at hl 3 rfl) ?_
        refine W.lcmp hx hb dL_follows_946 ?_
        refine lv_if_ne (tgt := 974) hx hb dL_follows_947 (by decide) (fun c_10 => ?_) (fun c_10 => ?_)
        · have h := it_r c_10 h
          refine lv_iconst (v := 0) hx hb dL_follows_974 (by decide) ?_
          cases h
          exact Cx_zret (B := B9) rfl (by rw [hB9]; exact ⟨rfl, hw_8⟩) (by omega) (by omega) hx hb hr (by decide) (P_l hP) (D_l hD) hS dL_follows_975 hlocks
        · have h := it_l c_10 h
          refine lv_aload_n hx hb dL_follows_950 rfl (lv_at hl 1 rfl) ?_
          obtain ⟨v_12, hv_11, h⟩ := bd_l h
          refine Lo_S (As := [.ref (cA 0)]) (rest := []) (wA := w_8) (wr := []) 224 1344 (1543) (9455) 1554 9530 (c_L_now l hst D k cA nA tA X_9 w_8 hw_8 v_12 hv_11) ⟨hx, hb, hml, hown, hts⟩ (va_cwS 1 hts gL_follows_L_now rfl rfl rfl (by decide +kernel) ⟨Nat.le_of_ble_eq_true rfl, Nat.le_of_ble_eq_true rfl⟩) hK hG hC hP hD hS hA (List.Perm.refl _) rfl hl.1 rfl (Nat.le_of_ble_eq_true rfl) dL_follows_951 ⟨rfl, rfl⟩ ⟨rfl, rfl⟩ (by omega) (by omega) (fun ov w_13 H locs hQ hP hD hS => ?_)
          obtain ⟨rfl, hw_13⟩ := hQ
          refine W.eq (g2 := F0 m 954 ls [.long v_12]) rfl ?_
          refine lv_lload_n hx hb dL_follows_954 rfl (lv_at hl 2 rfl) ?_
          refine W.lcmp hx hb dL_follows_955 ?_
          refine lv_if_ne (tgt := 974) hx hb dL_follows_956 (by decide) (fun c_14 => ?_) (fun c_14 => ?_)
          · have h := it_r c_14 h
            refine lv_iconst (v := 0) hx hb dL_follows_974 (by decide) ?_
            cases h
            exact Cx_zret (B := B9) rfl (by rw [hB9]; exact ⟨rfl, hw_13⟩) (by omega) (by omega) hx hb hr (by decide) (P_l hP) (D_l hD) hS dL_follows_975 hlocks
          · have h := it_l c_14 h
            refine lv_aload_n hx hb dL_follows_959 rfl (lv_at hl 1 rfl) ?_
            obtain ⟨⟨v_16, X_18⟩, hv_15, h⟩ := bd_l h
            refine Lo_T (As := [.ref (cA 0)]) (rest := []) (wA := w_13) (wr := []) 11 75 (1554) (9530) 1554 9530 (co_undo l hst D k cA nA tA X_9 w_13 hw_13 (v_16, X_18) hv_15) ⟨hx, hb, hml, hown, hts⟩ (vx_cwSW 1 hts gL_follows_L_undo rfl rfl rfl (by decide +kernel) ⟨Nat.le_of_ble_eq_true rfl, Nat.le_of_ble_eq_true rfl⟩) hK hG hC hP hD hS hA (List.Perm.refl _) rfl hl.1 rfl (Nat.le_of_ble_eq_true rfl) dL_follows_960 ⟨rfl, rfl⟩ ⟨rfl, rfl⟩ (by omega) (by omega) (fun ov w_17 H locs hQ hP hD hS => ?_)
            obtain ⟨rfl, hw_17⟩ := hQ
            refine W.eq (g2 := F0 m 963 ls [.long v_16]) rfl ?_
            refine lv_ldc2 (v := -9000000000000000003) hx hb hown w_0 dL_follows_963 ?_
            refine W.lcmp hx hb dL_follows_966 ?_
            refine lv_if_ne (tgt := 974) hx hb dL_follows_967 (by decide) (fun c_19 => ?_) (fun c_19 => ?_)
            · have h := it_r c_19 h
              refine lv_iconst (v := 0) hx hb dL_follows_974 (by decide) ?_
              cases h
              exact Cx_zret (B := B9) rfl (by rw [hB9]; exact ⟨rfl, hw_17⟩) (by omega) (by omega) hx hb hr (by decide) (P_l hP) (D_l hD) hS dL_follows_975 hlocks
            · have h := it_l c_19 h
              refine lv_iconst (v := 1) hx hb dL_follows_970 (by decide) ?_
              refine lv_goto (tgt := 975) hx hb dL_follows_971 (by decide) ?_
              cases h
              exact Cx_zret (B := B9) rfl (by rw [hB9]; exact ⟨rfl, hw_17⟩) (by omega) (by omega) hx hb hr (by decide) (P_l hP) (D_l hD) hS dL_follows_975 hlocks
  have hC_922 : ∀ (x2_922 : Int64) (x7_922 : Int64) (X_922 : XV) (w_922 : va_W) (H : Heap) (locs : List Loc) (ls : Array Slot), Ob k cA nA tA X_922 w_922 → va_P D vwCl (w_922 ++ []) H → va_D A (w_922 ++ []) → va_S A s.heap H locs → lv_has ls 37 [(0, .ref (cA 0)), (2, .long x2_922), (7, .long x7_922)] → f_L_follows_922 x2_922 x7_922 X_922 = some o → W p l e ({ frames := 14, cells := 1554, slots := 9530, locals := 749 } : Room) s m args below meth c H locs (1083) (6686) (vx_MQ below (Qx D A (.inr B9)) (Xx D A (w) (.inr B9)) args s 1554 9530 A) (F0 m 922 ls []) := by
    intro x2_922 x7_922 X_922 w_922 H locs ls hw_922 hP hD hS hl h
    unfold f_L_follows_922 at h
    refine lv_iconst (v := 0) hx hb dL_follows_922 (by decide) ?_
    refine W.widen (k := 1083) (n := 6686) (by omega) (by omega) ?_
    exact hC_923 x2_922 x7_922 0 X_922 w_922 _ _ _ hw_922 hP hD hS (lv_sub hl [0, 1, 2] rfl) h
  have hC_918 : ∀ (x2_918 : Int64) (x7_918 : Int64) (X_918 : XV) (w_918 : va_W) (H : Heap) (locs : List Loc) (ls : Array Slot), Ob k cA nA tA X_918 w_918 → va_P D vwCl (w_918 ++ []) H → va_D A (w_918 ++ []) → va_S A s.heap H locs → lv_has ls 37 [(0, .ref (cA 0)), (2, .long x2_918), (7, .long x7_918)] → f_L_follows_918 x2_918 x7_918 X_918 = some o → W p l e ({ frames := 14, cells := 1554, slots := 9530, locals := 749 } : Room) s m args below meth c H locs (1083) (6686) (vx_MQ below (Qx D A (.inr B9)) (Xx D A (w) (.inr B9)) args s 1554 9530 A) (F0 m 918 ls []) := by
    intro x2_918 x7_918 X_918 w_918 H locs ls hw_918 hP hD hS hl h
    unfold f_L_follows_918 at h
    refine lv_iconst (v := 1) hx hb dL_follows_918 (by decide) ?_
    refine lv_goto (tgt := 923) hx hb dL_follows_919 (by decide) ?_
    refine W.widen (k := 1083) (n := 6686) (by omega) (by omega) ?_
    exact hC_923 x2_918 x7_918 1 X_918 w_918 _ _ _ hw_918 hP hD hS (lv_sub hl [0, 1, 2] rfl) h
  have hC_868 : ∀ (x2_868 : Int64) (x7_868 : Int64) (x9_868 : Int32) (X_868 : XV) (w_868 : va_W) (H : Heap) (locs : List Loc) (ls : Array Slot), Ob k cA nA tA X_868 w_868 → va_P D vwCl (w_868 ++ []) H → va_D A (w_868 ++ []) → va_S A s.heap H locs → lv_has ls 37 [(0, .ref (cA 0)), (2, .long x2_868), (7, .long x7_868), (9, .int x9_868)] → f_L_follows_868 x2_868 x7_868 x9_868 X_868 = some o → W p l e ({ frames := 14, cells := 1554, slots := 9530, locals := 749 } : Room) s m args below meth c H locs (1080) (6668) (vx_MQ below (Qx D A (.inr B9)) (Xx D A (w) (.inr B9)) args s 1554 9530 A) (F0 m 868 ls []) := by
    intro x2_868 x7_868 x9_868 X_868 w_868 H locs ls hw_868 hP hD hS hl h
    unfold f_L_follows_868 at h
    refine lv_aload_n hx hb dL_follows_868 rfl (lv_at hl 0 rfl) ?_
    obtain ⟨v_21, hv_20, h⟩ := bd_l h
    refine Lo_V (As := []) (rest := []) (wA := w_868) (wr := []) 0 0 (1080) (6668) 1554 9530 (co_economy l hst D k cA nA tA X_868 w_868 hw_868 v_21 hv_20) ⟨hx, hb, hml, hown, hts⟩ (cwV 0 hts gL_follows_X1_economy rfl rfl rfl (by decide +kernel) ⟨Nat.le_of_ble_eq_true rfl, Nat.le_of_ble_eq_true rfl⟩) hK hG hP hD hS hA (List.Perm.refl _) rfl hl.1 rfl (Nat.le_of_ble_eq_true rfl) dL_follows_869 ⟨rfl, rfl⟩ ⟨rfl, rfl⟩ (by omega) (by omega) (fun ov w_22 H locs hQ hP hD hS => ?_)
    obtain ⟨rfl, hw_22⟩ := hQ
    refine W.eq (g2 := F0 m 872 ls [.float v_21]) rfl ?_
    refine lv_fstore (lv' := [(32, .float v_21), (0, .ref (cA 0)), (2, .long x2_868), (7, .long x7_868), (9, .int x9_868)]) hx hb dL_follows_872 hl (by decide) rfl (fun ls hl => ?_)
    refine lv_iload hx hb dL_follows_874 (lv_at hl 4 rfl) ?_
    refine lv_if_eq (tgt := 922) hx hb dL_follows_876 (by decide) (fun c_23 => ?_) (fun c_23 => ?_)
    · have h := it_l c_23 h
      refine W.widen (k := 1083) (n := 6686) (by omega) (by omega) ?_
      exact hC_922 x2_868 x7_868 X_868 w_22 _ _ _ hw_22 hP hD hS (lv_sub hl [1, 2, 3] rfl) h
    · have h := it_r c_23 h
      refine lv_aload_n hx hb dL_follows_879 rfl (lv_at hl 1 rfl) ?_
      refine lv_iconst (v := 0) hx hb dL_follows_880 (by decide) ?_
      obtain ⟨v_25, hv_24, h⟩ := bd_l h
      refine Lo_T (As := [.ref (cA 0), .int 0]) (rest := []) (wA := w_22) (wr := []) 1 6 (1081) (6674) 1554 9530 (co_total l hst D k cA nA tA X_868 w_22 hw_22 0 v_25 hv_24) ⟨hx, hb, hml, hown, hts⟩ (vx_cwSW 2 hts gL_follows_L_total rfl rfl rfl (by decide +kernel) ⟨Nat.le_of_ble_eq_true rfl, Nat.le_of_ble_eq_true rfl⟩) hK hG hC hP hD hS hA (List.Perm.refl _) rfl hl.1 rfl (Nat.le_of_ble_eq_true rfl) dL_follows_881 ⟨rfl, rfl⟩ ⟨rfl, rfl⟩ (by omega) (by omega) (fun ov w_26 H locs hQ hP hD hS => ?_)
      obtain ⟨rfl, hw_26⟩ := hQ
      refine W.eq (g2 := F0 m 884 ls [.long v_25]) rfl ?_
      refine lv_lconst (v := 0) hx hb dL_follows_884 (by decide) ?_
      refine W.lcmp hx hb dL_follows_885 ?_
      refine lv_if_ne (tgt := 899) hx hb dL_follows_886 (by decide) (fun c_27 => ?_) (fun c_27 => ?_)
      · have h := it_r c_27 h
        refine lv_fload hx hb dL_follows_899 (lv_at hl 0 rfl) ?_
        refine lv_aload_n hx hb dL_follows_901 rfl (lv_at hl 1 rfl) ?_
        refine lv_iconst (v := 1) hx hb dL_follows_902 (by decide) ?_
        obtain ⟨v_29, hv_28, h⟩ := bd_l h
        refine Lo_T (As := [.ref (cA 0), .int 1]) (rest := [.float v_21]) (wA := w_26) (wr := []) 1 6 (1082) (6680) 1554 9530 (co_total l hst D k cA nA tA X_868 w_26 hw_26 1 v_29 hv_28) ⟨hx, hb, hml, hown, hts⟩ (vx_cwSW 2 hts gL_follows_L_total rfl rfl rfl (by decide +kernel) ⟨Nat.le_of_ble_eq_true rfl, Nat.le_of_ble_eq_true rfl⟩) hK hG hC hP hD hS hA (List.Perm.refl _) rfl hl.1 rfl (Nat.le_of_ble_eq_true rfl) dL_follows_903 ⟨rfl, rfl⟩ ⟨rfl, rfl⟩ (by omega) (by omega) (fun ov w_30 H locs hQ hP hD hS => ?_)
        obtain ⟨rfl, hw_30⟩ := hQ
        refine W.eq (g2 := F0 m 906 ls [.long v_29, .float v_21]) rfl ?_
        refine lv_l2f hx hb dL_follows_906 ?_
        refine lv_aload_n hx hb dL_follows_907 rfl (lv_at hl 1 rfl) ?_
        refine lv_iconst (v := 0) hx hb dL_follows_908 (by decide) ?_
        obtain ⟨v_32, hv_31, h⟩ := bd_l h
        refine Lo_T (As := [.ref (cA 0), .int 0]) (rest := [.float (FP.l2f v_29), .float v_21]) (wA := w_30) (wr := []) 1 6 (1083) (6686) 1554 9530 (co_total l hst D k cA nA tA X_868 w_30 hw_30 0 v_32 hv_31) ⟨hx, hb, hml, hown, hts⟩ (vx_cwSW 2 hts gL_follows_L_total rfl rfl rfl (by decide +kernel) ⟨Nat.le_of_ble_eq_true rfl, Nat.le_of_ble_eq_true rfl⟩) hK hG hC hP hD hS hA (List.Perm.refl _) rfl hl.1 rfl (Nat.le_of_ble_eq_true rfl) dL_follows_909 ⟨rfl, rfl⟩ ⟨rfl, rfl⟩ (by omega) (by omega) (fun ov w_33 H locs hQ hP hD hS => ?_)
        obtain ⟨rfl, hw_33⟩ := hQ
        refine W.eq (g2 := F0 m 912 ls [.long v_32, .float (FP.l2f v_29), .float v_21]) rfl ?_
        refine lv_l2f hx hb dL_follows_912 ?_
        have g_34 := nn32_l (gb_l h)
        have h := gb_r h
        refine lv_fdiv hx hb dL_follows_913 g_34 ?_
        refine lv_fcmp hx hb dL_follows_914 ?_
        refine lv_if_ne (tgt := 922) hx hb dL_follows_915 (by decide) (fun c_35 => ?_) (fun c_35 => ?_)
        · have h := it_r c_35 h
          refine W.widen (k := 1083) (n := 6686) (by omega) (by omega) ?_
          exact hC_922 x2_868 x7_868 X_868 w_33 _ _ _ hw_33 hP hD hS (lv_sub hl [1, 2, 3] rfl) h
        · have h := it_l c_35 h
          refine W.widen (k := 1083) (n := 6686) (by omega) (by omega) ?_
          exact hC_918 x2_868 x7_868 X_868 w_33 _ _ _ hw_33 hP hD hS (lv_sub hl [1, 2, 3] rfl) h
      · have h := it_l c_27 h
        refine lv_fload hx hb dL_follows_889 (lv_at hl 0 rfl) ?_
        refine lv_fconst0 hx hb dL_follows_891 ?_
        refine lv_fcmp hx hb dL_follows_892 ?_
        refine lv_if_ne (tgt := 922) hx hb dL_follows_893 (by decide) (fun c_36 => ?_) (fun c_36 => ?_)
        · have h := it_r c_36 h
          refine W.widen (k := 1083) (n := 6686) (by omega) (by omega) ?_
          exact hC_922 x2_868 x7_868 X_868 w_26 _ _ _ hw_26 hP hD hS (lv_sub hl [1, 2, 3] rfl) h
        · have h := it_l c_36 h
          refine lv_goto (tgt := 918) hx hb dL_follows_896 (by decide) ?_
          refine W.widen (k := 1083) (n := 6686) (by omega) (by omega) ?_
          exact hC_918 x2_868 x7_868 X_868 w_26 _ _ _ hw_26 hP hD hS (lv_sub hl [1, 2, 3] rfl) h
  have hC_866 : ∀ (x2_866 : Int64) (x7_866 : Int64) (t0_866 : Int32) (X_866 : XV) (w_866 : va_W) (H : Heap) (locs : List Loc) (ls : Array Slot), Ob k cA nA tA X_866 w_866 → va_P D vwCl (w_866 ++ []) H → va_D A (w_866 ++ []) → va_S A s.heap H locs → lv_has ls 37 [(0, .ref (cA 0)), (2, .long x2_866), (7, .long x7_866)] → f_L_follows_866 x2_866 x7_866 t0_866 X_866 = some o → W p l e ({ frames := 14, cells := 1554, slots := 9530, locals := 749 } : Room) s m args below meth c H locs (1080) (6668) (vx_MQ below (Qx D A (.inr B9)) (Xx D A (w) (.inr B9)) args s 1554 9530 A) (F0 m 866 ls [.int t0_866]) := by
    intro x2_866 x7_866 t0_866 X_866 w_866 H locs ls hw_866 hP hD hS hl h
    unfold f_L_follows_866 at h
    refine lv_istore (lv' := [(9, .int t0_866), (0, .ref (cA 0)), (2, .long x2_866), (7, .long x7_866)]) hx hb dL_follows_866 hl (by decide) rfl (fun ls hl => ?_)
    refine W.widen (k := 1080) (n := 6668) (by omega) (by omega) ?_
    exact hC_868 x2_866 x7_866 t0_866 X_866 w_866 _ _ _ hw_866 hP hD hS (lv_sub hl [1, 2, 3, 0] rfl) h
  have hC_865 : ∀ (x2_865 : Int64) (x7_865 : Int64) (X_865 : XV) (w_865 : va_W) (H : Heap) (locs : List Loc) (ls : Array Slot), Ob k cA nA tA X_865 w_865 → va_P D vwCl (w_865 ++ []) H → va_D A (w_865 ++ []) → va_S A s.heap H locs → lv_has ls 37 [(0, .ref (cA 0)), (2, .long x2_865), (7, .long x7_865)] → f_L_follows_865 x2_865 x7_865 X_865 = some o → W p l e ({ frames := 14, cells := 1554, slots := 9530, locals := 749 } : Room) s m args below meth c H locs (1080) (6668) (vx_MQ below (Qx D A (.inr B9)) (Xx D A (w) (.inr B9)) args s 1554 9530 A) (F0 m 865 ls []) := by
    intro x2_865 x7_865 X_865 w_865 H locs ls hw_865 hP hD hS hl h
    unfold f_L_follows_865 at h
    refine lv_iconst (v := 0) hx hb dL_follows_865 (by decide) ?_
    refine W.widen (k := 1080) (n := 6668) (by omega) (by omega) ?_
    exact hC_866 x2_865 x7_865 0 X_865 w_865 _ _ _ hw_865 hP hD hS (lv_sub hl [0, 1, 2] rfl) h
  have hC_861 : ∀ (x2_861 : Int64) (x7_861 : Int64) (X_861 : XV) (w_861 : va_W) (H : Heap) (locs : List Loc) (ls : Array Slot), Ob k cA nA tA X_861 w_861 → va_P D vwCl (w_861 ++ []) H → va_D A (w_861 ++ []) → va_S A s.heap H locs → lv_has ls 37 [(0, .ref (cA 0)), (2, .long x2_861), (7, .long x7_861)] → f_L_follows_861 x2_861 x7_861 X_861 = some o → W p l e ({ frames := 14, cells := 1554, slots := 9530, locals := 749 } : Room) s m args below meth c H locs (1080) (6668) (vx_MQ below (Qx D A (.inr B9)) (Xx D A (w) (.inr B9)) args s 1554 9530 A) (F0 m 861 ls []) := by
    intro x2_861 x7_861 X_861 w_861 H locs ls hw_861 hP hD hS hl h
    unfold f_L_follows_861 at h
    refine lv_iconst (v := 1) hx hb dL_follows_861 (by decide) ?_
    refine lv_goto (tgt := 866) hx hb dL_follows_862 (by decide) ?_
    refine W.widen (k := 1080) (n := 6668) (by omega) (by omega) ?_
    exact hC_866 x2_861 x7_861 1 X_861 w_861 _ _ _ hw_861 hP hD hS (lv_sub hl [0, 1, 2] rfl) h
  have hC_734 : ∀ (x2_734 : Int64) (x7_734 : Int64) (x9_734 : Int32) (X_734 : XV) (w_734 : va_W) (H : Heap) (locs : List Loc) (ls : Array Slot), Ob k cA nA tA X_734 w_734 → va_P D vwCl (w_734 ++ []) H → va_D A (w_734 ++ []) → va_S A s.heap H locs → lv_has ls 37 [(0, .ref (cA 0)), (1, .int p1), (2, .long x2_734), (7, .long x7_734), (9, .int x9_734)] → f_L_follows_734 p1 x2_734 x7_734 x9_734 X_734 = some o → W p l e ({ frames := 14, cells := 1554, slots := 9530, locals := 749 } : Room) s m args below meth c H locs (1020) (6272) (vx_MQ below (Qx D A (.inr B9)) (Xx D A (w) (.inr B9)) args s 1554 9530 A) (F0 m 734 ls []) := by
    intro x2_734 x7_734 x9_734 X_734 w_734 H locs ls hw_734 hP hD hS hl h
    unfold f_L_follows_734 at h
    refine lv_iload_n hx hb dL_follows_734 rfl (lv_at hl 1 rfl) ?_
    refine lv_iconst (v := 3) hx hb dL_follows_735 (by decide) ?_
    refine lv_irem hx hb dL_follows_736 (by decide) ?_
    refine lv_if_ne (tgt := 868) hx hb dL_follows_737 (by decide) (fun c_37 => ?_) (fun c_37 => ?_)
    · have h := it_r c_37 h
      refine W.widen (k := 1080) (n := 6668) (by omega) (by omega) ?_
      exact hC_868 x2_734 x7_734 x9_734 X_734 w_734 _ _ _ hw_734 hP hD hS (lv_sub hl [0, 2, 3, 4] rfl) h
    · have h := it_l c_37 h
      refine lv_iload hx hb dL_follows_740 (lv_at hl 4 rfl) ?_
      refine lv_if_eq (tgt := 868) hx hb dL_follows_742 (by decide) (fun c_38 => ?_) (fun c_38 => ?_)
      · have h := it_l c_38 h
        refine W.widen (k := 1080) (n := 6668) (by omega) (by omega) ?_
        exact hC_868 x2_734 x7_734 x9_734 X_734 w_734 _ _ _ hw_734 hP hD hS (lv_sub hl [0, 2, 3, 4] rfl) h
      · have h := it_r c_38 h
        refine lv_iload_n hx hb dL_follows_745 rfl (lv_at hl 1 rfl) ?_
        refine lv_bipush (v := 7) hx hb dL_follows_746 (by decide) ?_
        refine lv_idiv hx hb dL_follows_748 (by decide) ?_
        refine lv_sipush (v := 900) hx hb dL_follows_749 (by decide) ?_
        refine lv_irem hx hb dL_follows_752 (by decide) ?_
        refine lv_topi (fun v_39 ev_39 => ?_)
        have h := nm_l h ev_39
        refine lv_istore (lv' := [(32, .int v_39), (0, .ref (cA 0)), (1, .int p1), (2, .long x2_734), (7, .long x7_734), (9, .int x9_734)]) hx hb dL_follows_753 hl (by decide) rfl (fun ls hl => ?_)
        refine lv_aload_n hx hb dL_follows_755 rfl (lv_at hl 1 rfl) ?_
        refine lv_iload hx hb dL_follows_756 (lv_at hl 0 rfl) ?_
        refine lv_iconst (v := 3) hx hb dL_follows_758 (by decide) ?_
        obtain ⟨v_41, hv_40, h⟩ := bd_l h
        refine Lo_T (As := [.ref (cA 0), .int v_39, .int 3]) (rest := []) (wA := w_734) (wr := []) 7 42 (1027) (6314) 1554 9530 (co_steamFor l hst D k cA nA tA X_734 w_734 hw_734 v_39 3 v_41 hv_40) ⟨hx, hb, hml, hown, hts⟩ (vx_cwSW 3 hts gL_follows_L_steamFor rfl rfl rfl (by decide +kernel) ⟨Nat.le_of_ble_eq_true rfl, Nat.le_of_ble_eq_true rfl⟩) hK hG hC hP hD hS hA (List.Perm.refl _) rfl hl.1 rfl (Nat.le_of_ble_eq_true rfl) dL_follows_759 ⟨rfl, rfl⟩ ⟨rfl, rfl⟩ (by omega) (by omega) (fun ov w_42 H locs hQ hP hD hS => ?_)
        obtain ⟨rfl, hw_42⟩ := hQ
        refine W.eq (g2 := F0 m 762 ls [.long v_41]) rfl ?_
        refine lv_lstore (lv' := [(33, .long v_41), (32, .int v_39), (0, .ref (cA 0)), (1, .int p1), (2, .long x2_734), (7, .long x7_734), (9, .int x9_734)]) hx hb dL_follows_762 hl (by decide) rfl (fun ls hl => ?_)
        refine lv_aload_n hx hb dL_follows_764 rfl (lv_at hl 2 rfl) ?_
        refine lv_iconst (v := 1) hx hb dL_follows_765 (by decide) ?_
        obtain ⟨v_44, hv_43, h⟩ := bd_l h
        refine Lo_T (As := [.ref (cA 0), .int 1]) (rest := []) (wA := w_42) (wr := []) 1 6 (1028) (6320) 1554 9530 (co_about l hst D k cA nA tA X_734 w_42 hw_42 1 v_44 hv_43) ⟨hx, hb, hml, hown, hts⟩ (vx_cwSW 2 hts gL_follows_L_about rfl rfl rfl (by decide +kernel) ⟨Nat.le_of_ble_eq_true rfl, Nat.le_of_ble_eq_true rfl⟩) hK hG hC hP hD hS hA (List.Perm.refl _) rfl hl.1 rfl (Nat.le_of_ble_eq_true rfl) dL_follows_766 ⟨rfl, rfl⟩ ⟨rfl, rfl⟩ (by omega) (by omega) (fun ov w_45 H locs hQ hP hD hS => ?_)
        obtain ⟨rfl, hw_45⟩ := hQ
        refine W.eq (g2 := F0 m 769 ls [.long v_44]) rfl ?_
        refine lv_lstore (lv' := [(35, .long v_44), (33, .long v_41), (32, .int v_39), (0, .ref (cA 0)), (1, .int p1), (2, .long x2_734), (7, .long x7_734), (9, .int x9_734)]) hx hb dL_follows_769 hl (by decide) rfl (fun ls hl => ?_)
        refine lv_lload hx hb dL_follows_771 (lv_at hl 1 rfl) ?_
        refine lv_ldc2 (v := -9) hx hb hown w_1 dL_follows_773 ?_
        refine W.lcmp hx hb dL_follows_776 ?_
        refine lv_if_eq (tgt := 861) hx hb dL_follows_777 (by decide) (fun c_46 => ?_) (fun c_46 => ?_)
        · have h := it_l c_46 h
          refine W.widen (k := 1080) (n := 6668) (by omega) (by omega) ?_
          exact hC_861 x2_734 x7_734 X_734 w_45 _ _ _ hw_45 hP hD hS (lv_sub hl [3, 5, 6] rfl) h
        · have h := it_r c_46 h
          refine lv_aload_n hx hb dL_follows_780 rfl (lv_at hl 3 rfl) ?_
          refine lv_iconst (v := 0) hx hb dL_follows_781 (by decide) ?_
          refine lv_lload hx hb dL_follows_782 (lv_at hl 1 rfl) ?_
          refine lv_l2i hx hb dL_follows_784 rfl ?_
          obtain ⟨⟨v_48, X_50⟩, hv_47, h⟩ := bd_l h
          refine Lo_T (As := [.ref (cA 0), .int 0, .int (v_41.toInt32)]) (rest := []) (wA := w_45) (wr := []) 13 87 (1041) (6407) 1554 9530 (co_set l hst D k cA nA tA X_734 w_45 hw_45 0 (v_41.toInt32) (v_48, X_50) hv_47) ⟨hx, hb, hml, hown, hts⟩ (vx_cwSW 3 hts gL_follows_L_set rfl rfl rfl (by decide +kernel) ⟨Nat.le_of_ble_eq_true rfl, Nat.le_of_ble_eq_true rfl⟩) hK hG hC hP hD hS hA (List.Perm.refl _) rfl hl.1 rfl (Nat.le_of_ble_eq_true rfl) dL_follows_785 ⟨rfl, rfl⟩ ⟨rfl, rfl⟩ (by omega) (by omega) (fun ov w_49 H locs hQ hP hD hS => ?_)
          obtain ⟨rfl, hw_49⟩ := hQ
          refine W.eq (g2 := F0 m 788 ls [.long v_48]) rfl ?_
          refine lv_lload hx hb dL_follows_788 (lv_at hl 0 rfl) ?_
          refine W.lcmp hx hb dL_follows_790 ?_
          refine lv_if_ne (tgt := 865) hx hb dL_follows_791 (by decide) (fun c_51 => ?_) (fun c_51 => ?_)
          · have h := it_r c_51 h
            refine W.widen (k := 1080) (n := 6668) (by omega) (by omega) ?_
            exact hC_865 x2_734 x7_734 X_50 w_49 _ _ _ hw_49 hP hD hS (lv_sub hl [3, 5, 6] rfl) h
          · have h := it_l c_51 h
            refine lv_aload_n hx hb dL_follows_794 rfl (lv_at hl 3 rfl) ?_
            refine lv_iconst (v := 3) hx hb dL_follows_795 (by decide) ?_
            refine lv_iconst (v := 1) hx hb dL_follows_796 (by decide) ?_
            obtain ⟨v_53, hv_52, h⟩ := bd_l h
            refine Lo_T (As := [.ref (cA 0), .int 3, .int 1]) (rest := []) (wA := w_49) (wr := []) 2 12 (1043) (6419) 1554 9530 (co_growth l hst D k cA nA tA X_50 w_49 hw_49 3 1 v_53 hv_52) ⟨hx, hb, hml, hown, hts⟩ (vx_cwSW 3 hts gL_follows_L_growth rfl rfl rfl (by decide +kernel) ⟨Nat.le_of_ble_eq_true rfl, Nat.le_of_ble_eq_true rfl⟩) hK hG hC hP hD hS hA (List.Perm.refl _) rfl hl.1 rfl (Nat.le_of_ble_eq_true rfl) dL_follows_797 ⟨rfl, rfl⟩ ⟨rfl, rfl⟩ (by omega) (by omega) (fun ov w_54 H locs hQ hP hD hS => ?_)
            obtain ⟨rfl, hw_54⟩ := hQ
            refine W.eq (g2 := F0 m 800 ls [.long v_53]) rfl ?_
            refine lv_iload hx hb dL_follows_800 (lv_at hl 2 rfl) ?_
            refine lv_i2l hx hb dL_follows_802 rfl ?_
            refine W.lcmp hx hb dL_follows_803 ?_
            refine lv_if_lt (tgt := 865) hx hb dL_follows_804 (by decide) (fun c_55 => ?_) (fun c_55 => ?_)
            · have h := it_l c_55 h
              refine W.widen (k := 1080) (n := 6668) (by omega) (by omega) ?_
              exact hC_865 x2_734 x7_734 X_50 w_54 _ _ _ hw_54 hP hD hS (lv_sub hl [3, 5, 6] rfl) h
            · have h := it_r c_55 h
              refine lv_aload_n hx hb dL_follows_807 rfl (lv_at hl 3 rfl) ?_
              obtain ⟨⟨v_57, X_59⟩, hv_56, h⟩ := bd_l h
              refine Lo_T (As := [.ref (cA 0)]) (rest := []) (wA := w_54) (wr := []) 11 75 (1054) (6494) 1554 9530 (co_undo l hst D k cA nA tA X_50 w_54 hw_54 (v_57, X_59) hv_56) ⟨hx, hb, hml, hown, hts⟩ (vx_cwSW 1 hts gL_follows_L_undo rfl rfl rfl (by decide +kernel) ⟨Nat.le_of_ble_eq_true rfl, Nat.le_of_ble_eq_true rfl⟩) hK hG hC hP hD hS hA (List.Perm.refl _) rfl hl.1 rfl (Nat.le_of_ble_eq_true rfl) dL_follows_808 ⟨rfl, rfl⟩ ⟨rfl, rfl⟩ (by omega) (by omega) (fun ov w_58 H locs hQ hP hD hS => ?_)
              obtain ⟨rfl, hw_58⟩ := hQ
              refine W.eq (g2 := F0 m 811 ls [.long v_57]) rfl ?_
              refine lv_lconst (v := 0) hx hb dL_follows_811 (by decide) ?_
              refine W.lcmp hx hb dL_follows_812 ?_
              refine lv_if_lt (tgt := 865) hx hb dL_follows_813 (by decide) (fun c_60 => ?_) (fun c_60 => ?_)
              · have h := it_l c_60 h
                refine W.widen (k := 1080) (n := 6668) (by omega) (by omega) ?_
                exact hC_865 x2_734 x7_734 X_59 w_58 _ _ _ hw_58 hP hD hS (lv_sub hl [3, 5, 6] rfl) h
              · have h := it_r c_60 h
                refine lv_lload hx hb dL_follows_816 (lv_at hl 1 rfl) ?_
                refine lv_lconst (v := 0) hx hb dL_follows_818 (by decide) ?_
                refine W.lcmp hx hb dL_follows_819 ?_
                refine lv_if_eq (tgt := 861) hx hb dL_follows_820 (by decide) (fun c_61 => ?_) (fun c_61 => ?_)
                · have h := it_l c_61 h
                  refine W.widen (k := 1080) (n := 6668) (by omega) (by omega) ?_
                  exact hC_861 x2_734 x7_734 X_59 w_58 _ _ _ hw_58 hP hD hS (lv_sub hl [3, 5, 6] rfl) h
                · have h := it_r c_61 h
                  refine lv_aload_n hx hb dL_follows_823 rfl (lv_at hl 3 rfl) ?_
                  refine lv_iconst (v := 0) hx hb dL_follows_824 (by decide) ?_
                  refine lv_lload hx hb dL_follows_825 (lv_at hl 1 rfl) ?_
                  refine lv_l2i hx hb dL_follows_827 rfl ?_
                  refine lv_iconst (v := 1) hx hb dL_follows_828 (by decide) ?_
                  refine lv_isub hx hb dL_follows_829 ?_
                  obtain ⟨⟨v_63, X_65⟩, hv_62, h⟩ := bd_l h
                  refine Lo_T (As := [.ref (cA 0), .int 0, .int ((v_41.toInt32) - 1)]) (rest := []) (wA := w_58) (wr := []) 13 87 (1067) (6581) 1554 9530 (co_set l hst D k cA nA tA X_59 w_58 hw_58 0 ((v_41.toInt32) - 1) (v_63, X_65) hv_62) ⟨hx, hb, hml, hown, hts⟩ (vx_cwSW 3 hts gL_follows_L_set rfl rfl rfl (by decide +kernel) ⟨Nat.le_of_ble_eq_true rfl, Nat.le_of_ble_eq_true rfl⟩) hK hG hC hP hD hS hA (List.Perm.refl _) rfl hl.1 rfl (Nat.le_of_ble_eq_true rfl) dL_follows_830 ⟨rfl, rfl⟩ ⟨rfl, rfl⟩ (by omega) (by omega) (fun ov w_64 H locs hQ hP hD hS => ?_)
                  obtain ⟨rfl, hw_64⟩ := hQ
                  refine W.eq (g2 := F0 m 833 ls [.long v_63]) rfl ?_
                  refine lv_lload hx hb dL_follows_833 (lv_at hl 0 rfl) ?_
                  refine W.lcmp hx hb dL_follows_835 ?_
                  refine lv_if_ne (tgt := 865) hx hb dL_follows_836 (by decide) (fun c_66 => ?_) (fun c_66 => ?_)
                  · have h := it_r c_66 h
                    refine W.widen (k := 1080) (n := 6668) (by omega) (by omega) ?_
                    exact hC_865 x2_734 x7_734 X_65 w_64 _ _ _ hw_64 hP hD hS (lv_sub hl [3, 5, 6] rfl) h
                  · have h := it_l c_66 h
                    refine lv_aload_n hx hb dL_follows_839 rfl (lv_at hl 3 rfl) ?_
                    refine lv_iconst (v := 3) hx hb dL_follows_840 (by decide) ?_
                    refine lv_iconst (v := 1) hx hb dL_follows_841 (by decide) ?_
                    obtain ⟨v_68, hv_67, h⟩ := bd_l h
                    refine Lo_T (As := [.ref (cA 0), .int 3, .int 1]) (rest := []) (wA := w_64) (wr := []) 2 12 (1069) (6593) 1554 9530 (co_growth l hst D k cA nA tA X_65 w_64 hw_64 3 1 v_68 hv_67) ⟨hx, hb, hml, hown, hts⟩ (vx_cwSW 3 hts gL_follows_L_growth rfl rfl rfl (by decide +kernel) ⟨Nat.le_of_ble_eq_true rfl, Nat.le_of_ble_eq_true rfl⟩) hK hG hC hP hD hS hA (List.Perm.refl _) rfl hl.1 rfl (Nat.le_of_ble_eq_true rfl) dL_follows_842 ⟨rfl, rfl⟩ ⟨rfl, rfl⟩ (by omega) (by omega) (fun ov w_69 H locs hQ hP hD hS => ?_)
                    obtain ⟨rfl, hw_69⟩ := hQ
                    refine W.eq (g2 := F0 m 845 ls [.long v_68]) rfl ?_
                    refine lv_iload hx hb dL_follows_845 (lv_at hl 2 rfl) ?_
                    refine lv_i2l hx hb dL_follows_847 rfl ?_
                    refine W.lcmp hx hb dL_follows_848 ?_
                    refine lv_if_ge (tgt := 865) hx hb dL_follows_849 (by decide) (fun c_70 => ?_) (fun c_70 => ?_)
                    · have h := it_l c_70 h
                      refine W.widen (k := 1080) (n := 6668) (by omega) (by omega) ?_
                      exact hC_865 x2_734 x7_734 X_65 w_69 _ _ _ hw_69 hP hD hS (lv_sub hl [3, 5, 6] rfl) h
                    · have h := it_r c_70 h
                      refine lv_aload_n hx hb dL_follows_852 rfl (lv_at hl 3 rfl) ?_
                      obtain ⟨⟨v_72, X_74⟩, hv_71, h⟩ := bd_l h
                      refine Lo_T (As := [.ref (cA 0)]) (rest := []) (wA := w_69) (wr := []) 11 75 (1080) (6668) 1554 9530 (co_undo l hst D k cA nA tA X_65 w_69 hw_69 (v_72, X_74) hv_71) ⟨hx, hb, hml, hown, hts⟩ (vx_cwSW 1 hts gL_follows_L_undo rfl rfl rfl (by decide +kernel) ⟨Nat.le_of_ble_eq_true rfl, Nat.le_of_ble_eq_true rfl⟩) hK hG hC hP hD hS hA (List.Perm.refl _) rfl hl.1 rfl (Nat.le_of_ble_eq_true rfl) dL_follows_853 ⟨rfl, rfl⟩ ⟨rfl, rfl⟩ (by omega) (by omega) (fun ov w_73 H locs hQ hP hD hS => ?_)
                      obtain ⟨rfl, hw_73⟩ := hQ
                      refine W.eq (g2 := F0 m 856 ls [.long v_72]) rfl ?_
                      refine lv_lconst (v := 0) hx hb dL_follows_856 (by decide) ?_
                      refine W.lcmp hx hb dL_follows_857 ?_
                      refine lv_if_lt (tgt := 865) hx hb dL_follows_858 (by decide) (fun c_75 => ?_) (fun c_75 => ?_)
                      · have h := it_l c_75 h
                        refine W.widen (k := 1080) (n := 6668) (by omega) (by omega) ?_
                        exact hC_865 x2_734 x7_734 X_74 w_73 _ _ _ hw_73 hP hD hS (lv_sub hl [3, 5, 6] rfl) h
                      · have h := it_r c_75 h
                        refine W.widen (k := 1080) (n := 6668) (by omega) (by omega) ?_
                        exact hC_861 x2_734 x7_734 X_74 w_73 _ _ _ hw_73 hP hD hS (lv_sub hl [3, 5, 6] rfl) h
  have hC_675 : ∀ (fu_675 : Nat) (x2_675 : Int64) (x4_675 : Int32) (x7_675 : Int64) (x9_675 : Int32) (x29_675 : Int64) (x32_675 : Int32) (X_675 : XV) (w_675 : va_W) (H : Heap) (locs : List Loc) (ls : Array Slot), fu_675 ≤ 7 → Ob k cA nA tA X_675 w_675 → va_P D vwCl (w_675 ++ []) H → va_D A (w_675 ++ []) → va_S A s.heap H locs → lv_has ls 37 [(0, .ref (cA 0)), (1, .int p1), (2, .long x2_675), (4, .int x4_675), (7, .long x7_675), (9, .int x9_675), (29, .long x29_675), (32, .int x32_675)] → f_L_follows_675 p1 fu_675 x2_675 x4_675 x7_675 x9_675 x29_675 x32_675 X_675 = some o → W p l e ({ frames := 14, cells := 1554, slots := 9530, locals := 749 } : Room) s m args below meth c H locs ((1012 - 8 * fu_675)) ((6224 - 48 * fu_675)) (vx_MQ below (Qx D A (.inr B9)) (Xx D A (w) (.inr B9)) args s 1554 9530 A) (F0 m 675 ls []) := by
    intro fu_675
    induction fu_675 with
    | zero => intro x2_675 x4_675 x7_675 x9_675 x29_675 x32_675 X_675 w_675 H locs ls _ _ _ _ _ _ h; exact (no_l h).elim
    | succ fu_675 ih_675 =>
      intro x2_675 x4_675 x7_675 x9_675 x29_675 x32_675 X_675 w_675 H locs ls hfu_675 hw_675 hP hD hS hl h
      rw [f_L_follows_675] at h
      refine lv_iload hx hb dL_follows_675 (lv_at hl 7 rfl) ?_
      refine lv_iload hx hb dL_follows_677 (lv_at hl 3 rfl) ?_
      refine lv_icmp_ge (tgt := 734) hx hb dL_follows_679 (by decide) (fun c_76 => ?_) (fun c_76 => ?_)
      · have h := it_l c_76 h
        refine W.widen (k := 1020) (n := 6272) (by omega) (by omega) ?_
        exact hC_734 x2_675 x7_675 x9_675 X_675 w_675 _ _ _ hw_675 hP hD hS (lv_sub hl [0, 1, 2, 4, 5] rfl) h
      · have h := it_r c_76 h
        refine lv_iload hx hb dL_follows_682 (lv_at hl 5 rfl) ?_
        refine lv_if_eq (tgt := 734) hx hb dL_follows_684 (by decide) (fun c_77 => ?_) (fun c_77 => ?_)
        · have h := it_l c_77 h
          refine W.widen (k := 1020) (n := 6272) (by omega) (by omega) ?_
          exact hC_734 x2_675 x7_675 x9_675 X_675 w_675 _ _ _ hw_675 hP hD hS (lv_sub hl [0, 1, 2, 4, 5] rfl) h
        · have h := it_r c_77 h
          refine lv_aload_n hx hb dL_follows_687 rfl (lv_at hl 0 rfl) ?_
          refine lv_iload hx hb dL_follows_688 (lv_at hl 7 rfl) ?_
          refine lv_bipush (v := 7) hx hb dL_follows_690 (by decide) ?_
          obtain ⟨v_79, hv_78, h⟩ := bd_l h
          refine Lo_T (As := [.ref (cA 0), .int x32_675, .int 7]) (rest := []) (wA := w_675) (wr := []) 2 12 ((1012 - 8 * (fu_675 + 1)) + 2) ((6224 - 48 * (fu_675 + 1)) + 12) 1554 9530 (co_effect l hst D k cA nA tA X_675 w_675 hw_675 x32_675 7 v_79 hv_78) ⟨hx, hb, hml, hown, hts⟩ (vx_cwSW 3 hts gL_follows_L_effect rfl rfl rfl (by decide +kernel) ⟨Nat.le_of_ble_eq_true rfl, Nat.le_of_ble_eq_true rfl⟩) hK hG hC hP hD hS hA (List.Perm.refl _) rfl hl.1 rfl (Nat.le_of_ble_eq_true rfl) dL_follows_692 ⟨rfl, rfl⟩ ⟨rfl, rfl⟩ (by omega) (by omega) (fun ov w_80 H locs hQ hP hD hS => ?_)
          obtain ⟨rfl, hw_80⟩ := hQ
          refine W.eq (g2 := F0 m 695 ls [.long v_79]) rfl ?_
          refine lv_lconst (v := 0) hx hb dL_follows_695 (by decide) ?_
          refine W.lcmp hx hb dL_follows_696 ?_
          refine lv_if_gt (tgt := 721) hx hb dL_follows_697 (by decide) (fun c_81 => ?_) (fun c_81 => ?_)
          · have h := it_l c_81 h
            refine lv_iconst (v := 1) hx hb dL_follows_721 (by decide) ?_
            refine lv_goto (tgt := 726) hx hb dL_follows_722 (by decide) ?_
            refine lv_istore (lv' := [(9, .int 1), (0, .ref (cA 0)), (1, .int p1), (2, .long x2_675), (4, .int x4_675), (7, .long x7_675), (29, .long x29_675), (32, .int x32_675)]) hx hb dL_follows_726 hl (by decide) rfl (fun ls hl => ?_)
            refine lv_iinc (v := (x32_675 + 1)) (lv' := [(32, .int (x32_675 + 1)), (9, .int 1), (0, .ref (cA 0)), (1, .int p1), (2, .long x2_675), (4, .int x4_675), (7, .long x7_675), (29, .long x29_675)]) hx hb dL_follows_728 hl (k := 7) rfl rfl (by decide) rfl (fun ls hl => ?_)
            refine lv_goto (tgt := 675) hx hb dL_follows_731 (by decide) ?_
            refine W.widen (k := (1012 - 8 * fu_675)) (n := (6224 - 48 * fu_675)) (by omega) (by omega) ?_
            exact ih_675 x2_675 x4_675 x7_675 1 x29_675 (x32_675 + 1) X_675 w_80 _ _ _ (by omega) hw_80 hP hD hS (lv_sub hl [2, 3, 4, 5, 6, 1, 7, 0] rfl) h
          · have h := it_r c_81 h
            refine lv_aload_n hx hb dL_follows_700 rfl (lv_at hl 0 rfl) ?_
            refine lv_iconst (v := 5) hx hb dL_follows_701 (by decide) ?_
            refine lv_iconst (v := 1) hx hb dL_follows_702 (by decide) ?_
            obtain ⟨v_83, hv_82, h⟩ := bd_l h
            refine Lo_T (As := [.ref (cA 0), .int 5, .int 1]) (rest := []) (wA := w_80) (wr := []) 2 12 ((1012 - 8 * (fu_675 + 1)) + 4) ((6224 - 48 * (fu_675 + 1)) + 24) 1554 9530 (co_growth l hst D k cA nA tA X_675 w_80 hw_80 5 1 v_83 hv_82) ⟨hx, hb, hml, hown, hts⟩ (vx_cwSW 3 hts gL_follows_L_growth rfl rfl rfl (by decide +kernel) ⟨Nat.le_of_ble_eq_true rfl, Nat.le_of_ble_eq_true rfl⟩) hK hG hC hP hD hS hA (List.Perm.refl _) rfl hl.1 rfl (Nat.le_of_ble_eq_true rfl) dL_follows_703 ⟨rfl, rfl⟩ ⟨rfl, rfl⟩ (by omega) (by omega) (fun ov w_84 H locs hQ hP hD hS => ?_)
            obtain ⟨rfl, hw_84⟩ := hQ
            refine W.eq (g2 := F0 m 706 ls [.long v_83]) rfl ?_
            refine lv_aload_n hx hb dL_follows_706 rfl (lv_at hl 0 rfl) ?_
            refine lv_iload hx hb dL_follows_707 (lv_at hl 7 rfl) ?_
            refine lv_iconst (v := 5) hx hb dL_follows_709 (by decide) ?_
            refine lv_iconst (v := 5) hx hb dL_follows_710 (by decide) ?_
            obtain ⟨v_86, hv_85, h⟩ := bd_l h
            refine Lo_T (As := [.ref (cA 0), .int x32_675, .int 5, .int 5]) (rest := [.long v_83]) (wA := w_84) (wr := []) 4 24 ((1012 - 8 * (fu_675 + 1)) + 8) ((6224 - 48 * (fu_675 + 1)) + 48) 1554 9530 (co_washGain l hst D k cA nA tA X_675 w_84 hw_84 x32_675 5 5 v_86 hv_85) ⟨hx, hb, hml, hown, hts⟩ (vx_cwSW 4 hts gL_follows_L_washGain rfl rfl rfl (by decide +kernel) ⟨Nat.le_of_ble_eq_true rfl, Nat.le_of_ble_eq_true rfl⟩) hK hG hC hP hD hS hA (List.Perm.refl _) rfl hl.1 rfl (Nat.le_of_ble_eq_true rfl) dL_follows_711 ⟨rfl, rfl⟩ ⟨rfl, rfl⟩ (by omega) (by omega) (fun ov w_87 H locs hQ hP hD hS => ?_)
            obtain ⟨rfl, hw_87⟩ := hQ
            refine W.eq (g2 := F0 m 714 ls [.long v_86, .long v_83]) rfl ?_
            refine lv_ladd hx hb dL_follows_714 ?_
            refine lv_lload hx hb dL_follows_715 (lv_at hl 6 rfl) ?_
            refine W.lcmp hx hb dL_follows_717 ?_
            refine lv_if_gt (tgt := 725) hx hb dL_follows_718 (by decide) (fun c_88 => ?_) (fun c_88 => ?_)
            · have h := it_l c_88 h
              refine lv_iconst (v := 0) hx hb dL_follows_725 (by decide) ?_
              refine lv_istore (lv' := [(9, .int 0), (0, .ref (cA 0)), (1, .int p1), (2, .long x2_675), (4, .int x4_675), (7, .long x7_675), (29, .long x29_675), (32, .int x32_675)]) hx hb dL_follows_726 hl (by decide) rfl (fun ls hl => ?_)
              refine lv_iinc (v := (x32_675 + 1)) (lv' := [(32, .int (x32_675 + 1)), (9, .int 0), (0, .ref (cA 0)), (1, .int p1), (2, .long x2_675), (4, .int x4_675), (7, .long x7_675), (29, .long x29_675)]) hx hb dL_follows_728 hl (k := 7) rfl rfl (by decide) rfl (fun ls hl => ?_)
              refine lv_goto (tgt := 675) hx hb dL_follows_731 (by decide) ?_
              refine W.widen (k := (1012 - 8 * fu_675)) (n := (6224 - 48 * fu_675)) (by omega) (by omega) ?_
              exact ih_675 x2_675 x4_675 x7_675 0 x29_675 (x32_675 + 1) X_675 w_87 _ _ _ (by omega) hw_87 hP hD hS (lv_sub hl [2, 3, 4, 5, 6, 1, 7, 0] rfl) h
            · have h := it_r c_88 h
              refine lv_iconst (v := 1) hx hb dL_follows_721 (by decide) ?_
              refine lv_goto (tgt := 726) hx hb dL_follows_722 (by decide) ?_
              refine lv_istore (lv' := [(9, .int 1), (0, .ref (cA 0)), (1, .int p1), (2, .long x2_675), (4, .int x4_675), (7, .long x7_675), (29, .long x29_675), (32, .int x32_675)]) hx hb dL_follows_726 hl (by decide) rfl (fun ls hl => ?_)
              refine lv_iinc (v := (x32_675 + 1)) (lv' := [(32, .int (x32_675 + 1)), (9, .int 1), (0, .ref (cA 0)), (1, .int p1), (2, .long x2_675), (4, .int x4_675), (7, .long x7_675), (29, .long x29_675)]) hx hb dL_follows_728 hl (k := 7) rfl rfl (by decide) rfl (fun ls hl => ?_)
              refine lv_goto (tgt := 675) hx hb dL_follows_731 (by decide) ?_
              refine W.widen (k := (1012 - 8 * fu_675)) (n := (6224 - 48 * fu_675)) (by omega) (by omega) ?_
              exact ih_675 x2_675 x4_675 x7_675 1 x29_675 (x32_675 + 1) X_675 w_87 _ _ _ (by omega) hw_87 hP hD hS (lv_sub hl [2, 3, 4, 5, 6, 1, 7, 0] rfl) h
  have hC_648 : ∀ (x2_648 : Int64) (x4_648 : Int32) (x7_648 : Int64) (x29_648 : Int64) (X_648 : XV) (w_648 : va_W) (H : Heap) (locs : List Loc) (ls : Array Slot), Ob k cA nA tA X_648 w_648 → va_P D vwCl (w_648 ++ []) H → va_D A (w_648 ++ []) → va_S A s.heap H locs → lv_has ls 37 [(0, .ref (cA 0)), (1, .int p1), (2, .long x2_648), (4, .int x4_648), (7, .long x7_648), (29, .long x29_648)] → f_L_follows_648 p1 x2_648 x4_648 x7_648 x29_648 X_648 = some o → W p l e ({ frames := 14, cells := 1554, slots := 9530, locals := 749 } : Room) s m args below meth c H locs (920) (5645) (vx_MQ below (Qx D A (.inr B9)) (Xx D A (w) (.inr B9)) args s 1554 9530 A) (F0 m 648 ls []) := by
    intro x2_648 x4_648 x7_648 x29_648 X_648 w_648 H locs ls hw_648 hP hD hS hl h
    unfold f_L_follows_648 at h
    refine lv_aload_n hx hb dL_follows_648 rfl (lv_at hl 0 rfl) ?_
    refine lv_iconst (v := 2) hx hb dL_follows_649 (by decide) ?_
    refine lv_iconst (v := 0) hx hb dL_follows_650 (by decide) ?_
    obtain ⟨v_90, hv_89, h⟩ := bd_l h
    refine Lo_T (As := [.ref (cA 0), .int 2, .int 0]) (rest := []) (wA := w_648) (wr := []) 34 231 (954) (5876) 1554 9530 (co_bestTurns l hst D k cA nA tA X_648 w_648 hw_648 2 0 v_90 hv_89) ⟨hx, hb, hml, hown, hts⟩ (vx_cwSW 3 hts gL_follows_L_bestTurns rfl rfl rfl (by decide +kernel) ⟨Nat.le_of_ble_eq_true rfl, Nat.le_of_ble_eq_true rfl⟩) hK hG hC hP hD hS hA (List.Perm.refl _) rfl hl.1 rfl (Nat.le_of_ble_eq_true rfl) dL_follows_651 ⟨rfl, rfl⟩ ⟨rfl, rfl⟩ (by omega) (by omega) (fun ov w_91 H locs hQ hP hD hS => ?_)
    obtain ⟨rfl, hw_91⟩ := hQ
    refine W.eq (g2 := F0 m 654 ls [.long v_90]) rfl ?_
    refine lv_aload_n hx hb dL_follows_654 rfl (lv_at hl 0 rfl) ?_
    refine lv_bipush (v := 10) hx hb dL_follows_655 (by decide) ?_
    refine lv_iconst (v := 1) hx hb dL_follows_657 (by decide) ?_
    obtain ⟨v_93, hv_92, h⟩ := bd_l h
    refine Lo_T (As := [.ref (cA 0), .int 10, .int 1]) (rest := [.long v_90]) (wA := w_91) (wr := []) 2 12 (956) (5888) 1554 9530 (co_growth l hst D k cA nA tA X_648 w_91 hw_91 10 1 v_93 hv_92) ⟨hx, hb, hml, hown, hts⟩ (vx_cwSW 3 hts gL_follows_L_growth rfl rfl rfl (by decide +kernel) ⟨Nat.le_of_ble_eq_true rfl, Nat.le_of_ble_eq_true rfl⟩) hK hG hC hP hD hS hA (List.Perm.refl _) rfl hl.1 rfl (Nat.le_of_ble_eq_true rfl) dL_follows_658 ⟨rfl, rfl⟩ ⟨rfl, rfl⟩ (by omega) (by omega) (fun ov w_94 H locs hQ hP hD hS => ?_)
    obtain ⟨rfl, hw_94⟩ := hQ
    refine W.eq (g2 := F0 m 661 ls [.long v_93, .long v_90]) rfl ?_
    refine W.lcmp hx hb dL_follows_661 ?_
    refine lv_if_lt (tgt := 669) hx hb dL_follows_662 (by decide) (fun c_95 => ?_) (fun c_95 => ?_)
    · have h := it_l c_95 h
      refine lv_iconst (v := 0) hx hb dL_follows_669 (by decide) ?_
      refine lv_istore (lv' := [(9, .int 0), (0, .ref (cA 0)), (1, .int p1), (2, .long x2_648), (4, .int x4_648), (7, .long x7_648), (29, .long x29_648)]) hx hb dL_follows_670 hl (by decide) rfl (fun ls hl => ?_)
      refine lv_iconst (v := 0) hx hb dL_follows_672 (by decide) ?_
      refine lv_istore (lv' := [(32, .int 0), (9, .int 0), (0, .ref (cA 0)), (1, .int p1), (2, .long x2_648), (4, .int x4_648), (7, .long x7_648), (29, .long x29_648)]) hx hb dL_follows_673 hl (by decide) rfl (fun ls hl => ?_)
      refine W.widen (k := (1012 - 8 * 7)) (n := (6224 - 48 * 7)) (by omega) (by omega) ?_
      exact hC_675 7 x2_648 x4_648 x7_648 0 x29_648 0 X_648 w_94 _ _ _ (Nat.le_refl _) hw_94 hP hD hS (lv_sub hl [2, 3, 4, 5, 6, 1, 7, 0] rfl) h
    · have h := it_r c_95 h
      refine lv_iconst (v := 1) hx hb dL_follows_665 (by decide) ?_
      refine lv_goto (tgt := 670) hx hb dL_follows_666 (by decide) ?_
      refine lv_istore (lv' := [(9, .int 1), (0, .ref (cA 0)), (1, .int p1), (2, .long x2_648), (4, .int x4_648), (7, .long x7_648), (29, .long x29_648)]) hx hb dL_follows_670 hl (by decide) rfl (fun ls hl => ?_)
      refine lv_iconst (v := 0) hx hb dL_follows_672 (by decide) ?_
      refine lv_istore (lv' := [(32, .int 0), (9, .int 1), (0, .ref (cA 0)), (1, .int p1), (2, .long x2_648), (4, .int x4_648), (7, .long x7_648), (29, .long x29_648)]) hx hb dL_follows_673 hl (by decide) rfl (fun ls hl => ?_)
      refine W.widen (k := (1012 - 8 * 7)) (n := (6224 - 48 * 7)) (by omega) (by omega) ?_
      exact hC_675 7 x2_648 x4_648 x7_648 1 x29_648 0 X_648 w_94 _ _ _ (Nat.le_refl _) hw_94 hP hD hS (lv_sub hl [2, 3, 4, 5, 6, 1, 7, 0] rfl) h
  have hC_559 : ∀ (x2_559 : Int64) (x4_559 : Int32) (x7_559 : Int64) (t0_559 : Int32) (X_559 : XV) (w_559 : va_W) (H : Heap) (locs : List Loc) (ls : Array Slot), Ob k cA nA tA X_559 w_559 → va_P D vwCl (w_559 ++ []) H → va_D A (w_559 ++ []) → va_S A s.heap H locs → lv_has ls 37 [(0, .ref (cA 0)), (1, .int p1), (2, .long x2_559), (4, .int x4_559), (7, .long x7_559)] → f_L_follows_559 p1 x2_559 x4_559 x7_559 t0_559 X_559 = some o → W p l e ({ frames := 14, cells := 1554, slots := 9530, locals := 749 } : Room) s m args below meth c H locs (842) (5123) (vx_MQ below (Qx D A (.inr B9)) (Xx D A (w) (.inr B9)) args s 1554 9530 A) (F0 m 559 ls [.int t0_559]) := by
    intro x2_559 x4_559 x7_559 t0_559 X_559 w_559 H locs ls hw_559 hP hD hS hl h
    unfold f_L_follows_559 at h
    refine lv_istore (lv' := [(9, .int t0_559), (0, .ref (cA 0)), (1, .int p1), (2, .long x2_559), (4, .int x4_559), (7, .long x7_559)]) hx hb dL_follows_559 hl (by decide) rfl (fun ls hl => ?_)
    refine lv_aload_n hx hb dL_follows_561 rfl (lv_at hl 1 rfl) ?_
    refine lv_iconst (v := 1) hx hb dL_follows_562 (by decide) ?_
    refine lv_iconst (v := 0) hx hb dL_follows_563 (by decide) ?_
    obtain ⟨v_97, hv_96, h⟩ := bd_l h
    refine Lo_T (As := [.ref (cA 0), .int 1, .int 0]) (rest := []) (wA := w_559) (wr := []) 34 231 (876) (5354) 1554 9530 (co_bestTurns l hst D k cA nA tA X_559 w_559 hw_559 1 0 v_97 hv_96) ⟨hx, hb, hml, hown, hts⟩ (vx_cwSW 3 hts gL_follows_L_bestTurns rfl rfl rfl (by decide +kernel) ⟨Nat.le_of_ble_eq_true rfl, Nat.le_of_ble_eq_true rfl⟩) hK hG hC hP hD hS hA (List.Perm.refl _) rfl hl.1 rfl (Nat.le_of_ble_eq_true rfl) dL_follows_564 ⟨rfl, rfl⟩ ⟨rfl, rfl⟩ (by omega) (by omega) (fun ov w_98 H locs hQ hP hD hS => ?_)
    obtain ⟨rfl, hw_98⟩ := hQ
    refine W.eq (g2 := F0 m 567 ls [.long v_97]) rfl ?_
    refine lv_lstore (lv' := [(29, .long v_97), (9, .int t0_559), (0, .ref (cA 0)), (1, .int p1), (2, .long x2_559), (4, .int x4_559), (7, .long x7_559)]) hx hb dL_follows_567 hl (by decide) rfl (fun ls hl => ?_)
    refine lv_aload_n hx hb dL_follows_569 rfl (lv_at hl 2 rfl) ?_
    refine lv_iconst (v := 1) hx hb dL_follows_570 (by decide) ?_
    refine lv_iconst (v := 1) hx hb dL_follows_571 (by decide) ?_
    obtain ⟨v_100, hv_99, h⟩ := bd_l h
    refine Lo_T (As := [.ref (cA 0), .int 1, .int 1]) (rest := []) (wA := w_98) (wr := []) 34 231 (910) (5585) 1554 9530 (co_bestTurns l hst D k cA nA tA X_559 w_98 hw_98 1 1 v_100 hv_99) ⟨hx, hb, hml, hown, hts⟩ (vx_cwSW 3 hts gL_follows_L_bestTurns rfl rfl rfl (by decide +kernel) ⟨Nat.le_of_ble_eq_true rfl, Nat.le_of_ble_eq_true rfl⟩) hK hG hC hP hD hS hA (List.Perm.refl _) rfl hl.1 rfl (Nat.le_of_ble_eq_true rfl) dL_follows_572 ⟨rfl, rfl⟩ ⟨rfl, rfl⟩ (by omega) (by omega) (fun ov w_101 H locs hQ hP hD hS => ?_)
    obtain ⟨rfl, hw_101⟩ := hQ
    refine W.eq (g2 := F0 m 575 ls [.long v_100]) rfl ?_
    refine lv_l2i hx hb dL_follows_575 rfl ?_
    refine lv_topi (fun v_102 ev_102 => ?_)
    have h := nm_l h ev_102
    refine lv_istore (lv' := [(31, .int v_102), (29, .long v_97), (9, .int t0_559), (0, .ref (cA 0)), (1, .int p1), (2, .long x2_559), (4, .int x4_559), (7, .long x7_559)]) hx hb dL_follows_576 hl (by decide) rfl (fun ls hl => ?_)
    refine lv_iload hx hb dL_follows_578 (lv_at hl 2 rfl) ?_
    refine lv_if_eq (tgt := 669) hx hb dL_follows_580 (by decide) (fun c_103 => ?_) (fun c_103 => ?_)
    · have h := it_l c_103 h
      refine lv_iconst (v := 0) hx hb dL_follows_669 (by decide) ?_
      refine lv_istore (lv' := [(9, .int 0), (31, .int v_102), (29, .long v_97), (0, .ref (cA 0)), (1, .int p1), (2, .long x2_559), (4, .int x4_559), (7, .long x7_559)]) hx hb dL_follows_670 hl (by decide) rfl (fun ls hl => ?_)
      refine lv_iconst (v := 0) hx hb dL_follows_672 (by decide) ?_
      refine lv_istore (lv' := [(32, .int 0), (9, .int 0), (31, .int v_102), (29, .long v_97), (0, .ref (cA 0)), (1, .int p1), (2, .long x2_559), (4, .int x4_559), (7, .long x7_559)]) hx hb dL_follows_673 hl (by decide) rfl (fun ls hl => ?_)
      refine W.widen (k := (1012 - 8 * 7)) (n := (6224 - 48 * 7)) (by omega) (by omega) ?_
      exact hC_675 7 x2_559 x4_559 x7_559 0 v_97 0 X_559 w_101 _ _ _ (Nat.le_refl _) hw_101 hP hD hS (lv_sub hl [4, 5, 6, 7, 8, 1, 3, 0] rfl) h
    · have h := it_r c_103 h
      refine lv_aload_n hx hb dL_follows_583 rfl (lv_at hl 3 rfl) ?_
      refine lv_iconst (v := 5) hx hb dL_follows_584 (by decide) ?_
      refine lv_iconst (v := 1) hx hb dL_follows_585 (by decide) ?_
      obtain ⟨v_105, hv_104, h⟩ := bd_l h
      refine Lo_T (As := [.ref (cA 0), .int 5, .int 1]) (rest := []) (wA := w_101) (wr := []) 2 12 (912) (5597) 1554 9530 (co_growth l hst D k cA nA tA X_559 w_101 hw_101 5 1 v_105 hv_104) ⟨hx, hb, hml, hown, hts⟩ (vx_cwSW 3 hts gL_follows_L_growth rfl rfl rfl (by decide +kernel) ⟨Nat.le_of_ble_eq_true rfl, Nat.le_of_ble_eq_true rfl⟩) hK hG hC hP hD hS hA (List.Perm.refl _) rfl hl.1 rfl (Nat.le_of_ble_eq_true rfl) dL_follows_586 ⟨rfl, rfl⟩ ⟨rfl, rfl⟩ (by omega) (by omega) (fun ov w_106 H locs hQ hP hD hS => ?_)
      obtain ⟨rfl, hw_106⟩ := hQ
      refine W.eq (g2 := F0 m 589 ls [.long v_105]) rfl ?_
      refine lv_lload hx hb dL_follows_589 (lv_at hl 1 rfl) ?_
      refine W.lcmp hx hb dL_follows_591 ?_
      refine lv_if_gt (tgt := 669) hx hb dL_follows_592 (by decide) (fun c_107 => ?_) (fun c_107 => ?_)
      · have h := it_l c_107 h
        refine lv_iconst (v := 0) hx hb dL_follows_669 (by decide) ?_
        refine lv_istore (lv' := [(9, .int 0), (31, .int v_102), (29, .long v_97), (0, .ref (cA 0)), (1, .int p1), (2, .long x2_559), (4, .int x4_559), (7, .long x7_559)]) hx hb dL_follows_670 hl (by decide) rfl (fun ls hl => ?_)
        refine lv_iconst (v := 0) hx hb dL_follows_672 (by decide) ?_
        refine lv_istore (lv' := [(32, .int 0), (9, .int 0), (31, .int v_102), (29, .long v_97), (0, .ref (cA 0)), (1, .int p1), (2, .long x2_559), (4, .int x4_559), (7, .long x7_559)]) hx hb dL_follows_673 hl (by decide) rfl (fun ls hl => ?_)
        refine W.widen (k := (1012 - 8 * 7)) (n := (6224 - 48 * 7)) (by omega) (by omega) ?_
        exact hC_675 7 x2_559 x4_559 x7_559 0 v_97 0 X_559 w_106 _ _ _ (Nat.le_refl _) hw_106 hP hD hS (lv_sub hl [4, 5, 6, 7, 8, 1, 3, 0] rfl) h
      · have h := it_r c_107 h
        refine lv_iload hx hb dL_follows_595 (lv_at hl 0 rfl) ?_
        refine lv_if_lt (tgt := 636) hx hb dL_follows_597 (by decide) (fun c_108 => ?_) (fun c_108 => ?_)
        · have h := it_l c_108 h
          refine lv_aload_n hx hb dL_follows_636 rfl (lv_at hl 3 rfl) ?_
          refine lv_iconst (v := 5) hx hb dL_follows_637 (by decide) ?_
          refine lv_iconst (v := 1) hx hb dL_follows_638 (by decide) ?_
          obtain ⟨v_110, hv_109, h⟩ := bd_l h
          refine Lo_T (As := [.ref (cA 0), .int 5, .int 1]) (rest := []) (wA := w_106) (wr := []) 2 12 (914) (5609) 1554 9530 (co_growth l hst D k cA nA tA X_559 w_106 hw_106 5 1 v_110 hv_109) ⟨hx, hb, hml, hown, hts⟩ (vx_cwSW 3 hts gL_follows_L_growth rfl rfl rfl (by decide +kernel) ⟨Nat.le_of_ble_eq_true rfl, Nat.le_of_ble_eq_true rfl⟩) hK hG hC hP hD hS hA (List.Perm.refl _) rfl hl.1 rfl (Nat.le_of_ble_eq_true rfl) dL_follows_639 ⟨rfl, rfl⟩ ⟨rfl, rfl⟩ (by omega) (by omega) (fun ov w_111 H locs hQ hP hD hS => ?_)
          obtain ⟨rfl, hw_111⟩ := hQ
          refine W.eq (g2 := F0 m 642 ls [.long v_110]) rfl ?_
          refine lv_lload hx hb dL_follows_642 (lv_at hl 1 rfl) ?_
          refine W.lcmp hx hb dL_follows_644 ?_
          refine lv_if_ne (tgt := 669) hx hb dL_follows_645 (by decide) (fun c_112 => ?_) (fun c_112 => ?_)
          · have h := it_r c_112 h
            refine lv_iconst (v := 0) hx hb dL_follows_669 (by decide) ?_
            refine lv_istore (lv' := [(9, .int 0), (31, .int v_102), (29, .long v_97), (0, .ref (cA 0)), (1, .int p1), (2, .long x2_559), (4, .int x4_559), (7, .long x7_559)]) hx hb dL_follows_670 hl (by decide) rfl (fun ls hl => ?_)
            refine lv_iconst (v := 0) hx hb dL_follows_672 (by decide) ?_
            refine lv_istore (lv' := [(32, .int 0), (9, .int 0), (31, .int v_102), (29, .long v_97), (0, .ref (cA 0)), (1, .int p1), (2, .long x2_559), (4, .int x4_559), (7, .long x7_559)]) hx hb dL_follows_673 hl (by decide) rfl (fun ls hl => ?_)
            refine W.widen (k := (1012 - 8 * 7)) (n := (6224 - 48 * 7)) (by omega) (by omega) ?_
            exact hC_675 7 x2_559 x4_559 x7_559 0 v_97 0 X_559 w_111 _ _ _ (Nat.le_refl _) hw_111 hP hD hS (lv_sub hl [4, 5, 6, 7, 8, 1, 3, 0] rfl) h
          · have h := it_l c_112 h
            refine W.widen (k := 920) (n := 5645) (by omega) (by omega) ?_
            exact hC_648 x2_559 x4_559 x7_559 v_97 X_559 w_111 _ _ _ hw_111 hP hD hS (lv_sub hl [3, 4, 5, 6, 7, 1] rfl) h
        · have h := it_r c_108 h
          refine lv_aload_n hx hb dL_follows_600 rfl (lv_at hl 3 rfl) ?_
          refine lv_iconst (v := 5) hx hb dL_follows_601 (by decide) ?_
          refine lv_iconst (v := 1) hx hb dL_follows_602 (by decide) ?_
          obtain ⟨v_114, hv_113, h⟩ := bd_l h
          refine Lo_T (As := [.ref (cA 0), .int 5, .int 1]) (rest := []) (wA := w_106) (wr := []) 2 12 (914) (5609) 1554 9530 (co_growth l hst D k cA nA tA X_559 w_106 hw_106 5 1 v_114 hv_113) ⟨hx, hb, hml, hown, hts⟩ (vx_cwSW 3 hts gL_follows_L_growth rfl rfl rfl (by decide +kernel) ⟨Nat.le_of_ble_eq_true rfl, Nat.le_of_ble_eq_true rfl⟩) hK hG hC hP hD hS hA (List.Perm.refl _) rfl hl.1 rfl (Nat.le_of_ble_eq_true rfl) dL_follows_603 ⟨rfl, rfl⟩ ⟨rfl, rfl⟩ (by omega) (by omega) (fun ov w_115 H locs hQ hP hD hS => ?_)
          obtain ⟨rfl, hw_115⟩ := hQ
          refine W.eq (g2 := F0 m 606 ls [.long v_114]) rfl ?_
          refine lv_lload hx hb dL_follows_606 (lv_at hl 1 rfl) ?_
          refine W.lcmp hx hb dL_follows_608 ?_
          refine lv_if_ge (tgt := 669) hx hb dL_follows_609 (by decide) (fun c_116 => ?_) (fun c_116 => ?_)
          · have h := it_l c_116 h
            refine lv_iconst (v := 0) hx hb dL_follows_669 (by decide) ?_
            refine lv_istore (lv' := [(9, .int 0), (31, .int v_102), (29, .long v_97), (0, .ref (cA 0)), (1, .int p1), (2, .long x2_559), (4, .int x4_559), (7, .long x7_559)]) hx hb dL_follows_670 hl (by decide) rfl (fun ls hl => ?_)
            refine lv_iconst (v := 0) hx hb dL_follows_672 (by decide) ?_
            refine lv_istore (lv' := [(32, .int 0), (9, .int 0), (31, .int v_102), (29, .long v_97), (0, .ref (cA 0)), (1, .int p1), (2, .long x2_559), (4, .int x4_559), (7, .long x7_559)]) hx hb dL_follows_673 hl (by decide) rfl (fun ls hl => ?_)
            refine W.widen (k := (1012 - 8 * 7)) (n := (6224 - 48 * 7)) (by omega) (by omega) ?_
            exact hC_675 7 x2_559 x4_559 x7_559 0 v_97 0 X_559 w_115 _ _ _ (Nat.le_refl _) hw_115 hP hD hS (lv_sub hl [4, 5, 6, 7, 8, 1, 3, 0] rfl) h
          · have h := it_r c_116 h
            refine lv_aload_n hx hb dL_follows_612 rfl (lv_at hl 3 rfl) ?_
            refine lv_iconst (v := 5) hx hb dL_follows_613 (by decide) ?_
            refine lv_iconst (v := 1) hx hb dL_follows_614 (by decide) ?_
            obtain ⟨v_118, hv_117, h⟩ := bd_l h
            refine Lo_T (As := [.ref (cA 0), .int 5, .int 1]) (rest := []) (wA := w_115) (wr := []) 2 12 (916) (5621) 1554 9530 (co_growth l hst D k cA nA tA X_559 w_115 hw_115 5 1 v_118 hv_117) ⟨hx, hb, hml, hown, hts⟩ (vx_cwSW 3 hts gL_follows_L_growth rfl rfl rfl (by decide +kernel) ⟨Nat.le_of_ble_eq_true rfl, Nat.le_of_ble_eq_true rfl⟩) hK hG hC hP hD hS hA (List.Perm.refl _) rfl hl.1 rfl (Nat.le_of_ble_eq_true rfl) dL_follows_615 ⟨rfl, rfl⟩ ⟨rfl, rfl⟩ (by omega) (by omega) (fun ov w_119 H locs hQ hP hD hS => ?_)
            obtain ⟨rfl, hw_119⟩ := hQ
            refine W.eq (g2 := F0 m 618 ls [.long v_118]) rfl ?_
            refine lv_aload_n hx hb dL_follows_618 rfl (lv_at hl 3 rfl) ?_
            refine lv_iload hx hb dL_follows_619 (lv_at hl 0 rfl) ?_
            refine lv_iconst (v := 5) hx hb dL_follows_621 (by decide) ?_
            refine lv_iconst (v := 5) hx hb dL_follows_622 (by decide) ?_
            obtain ⟨v_121, hv_120, h⟩ := bd_l h
            refine Lo_T (As := [.ref (cA 0), .int v_102, .int 5, .int 5]) (rest := [.long v_118]) (wA := w_119) (wr := []) 4 24 (920) (5645) 1554 9530 (co_washGain l hst D k cA nA tA X_559 w_119 hw_119 v_102 5 5 v_121 hv_120) ⟨hx, hb, hml, hown, hts⟩ (vx_cwSW 4 hts gL_follows_L_washGain rfl rfl rfl (by decide +kernel) ⟨Nat.le_of_ble_eq_true rfl, Nat.le_of_ble_eq_true rfl⟩) hK hG hC hP hD hS hA (List.Perm.refl _) rfl hl.1 rfl (Nat.le_of_ble_eq_true rfl) dL_follows_623 ⟨rfl, rfl⟩ ⟨rfl, rfl⟩ (by omega) (by omega) (fun ov w_122 H locs hQ hP hD hS => ?_)
            obtain ⟨rfl, hw_122⟩ := hQ
            refine W.eq (g2 := F0 m 626 ls [.long v_121, .long v_118]) rfl ?_
            refine lv_ladd hx hb dL_follows_626 ?_
            refine lv_lload hx hb dL_follows_627 (lv_at hl 1 rfl) ?_
            refine W.lcmp hx hb dL_follows_629 ?_
            refine lv_if_ne (tgt := 669) hx hb dL_follows_630 (by decide) (fun c_123 => ?_) (fun c_123 => ?_)
            · have h := it_r c_123 h
              refine lv_iconst (v := 0) hx hb dL_follows_669 (by decide) ?_
              refine lv_istore (lv' := [(9, .int 0), (31, .int v_102), (29, .long v_97), (0, .ref (cA 0)), (1, .int p1), (2, .long x2_559), (4, .int x4_559), (7, .long x7_559)]) hx hb dL_follows_670 hl (by decide) rfl (fun ls hl => ?_)
              refine lv_iconst (v := 0) hx hb dL_follows_672 (by decide) ?_
              refine lv_istore (lv' := [(32, .int 0), (9, .int 0), (31, .int v_102), (29, .long v_97), (0, .ref (cA 0)), (1, .int p1), (2, .long x2_559), (4, .int x4_559), (7, .long x7_559)]) hx hb dL_follows_673 hl (by decide) rfl (fun ls hl => ?_)
              refine W.widen (k := (1012 - 8 * 7)) (n := (6224 - 48 * 7)) (by omega) (by omega) ?_
              exact hC_675 7 x2_559 x4_559 x7_559 0 v_97 0 X_559 w_122 _ _ _ (Nat.le_refl _) hw_122 hP hD hS (lv_sub hl [4, 5, 6, 7, 8, 1, 3, 0] rfl) h
            · have h := it_l c_123 h
              refine lv_goto (tgt := 648) hx hb dL_follows_633 (by decide) ?_
              refine W.widen (k := 920) (n := 5645) (by omega) (by omega) ?_
              exact hC_648 x2_559 x4_559 x7_559 v_97 X_559 w_122 _ _ _ hw_122 hP hD hS (lv_sub hl [3, 4, 5, 6, 7, 1] rfl) h
  have hC_558 : ∀ (x2_558 : Int64) (x4_558 : Int32) (x7_558 : Int64) (X_558 : XV) (w_558 : va_W) (H : Heap) (locs : List Loc) (ls : Array Slot), Ob k cA nA tA X_558 w_558 → va_P D vwCl (w_558 ++ []) H → va_D A (w_558 ++ []) → va_S A s.heap H locs → lv_has ls 37 [(0, .ref (cA 0)), (1, .int p1), (2, .long x2_558), (4, .int x4_558), (7, .long x7_558)] → f_L_follows_558 p1 x2_558 x4_558 x7_558 X_558 = some o → W p l e ({ frames := 14, cells := 1554, slots := 9530, locals := 749 } : Room) s m args below meth c H locs (842) (5123) (vx_MQ below (Qx D A (.inr B9)) (Xx D A (w) (.inr B9)) args s 1554 9530 A) (F0 m 558 ls []) := by
    intro x2_558 x4_558 x7_558 X_558 w_558 H locs ls hw_558 hP hD hS hl h
    unfold f_L_follows_558 at h
    refine lv_iconst (v := 0) hx hb dL_follows_558 (by decide) ?_
    refine W.widen (k := 842) (n := 5123) (by omega) (by omega) ?_
    exact hC_559 x2_558 x4_558 x7_558 0 X_558 w_558 _ _ _ hw_558 hP hD hS (lv_sub hl [0, 1, 2, 3, 4] rfl) h
  have hC_545 : ∀ (x2_545 : Int64) (x4_545 : Int32) (x7_545 : Int64) (X_545 : XV) (w_545 : va_W) (H : Heap) (locs : List Loc) (ls : Array Slot), Ob k cA nA tA X_545 w_545 → va_P D vwCl (w_545 ++ []) H → va_D A (w_545 ++ []) → va_S A s.heap H locs → lv_has ls 37 [(0, .ref (cA 0)), (1, .int p1), (2, .long x2_545), (4, .int x4_545), (7, .long x7_545)] → f_L_follows_545 p1 x2_545 x4_545 x7_545 X_545 = some o → W p l e ({ frames := 14, cells := 1554, slots := 9530, locals := 749 } : Room) s m args below meth c H locs (618) (3779) (vx_MQ below (Qx D A (.inr B9)) (Xx D A (w) (.inr B9)) args s 1554 9530 A) (F0 m 545 ls []) := by
    intro x2_545 x4_545 x7_545 X_545 w_545 H locs ls hw_545 hP hD hS hl h
    unfold f_L_follows_545 at h
    refine lv_aload_n hx hb dL_follows_545 rfl (lv_at hl 0 rfl) ?_
    obtain ⟨v_125, hv_124, h⟩ := bd_l h
    refine Lo_S (As := [.ref (cA 0)]) (rest := []) (wA := w_545) (wr := []) 224 1344 (842) (5123) 1554 9530 (c_L_now l hst D k cA nA tA X_545 w_545 hw_545 v_125 hv_124) ⟨hx, hb, hml, hown, hts⟩ (va_cwS 1 hts gL_follows_L_now rfl rfl rfl (by decide +kernel) ⟨Nat.le_of_ble_eq_true rfl, Nat.le_of_ble_eq_true rfl⟩) hK hG hC hP hD hS hA (List.Perm.refl _) rfl hl.1 rfl (Nat.le_of_ble_eq_true rfl) dL_follows_546 ⟨rfl, rfl⟩ ⟨rfl, rfl⟩ (by omega) (by omega) (fun ov w_126 H locs hQ hP hD hS => ?_)
    obtain ⟨rfl, hw_126⟩ := hQ
    refine W.eq (g2 := F0 m 549 ls [.long v_125]) rfl ?_
    refine lv_lload_n hx hb dL_follows_549 rfl (lv_at hl 2 rfl) ?_
    refine W.lcmp hx hb dL_follows_550 ?_
    refine lv_if_ne (tgt := 558) hx hb dL_follows_551 (by decide) (fun c_127 => ?_) (fun c_127 => ?_)
    · have h := it_r c_127 h
      refine W.widen (k := 842) (n := 5123) (by omega) (by omega) ?_
      exact hC_558 x2_545 x4_545 x7_545 X_545 w_126 _ _ _ hw_126 hP hD hS (lv_sub hl [0, 1, 2, 3, 4] rfl) h
    · have h := it_l c_127 h
      refine lv_iconst (v := 1) hx hb dL_follows_554 (by decide) ?_
      refine lv_goto (tgt := 559) hx hb dL_follows_555 (by decide) ?_
      refine W.widen (k := 842) (n := 5123) (by omega) (by omega) ?_
      exact hC_559 x2_545 x4_545 x7_545 1 X_545 w_126 _ _ _ hw_126 hP hD hS (lv_sub hl [0, 1, 2, 3, 4] rfl) h
  have hC_474 : ∀ (x2_474 : Int64) (x4_474 : Int32) (x5_474 : Int32) (x6_474 : Int32) (x7_474 : Int64) (x22_474 : Int32) (x25_474 : Int64) (x27_474 : Int64) (t0_474 : Int64) (t1_474 : Int64) (X_474 : XV) (w_474 : va_W) (H : Heap) (locs : List Loc) (ls : Array Slot), Ob k cA nA tA X_474 w_474 → va_P D vwCl (w_474 ++ []) H → va_D A (w_474 ++ []) → va_S A s.heap H locs → lv_has ls 37 [(0, .ref (cA 0)), (1, .int p1), (2, .long x2_474), (4, .int x4_474), (5, .int x5_474), (6, .int x6_474), (7, .long x7_474), (22, .int x22_474), (25, .long x25_474), (27, .long x27_474)] → f_L_follows_474 p1 x2_474 x4_474 x5_474 x6_474 x7_474 x22_474 x25_474 x27_474 t0_474 t1_474 X_474 = some o → W p l e ({ frames := 14, cells := 1554, slots := 9530, locals := 749 } : Room) s m args below meth c H locs (580) (3524) (vx_MQ below (Qx D A (.inr B9)) (Xx D A (w) (.inr B9)) args s 1554 9530 A) (F0 m 474 ls [.long t0_474, .long t1_474]) := by
    intro x2_474 x4_474 x5_474 x6_474 x7_474 x22_474 x25_474 x27_474 t0_474 t1_474 X_474 w_474 H locs ls hw_474 hP hD hS hl h
    unfold f_L_follows_474 at h
    refine W.lcmp hx hb dL_follows_474 ?_
    refine lv_if_ne (tgt := 558) hx hb dL_follows_475 (by decide) (fun c_128 => ?_) (fun c_128 => ?_)
    · have h := it_r c_128 h
      refine W.widen (k := 842) (n := 5123) (by omega) (by omega) ?_
      exact hC_558 x2_474 x4_474 x7_474 X_474 w_474 _ _ _ hw_474 hP hD hS (lv_sub hl [0, 1, 2, 3, 6] rfl) h
    · have h := it_l c_128 h
      refine lv_iload hx hb dL_follows_478 (lv_at hl 7 rfl) ?_
      refine lv_if_eq (tgt := 545) hx hb dL_follows_480 (by decide) (fun c_129 => ?_) (fun c_129 => ?_)
      · have h := it_l c_129 h
        refine W.widen (k := 618) (n := 3779) (by omega) (by omega) ?_
        exact hC_545 x2_474 x4_474 x7_474 X_474 w_474 _ _ _ hw_474 hP hD hS (lv_sub hl [0, 1, 2, 3, 6] rfl) h
      · have h := it_r c_129 h
        refine lv_aload_n hx hb dL_follows_483 rfl (lv_at hl 0 rfl) ?_
        refine lv_iload hx hb dL_follows_484 (lv_at hl 4 rfl) ?_
        refine lv_iconst (v := 1) hx hb dL_follows_486 (by decide) ?_
        obtain ⟨v_131, hv_130, h⟩ := bd_l h
        refine Lo_T (As := [.ref (cA 0), .int x5_474, .int 1]) (rest := []) (wA := w_474) (wr := []) 2 12 (582) (3536) 1554 9530 (co_growth l hst D k cA nA tA X_474 w_474 hw_474 x5_474 1 v_131 hv_130) ⟨hx, hb, hml, hown, hts⟩ (vx_cwSW 3 hts gL_follows_L_growth rfl rfl rfl (by decide +kernel) ⟨Nat.le_of_ble_eq_true rfl, Nat.le_of_ble_eq_true rfl⟩) hK hG hC hP hD hS hA (List.Perm.refl _) rfl hl.1 rfl (Nat.le_of_ble_eq_true rfl) dL_follows_487 ⟨rfl, rfl⟩ ⟨rfl, rfl⟩ (by omega) (by omega) (fun ov w_132 H locs hQ hP hD hS => ?_)
        obtain ⟨rfl, hw_132⟩ := hQ
        refine W.eq (g2 := F0 m 490 ls [.long v_131]) rfl ?_
        refine lv_lload hx hb dL_follows_490 (lv_at hl 9 rfl) ?_
        refine lv_lsub hx hb dL_follows_492 ?_
        refine lv_lload hx hb dL_follows_493 (lv_at hl 8 rfl) ?_
        refine W.lcmp hx hb dL_follows_495 ?_
        refine lv_if_ne (tgt := 558) hx hb dL_follows_496 (by decide) (fun c_133 => ?_) (fun c_133 => ?_)
        · have h := it_r c_133 h
          refine W.widen (k := 842) (n := 5123) (by omega) (by omega) ?_
          exact hC_558 x2_474 x4_474 x7_474 X_474 w_132 _ _ _ hw_132 hP hD hS (lv_sub hl [0, 1, 2, 3, 6] rfl) h
        · have h := it_l c_133 h
          refine lv_aload_n hx hb dL_follows_499 rfl (lv_at hl 0 rfl) ?_
          refine lv_iload hx hb dL_follows_500 (lv_at hl 5 rfl) ?_
          refine lv_bipush (v := 7) hx hb dL_follows_502 (by decide) ?_
          obtain ⟨v_135, hv_134, h⟩ := bd_l h
          refine Lo_T (As := [.ref (cA 0), .int x6_474, .int 7]) (rest := []) (wA := w_132) (wr := []) 2 12 (584) (3548) 1554 9530 (co_effect l hst D k cA nA tA X_474 w_132 hw_132 x6_474 7 v_135 hv_134) ⟨hx, hb, hml, hown, hts⟩ (vx_cwSW 3 hts gL_follows_L_effect rfl rfl rfl (by decide +kernel) ⟨Nat.le_of_ble_eq_true rfl, Nat.le_of_ble_eq_true rfl⟩) hK hG hC hP hD hS hA (List.Perm.refl _) rfl hl.1 rfl (Nat.le_of_ble_eq_true rfl) dL_follows_504 ⟨rfl, rfl⟩ ⟨rfl, rfl⟩ (by omega) (by omega) (fun ov w_136 H locs hQ hP hD hS => ?_)
          obtain ⟨rfl, hw_136⟩ := hQ
          refine W.eq (g2 := F0 m 507 ls [.long v_135]) rfl ?_
          refine lv_ldc2 (v := 5) hx hb hown w_2 dL_follows_507 ?_
          refine W.lcmp hx hb dL_follows_510 ?_
          refine lv_if_ne (tgt := 558) hx hb dL_follows_511 (by decide) (fun c_137 => ?_) (fun c_137 => ?_)
          · have h := it_r c_137 h
            refine W.widen (k := 842) (n := 5123) (by omega) (by omega) ?_
            exact hC_558 x2_474 x4_474 x7_474 X_474 w_136 _ _ _ hw_136 hP hD hS (lv_sub hl [0, 1, 2, 3, 6] rfl) h
          · have h := it_l c_137 h
            refine lv_aload_n hx hb dL_follows_514 rfl (lv_at hl 0 rfl) ?_
            refine lv_iload hx hb dL_follows_515 (lv_at hl 5 rfl) ?_
            obtain ⟨⟨v_139, X_141⟩, hv_138, h⟩ := bd_l h
            refine Lo_T (As := [.ref (cA 0), .int x6_474]) (rest := []) (wA := w_136) (wr := []) 12 81 (596) (3629) 1554 9530 (co_endWash l hst D k cA nA tA X_474 w_136 hw_136 x6_474 (v_139, X_141) hv_138) ⟨hx, hb, hml, hown, hts⟩ (vx_cwSW 2 hts gL_follows_L_endWash rfl rfl rfl (by decide +kernel) ⟨Nat.le_of_ble_eq_true rfl, Nat.le_of_ble_eq_true rfl⟩) hK hG hC hP hD hS hA (List.Perm.refl _) rfl hl.1 rfl (Nat.le_of_ble_eq_true rfl) dL_follows_517 ⟨rfl, rfl⟩ ⟨rfl, rfl⟩ (by omega) (by omega) (fun ov w_140 H locs hQ hP hD hS => ?_)
            obtain ⟨rfl, hw_140⟩ := hQ
            refine W.eq (g2 := F0 m 520 ls [.long v_139]) rfl ?_
            refine lv_ldc2 (v := 5) hx hb hown w_2 dL_follows_520 ?_
            refine W.lcmp hx hb dL_follows_523 ?_
            refine lv_if_ne (tgt := 558) hx hb dL_follows_524 (by decide) (fun c_142 => ?_) (fun c_142 => ?_)
            · have h := it_r c_142 h
              refine W.widen (k := 842) (n := 5123) (by omega) (by omega) ?_
              exact hC_558 x2_474 x4_474 x7_474 X_141 w_140 _ _ _ hw_140 hP hD hS (lv_sub hl [0, 1, 2, 3, 6] rfl) h
            · have h := it_l c_142 h
              refine lv_aload_n hx hb dL_follows_527 rfl (lv_at hl 0 rfl) ?_
              obtain ⟨⟨v_144, X_146⟩, hv_143, h⟩ := bd_l h
              refine Lo_T (As := [.ref (cA 0)]) (rest := []) (wA := w_140) (wr := []) 11 75 (607) (3704) 1554 9530 (co_undo l hst D k cA nA tA X_141 w_140 hw_140 (v_144, X_146) hv_143) ⟨hx, hb, hml, hown, hts⟩ (vx_cwSW 1 hts gL_follows_L_undo rfl rfl rfl (by decide +kernel) ⟨Nat.le_of_ble_eq_true rfl, Nat.le_of_ble_eq_true rfl⟩) hK hG hC hP hD hS hA (List.Perm.refl _) rfl hl.1 rfl (Nat.le_of_ble_eq_true rfl) dL_follows_528 ⟨rfl, rfl⟩ ⟨rfl, rfl⟩ (by omega) (by omega) (fun ov w_145 H locs hQ hP hD hS => ?_)
              obtain ⟨rfl, hw_145⟩ := hQ
              refine W.eq (g2 := F0 m 531 ls [.long v_144]) rfl ?_
              refine lv_lconst (v := 0) hx hb dL_follows_531 (by decide) ?_
              refine W.lcmp hx hb dL_follows_532 ?_
              refine lv_if_lt (tgt := 558) hx hb dL_follows_533 (by decide) (fun c_147 => ?_) (fun c_147 => ?_)
              · have h := it_l c_147 h
                refine W.widen (k := 842) (n := 5123) (by omega) (by omega) ?_
                exact hC_558 x2_474 x4_474 x7_474 X_146 w_145 _ _ _ hw_145 hP hD hS (lv_sub hl [0, 1, 2, 3, 6] rfl) h
              · have h := it_r c_147 h
                refine lv_aload_n hx hb dL_follows_536 rfl (lv_at hl 0 rfl) ?_
                obtain ⟨⟨v_149, X_151⟩, hv_148, h⟩ := bd_l h
                refine Lo_T (As := [.ref (cA 0)]) (rest := []) (wA := w_145) (wr := []) 11 75 (618) (3779) 1554 9530 (co_undo l hst D k cA nA tA X_146 w_145 hw_145 (v_149, X_151) hv_148) ⟨hx, hb, hml, hown, hts⟩ (vx_cwSW 1 hts gL_follows_L_undo rfl rfl rfl (by decide +kernel) ⟨Nat.le_of_ble_eq_true rfl, Nat.le_of_ble_eq_true rfl⟩) hK hG hC hP hD hS hA (List.Perm.refl _) rfl hl.1 rfl (Nat.le_of_ble_eq_true rfl) dL_follows_537 ⟨rfl, rfl⟩ ⟨rfl, rfl⟩ (by omega) (by omega) (fun ov w_150 H locs hQ hP hD hS => ?_)
                obtain ⟨rfl, hw_150⟩ := hQ
                refine W.eq (g2 := F0 m 540 ls [.long v_149]) rfl ?_
                refine lv_lconst (v := 0) hx hb dL_follows_540 (by decide) ?_
                refine W.lcmp hx hb dL_follows_541 ?_
                refine lv_if_lt (tgt := 558) hx hb dL_follows_542 (by decide) (fun c_152 => ?_) (fun c_152 => ?_)
                · have h := it_l c_152 h
                  refine W.widen (k := 842) (n := 5123) (by omega) (by omega) ?_
                  exact hC_558 x2_474 x4_474 x7_474 X_151 w_150 _ _ _ hw_150 hP hD hS (lv_sub hl [0, 1, 2, 3, 6] rfl) h
                · have h := it_r c_152 h
                  refine W.widen (k := 618) (n := 3779) (by omega) (by omega) ?_
                  exact hC_545 x2_474 x4_474 x7_474 X_151 w_150 _ _ _ hw_150 hP hD hS (lv_sub hl [0, 1, 2, 3, 6] rfl) h
  have hC_417 : ∀ (x2_417 : Int64) (x4_417 : Int32) (x5_417 : Int32) (x6_417 : Int32) (x7_417 : Int64) (x9_417 : Int32) (t0_417 : Int32) (X_417 : XV) (w_417 : va_W) (H : Heap) (locs : List Loc) (ls : Array Slot), Ob k cA nA tA X_417 w_417 → va_P D vwCl (w_417 ++ []) H → va_D A (w_417 ++ []) → va_S A s.heap H locs → lv_has ls 37 [(0, .ref (cA 0)), (1, .int p1), (2, .long x2_417), (4, .int x4_417), (5, .int x5_417), (6, .int x6_417), (7, .long x7_417), (9, .int x9_417)] → f_L_follows_417 p1 x2_417 x4_417 x5_417 x6_417 x7_417 x9_417 t0_417 X_417 = some o → W p l e ({ frames := 14, cells := 1554, slots := 9530, locals := 749 } : Room) s m args below meth c H locs (559) (3389) (vx_MQ below (Qx D A (.inr B9)) (Xx D A (w) (.inr B9)) args s 1554 9530 A) (F0 m 417 ls [.int t0_417]) := by
    intro x2_417 x4_417 x5_417 x6_417 x7_417 x9_417 t0_417 X_417 w_417 H locs ls hw_417 hP hD hS hl h
    unfold f_L_follows_417 at h
    refine lv_istore (lv' := [(22, .int t0_417), (0, .ref (cA 0)), (1, .int p1), (2, .long x2_417), (4, .int x4_417), (5, .int x5_417), (6, .int x6_417), (7, .long x7_417), (9, .int x9_417)]) hx hb dL_follows_417 hl (by decide) rfl (fun ls hl => ?_)
    refine lv_aload_n hx hb dL_follows_419 rfl (lv_at hl 1 rfl) ?_
    refine lv_bipush (v := 7) hx hb dL_follows_420 (by decide) ?_
    obtain ⟨v_154, hv_153, h⟩ := bd_l h
    refine Lo_T (As := [.ref (cA 0), .int 7]) (rest := []) (wA := w_417) (wr := []) 1 6 (560) (3395) 1554 9530 (co_about l hst D k cA nA tA X_417 w_417 hw_417 7 v_154 hv_153) ⟨hx, hb, hml, hown, hts⟩ (vx_cwSW 2 hts gL_follows_L_about rfl rfl rfl (by decide +kernel) ⟨Nat.le_of_ble_eq_true rfl, Nat.le_of_ble_eq_true rfl⟩) hK hG hC hP hD hS hA (List.Perm.refl _) rfl hl.1 rfl (Nat.le_of_ble_eq_true rfl) dL_follows_422 ⟨rfl, rfl⟩ ⟨rfl, rfl⟩ (by omega) (by omega) (fun ov w_155 H locs hQ hP hD hS => ?_)
    obtain ⟨rfl, hw_155⟩ := hQ
    refine W.eq (g2 := F0 m 425 ls [.long v_154]) rfl ?_
    refine lv_lstore (lv' := [(23, .long v_154), (22, .int t0_417), (0, .ref (cA 0)), (1, .int p1), (2, .long x2_417), (4, .int x4_417), (5, .int x5_417), (6, .int x6_417), (7, .long x7_417), (9, .int x9_417)]) hx hb dL_follows_425 hl (by decide) rfl (fun ls hl => ?_)
    refine lv_aload_n hx hb dL_follows_427 rfl (lv_at hl 2 rfl) ?_
    refine lv_iload hx hb dL_follows_428 (lv_at hl 7 rfl) ?_
    refine lv_iconst (v := 5) hx hb dL_follows_430 (by decide) ?_
    refine lv_iload hx hb dL_follows_431 (lv_at hl 6 rfl) ?_
    obtain ⟨v_157, hv_156, h⟩ := bd_l h
    refine Lo_T (As := [.ref (cA 0), .int x6_417, .int 5, .int x5_417]) (rest := []) (wA := w_155) (wr := []) 4 24 (564) (3419) 1554 9530 (co_washGain l hst D k cA nA tA X_417 w_155 hw_155 x6_417 5 x5_417 v_157 hv_156) ⟨hx, hb, hml, hown, hts⟩ (vx_cwSW 4 hts gL_follows_L_washGain rfl rfl rfl (by decide +kernel) ⟨Nat.le_of_ble_eq_true rfl, Nat.le_of_ble_eq_true rfl⟩) hK hG hC hP hD hS hA (List.Perm.refl _) rfl hl.1 rfl (Nat.le_of_ble_eq_true rfl) dL_follows_433 ⟨rfl, rfl⟩ ⟨rfl, rfl⟩ (by omega) (by omega) (fun ov w_158 H locs hQ hP hD hS => ?_)
    obtain ⟨rfl, hw_158⟩ := hQ
    refine W.eq (g2 := F0 m 436 ls [.long v_157]) rfl ?_
    refine lv_lstore (lv' := [(25, .long v_157), (23, .long v_154), (22, .int t0_417), (0, .ref (cA 0)), (1, .int p1), (2, .long x2_417), (4, .int x4_417), (5, .int x5_417), (6, .int x6_417), (7, .long x7_417), (9, .int x9_417)]) hx hb dL_follows_436 hl (by decide) rfl (fun ls hl => ?_)
    refine lv_aload_n hx hb dL_follows_438 rfl (lv_at hl 3 rfl) ?_
    refine lv_iload hx hb dL_follows_439 (lv_at hl 7 rfl) ?_
    refine lv_iconst (v := 1) hx hb dL_follows_441 (by decide) ?_
    obtain ⟨v_160, hv_159, h⟩ := bd_l h
    refine Lo_T (As := [.ref (cA 0), .int x5_417, .int 1]) (rest := []) (wA := w_158) (wr := []) 2 12 (566) (3431) 1554 9530 (co_growth l hst D k cA nA tA X_417 w_158 hw_158 x5_417 1 v_160 hv_159) ⟨hx, hb, hml, hown, hts⟩ (vx_cwSW 3 hts gL_follows_L_growth rfl rfl rfl (by decide +kernel) ⟨Nat.le_of_ble_eq_true rfl, Nat.le_of_ble_eq_true rfl⟩) hK hG hC hP hD hS hA (List.Perm.refl _) rfl hl.1 rfl (Nat.le_of_ble_eq_true rfl) dL_follows_442 ⟨rfl, rfl⟩ ⟨rfl, rfl⟩ (by omega) (by omega) (fun ov w_161 H locs hQ hP hD hS => ?_)
    obtain ⟨rfl, hw_161⟩ := hQ
    refine W.eq (g2 := F0 m 445 ls [.long v_160]) rfl ?_
    refine lv_lstore (lv' := [(27, .long v_160), (25, .long v_157), (23, .long v_154), (22, .int t0_417), (0, .ref (cA 0)), (1, .int p1), (2, .long x2_417), (4, .int x4_417), (5, .int x5_417), (6, .int x6_417), (7, .long x7_417), (9, .int x9_417)]) hx hb dL_follows_445 hl (by decide) rfl (fun ls hl => ?_)
    refine lv_iload hx hb dL_follows_447 (lv_at hl 11 rfl) ?_
    refine lv_if_eq (tgt := 558) hx hb dL_follows_449 (by decide) (fun c_162 => ?_) (fun c_162 => ?_)
    · have h := it_l c_162 h
      refine W.widen (k := 842) (n := 5123) (by omega) (by omega) ?_
      exact hC_558 x2_417 x4_417 x7_417 X_417 w_161 _ _ _ hw_161 hP hD hS (lv_sub hl [4, 5, 6, 7, 10] rfl) h
    · have h := it_r c_162 h
      refine lv_aload_n hx hb dL_follows_452 rfl (lv_at hl 4 rfl) ?_
      refine lv_iload hx hb dL_follows_453 (lv_at hl 9 rfl) ?_
      refine lv_iconst (v := 5) hx hb dL_follows_455 (by decide) ?_
      obtain ⟨⟨v_164, X_166⟩, hv_163, h⟩ := bd_l h
      refine Lo_T (As := [.ref (cA 0), .int x6_417, .int 5]) (rest := []) (wA := w_161) (wr := []) 14 93 (580) (3524) 1554 9530 (co_wash l hst D k cA nA tA X_417 w_161 hw_161 x6_417 5 (v_164, X_166) hv_163) ⟨hx, hb, hml, hown, hts⟩ (vx_cwSW 3 hts gL_follows_L_wash rfl rfl rfl (by decide +kernel) ⟨Nat.le_of_ble_eq_true rfl, Nat.le_of_ble_eq_true rfl⟩) hK hG hC hP hD hS hA (List.Perm.refl _) rfl hl.1 rfl (Nat.le_of_ble_eq_true rfl) dL_follows_456 ⟨rfl, rfl⟩ ⟨rfl, rfl⟩ (by omega) (by omega) (fun ov w_165 H locs hQ hP hD hS => ?_)
      obtain ⟨rfl, hw_165⟩ := hQ
      refine W.eq (g2 := F0 m 459 ls [.long v_164]) rfl ?_
      refine lv_iload hx hb dL_follows_459 (lv_at hl 3 rfl) ?_
      refine lv_if_eq (tgt := 471) hx hb dL_follows_461 (by decide) (fun c_167 => ?_) (fun c_167 => ?_)
      · have h := it_l c_167 h
        refine lv_ldc2 (v := -9000000000000000003) hx hb hown w_0 dL_follows_471 ?_
        refine W.widen (k := 580) (n := 3524) (by omega) (by omega) ?_
        exact hC_474 x2_417 x4_417 x5_417 x6_417 x7_417 t0_417 v_157 v_160 (-9000000000000000003) v_164 X_166 w_165 _ _ _ hw_165 hP hD hS (lv_sub hl [4, 5, 6, 7, 8, 9, 10, 3, 1, 0] rfl) h
      · have h := it_r c_167 h
        refine lv_lload hx hb dL_follows_464 (lv_at hl 2 rfl) ?_
        refine lv_lconst (v := 1) hx hb dL_follows_466 (by decide) ?_
        refine lv_ladd hx hb dL_follows_467 ?_
        refine lv_goto (tgt := 474) hx hb dL_follows_468 (by decide) ?_
        refine W.widen (k := 580) (n := 3524) (by omega) (by omega) ?_
        exact hC_474 x2_417 x4_417 x5_417 x6_417 x7_417 t0_417 v_157 v_160 (v_154 + 1) v_164 X_166 w_165 _ _ _ hw_165 hP hD hS (lv_sub hl [4, 5, 6, 7, 8, 9, 10, 3, 1, 0] rfl) h
  have hC_397 : ∀ (x2_397 : Int64) (x4_397 : Int32) (x5_397 : Int32) (x6_397 : Int32) (x7_397 : Int64) (t0_397 : Int32) (X_397 : XV) (w_397 : va_W) (H : Heap) (locs : List Loc) (ls : Array Slot), Ob k cA nA tA X_397 w_397 → va_P D vwCl (w_397 ++ []) H → va_D A (w_397 ++ []) → va_S A s.heap H locs → lv_has ls 37 [(0, .ref (cA 0)), (1, .int p1), (2, .long x2_397), (4, .int x4_397), (5, .int x5_397), (6, .int x6_397), (7, .long x7_397)] → f_L_follows_397 p1 x2_397 x4_397 x5_397 x6_397 x7_397 t0_397 X_397 = some o → W p l e ({ frames := 14, cells := 1554, slots := 9530, locals := 749 } : Room) s m args below meth c H locs (557) (3377) (vx_MQ below (Qx D A (.inr B9)) (Xx D A (w) (.inr B9)) args s 1554 9530 A) (F0 m 397 ls [.int t0_397]) := by
    intro x2_397 x4_397 x5_397 x6_397 x7_397 t0_397 X_397 w_397 H locs ls hw_397 hP hD hS hl h
    unfold f_L_follows_397 at h
    refine lv_istore (lv' := [(9, .int t0_397), (0, .ref (cA 0)), (1, .int p1), (2, .long x2_397), (4, .int x4_397), (5, .int x5_397), (6, .int x6_397), (7, .long x7_397)]) hx hb dL_follows_397 hl (by decide) rfl (fun ls hl => ?_)
    refine lv_aload_n hx hb dL_follows_399 rfl (lv_at hl 1 rfl) ?_
    refine lv_iload hx hb dL_follows_400 (lv_at hl 6 rfl) ?_
    refine lv_bipush (v := 7) hx hb dL_follows_402 (by decide) ?_
    obtain ⟨v_169, hv_168, h⟩ := bd_l h
    refine Lo_T (As := [.ref (cA 0), .int x6_397, .int 7]) (rest := []) (wA := w_397) (wr := []) 2 12 (559) (3389) 1554 9530 (co_effect l hst D k cA nA tA X_397 w_397 hw_397 x6_397 7 v_169 hv_168) ⟨hx, hb, hml, hown, hts⟩ (vx_cwSW 3 hts gL_follows_L_effect rfl rfl rfl (by decide +kernel) ⟨Nat.le_of_ble_eq_true rfl, Nat.le_of_ble_eq_true rfl⟩) hK hG hC hP hD hS hA (List.Perm.refl _) rfl hl.1 rfl (Nat.le_of_ble_eq_true rfl) dL_follows_404 ⟨rfl, rfl⟩ ⟨rfl, rfl⟩ (by omega) (by omega) (fun ov w_170 H locs hQ hP hD hS => ?_)
    obtain ⟨rfl, hw_170⟩ := hQ
    refine W.eq (g2 := F0 m 407 ls [.long v_169]) rfl ?_
    refine lv_lconst (v := 0) hx hb dL_follows_407 (by decide) ?_
    refine W.lcmp hx hb dL_follows_408 ?_
    refine lv_if_ne (tgt := 416) hx hb dL_follows_409 (by decide) (fun c_171 => ?_) (fun c_171 => ?_)
    · have h := it_r c_171 h
      refine lv_iconst (v := 0) hx hb dL_follows_416 (by decide) ?_
      refine W.widen (k := 559) (n := 3389) (by omega) (by omega) ?_
      exact hC_417 x2_397 x4_397 x5_397 x6_397 x7_397 t0_397 0 X_397 w_170 _ _ _ hw_170 hP hD hS (lv_sub hl [1, 2, 3, 4, 5, 6, 7, 0] rfl) h
    · have h := it_l c_171 h
      refine lv_iconst (v := 1) hx hb dL_follows_412 (by decide) ?_
      refine lv_goto (tgt := 417) hx hb dL_follows_413 (by decide) ?_
      refine W.widen (k := 559) (n := 3389) (by omega) (by omega) ?_
      exact hC_417 x2_397 x4_397 x5_397 x6_397 x7_397 t0_397 1 X_397 w_170 _ _ _ hw_170 hP hD hS (lv_sub hl [1, 2, 3, 4, 5, 6, 7, 0] rfl) h
  have hC_396 : ∀ (x2_396 : Int64) (x4_396 : Int32) (x5_396 : Int32) (x6_396 : Int32) (x7_396 : Int64) (X_396 : XV) (w_396 : va_W) (H : Heap) (locs : List Loc) (ls : Array Slot), Ob k cA nA tA X_396 w_396 → va_P D vwCl (w_396 ++ []) H → va_D A (w_396 ++ []) → va_S A s.heap H locs → lv_has ls 37 [(0, .ref (cA 0)), (1, .int p1), (2, .long x2_396), (4, .int x4_396), (5, .int x5_396), (6, .int x6_396), (7, .long x7_396)] → f_L_follows_396 p1 x2_396 x4_396 x5_396 x6_396 x7_396 X_396 = some o → W p l e ({ frames := 14, cells := 1554, slots := 9530, locals := 749 } : Room) s m args below meth c H locs (557) (3377) (vx_MQ below (Qx D A (.inr B9)) (Xx D A (w) (.inr B9)) args s 1554 9530 A) (F0 m 396 ls []) := by
    intro x2_396 x4_396 x5_396 x6_396 x7_396 X_396 w_396 H locs ls hw_396 hP hD hS hl h
    unfold f_L_follows_396 at h
    refine lv_iconst (v := 0) hx hb dL_follows_396 (by decide) ?_
    refine W.widen (k := 557) (n := 3377) (by omega) (by omega) ?_
    exact hC_397 x2_396 x4_396 x5_396 x6_396 x7_396 0 X_396 w_396 _ _ _ hw_396 hP hD hS (lv_sub hl [0, 1, 2, 3, 4, 5, 6] rfl) h
  have hC_305 : ∀ (x2_305 : Int64) (x4_305 : Int32) (x5_305 : Int32) (x6_305 : Int32) (x7_305 : Int64) (x9_305 : Int32) (x12_305 : Int64) (x14_305 : Int64) (X_305 : XV) (g0_305 : Nat → Int64) (g1_305 : Nat → Int64) (w_305 : va_W) (a0_305 : Nat) (a1_305 : Nat) (H : Heap) (locs : List Loc) (ls : Array Slot), Ob k cA nA tA X_305 w_305 → va_P D vwCl (w_305 ++ ([(a0_305, .inl (k 4, 10, .inr (.inl g0_305)))] ++ [(a1_305, .inl (k 4, 10, .inr (.inl g1_305)))])) H → va_D A (w_305 ++ ([(a0_305, .inl (k 4, 10, .inr (.inl g0_305)))] ++ [(a1_305, .inl (k 4, 10, .inr (.inl g1_305)))])) → va_S A s.heap H locs → lv_has ls 37 [(0, .ref (cA 0)), (1, .int p1), (2, .long x2_305), (4, .int x4_305), (5, .int x5_305), (6, .int x6_305), (7, .long x7_305), (9, .int x9_305), (10, .ref a0_305), (11, .ref a1_305), (12, .long x12_305), (14, .long x14_305)] → f_L_follows_305 p1 x2_305 x4_305 x5_305 x6_305 x7_305 x9_305 x12_305 x14_305 X_305 g0_305 g1_305 = some o → W p l e ({ frames := 14, cells := 1554, slots := 9530, locals := 749 } : Room) s m args below meth c H locs (320) (1946) (vx_MQ below (Qx D A (.inr B9)) (Xx D A (w) (.inr B9)) args s 1554 9530 A) (F0 m 305 ls []) := by
    intro x2_305 x4_305 x5_305 x6_305 x7_305 x9_305 x12_305 x14_305 X_305 g0_305 g1_305 w_305 a0_305 a1_305 H locs ls hw_305 hP hD hS hl h
    unfold f_L_follows_305 at h
    refine lv_iload hx hb dL_follows_305 (lv_at hl 7 rfl) ?_
    refine lv_if_eq (tgt := 396) hx hb dL_follows_307 (by decide) (fun c_172 => ?_) (fun c_172 => ?_)
    · have h := it_l c_172 h
      have hP := P_n (P_l hP)
      have hD := D_n (D_l hD)
      refine W.widen (k := 557) (n := 3377) (by omega) (by omega) ?_
      exact hC_396 x2_305 x4_305 x5_305 x6_305 x7_305 X_305 w_305 _ _ _ hw_305 hP hD hS (lv_sub hl [0, 1, 2, 3, 4, 5, 6] rfl) h
    · have h := it_r c_172 h
      refine lv_aload_n hx hb dL_follows_310 rfl (lv_at hl 0 rfl) ?_
      refine lv_bipush (v := 8) hx hb dL_follows_311 (by decide) ?_
      obtain ⟨v_174, hv_173, h⟩ := bd_l h
      refine Lo_T (As := [.ref (cA 0), .int 8]) (rest := []) (wA := w_305) (wr := ([(a0_305, .inl (k 4, 10, .inr (.inl g0_305)))] ++ [(a1_305, .inl (k 4, 10, .inr (.inl g1_305)))])) 1 6 (321) (1952) 1554 9530 (co_about l hst D k cA nA tA X_305 w_305 hw_305 8 v_174 hv_173) ⟨hx, hb, hml, hown, hts⟩ (vx_cwSW 2 hts gL_follows_L_about rfl rfl rfl (by decide +kernel) ⟨Nat.le_of_ble_eq_true rfl, Nat.le_of_ble_eq_true rfl⟩) hK hG hC hP hD hS hA (List.Perm.refl _) rfl hl.1 rfl (Nat.le_of_ble_eq_true rfl) dL_follows_313 ⟨rfl, rfl⟩ ⟨rfl, rfl⟩ (by omega) (by omega) (fun ov w_175 H locs hQ hP hD hS => ?_)
      obtain ⟨rfl, hw_175⟩ := hQ
      refine W.eq (g2 := F0 m 316 ls [.long v_174]) rfl ?_
      refine lv_lload hx hb dL_follows_316 (lv_at hl 10 rfl) ?_
      refine lv_aload hx hb dL_follows_318 (lv_at hl 9 rfl) ?_
      refine lv_iconst (v := 5) hx hb dL_follows_320 (by decide) ?_
      have hP : va_P D vwCl (([(a0_305, .inl (k 4, 10, .inr (.inl g0_305)))] ++ [(a1_305, .inl (k 4, 10, .inr (.inl g1_305)))]) ++ w_175) H := P_perm List.perm_append_comm hP
      have hD : va_D A (([(a0_305, .inl (k 4, 10, .inr (.inl g0_305)))] ++ [(a1_305, .inl (k 4, 10, .inr (.inl g1_305)))]) ++ w_175) := D_perm List.perm_append_comm hD
      refine va_lald hx hb hK hP 1 4 rfl rfl (inb_vp (by decide)) dL_follows_321 ?_
      refine W.eq (g2 := F0 m 322 ls [.long (g1_305 5), .long x12_305, .long v_174]) rfl ?_
      refine lv_ladd hx hb dL_follows_322 ?_
      refine lv_aload hx hb dL_follows_323 (lv_at hl 9 rfl) ?_
      refine lv_bipush (v := 7) hx hb dL_follows_325 (by decide) ?_
      refine va_lald hx hb hK hP 1 4 rfl rfl (inb_vp (by decide)) dL_follows_327 ?_
      refine W.eq (g2 := F0 m 328 ls [.long (g1_305 7), .long (x12_305 + (g1_305 5)), .long v_174]) rfl ?_
      refine lv_lsub hx hb dL_follows_328 ?_
      refine lv_aload hx hb dL_follows_329 (lv_at hl 9 rfl) ?_
      refine lv_iconst (v := 1) hx hb dL_follows_331 (by decide) ?_
      refine va_lald hx hb hK hP 1 4 rfl rfl (inb_vp (by decide)) dL_follows_332 ?_
      refine W.eq (g2 := F0 m 333 ls [.long (g1_305 1), .long ((x12_305 + (g1_305 5)) - (g1_305 7)), .long v_174]) rfl ?_
      refine lv_lsub hx hb dL_follows_333 ?_
      refine W.lcmp hx hb dL_follows_334 ?_
      refine lv_if_ne (tgt := 396) hx hb dL_follows_335 (by decide) (fun c_176 => ?_) (fun c_176 => ?_)
      · have h := it_r c_176 h
        have hP : va_P D vwCl (w_175 ++ ([(a0_305, .inl (k 4, 10, .inr (.inl g0_305)))] ++ [(a1_305, .inl (k 4, 10, .inr (.inl g1_305)))])) H := P_perm List.perm_append_comm hP
        have hD : va_D A (w_175 ++ ([(a0_305, .inl (k 4, 10, .inr (.inl g0_305)))] ++ [(a1_305, .inl (k 4, 10, .inr (.inl g1_305)))])) := D_perm List.perm_append_comm hD
        have hP := P_n (P_l hP)
        have hD := D_n (D_l hD)
        refine W.widen (k := 557) (n := 3377) (by omega) (by omega) ?_
        exact hC_396 x2_305 x4_305 x5_305 x6_305 x7_305 X_305 w_175 _ _ _ hw_175 hP hD hS (lv_sub hl [0, 1, 2, 3, 4, 5, 6] rfl) h
      · have h := it_l c_176 h
        refine lv_aload_n hx hb dL_follows_338 rfl (lv_at hl 0 rfl) ?_
        refine lv_bipush (v := 9) hx hb dL_follows_339 (by decide) ?_
        obtain ⟨v_178, hv_177, h⟩ := bd_l h
        refine Lo_T (As := [.ref (cA 0), .int 9]) (rest := []) (wA := w_175) (wr := ([(a0_305, .inl (k 4, 10, .inr (.inl g0_305)))] ++ [(a1_305, .inl (k 4, 10, .inr (.inl g1_305)))])) 1 6 (322) (1958) 1554 9530 (co_about l hst D k cA nA tA X_305 w_175 hw_175 9 v_178 hv_177) ⟨hx, hb, hml, hown, hts⟩ (vx_cwSW 2 hts gL_follows_L_about rfl rfl rfl (by decide +kernel) ⟨Nat.le_of_ble_eq_true rfl, Nat.le_of_ble_eq_true rfl⟩) hK hG hC hP hD hS hA (List.perm_append_comm) rfl hl.1 rfl (Nat.le_of_ble_eq_true rfl) dL_follows_341 ⟨rfl, rfl⟩ ⟨rfl, rfl⟩ (by omega) (by omega) (fun ov w_179 H locs hQ hP hD hS => ?_)
        obtain ⟨rfl, hw_179⟩ := hQ
        refine W.eq (g2 := F0 m 344 ls [.long v_178]) rfl ?_
        refine lv_lload hx hb dL_follows_344 (lv_at hl 11 rfl) ?_
        refine lv_aload hx hb dL_follows_346 (lv_at hl 9 rfl) ?_
        refine lv_bipush (v := 6) hx hb dL_follows_348 (by decide) ?_
        have hP : va_P D vwCl (([(a0_305, .inl (k 4, 10, .inr (.inl g0_305)))] ++ [(a1_305, .inl (k 4, 10, .inr (.inl g1_305)))]) ++ w_179) H := P_perm List.perm_append_comm hP
        have hD : va_D A (([(a0_305, .inl (k 4, 10, .inr (.inl g0_305)))] ++ [(a1_305, .inl (k 4, 10, .inr (.inl g1_305)))]) ++ w_179) := D_perm List.perm_append_comm hD
        refine va_lald hx hb hK hP 1 4 rfl rfl (inb_vp (by decide)) dL_follows_350 ?_
        refine W.eq (g2 := F0 m 351 ls [.long (g1_305 6), .long x14_305, .long v_178]) rfl ?_
        refine lv_ladd hx hb dL_follows_351 ?_
        refine lv_aload hx hb dL_follows_352 (lv_at hl 9 rfl) ?_
        refine lv_bipush (v := 8) hx hb dL_follows_354 (by decide) ?_
        refine va_lald hx hb hK hP 1 4 rfl rfl (inb_vp (by decide)) dL_follows_356 ?_
        refine W.eq (g2 := F0 m 357 ls [.long (g1_305 8), .long (x14_305 + (g1_305 6)), .long v_178]) rfl ?_
        refine lv_lsub hx hb dL_follows_357 ?_
        refine W.lcmp hx hb dL_follows_358 ?_
        refine lv_if_ne (tgt := 396) hx hb dL_follows_359 (by decide) (fun c_180 => ?_) (fun c_180 => ?_)
        · have h := it_r c_180 h
          have hP : va_P D vwCl (w_179 ++ ([(a0_305, .inl (k 4, 10, .inr (.inl g0_305)))] ++ [(a1_305, .inl (k 4, 10, .inr (.inl g1_305)))])) H := P_perm List.perm_append_comm hP
          have hD : va_D A (w_179 ++ ([(a0_305, .inl (k 4, 10, .inr (.inl g0_305)))] ++ [(a1_305, .inl (k 4, 10, .inr (.inl g1_305)))])) := D_perm List.perm_append_comm hD
          have hP := P_n (P_l hP)
          have hD := D_n (D_l hD)
          refine W.widen (k := 557) (n := 3377) (by omega) (by omega) ?_
          exact hC_396 x2_305 x4_305 x5_305 x6_305 x7_305 X_305 w_179 _ _ _ hw_179 hP hD hS (lv_sub hl [0, 1, 2, 3, 4, 5, 6] rfl) h
        · have h := it_l c_180 h
          refine lv_aload hx hb dL_follows_362 (lv_at hl 9 rfl) ?_
          refine lv_bipush (v := 9) hx hb dL_follows_364 (by decide) ?_
          refine va_lald hx hb hK hP 1 4 rfl rfl (inb_vp (by decide)) dL_follows_366 ?_
          refine W.eq (g2 := F0 m 367 ls [.long (g1_305 9)]) rfl ?_
          refine lv_iload hx hb dL_follows_367 (lv_at hl 4 rfl) ?_
          refine lv_i2l hx hb dL_follows_369 rfl ?_
          refine W.lcmp hx hb dL_follows_370 ?_
          refine lv_if_gt (tgt := 396) hx hb dL_follows_371 (by decide) (fun c_181 => ?_) (fun c_181 => ?_)
          · have h := it_l c_181 h
            have hP : va_P D vwCl (w_179 ++ ([(a0_305, .inl (k 4, 10, .inr (.inl g0_305)))] ++ [(a1_305, .inl (k 4, 10, .inr (.inl g1_305)))])) H := P_perm List.perm_append_comm hP
            have hD : va_D A (w_179 ++ ([(a0_305, .inl (k 4, 10, .inr (.inl g0_305)))] ++ [(a1_305, .inl (k 4, 10, .inr (.inl g1_305)))])) := D_perm List.perm_append_comm hD
            have hP := P_n (P_l hP)
            have hD := D_n (D_l hD)
            refine W.widen (k := 557) (n := 3377) (by omega) (by omega) ?_
            exact hC_396 x2_305 x4_305 x5_305 x6_305 x7_305 X_305 w_179 _ _ _ hw_179 hP hD hS (lv_sub hl [0, 1, 2, 3, 4, 5, 6] rfl) h
          · have h := it_r c_181 h
            refine lv_aload_n hx hb dL_follows_374 rfl (lv_at hl 0 rfl) ?_
            obtain ⟨⟨v_183, X_185⟩, hv_182, h⟩ := bd_l h
            refine Lo_T (As := [.ref (cA 0)]) (rest := []) (wA := w_179) (wr := ([(a0_305, .inl (k 4, 10, .inr (.inl g0_305)))] ++ [(a1_305, .inl (k 4, 10, .inr (.inl g1_305)))])) 11 75 (333) (2033) 1554 9530 (co_undo l hst D k cA nA tA X_305 w_179 hw_179 (v_183, X_185) hv_182) ⟨hx, hb, hml, hown, hts⟩ (vx_cwSW 1 hts gL_follows_L_undo rfl rfl rfl (by decide +kernel) ⟨Nat.le_of_ble_eq_true rfl, Nat.le_of_ble_eq_true rfl⟩) hK hG hC hP hD hS hA (List.perm_append_comm) rfl hl.1 rfl (Nat.le_of_ble_eq_true rfl) dL_follows_375 ⟨rfl, rfl⟩ ⟨rfl, rfl⟩ (by omega) (by omega) (fun ov w_184 H locs hQ hP hD hS => ?_)
            obtain ⟨rfl, hw_184⟩ := hQ
            refine W.eq (g2 := F0 m 378 ls [.long v_183]) rfl ?_
            refine lv_lconst (v := 0) hx hb dL_follows_378 (by decide) ?_
            refine W.lcmp hx hb dL_follows_379 ?_
            refine lv_if_lt (tgt := 396) hx hb dL_follows_380 (by decide) (fun c_186 => ?_) (fun c_186 => ?_)
            · have h := it_l c_186 h
              have hP := P_n (P_l hP)
              have hD := D_n (D_l hD)
              refine W.widen (k := 557) (n := 3377) (by omega) (by omega) ?_
              exact hC_396 x2_305 x4_305 x5_305 x6_305 x7_305 X_185 w_184 _ _ _ hw_184 hP hD hS (lv_sub hl [0, 1, 2, 3, 4, 5, 6] rfl) h
            · have h := it_r c_186 h
              refine lv_aload_n hx hb dL_follows_383 rfl (lv_at hl 0 rfl) ?_
              obtain ⟨v_188, hv_187, h⟩ := bd_l h
              refine Lo_S (As := [.ref (cA 0)]) (rest := []) (wA := w_184) (wr := ([(a0_305, .inl (k 4, 10, .inr (.inl g0_305)))] ++ [(a1_305, .inl (k 4, 10, .inr (.inl g1_305)))])) 224 1344 (557) (3377) 1554 9530 (c_L_now l hst D k cA nA tA X_185 w_184 hw_184 v_188 hv_187) ⟨hx, hb, hml, hown, hts⟩ (va_cwS 1 hts gL_follows_L_now rfl rfl rfl (by decide +kernel) ⟨Nat.le_of_ble_eq_true rfl, Nat.le_of_ble_eq_true rfl⟩) hK hG hC hP hD hS hA (List.Perm.refl _) rfl hl.1 rfl (Nat.le_of_ble_eq_true rfl) dL_follows_384 ⟨rfl, rfl⟩ ⟨rfl, rfl⟩ (by omega) (by omega) (fun ov w_189 H locs hQ hP hD hS => ?_)
              obtain ⟨rfl, hw_189⟩ := hQ
              refine W.eq (g2 := F0 m 387 ls [.long v_188]) rfl ?_
              refine lv_lload_n hx hb dL_follows_387 rfl (lv_at hl 2 rfl) ?_
              refine W.lcmp hx hb dL_follows_388 ?_
              refine lv_if_ne (tgt := 396) hx hb dL_follows_389 (by decide) (fun c_190 => ?_) (fun c_190 => ?_)
              · have h := it_r c_190 h
                have hP := P_n (P_l hP)
                have hD := D_n (D_l hD)
                refine W.widen (k := 557) (n := 3377) (by omega) (by omega) ?_
                exact hC_396 x2_305 x4_305 x5_305 x6_305 x7_305 X_185 w_189 _ _ _ hw_189 hP hD hS (lv_sub hl [0, 1, 2, 3, 4, 5, 6] rfl) h
              · have h := it_l c_190 h
                refine lv_iconst (v := 1) hx hb dL_follows_392 (by decide) ?_
                refine lv_goto (tgt := 397) hx hb dL_follows_393 (by decide) ?_
                have hP := P_n (P_l hP)
                have hD := D_n (D_l hD)
                refine W.widen (k := 557) (n := 3377) (by omega) (by omega) ?_
                exact hC_397 x2_305 x4_305 x5_305 x6_305 x7_305 1 X_185 w_189 _ _ _ hw_189 hP hD hS (lv_sub hl [0, 1, 2, 3, 4, 5, 6] rfl) h
  have hC_249 : ∀ (fu_249 : Nat) (x2_249 : Int64) (x4_249 : Int32) (x5_249 : Int32) (x6_249 : Int32) (x7_249 : Int64) (x9_249 : Int32) (x12_249 : Int64) (x14_249 : Int64) (x22_249 : Int32) (X_249 : XV) (g0_249 : Nat → Int64) (g1_249 : Nat → Int64) (w_249 : va_W) (a0_249 : Nat) (a1_249 : Nat) (H : Heap) (locs : List Loc) (ls : Array Slot), fu_249 ≤ 11 → Ob k cA nA tA X_249 w_249 → va_P D vwCl (w_249 ++ ([(a0_249, .inl (k 4, 10, .inr (.inl g0_249)))] ++ [(a1_249, .inl (k 4, 10, .inr (.inl g1_249)))])) H → va_D A (w_249 ++ ([(a0_249, .inl (k 4, 10, .inr (.inl g0_249)))] ++ [(a1_249, .inl (k 4, 10, .inr (.inl g1_249)))])) → va_S A s.heap H locs → lv_has ls 37 [(0, .ref (cA 0)), (1, .int p1), (2, .long x2_249), (4, .int x4_249), (5, .int x5_249), (6, .int x6_249), (7, .long x7_249), (9, .int x9_249), (10, .ref a0_249), (11, .ref a1_249), (12, .long x12_249), (14, .long x14_249), (22, .int x22_249)] → f_L_follows_249 p1 fu_249 x2_249 x4_249 x5_249 x6_249 x7_249 x9_249 x12_249 x14_249 x22_249 X_249 g0_249 g1_249 = some o → W p l e ({ frames := 14, cells := 1554, slots := 9530, locals := 749 } : Room) s m args below meth c H locs ((319 - 1 * fu_249)) ((1940 - 6 * fu_249)) (vx_MQ below (Qx D A (.inr B9)) (Xx D A (w) (.inr B9)) args s 1554 9530 A) (F0 m 249 ls []) := by
    intro fu_249
    induction fu_249 with
    | zero => intro x2_249 x4_249 x5_249 x6_249 x7_249 x9_249 x12_249 x14_249 x22_249 X_249 g0_249 g1_249 w_249 a0_249 a1_249 H locs ls _ _ _ _ _ _ h; exact (no_l h).elim
    | succ fu_249 ih_249 =>
      intro x2_249 x4_249 x5_249 x6_249 x7_249 x9_249 x12_249 x14_249 x22_249 X_249 g0_249 g1_249 w_249 a0_249 a1_249 H locs ls hfu_249 hw_249 hP hD hS hl h
      rw [f_L_follows_249] at h
      refine lv_iload hx hb dL_follows_249 (lv_at hl 12 rfl) ?_
      refine lv_bipush (v := 10) hx hb dL_follows_251 (by decide) ?_
      refine lv_icmp_ge (tgt := 305) hx hb dL_follows_253 (by decide) (fun c_191 => ?_) (fun c_191 => ?_)
      · have h := it_l c_191 h
        refine W.widen (k := 320) (n := 1946) (by omega) (by omega) ?_
        exact hC_305 x2_249 x4_249 x5_249 x6_249 x7_249 x9_249 x12_249 x14_249 X_249 g0_249 g1_249 w_249 a0_249 a1_249 _ _ _ hw_249 hP hD hS (lv_sub hl [0, 1, 2, 3, 4, 5, 6, 7, 8, 9, 10, 11] rfl) h
      · have h := it_r c_191 h
        refine lv_iload hx hb dL_follows_256 (lv_at hl 7 rfl) ?_
        refine lv_if_eq (tgt := 305) hx hb dL_follows_258 (by decide) (fun c_192 => ?_) (fun c_192 => ?_)
        · have h := it_l c_192 h
          refine W.widen (k := 320) (n := 1946) (by omega) (by omega) ?_
          exact hC_305 x2_249 x4_249 x5_249 x6_249 x7_249 x9_249 x12_249 x14_249 X_249 g0_249 g1_249 w_249 a0_249 a1_249 _ _ _ hw_249 hP hD hS (lv_sub hl [0, 1, 2, 3, 4, 5, 6, 7, 8, 9, 10, 11] rfl) h
        · have h := it_r c_192 h
          refine lv_aload_n hx hb dL_follows_261 rfl (lv_at hl 0 rfl) ?_
          refine lv_iload hx hb dL_follows_262 (lv_at hl 12 rfl) ?_
          obtain ⟨v_194, hv_193, h⟩ := bd_l h
          refine Lo_T (As := [.ref (cA 0), .int x22_249]) (rest := []) (wA := w_249) (wr := ([(a0_249, .inl (k 4, 10, .inr (.inl g0_249)))] ++ [(a1_249, .inl (k 4, 10, .inr (.inl g1_249)))])) 1 6 ((319 - 1 * (fu_249 + 1)) + 1) ((1940 - 6 * (fu_249 + 1)) + 6) 1554 9530 (co_total l hst D k cA nA tA X_249 w_249 hw_249 x22_249 v_194 hv_193) ⟨hx, hb, hml, hown, hts⟩ (vx_cwSW 2 hts gL_follows_L_total rfl rfl rfl (by decide +kernel) ⟨Nat.le_of_ble_eq_true rfl, Nat.le_of_ble_eq_true rfl⟩) hK hG hC hP hD hS hA (List.Perm.refl _) rfl hl.1 rfl (Nat.le_of_ble_eq_true rfl) dL_follows_264 ⟨rfl, rfl⟩ ⟨rfl, rfl⟩ (by omega) (by omega) (fun ov w_195 H locs hQ hP hD hS => ?_)
          obtain ⟨rfl, hw_195⟩ := hQ
          refine W.eq (g2 := F0 m 267 ls [.long v_194]) rfl ?_
          refine lv_aload hx hb dL_follows_267 (lv_at hl 8 rfl) ?_
          refine lv_iload hx hb dL_follows_269 (lv_at hl 12 rfl) ?_
          have hP : va_P D vwCl (([(a0_249, .inl (k 4, 10, .inr (.inl g0_249)))] ++ [(a1_249, .inl (k 4, 10, .inr (.inl g1_249)))]) ++ w_195) H := P_perm List.perm_append_comm hP
          have hD : va_D A (([(a0_249, .inl (k 4, 10, .inr (.inl g0_249)))] ++ [(a1_249, .inl (k 4, 10, .inr (.inl g1_249)))]) ++ w_195) := D_perm List.perm_append_comm hD
          have g_196 := inb_vp (gb_l h)
          have h := gb_r h
          refine va_lald hx hb hK hP 0 4 rfl rfl g_196 dL_follows_271 ?_
          refine lv_aload hx hb dL_follows_272 (lv_at hl 9 rfl) ?_
          refine lv_iload hx hb dL_follows_274 (lv_at hl 12 rfl) ?_
          have g_197 := inb_vp (gb_l h)
          have h := gb_r h
          refine va_lald hx hb hK hP 1 4 rfl rfl g_197 dL_follows_276 ?_
          refine lv_ladd hx hb dL_follows_277 ?_
          refine W.lcmp hx hb dL_follows_278 ?_
          refine lv_if_ne (tgt := 296) hx hb dL_follows_279 (by decide) (fun c_198 => ?_) (fun c_198 => ?_)
          · have h := it_r c_198 h
            refine lv_iconst (v := 0) hx hb dL_follows_296 (by decide) ?_
            refine lv_istore (lv' := [(9, .int 0), (0, .ref (cA 0)), (1, .int p1), (2, .long x2_249), (4, .int x4_249), (5, .int x5_249), (6, .int x6_249), (7, .long x7_249), (10, .ref a0_249), (11, .ref a1_249), (12, .long x12_249), (14, .long x14_249), (22, .int x22_249)]) hx hb dL_follows_297 hl (by decide) rfl (fun ls hl => ?_)
            refine lv_iinc (v := (x22_249 + 1)) (lv' := [(22, .int (x22_249 + 1)), (9, .int 0), (0, .ref (cA 0)), (1, .int p1), (2, .long x2_249), (4, .int x4_249), (5, .int x5_249), (6, .int x6_249), (7, .long x7_249), (10, .ref a0_249), (11, .ref a1_249), (12, .long x12_249), (14, .long x14_249)]) hx hb dL_follows_299 hl (k := 12) rfl rfl (by decide) rfl (fun ls hl => ?_)
            refine lv_goto (tgt := 249) hx hb dL_follows_302 (by decide) ?_
            have hP : va_P D vwCl (w_195 ++ ([(a0_249, .inl (k 4, 10, .inr (.inl g0_249)))] ++ [(a1_249, .inl (k 4, 10, .inr (.inl g1_249)))])) H := P_perm List.perm_append_comm hP
            have hD : va_D A (w_195 ++ ([(a0_249, .inl (k 4, 10, .inr (.inl g0_249)))] ++ [(a1_249, .inl (k 4, 10, .inr (.inl g1_249)))])) := D_perm List.perm_append_comm hD
            refine W.widen (k := (319 - 1 * fu_249)) (n := (1940 - 6 * fu_249)) (by omega) (by omega) ?_
            exact ih_249 x2_249 x4_249 x5_249 x6_249 x7_249 0 x12_249 x14_249 (x22_249 + 1) X_249 g0_249 g1_249 w_195 a0_249 a1_249 _ _ _ (by omega) hw_195 hP hD hS (lv_sub hl [2, 3, 4, 5, 6, 7, 8, 1, 9, 10, 11, 12, 0] rfl) h
          · have h := it_l c_198 h
            refine lv_aload hx hb dL_follows_282 (lv_at hl 9 rfl) ?_
            refine lv_iload hx hb dL_follows_284 (lv_at hl 12 rfl) ?_
            have g_199 := inb_vp (gb_l h)
            have h := gb_r h
            refine va_lald hx hb hK hP 1 4 rfl rfl g_199 dL_follows_286 ?_
            refine lv_lconst (v := 0) hx hb dL_follows_287 (by decide) ?_
            refine W.lcmp hx hb dL_follows_288 ?_
            refine lv_if_lt (tgt := 296) hx hb dL_follows_289 (by decide) (fun c_200 => ?_) (fun c_200 => ?_)
            · have h := it_l c_200 h
              refine lv_iconst (v := 0) hx hb dL_follows_296 (by decide) ?_
              refine lv_istore (lv' := [(9, .int 0), (0, .ref (cA 0)), (1, .int p1), (2, .long x2_249), (4, .int x4_249), (5, .int x5_249), (6, .int x6_249), (7, .long x7_249), (10, .ref a0_249), (11, .ref a1_249), (12, .long x12_249), (14, .long x14_249), (22, .int x22_249)]) hx hb dL_follows_297 hl (by decide) rfl (fun ls hl => ?_)
              refine lv_iinc (v := (x22_249 + 1)) (lv' := [(22, .int (x22_249 + 1)), (9, .int 0), (0, .ref (cA 0)), (1, .int p1), (2, .long x2_249), (4, .int x4_249), (5, .int x5_249), (6, .int x6_249), (7, .long x7_249), (10, .ref a0_249), (11, .ref a1_249), (12, .long x12_249), (14, .long x14_249)]) hx hb dL_follows_299 hl (k := 12) rfl rfl (by decide) rfl (fun ls hl => ?_)
              refine lv_goto (tgt := 249) hx hb dL_follows_302 (by decide) ?_
              have hP : va_P D vwCl (w_195 ++ ([(a0_249, .inl (k 4, 10, .inr (.inl g0_249)))] ++ [(a1_249, .inl (k 4, 10, .inr (.inl g1_249)))])) H := P_perm List.perm_append_comm hP
              have hD : va_D A (w_195 ++ ([(a0_249, .inl (k 4, 10, .inr (.inl g0_249)))] ++ [(a1_249, .inl (k 4, 10, .inr (.inl g1_249)))])) := D_perm List.perm_append_comm hD
              refine W.widen (k := (319 - 1 * fu_249)) (n := (1940 - 6 * fu_249)) (by omega) (by omega) ?_
              exact ih_249 x2_249 x4_249 x5_249 x6_249 x7_249 0 x12_249 x14_249 (x22_249 + 1) X_249 g0_249 g1_249 w_195 a0_249 a1_249 _ _ _ (by omega) hw_195 hP hD hS (lv_sub hl [2, 3, 4, 5, 6, 7, 8, 1, 9, 10, 11, 12, 0] rfl) h
            · have h := it_r c_200 h
              refine lv_iconst (v := 1) hx hb dL_follows_292 (by decide) ?_
              refine lv_goto (tgt := 297) hx hb dL_follows_293 (by decide) ?_
              refine lv_istore (lv' := [(9, .int 1), (0, .ref (cA 0)), (1, .int p1), (2, .long x2_249), (4, .int x4_249), (5, .int x5_249), (6, .int x6_249), (7, .long x7_249), (10, .ref a0_249), (11, .ref a1_249), (12, .long x12_249), (14, .long x14_249), (22, .int x22_249)]) hx hb dL_follows_297 hl (by decide) rfl (fun ls hl => ?_)
              refine lv_iinc (v := (x22_249 + 1)) (lv' := [(22, .int (x22_249 + 1)), (9, .int 1), (0, .ref (cA 0)), (1, .int p1), (2, .long x2_249), (4, .int x4_249), (5, .int x5_249), (6, .int x6_249), (7, .long x7_249), (10, .ref a0_249), (11, .ref a1_249), (12, .long x12_249), (14, .long x14_249)]) hx hb dL_follows_299 hl (k := 12) rfl rfl (by decide) rfl (fun ls hl => ?_)
              refine lv_goto (tgt := 249) hx hb dL_follows_302 (by decide) ?_
              have hP : va_P D vwCl (w_195 ++ ([(a0_249, .inl (k 4, 10, .inr (.inl g0_249)))] ++ [(a1_249, .inl (k 4, 10, .inr (.inl g1_249)))])) H := P_perm List.perm_append_comm hP
              have hD : va_D A (w_195 ++ ([(a0_249, .inl (k 4, 10, .inr (.inl g0_249)))] ++ [(a1_249, .inl (k 4, 10, .inr (.inl g1_249)))])) := D_perm List.perm_append_comm hD
              refine W.widen (k := (319 - 1 * fu_249)) (n := (1940 - 6 * fu_249)) (by omega) (by omega) ?_
              exact ih_249 x2_249 x4_249 x5_249 x6_249 x7_249 1 x12_249 x14_249 (x22_249 + 1) X_249 g0_249 g1_249 w_195 a0_249 a1_249 _ _ _ (by omega) hw_195 hP hD hS (lv_sub hl [2, 3, 4, 5, 6, 7, 8, 1, 9, 10, 11, 12, 0] rfl) h
  have hC_164 : ∀ (x2_164 : Int64) (x4_164 : Int32) (x5_164 : Int32) (x6_164 : Int32) (x7_164 : Int64) (x9_164 : Int32) (x12_164 : Int64) (x14_164 : Int64) (x16_164 : Int64) (x18_164 : Int64) (t0_164 : Int64) (X_164 : XV) (g0_164 : Nat → Int64) (g1_164 : Nat → Int64) (w_164 : va_W) (a0_164 : Nat) (a1_164 : Nat) (H : Heap) (locs : List Loc) (ls : Array Slot), Ob k cA nA tA X_164 w_164 → va_P D vwCl (w_164 ++ ([(a0_164, .inl (k 4, 10, .inr (.inl g0_164)))] ++ [(a1_164, .inl (k 4, 10, .inr (.inl g1_164)))])) H → va_D A (w_164 ++ ([(a0_164, .inl (k 4, 10, .inr (.inl g0_164)))] ++ [(a1_164, .inl (k 4, 10, .inr (.inl g1_164)))])) → va_S A s.heap H locs → lv_has ls 37 [(0, .ref (cA 0)), (1, .int p1), (2, .long x2_164), (4, .int x4_164), (5, .int x5_164), (6, .int x6_164), (7, .long x7_164), (9, .int x9_164), (10, .ref a0_164), (11, .ref a1_164), (12, .long x12_164), (14, .long x14_164), (16, .long x16_164), (18, .long x18_164)] → f_L_follows_164 p1 x2_164 x4_164 x5_164 x6_164 x7_164 x9_164 x12_164 x14_164 x16_164 x18_164 t0_164 X_164 g0_164 g1_164 = some o → W p l e ({ frames := 14, cells := 1554, slots := 9530, locals := 749 } : Room) s m args below meth c H locs (291) (1763) (vx_MQ below (Qx D A (.inr B9)) (Xx D A (w) (.inr B9)) args s 1554 9530 A) (F0 m 164 ls [.long t0_164]) := by
    intro x2_164 x4_164 x5_164 x6_164 x7_164 x9_164 x12_164 x14_164 x16_164 x18_164 t0_164 X_164 g0_164 g1_164 w_164 a0_164 a1_164 H locs ls hw_164 hP hD hS hl h
    unfold f_L_follows_164 at h
    refine lv_lstore (lv' := [(20, .long t0_164), (0, .ref (cA 0)), (1, .int p1), (2, .long x2_164), (4, .int x4_164), (5, .int x5_164), (6, .int x6_164), (7, .long x7_164), (9, .int x9_164), (10, .ref a0_164), (11, .ref a1_164), (12, .long x12_164), (14, .long x14_164), (16, .long x16_164), (18, .long x18_164)]) hx hb dL_follows_164 hl (by decide) rfl (fun ls hl => ?_)
    refine lv_iload hx hb dL_follows_166 (lv_at hl 8 rfl) ?_
    refine lv_if_eq (tgt := 243) hx hb dL_follows_168 (by decide) (fun c_201 => ?_) (fun c_201 => ?_)
    · have h := it_l c_201 h
      refine lv_iconst (v := 0) hx hb dL_follows_243 (by decide) ?_
      refine lv_istore (lv' := [(9, .int 0), (20, .long t0_164), (0, .ref (cA 0)), (1, .int p1), (2, .long x2_164), (4, .int x4_164), (5, .int x5_164), (6, .int x6_164), (7, .long x7_164), (10, .ref a0_164), (11, .ref a1_164), (12, .long x12_164), (14, .long x14_164), (16, .long x16_164), (18, .long x18_164)]) hx hb dL_follows_244 hl (by decide) rfl (fun ls hl => ?_)
      refine lv_iconst (v := 0) hx hb dL_follows_246 (by decide) ?_
      refine lv_istore (lv' := [(22, .int 0), (9, .int 0), (20, .long t0_164), (0, .ref (cA 0)), (1, .int p1), (2, .long x2_164), (4, .int x4_164), (5, .int x5_164), (6, .int x6_164), (7, .long x7_164), (10, .ref a0_164), (11, .ref a1_164), (12, .long x12_164), (14, .long x14_164), (16, .long x16_164), (18, .long x18_164)]) hx hb dL_follows_247 hl (by decide) rfl (fun ls hl => ?_)
      refine W.widen (k := (319 - 1 * 11)) (n := (1940 - 6 * 11)) (by omega) (by omega) ?_
      exact hC_249 11 x2_164 x4_164 x5_164 x6_164 x7_164 0 x12_164 x14_164 0 X_164 g0_164 g1_164 w_164 a0_164 a1_164 _ _ _ (Nat.le_refl _) hw_164 hP hD hS (lv_sub hl [3, 4, 5, 6, 7, 8, 9, 1, 10, 11, 12, 13, 0] rfl) h
    · have h := it_r c_201 h
      refine lv_aload_n hx hb dL_follows_171 rfl (lv_at hl 1 rfl) ?_
      refine lv_iload hx hb dL_follows_172 (lv_at hl 5 rfl) ?_
      obtain ⟨⟨v_203, X_205⟩, hv_202, h⟩ := bd_l h
      refine Lo_T (As := [.ref (cA 0), .int x5_164]) (rest := []) (wA := w_164) (wr := ([(a0_164, .inl (k 4, 10, .inr (.inl g0_164)))] ++ [(a1_164, .inl (k 4, 10, .inr (.inl g1_164)))])) 12 81 (303) (1844) 1554 9530 (co_tick l hst D k cA nA tA X_164 w_164 hw_164 x5_164 (v_203, X_205) hv_202) ⟨hx, hb, hml, hown, hts⟩ (vx_cwSW 2 hts gL_follows_L_tick rfl rfl rfl (by decide +kernel) ⟨Nat.le_of_ble_eq_true rfl, Nat.le_of_ble_eq_true rfl⟩) hK hG hC hP hD hS hA (List.Perm.refl _) rfl hl.1 rfl (Nat.le_of_ble_eq_true rfl) dL_follows_174 ⟨rfl, rfl⟩ ⟨rfl, rfl⟩ (by omega) (by omega) (fun ov w_204 H locs hQ hP hD hS => ?_)
      obtain ⟨rfl, hw_204⟩ := hQ
      refine W.eq (g2 := F0 m 177 ls [.long v_203]) rfl ?_
      refine lv_aload hx hb dL_follows_177 (lv_at hl 10 rfl) ?_
      refine lv_iconst (v := 1) hx hb dL_follows_179 (by decide) ?_
      have hP : va_P D vwCl (([(a0_164, .inl (k 4, 10, .inr (.inl g0_164)))] ++ [(a1_164, .inl (k 4, 10, .inr (.inl g1_164)))]) ++ w_204) H := P_perm List.perm_append_comm hP
      have hD : va_D A (([(a0_164, .inl (k 4, 10, .inr (.inl g0_164)))] ++ [(a1_164, .inl (k 4, 10, .inr (.inl g1_164)))]) ++ w_204) := D_perm List.perm_append_comm hD
      refine va_lald hx hb hK hP 1 4 rfl rfl (inb_vp (by decide)) dL_follows_180 ?_
      refine W.eq (g2 := F0 m 181 ls [.long (g1_164 1), .long v_203]) rfl ?_
      refine W.lcmp hx hb dL_follows_181 ?_
      refine lv_if_ne (tgt := 243) hx hb dL_follows_182 (by decide) (fun c_206 => ?_) (fun c_206 => ?_)
      · have h := it_r c_206 h
        refine lv_iconst (v := 0) hx hb dL_follows_243 (by decide) ?_
        refine lv_istore (lv' := [(9, .int 0), (20, .long t0_164), (0, .ref (cA 0)), (1, .int p1), (2, .long x2_164), (4, .int x4_164), (5, .int x5_164), (6, .int x6_164), (7, .long x7_164), (10, .ref a0_164), (11, .ref a1_164), (12, .long x12_164), (14, .long x14_164), (16, .long x16_164), (18, .long x18_164)]) hx hb dL_follows_244 hl (by decide) rfl (fun ls hl => ?_)
        refine lv_iconst (v := 0) hx hb dL_follows_246 (by decide) ?_
        refine lv_istore (lv' := [(22, .int 0), (9, .int 0), (20, .long t0_164), (0, .ref (cA 0)), (1, .int p1), (2, .long x2_164), (4, .int x4_164), (5, .int x5_164), (6, .int x6_164), (7, .long x7_164), (10, .ref a0_164), (11, .ref a1_164), (12, .long x12_164), (14, .long x14_164), (16, .long x16_164), (18, .long x18_164)]) hx hb dL_follows_247 hl (by decide) rfl (fun ls hl => ?_)
        have hP : va_P D vwCl (w_204 ++ ([(a0_164, .inl (k 4, 10, .inr (.inl g0_164)))] ++ [(a1_164, .inl (k 4, 10, .inr (.inl g1_164)))])) H := P_perm List.perm_append_comm hP
        have hD : va_D A (w_204 ++ ([(a0_164, .inl (k 4, 10, .inr (.inl g0_164)))] ++ [(a1_164, .inl (k 4, 10, .inr (.inl g1_164)))])) := D_perm List.perm_append_comm hD
        refine W.widen (k := (319 - 1 * 11)) (n := (1940 - 6 * 11)) (by omega) (by omega) ?_
        exact hC_249 11 x2_164 x4_164 x5_164 x6_164 x7_164 0 x12_164 x14_164 0 X_205 g0_164 g1_164 w_204 a0_164 a1_164 _ _ _ (Nat.le_refl _) hw_204 hP hD hS (lv_sub hl [3, 4, 5, 6, 7, 8, 9, 1, 10, 11, 12, 13, 0] rfl) h
      · have h := it_l c_206 h
        refine lv_aload_n hx hb dL_follows_185 rfl (lv_at hl 1 rfl) ?_
        refine lv_bipush (v := 6) hx hb dL_follows_186 (by decide) ?_
        obtain ⟨v_208, hv_207, h⟩ := bd_l h
        refine Lo_T (As := [.ref (cA 0), .int 6]) (rest := []) (wA := w_204) (wr := ([(a0_164, .inl (k 4, 10, .inr (.inl g0_164)))] ++ [(a1_164, .inl (k 4, 10, .inr (.inl g1_164)))])) 1 6 (304) (1850) 1554 9530 (co_about l hst D k cA nA tA X_205 w_204 hw_204 6 v_208 hv_207) ⟨hx, hb, hml, hown, hts⟩ (vx_cwSW 2 hts gL_follows_L_about rfl rfl rfl (by decide +kernel) ⟨Nat.le_of_ble_eq_true rfl, Nat.le_of_ble_eq_true rfl⟩) hK hG hC hP hD hS hA (List.perm_append_comm) rfl hl.1 rfl (Nat.le_of_ble_eq_true rfl) dL_follows_188 ⟨rfl, rfl⟩ ⟨rfl, rfl⟩ (by omega) (by omega) (fun ov w_209 H locs hQ hP hD hS => ?_)
        obtain ⟨rfl, hw_209⟩ := hQ
        refine W.eq (g2 := F0 m 191 ls [.long v_208]) rfl ?_
        refine lv_lload hx hb dL_follows_191 (lv_at hl 7 rfl) ?_
        refine lv_iload hx hb dL_follows_193 (lv_at hl 5 rfl) ?_
        refine lv_i2l hx hb dL_follows_195 rfl ?_
        refine lv_ladd hx hb dL_follows_196 ?_
        refine W.lcmp hx hb dL_follows_197 ?_
        refine lv_if_ne (tgt := 243) hx hb dL_follows_198 (by decide) (fun c_210 => ?_) (fun c_210 => ?_)
        · have h := it_r c_210 h
          refine lv_iconst (v := 0) hx hb dL_follows_243 (by decide) ?_
          refine lv_istore (lv' := [(9, .int 0), (20, .long t0_164), (0, .ref (cA 0)), (1, .int p1), (2, .long x2_164), (4, .int x4_164), (5, .int x5_164), (6, .int x6_164), (7, .long x7_164), (10, .ref a0_164), (11, .ref a1_164), (12, .long x12_164), (14, .long x14_164), (16, .long x16_164), (18, .long x18_164)]) hx hb dL_follows_244 hl (by decide) rfl (fun ls hl => ?_)
          refine lv_iconst (v := 0) hx hb dL_follows_246 (by decide) ?_
          refine lv_istore (lv' := [(22, .int 0), (9, .int 0), (20, .long t0_164), (0, .ref (cA 0)), (1, .int p1), (2, .long x2_164), (4, .int x4_164), (5, .int x5_164), (6, .int x6_164), (7, .long x7_164), (10, .ref a0_164), (11, .ref a1_164), (12, .long x12_164), (14, .long x14_164), (16, .long x16_164), (18, .long x18_164)]) hx hb dL_follows_247 hl (by decide) rfl (fun ls hl => ?_)
          refine W.widen (k := (319 - 1 * 11)) (n := (1940 - 6 * 11)) (by omega) (by omega) ?_
          exact hC_249 11 x2_164 x4_164 x5_164 x6_164 x7_164 0 x12_164 x14_164 0 X_205 g0_164 g1_164 w_209 a0_164 a1_164 _ _ _ (Nat.le_refl _) hw_209 hP hD hS (lv_sub hl [3, 4, 5, 6, 7, 8, 9, 1, 10, 11, 12, 13, 0] rfl) h
        · have h := it_l c_210 h
          refine lv_aload_n hx hb dL_follows_201 rfl (lv_at hl 1 rfl) ?_
          refine lv_iload hx hb dL_follows_202 (lv_at hl 6 rfl) ?_
          refine lv_iconst (v := 5) hx hb dL_follows_204 (by decide) ?_
          obtain ⟨v_212, hv_211, h⟩ := bd_l h
          refine Lo_T (As := [.ref (cA 0), .int x6_164, .int 5]) (rest := []) (wA := w_209) (wr := ([(a0_164, .inl (k 4, 10, .inr (.inl g0_164)))] ++ [(a1_164, .inl (k 4, 10, .inr (.inl g1_164)))])) 2 12 (306) (1862) 1554 9530 (co_effect l hst D k cA nA tA X_205 w_209 hw_209 x6_164 5 v_212 hv_211) ⟨hx, hb, hml, hown, hts⟩ (vx_cwSW 3 hts gL_follows_L_effect rfl rfl rfl (by decide +kernel) ⟨Nat.le_of_ble_eq_true rfl, Nat.le_of_ble_eq_true rfl⟩) hK hG hC hP hD hS hA (List.Perm.refl _) rfl hl.1 rfl (Nat.le_of_ble_eq_true rfl) dL_follows_205 ⟨rfl, rfl⟩ ⟨rfl, rfl⟩ (by omega) (by omega) (fun ov w_213 H locs hQ hP hD hS => ?_)
          obtain ⟨rfl, hw_213⟩ := hQ
          refine W.eq (g2 := F0 m 208 ls [.long v_212]) rfl ?_
          refine lv_lload hx hb dL_follows_208 (lv_at hl 13 rfl) ?_
          refine W.lcmp hx hb dL_follows_210 ?_
          refine lv_if_ne (tgt := 243) hx hb dL_follows_211 (by decide) (fun c_214 => ?_) (fun c_214 => ?_)
          · have h := it_r c_214 h
            refine lv_iconst (v := 0) hx hb dL_follows_243 (by decide) ?_
            refine lv_istore (lv' := [(9, .int 0), (20, .long t0_164), (0, .ref (cA 0)), (1, .int p1), (2, .long x2_164), (4, .int x4_164), (5, .int x5_164), (6, .int x6_164), (7, .long x7_164), (10, .ref a0_164), (11, .ref a1_164), (12, .long x12_164), (14, .long x14_164), (16, .long x16_164), (18, .long x18_164)]) hx hb dL_follows_244 hl (by decide) rfl (fun ls hl => ?_)
            refine lv_iconst (v := 0) hx hb dL_follows_246 (by decide) ?_
            refine lv_istore (lv' := [(22, .int 0), (9, .int 0), (20, .long t0_164), (0, .ref (cA 0)), (1, .int p1), (2, .long x2_164), (4, .int x4_164), (5, .int x5_164), (6, .int x6_164), (7, .long x7_164), (10, .ref a0_164), (11, .ref a1_164), (12, .long x12_164), (14, .long x14_164), (16, .long x16_164), (18, .long x18_164)]) hx hb dL_follows_247 hl (by decide) rfl (fun ls hl => ?_)
            refine W.widen (k := (319 - 1 * 11)) (n := (1940 - 6 * 11)) (by omega) (by omega) ?_
            exact hC_249 11 x2_164 x4_164 x5_164 x6_164 x7_164 0 x12_164 x14_164 0 X_205 g0_164 g1_164 w_213 a0_164 a1_164 _ _ _ (Nat.le_refl _) hw_213 hP hD hS (lv_sub hl [3, 4, 5, 6, 7, 8, 9, 1, 10, 11, 12, 13, 0] rfl) h
          · have h := it_l c_214 h
            refine lv_aload_n hx hb dL_follows_214 rfl (lv_at hl 1 rfl) ?_
            refine lv_iload hx hb dL_follows_215 (lv_at hl 6 rfl) ?_
            refine lv_iconst (v := 1) hx hb dL_follows_217 (by decide) ?_
            obtain ⟨v_216, hv_215, h⟩ := bd_l h
            refine Lo_T (As := [.ref (cA 0), .int x6_164, .int 1]) (rest := []) (wA := w_213) (wr := ([(a0_164, .inl (k 4, 10, .inr (.inl g0_164)))] ++ [(a1_164, .inl (k 4, 10, .inr (.inl g1_164)))])) 2 12 (308) (1874) 1554 9530 (co_effect l hst D k cA nA tA X_205 w_213 hw_213 x6_164 1 v_216 hv_215) ⟨hx, hb, hml, hown, hts⟩ (vx_cwSW 3 hts gL_follows_L_effect rfl rfl rfl (by decide +kernel) ⟨Nat.le_of_ble_eq_true rfl, Nat.le_of_ble_eq_true rfl⟩) hK hG hC hP hD hS hA (List.Perm.refl _) rfl hl.1 rfl (Nat.le_of_ble_eq_true rfl) dL_follows_218 ⟨rfl, rfl⟩ ⟨rfl, rfl⟩ (by omega) (by omega) (fun ov w_217 H locs hQ hP hD hS => ?_)
            obtain ⟨rfl, hw_217⟩ := hQ
            refine W.eq (g2 := F0 m 221 ls [.long v_216]) rfl ?_
            refine lv_lload hx hb dL_follows_221 (lv_at hl 14 rfl) ?_
            refine W.lcmp hx hb dL_follows_223 ?_
            refine lv_if_ne (tgt := 243) hx hb dL_follows_224 (by decide) (fun c_218 => ?_) (fun c_218 => ?_)
            · have h := it_r c_218 h
              refine lv_iconst (v := 0) hx hb dL_follows_243 (by decide) ?_
              refine lv_istore (lv' := [(9, .int 0), (20, .long t0_164), (0, .ref (cA 0)), (1, .int p1), (2, .long x2_164), (4, .int x4_164), (5, .int x5_164), (6, .int x6_164), (7, .long x7_164), (10, .ref a0_164), (11, .ref a1_164), (12, .long x12_164), (14, .long x14_164), (16, .long x16_164), (18, .long x18_164)]) hx hb dL_follows_244 hl (by decide) rfl (fun ls hl => ?_)
              refine lv_iconst (v := 0) hx hb dL_follows_246 (by decide) ?_
              refine lv_istore (lv' := [(22, .int 0), (9, .int 0), (20, .long t0_164), (0, .ref (cA 0)), (1, .int p1), (2, .long x2_164), (4, .int x4_164), (5, .int x5_164), (6, .int x6_164), (7, .long x7_164), (10, .ref a0_164), (11, .ref a1_164), (12, .long x12_164), (14, .long x14_164), (16, .long x16_164), (18, .long x18_164)]) hx hb dL_follows_247 hl (by decide) rfl (fun ls hl => ?_)
              refine W.widen (k := (319 - 1 * 11)) (n := (1940 - 6 * 11)) (by omega) (by omega) ?_
              exact hC_249 11 x2_164 x4_164 x5_164 x6_164 x7_164 0 x12_164 x14_164 0 X_205 g0_164 g1_164 w_217 a0_164 a1_164 _ _ _ (Nat.le_refl _) hw_217 hP hD hS (lv_sub hl [3, 4, 5, 6, 7, 8, 9, 1, 10, 11, 12, 13, 0] rfl) h
            · have h := it_l c_218 h
              refine lv_lload hx hb dL_follows_227 (lv_at hl 0 rfl) ?_
              refine lv_lconst (v := 0) hx hb dL_follows_229 (by decide) ?_
              refine lv_iload hx hb dL_follows_230 (lv_at hl 5 rfl) ?_
              refine lv_i2l hx hb dL_follows_232 rfl ?_
              obtain ⟨v_220, hv_219, h⟩ := bd_l h
              refine Lo_S (As := [.long t0_164, .long 0, .long (x5_164.toInt64)]) (rest := []) (wA := []) (wr := w_217 ++ ([(a0_164, .inl (k 4, 10, .inr (.inl g0_164)))] ++ [(a1_164, .inl (k 4, 10, .inr (.inl g1_164)))])) 0 0 (308) (1874) 1554 9530 (c_L_in l hst D k t0_164 0 (x5_164.toInt64) v_220 hv_219) ⟨hx, hb, hml, hown, hts⟩ (va_cwS 3 hts gL_follows_L_in rfl rfl rfl (by decide +kernel) ⟨Nat.le_of_ble_eq_true rfl, Nat.le_of_ble_eq_true rfl⟩) hK hG hC hP hD hS hA (List.Perm.refl _) rfl hl.1 rfl (Nat.le_of_ble_eq_true rfl) dL_follows_233 ⟨rfl, rfl⟩ ⟨rfl, rfl⟩ (by omega) (by omega) (fun ov w9 H locs hQ hP hD hS => ?_)
              obtain ⟨rfl, rfl⟩ := hQ
              have hP : va_P D vwCl (w_217 ++ ([(a0_164, .inl (k 4, 10, .inr (.inl g0_164)))] ++ [(a1_164, .inl (k 4, 10, .inr (.inl g1_164)))])) H := hP
              have hD : va_D A (w_217 ++ ([(a0_164, .inl (k 4, 10, .inr (.inl g0_164)))] ++ [(a1_164, .inl (k 4, 10, .inr (.inl g1_164)))])) := hD
              refine W.eq (g2 := F0 m 236 ls [.int v_220]) rfl ?_
              refine lv_if_eq (tgt := 243) hx hb dL_follows_236 (by decide) (fun c_221 => ?_) (fun c_221 => ?_)
              · have h := it_l c_221 h
                refine lv_iconst (v := 0) hx hb dL_follows_243 (by decide) ?_
                refine lv_istore (lv' := [(9, .int 0), (20, .long t0_164), (0, .ref (cA 0)), (1, .int p1), (2, .long x2_164), (4, .int x4_164), (5, .int x5_164), (6, .int x6_164), (7, .long x7_164), (10, .ref a0_164), (11, .ref a1_164), (12, .long x12_164), (14, .long x14_164), (16, .long x16_164), (18, .long x18_164)]) hx hb dL_follows_244 hl (by decide) rfl (fun ls hl => ?_)
                refine lv_iconst (v := 0) hx hb dL_follows_246 (by decide) ?_
                refine lv_istore (lv' := [(22, .int 0), (9, .int 0), (20, .long t0_164), (0, .ref (cA 0)), (1, .int p1), (2, .long x2_164), (4, .int x4_164), (5, .int x5_164), (6, .int x6_164), (7, .long x7_164), (10, .ref a0_164), (11, .ref a1_164), (12, .long x12_164), (14, .long x14_164), (16, .long x16_164), (18, .long x18_164)]) hx hb dL_follows_247 hl (by decide) rfl (fun ls hl => ?_)
                refine W.widen (k := (319 - 1 * 11)) (n := (1940 - 6 * 11)) (by omega) (by omega) ?_
                exact hC_249 11 x2_164 x4_164 x5_164 x6_164 x7_164 0 x12_164 x14_164 0 X_205 g0_164 g1_164 w_217 a0_164 a1_164 _ _ _ (Nat.le_refl _) hw_217 hP hD hS (lv_sub hl [3, 4, 5, 6, 7, 8, 9, 1, 10, 11, 12, 13, 0] rfl) h
              · have h := it_r c_221 h
                refine lv_iconst (v := 1) hx hb dL_follows_239 (by decide) ?_
                refine lv_goto (tgt := 244) hx hb dL_follows_240 (by decide) ?_
                refine lv_istore (lv' := [(9, .int 1), (20, .long t0_164), (0, .ref (cA 0)), (1, .int p1), (2, .long x2_164), (4, .int x4_164), (5, .int x5_164), (6, .int x6_164), (7, .long x7_164), (10, .ref a0_164), (11, .ref a1_164), (12, .long x12_164), (14, .long x14_164), (16, .long x16_164), (18, .long x18_164)]) hx hb dL_follows_244 hl (by decide) rfl (fun ls hl => ?_)
                refine lv_iconst (v := 0) hx hb dL_follows_246 (by decide) ?_
                refine lv_istore (lv' := [(22, .int 0), (9, .int 1), (20, .long t0_164), (0, .ref (cA 0)), (1, .int p1), (2, .long x2_164), (4, .int x4_164), (5, .int x5_164), (6, .int x6_164), (7, .long x7_164), (10, .ref a0_164), (11, .ref a1_164), (12, .long x12_164), (14, .long x14_164), (16, .long x16_164), (18, .long x18_164)]) hx hb dL_follows_247 hl (by decide) rfl (fun ls hl => ?_)
                refine W.widen (k := (319 - 1 * 11)) (n := (1940 - 6 * 11)) (by omega) (by omega) ?_
                exact hC_249 11 x2_164 x4_164 x5_164 x6_164 x7_164 1 x12_164 x14_164 0 X_205 g0_164 g1_164 w_217 a0_164 a1_164 _ _ _ (Nat.le_refl _) hw_217 hP hD hS (lv_sub hl [3, 4, 5, 6, 7, 8, 9, 1, 10, 11, 12, 13, 0] rfl) h
  have hC_69 : ∀ (fu_69 : Nat) (x2_69 : Int64) (x4_69 : Int32) (x5_69 : Int32) (x6_69 : Int32) (x7_69 : Int64) (x9_69 : Int32) (x12_69 : Int32) (X_69 : XV) (g0_69 : Nat → Int64) (g1_69 : Nat → Int64) (w_69 : va_W) (a0_69 : Nat) (a1_69 : Nat) (H : Heap) (locs : List Loc) (ls : Array Slot), fu_69 ≤ 11 → Ob k cA nA tA X_69 w_69 → va_P D vwCl (w_69 ++ ([(a0_69, .inl (k 4, 10, .inr (.inl g0_69)))] ++ [(a1_69, .inl (k 4, 10, .inr (.inl g1_69)))])) H → va_D A (w_69 ++ ([(a0_69, .inl (k 4, 10, .inr (.inl g0_69)))] ++ [(a1_69, .inl (k 4, 10, .inr (.inl g1_69)))])) → va_S A s.heap H locs → lv_has ls 37 [(0, .ref (cA 0)), (1, .int p1), (2, .long x2_69), (4, .int x4_69), (5, .int x5_69), (6, .int x6_69), (7, .long x7_69), (9, .int x9_69), (10, .ref a0_69), (11, .ref a1_69), (12, .int x12_69)] → f_L_follows_69 p1 fu_69 x2_69 x4_69 x5_69 x6_69 x7_69 x9_69 x12_69 X_69 g0_69 g1_69 = some o → W p l e ({ frames := 14, cells := 1554, slots := 9530, locals := 749 } : Room) s m args below meth c H locs ((273 - 3 * fu_69)) ((1655 - 18 * fu_69)) (vx_MQ below (Qx D A (.inr B9)) (Xx D A (w) (.inr B9)) args s 1554 9530 A) (F0 m 69 ls []) := by
    intro fu_69
    induction fu_69 with
    | zero => intro x2_69 x4_69 x5_69 x6_69 x7_69 x9_69 x12_69 X_69 g0_69 g1_69 w_69 a0_69 a1_69 H locs ls _ _ _ _ _ _ h; exact (no_l h).elim
    | succ fu_69 ih_69 =>
      intro x2_69 x4_69 x5_69 x6_69 x7_69 x9_69 x12_69 X_69 g0_69 g1_69 w_69 a0_69 a1_69 H locs ls hfu_69 hw_69 hP hD hS hl h
      rw [f_L_follows_69] at h
      refine lv_iload hx hb dL_follows_69 (lv_at hl 10 rfl) ?_
      refine lv_bipush (v := 10) hx hb dL_follows_71 (by decide) ?_
      refine lv_icmp_ge (tgt := 106) hx hb dL_follows_73 (by decide) (fun c_222 => ?_) (fun c_222 => ?_)
      · have h := it_l c_222 h
        refine lv_aload_n hx hb dL_follows_106 rfl (lv_at hl 0 rfl) ?_
        refine lv_bipush (v := 8) hx hb dL_follows_107 (by decide) ?_
        obtain ⟨v_224, hv_223, h⟩ := bd_l h
        refine Lo_T (As := [.ref (cA 0), .int 8]) (rest := []) (wA := w_69) (wr := ([(a0_69, .inl (k 4, 10, .inr (.inl g0_69)))] ++ [(a1_69, .inl (k 4, 10, .inr (.inl g1_69)))])) 1 6 ((273 - 3 * (fu_69 + 1)) + 1) ((1655 - 18 * (fu_69 + 1)) + 6) 1554 9530 (co_about l hst D k cA nA tA X_69 w_69 hw_69 8 v_224 hv_223) ⟨hx, hb, hml, hown, hts⟩ (vx_cwSW 2 hts gL_follows_L_about rfl rfl rfl (by decide +kernel) ⟨Nat.le_of_ble_eq_true rfl, Nat.le_of_ble_eq_true rfl⟩) hK hG hC hP hD hS hA (List.Perm.refl _) rfl hl.1 rfl (Nat.le_of_ble_eq_true rfl) dL_follows_109 ⟨rfl, rfl⟩ ⟨rfl, rfl⟩ (by omega) (by omega) (fun ov w_225 H locs hQ hP hD hS => ?_)
        obtain ⟨rfl, hw_225⟩ := hQ
        refine W.eq (g2 := F0 m 112 ls [.long v_224]) rfl ?_
        refine lv_lstore (lv' := [(12, .long v_224), (0, .ref (cA 0)), (1, .int p1), (2, .long x2_69), (4, .int x4_69), (5, .int x5_69), (6, .int x6_69), (7, .long x7_69), (9, .int x9_69), (10, .ref a0_69), (11, .ref a1_69)]) hx hb dL_follows_112 hl (by decide) rfl (fun ls hl => ?_)
        refine lv_aload_n hx hb dL_follows_114 rfl (lv_at hl 1 rfl) ?_
        refine lv_bipush (v := 9) hx hb dL_follows_115 (by decide) ?_
        obtain ⟨v_227, hv_226, h⟩ := bd_l h
        refine Lo_T (As := [.ref (cA 0), .int 9]) (rest := []) (wA := w_225) (wr := ([(a0_69, .inl (k 4, 10, .inr (.inl g0_69)))] ++ [(a1_69, .inl (k 4, 10, .inr (.inl g1_69)))])) 1 6 ((273 - 3 * (fu_69 + 1)) + 2) ((1655 - 18 * (fu_69 + 1)) + 12) 1554 9530 (co_about l hst D k cA nA tA X_69 w_225 hw_225 9 v_227 hv_226) ⟨hx, hb, hml, hown, hts⟩ (vx_cwSW 2 hts gL_follows_L_about rfl rfl rfl (by decide +kernel) ⟨Nat.le_of_ble_eq_true rfl, Nat.le_of_ble_eq_true rfl⟩) hK hG hC hP hD hS hA (List.Perm.refl _) rfl hl.1 rfl (Nat.le_of_ble_eq_true rfl) dL_follows_117 ⟨rfl, rfl⟩ ⟨rfl, rfl⟩ (by omega) (by omega) (fun ov w_228 H locs hQ hP hD hS => ?_)
        obtain ⟨rfl, hw_228⟩ := hQ
        refine W.eq (g2 := F0 m 120 ls [.long v_227]) rfl ?_
        refine lv_lstore (lv' := [(14, .long v_227), (12, .long v_224), (0, .ref (cA 0)), (1, .int p1), (2, .long x2_69), (4, .int x4_69), (5, .int x5_69), (6, .int x6_69), (7, .long x7_69), (9, .int x9_69), (10, .ref a0_69), (11, .ref a1_69)]) hx hb dL_follows_120 hl (by decide) rfl (fun ls hl => ?_)
        refine lv_aload_n hx hb dL_follows_122 rfl (lv_at hl 2 rfl) ?_
        refine lv_iload hx hb dL_follows_123 (lv_at hl 7 rfl) ?_
        refine lv_iload hx hb dL_follows_125 (lv_at hl 6 rfl) ?_
        refine lv_iconst (v := 5) hx hb dL_follows_127 (by decide) ?_
        obtain ⟨v_230, hv_229, h⟩ := bd_l h
        refine Lo_T (As := [.ref (cA 0), .int x6_69, .int x5_69, .int 5]) (rest := []) (wA := w_228) (wr := ([(a0_69, .inl (k 4, 10, .inr (.inl g0_69)))] ++ [(a1_69, .inl (k 4, 10, .inr (.inl g1_69)))])) 3 18 ((273 - 3 * (fu_69 + 1)) + 5) ((1655 - 18 * (fu_69 + 1)) + 30) 1554 9530 (co_ahead l hst D k cA nA tA X_69 w_228 hw_228 x6_69 x5_69 5 v_230 hv_229) ⟨hx, hb, hml, hown, hts⟩ (vx_cwSW 4 hts gL_follows_L_ahead rfl rfl rfl (by decide +kernel) ⟨Nat.le_of_ble_eq_true rfl, Nat.le_of_ble_eq_true rfl⟩) hK hG hC hP hD hS hA (List.Perm.refl _) rfl hl.1 rfl (Nat.le_of_ble_eq_true rfl) dL_follows_128 ⟨rfl, rfl⟩ ⟨rfl, rfl⟩ (by omega) (by omega) (fun ov w_231 H locs hQ hP hD hS => ?_)
        obtain ⟨rfl, hw_231⟩ := hQ
        refine W.eq (g2 := F0 m 131 ls [.long v_230]) rfl ?_
        refine lv_lstore (lv' := [(16, .long v_230), (14, .long v_227), (12, .long v_224), (0, .ref (cA 0)), (1, .int p1), (2, .long x2_69), (4, .int x4_69), (5, .int x5_69), (6, .int x6_69), (7, .long x7_69), (9, .int x9_69), (10, .ref a0_69), (11, .ref a1_69)]) hx hb dL_follows_131 hl (by decide) rfl (fun ls hl => ?_)
        refine lv_aload_n hx hb dL_follows_133 rfl (lv_at hl 3 rfl) ?_
        refine lv_iload hx hb dL_follows_134 (lv_at hl 8 rfl) ?_
        refine lv_iload hx hb dL_follows_136 (lv_at hl 7 rfl) ?_
        refine lv_iconst (v := 1) hx hb dL_follows_138 (by decide) ?_
        obtain ⟨v_233, hv_232, h⟩ := bd_l h
        refine Lo_T (As := [.ref (cA 0), .int x6_69, .int x5_69, .int 1]) (rest := []) (wA := w_231) (wr := ([(a0_69, .inl (k 4, 10, .inr (.inl g0_69)))] ++ [(a1_69, .inl (k 4, 10, .inr (.inl g1_69)))])) 3 18 ((273 - 3 * (fu_69 + 1)) + 8) ((1655 - 18 * (fu_69 + 1)) + 48) 1554 9530 (co_ahead l hst D k cA nA tA X_69 w_231 hw_231 x6_69 x5_69 1 v_233 hv_232) ⟨hx, hb, hml, hown, hts⟩ (vx_cwSW 4 hts gL_follows_L_ahead rfl rfl rfl (by decide +kernel) ⟨Nat.le_of_ble_eq_true rfl, Nat.le_of_ble_eq_true rfl⟩) hK hG hC hP hD hS hA (List.Perm.refl _) rfl hl.1 rfl (Nat.le_of_ble_eq_true rfl) dL_follows_139 ⟨rfl, rfl⟩ ⟨rfl, rfl⟩ (by omega) (by omega) (fun ov w_234 H locs hQ hP hD hS => ?_)
        obtain ⟨rfl, hw_234⟩ := hQ
        refine W.eq (g2 := F0 m 142 ls [.long v_233]) rfl ?_
        refine lv_lstore (lv' := [(18, .long v_233), (16, .long v_230), (14, .long v_227), (12, .long v_224), (0, .ref (cA 0)), (1, .int p1), (2, .long x2_69), (4, .int x4_69), (5, .int x5_69), (6, .int x6_69), (7, .long x7_69), (9, .int x9_69), (10, .ref a0_69), (11, .ref a1_69)]) hx hb dL_follows_142 hl (by decide) rfl (fun ls hl => ?_)
        refine lv_lload hx hb dL_follows_144 (lv_at hl 1 rfl) ?_
        refine lv_lconst (v := 0) hx hb dL_follows_146 (by decide) ?_
        refine W.lcmp hx hb dL_follows_147 ?_
        refine lv_if_ne (tgt := 155) hx hb dL_follows_148 (by decide) (fun c_235 => ?_) (fun c_235 => ?_)
        · have h := it_r c_235 h
          refine lv_aload_n hx hb dL_follows_155 rfl (lv_at hl 4 rfl) ?_
          refine lv_iload hx hb dL_follows_156 (lv_at hl 9 rfl) ?_
          refine lv_lload hx hb dL_follows_158 (lv_at hl 1 rfl) ?_
          refine lv_l2i hx hb dL_follows_160 rfl ?_
          obtain ⟨v_237, hv_236, h⟩ := bd_l h
          refine Lo_T (As := [.ref (cA 0), .int x6_69, .int (v_230.toInt32)]) (rest := []) (wA := w_234) (wr := ([(a0_69, .inl (k 4, 10, .inr (.inl g0_69)))] ++ [(a1_69, .inl (k 4, 10, .inr (.inl g1_69)))])) 7 42 ((273 - 3 * (fu_69 + 1)) + 15) ((1655 - 18 * (fu_69 + 1)) + 90) 1554 9530 (co_scaledAfter l hst D k cA nA tA X_69 w_234 hw_234 x6_69 (v_230.toInt32) v_237 hv_236) ⟨hx, hb, hml, hown, hts⟩ (vx_cwSW 3 hts gL_follows_L_scaledAfter rfl rfl rfl (by decide +kernel) ⟨Nat.le_of_ble_eq_true rfl, Nat.le_of_ble_eq_true rfl⟩) hK hG hC hP hD hS hA (List.Perm.refl _) rfl hl.1 rfl (Nat.le_of_ble_eq_true rfl) dL_follows_161 ⟨rfl, rfl⟩ ⟨rfl, rfl⟩ (by omega) (by omega) (fun ov w_238 H locs hQ hP hD hS => ?_)
          obtain ⟨rfl, hw_238⟩ := hQ
          refine W.eq (g2 := F0 m 164 ls [.long v_237]) rfl ?_
          refine W.widen (k := 291) (n := 1763) (by omega) (by omega) ?_
          exact hC_164 x2_69 x4_69 x5_69 x6_69 x7_69 x9_69 v_224 v_227 v_230 v_233 v_237 X_69 g0_69 g1_69 w_238 a0_69 a1_69 _ _ _ hw_238 hP hD hS (lv_sub hl [4, 5, 6, 7, 8, 9, 10, 11, 12, 13, 3, 2, 1, 0] rfl) h
        · have h := it_l c_235 h
          refine lv_lconst (v := 0) hx hb dL_follows_151 (by decide) ?_
          refine lv_goto (tgt := 164) hx hb dL_follows_152 (by decide) ?_
          refine W.widen (k := 291) (n := 1763) (by omega) (by omega) ?_
          exact hC_164 x2_69 x4_69 x5_69 x6_69 x7_69 x9_69 v_224 v_227 v_230 v_233 0 X_69 g0_69 g1_69 w_234 a0_69 a1_69 _ _ _ hw_234 hP hD hS (lv_sub hl [4, 5, 6, 7, 8, 9, 10, 11, 12, 13, 3, 2, 1, 0] rfl) h
      · have h := it_r c_222 h
        refine lv_aload hx hb dL_follows_76 (lv_at hl 8 rfl) ?_
        refine lv_iload hx hb dL_follows_78 (lv_at hl 10 rfl) ?_
        refine lv_aload_n hx hb dL_follows_80 rfl (lv_at hl 0 rfl) ?_
        refine lv_iload hx hb dL_follows_81 (lv_at hl 10 rfl) ?_
        obtain ⟨v_240, hv_239, h⟩ := bd_l h
        refine Lo_T (As := [.ref (cA 0), .int x12_69]) (rest := [.int x12_69, .ref a0_69]) (wA := w_69) (wr := ([(a0_69, .inl (k 4, 10, .inr (.inl g0_69)))] ++ [(a1_69, .inl (k 4, 10, .inr (.inl g1_69)))])) 1 6 ((273 - 3 * (fu_69 + 1)) + 1) ((1655 - 18 * (fu_69 + 1)) + 6) 1554 9530 (co_total l hst D k cA nA tA X_69 w_69 hw_69 x12_69 v_240 hv_239) ⟨hx, hb, hml, hown, hts⟩ (vx_cwSW 2 hts gL_follows_L_total rfl rfl rfl (by decide +kernel) ⟨Nat.le_of_ble_eq_true rfl, Nat.le_of_ble_eq_true rfl⟩) hK hG hC hP hD hS hA (List.Perm.refl _) rfl hl.1 rfl (Nat.le_of_ble_eq_true rfl) dL_follows_83 ⟨rfl, rfl⟩ ⟨rfl, rfl⟩ (by omega) (by omega) (fun ov w_241 H locs hQ hP hD hS => ?_)
        obtain ⟨rfl, hw_241⟩ := hQ
        refine W.eq (g2 := F0 m 86 ls [.long v_240, .int x12_69, .ref a0_69]) rfl ?_
        have hP : va_P D vwCl (([(a0_69, .inl (k 4, 10, .inr (.inl g0_69)))] ++ [(a1_69, .inl (k 4, 10, .inr (.inl g1_69)))]) ++ w_241) H := P_perm List.perm_append_comm hP
        have hD : va_D A (([(a0_69, .inl (k 4, 10, .inr (.inl g0_69)))] ++ [(a1_69, .inl (k 4, 10, .inr (.inl g1_69)))]) ++ w_241) := D_perm List.perm_append_comm hD
        have g_242 := inb_vp (gb_l h)
        have h := gb_r h
        refine va_last hx hb hK hP hD hS 0 4 rfl rfl g_242 dL_follows_86 (fun H locs hP hD hS => ?_)
        obtain ⟨g_243, eg_243⟩ : ∃ y : Nat → Int64, y = vp_updL g0_69 x12_69.toNatClampNeg v_240 := ⟨_, rfl⟩
        have hP : va_P D vwCl (([(a0_69, .inl (k 4, 10, .inr (.inl g_243)))] ++ [(a1_69, .inl (k 4, 10, .inr (.inl g1_69)))]) ++ w_241) H := by rw [eg_243]; exact hP
        have hD : va_D A (([(a0_69, .inl (k 4, 10, .inr (.inl g_243)))] ++ [(a1_69, .inl (k 4, 10, .inr (.inl g1_69)))]) ++ w_241) := by rw [eg_243]; exact hD
        have h := nm_l h eg_243
        refine lv_aload hx hb dL_follows_87 (lv_at hl 9 rfl) ?_
        refine lv_iload hx hb dL_follows_89 (lv_at hl 10 rfl) ?_
        refine lv_aload_n hx hb dL_follows_91 rfl (lv_at hl 0 rfl) ?_
        refine lv_iload hx hb dL_follows_92 (lv_at hl 4 rfl) ?_
        refine lv_iload hx hb dL_follows_94 (lv_at hl 10 rfl) ?_
        obtain ⟨v_245, hv_244, h⟩ := bd_l h
        refine Lo_T (As := [.ref (cA 0), .int x5_69, .int x12_69]) (rest := [.int x12_69, .ref a1_69]) (wA := w_241) (wr := ([(a0_69, .inl (k 4, 10, .inr (.inl g_243)))] ++ [(a1_69, .inl (k 4, 10, .inr (.inl g1_69)))])) 2 12 ((273 - 3 * (fu_69 + 1)) + 3) ((1655 - 18 * (fu_69 + 1)) + 18) 1554 9530 (co_growth l hst D k cA nA tA X_69 w_241 hw_241 x5_69 x12_69 v_245 hv_244) ⟨hx, hb, hml, hown, hts⟩ (vx_cwSW 3 hts gL_follows_L_growth rfl rfl rfl (by decide +kernel) ⟨Nat.le_of_ble_eq_true rfl, Nat.le_of_ble_eq_true rfl⟩) hK hG hC hP hD hS hA (List.perm_append_comm) rfl hl.1 rfl (Nat.le_of_ble_eq_true rfl) dL_follows_96 ⟨rfl, rfl⟩ ⟨rfl, rfl⟩ (by omega) (by omega) (fun ov w_246 H locs hQ hP hD hS => ?_)
        obtain ⟨rfl, hw_246⟩ := hQ
        refine W.eq (g2 := F0 m 99 ls [.long v_245, .int x12_69, .ref a1_69]) rfl ?_
        have hP : va_P D vwCl (([(a0_69, .inl (k 4, 10, .inr (.inl g_243)))] ++ [(a1_69, .inl (k 4, 10, .inr (.inl g1_69)))]) ++ w_246) H := P_perm List.perm_append_comm hP
        have hD : va_D A (([(a0_69, .inl (k 4, 10, .inr (.inl g_243)))] ++ [(a1_69, .inl (k 4, 10, .inr (.inl g1_69)))]) ++ w_246) := D_perm List.perm_append_comm hD
        have g_247 := inb_vp (gb_l h)
        have h := gb_r h
        refine va_last hx hb hK hP hD hS 1 4 rfl rfl g_247 dL_follows_99 (fun H locs hP hD hS => ?_)
        obtain ⟨g_248, eg_248⟩ : ∃ y : Nat → Int64, y = vp_updL g1_69 x12_69.toNatClampNeg v_245 := ⟨_, rfl⟩
        have hP : va_P D vwCl (([(a0_69, .inl (k 4, 10, .inr (.inl g_243)))] ++ [(a1_69, .inl (k 4, 10, .inr (.inl g_248)))]) ++ w_246) H := by rw [eg_248]; exact hP
        have hD : va_D A (([(a0_69, .inl (k 4, 10, .inr (.inl g_243)))] ++ [(a1_69, .inl (k 4, 10, .inr (.inl g_248)))]) ++ w_246) := by rw [eg_248]; exact hD
        have h := nm_l h eg_248
        refine lv_iinc (v := (x12_69 + 1)) (lv' := [(12, .int (x12_69 + 1)), (0, .ref (cA 0)), (1, .int p1), (2, .long x2_69), (4, .int x4_69), (5, .int x5_69), (6, .int x6_69), (7, .long x7_69), (9, .int x9_69), (10, .ref a0_69), (11, .ref a1_69)]) hx hb dL_follows_100 hl (k := 10) rfl rfl (by decide) rfl (fun ls hl => ?_)
        refine lv_goto (tgt := 69) hx hb dL_follows_103 (by decide) ?_
        have hP : va_P D vwCl (w_246 ++ ([(a0_69, .inl (k 4, 10, .inr (.inl g_243)))] ++ [(a1_69, .inl (k 4, 10, .inr (.inl g_248)))])) H := P_perm List.perm_append_comm hP
        have hD : va_D A (w_246 ++ ([(a0_69, .inl (k 4, 10, .inr (.inl g_243)))] ++ [(a1_69, .inl (k 4, 10, .inr (.inl g_248)))])) := D_perm List.perm_append_comm hD
        refine W.widen (k := (273 - 3 * fu_69)) (n := (1655 - 18 * fu_69)) (by omega) (by omega) ?_
        exact ih_69 x2_69 x4_69 x5_69 x6_69 x7_69 x9_69 (x12_69 + 1) X_69 g_243 g_248 w_246 a0_69 a1_69 _ _ _ (by omega) hw_246 hP hD hS (lv_sub hl [1, 2, 3, 4, 5, 6, 7, 8, 9, 10, 0] rfl) h
  refine lv_aload_n hx hb dL_follows_0 rfl (lv_at hl 0 rfl) ?_
  obtain ⟨v_250, hv_249, h⟩ := bd_l h
  refine Lo_S (As := [.ref (cA 0)]) (rest := []) (wA := w) (wr := []) 224 1344 (224) (1344) 1554 9530 (c_L_now l hst D k cA nA tA X w hw v_250 hv_249) ⟨hx, hb, hml, hown, hts⟩ (va_cwS 1 hts gL_follows_L_now rfl rfl rfl (by decide +kernel) ⟨Nat.le_of_ble_eq_true rfl, Nat.le_of_ble_eq_true rfl⟩) hK hG hC hP hD hS hA (List.Perm.refl _) rfl hl.1 rfl (Nat.le_of_ble_eq_true rfl) dL_follows_1 ⟨rfl, rfl⟩ ⟨rfl, rfl⟩ (by omega) (by omega) (fun ov w_251 H locs hQ hP hD hS => ?_)
  obtain ⟨rfl, hw_251⟩ := hQ
  refine W.eq (g2 := F0 m 4 ls [.long v_250]) rfl ?_
  refine lv_lstore_n (lv' := [(2, .long v_250), (0, .ref (cA 0)), (1, .int p1)]) hx hb dL_follows_4 rfl hl (by decide) rfl (fun ls hl => ?_)
  refine lv_aload_n hx hb dL_follows_5 rfl (lv_at hl 1 rfl) ?_
  obtain ⟨v_253, hv_252, h⟩ := bd_l h
  refine Lo_S (As := [.ref (cA 0)]) (rest := []) (wA := w_251) (wr := []) 1 6 (225) (1350) 1554 9530 (c_L_effects l hst D k cA nA tA X w_251 hw_251 v_253 hv_252) ⟨hx, hb, hml, hown, hts⟩ (va_cwS 1 hts gL_follows_L_effects rfl rfl rfl (by decide +kernel) ⟨Nat.le_of_ble_eq_true rfl, Nat.le_of_ble_eq_true rfl⟩) hK hG hC hP hD hS hA (List.Perm.refl _) rfl hl.1 rfl (Nat.le_of_ble_eq_true rfl) dL_follows_6 ⟨rfl, rfl⟩ ⟨rfl, rfl⟩ (by omega) (by omega) (fun ov w_254 H locs hQ hP hD hS => ?_)
  obtain ⟨rfl, hw_254⟩ := hQ
  refine W.eq (g2 := F0 m 9 ls [.int v_253]) rfl ?_
  refine lv_istore (lv' := [(4, .int v_253), (2, .long v_250), (0, .ref (cA 0)), (1, .int p1)]) hx hb dL_follows_9 hl (by decide) rfl (fun ls hl => ?_)
  refine lv_iconst (v := 1) hx hb dL_follows_11 (by decide) ?_
  refine lv_iload_n hx hb dL_follows_12 rfl (lv_at hl 3 rfl) ?_
  refine lv_bipush (v := 50) hx hb dL_follows_13 (by decide) ?_
  refine lv_irem hx hb dL_follows_15 (by decide) ?_
  refine lv_iadd hx hb dL_follows_16 ?_
  refine lv_topi (fun v_255 ev_255 => ?_)
  have h := nm_l h ev_255
  refine lv_istore (lv' := [(5, .int v_255), (4, .int v_253), (2, .long v_250), (0, .ref (cA 0)), (1, .int p1)]) hx hb dL_follows_17 hl (by decide) rfl (fun ls hl => ?_)
  refine lv_iload_n hx hb dL_follows_19 rfl (lv_at hl 4 rfl) ?_
  refine lv_bipush (v := 50) hx hb dL_follows_20 (by decide) ?_
  refine lv_idiv hx hb dL_follows_22 (by decide) ?_
  refine lv_iload hx hb dL_follows_23 (lv_at hl 1 rfl) ?_
  have g_256 := nz_l (gb_l h)
  have h := gb_r h
  refine lv_irem hx hb dL_follows_25 g_256 ?_
  refine lv_topi (fun v_257 ev_257 => ?_)
  have h := nm_l h ev_257
  refine lv_istore (lv' := [(6, .int v_257), (5, .int v_255), (4, .int v_253), (2, .long v_250), (0, .ref (cA 0)), (1, .int p1)]) hx hb dL_follows_26 hl (by decide) rfl (fun ls hl => ?_)
  refine lv_aload_n hx hb dL_follows_28 rfl (lv_at hl 4 rfl) ?_
  refine lv_bipush (v := 6) hx hb dL_follows_29 (by decide) ?_
  obtain ⟨v_259, hv_258, h⟩ := bd_l h
  refine Lo_T (As := [.ref (cA 0), .int 6]) (rest := []) (wA := w_254) (wr := []) 1 6 (226) (1356) 1554 9530 (co_about l hst D k cA nA tA X w_254 hw_254 6 v_259 hv_258) ⟨hx, hb, hml, hown, hts⟩ (vx_cwSW 2 hts gL_follows_L_about rfl rfl rfl (by decide +kernel) ⟨Nat.le_of_ble_eq_true rfl, Nat.le_of_ble_eq_true rfl⟩) hK hG hC hP hD hS hA (List.Perm.refl _) rfl hl.1 rfl (Nat.le_of_ble_eq_true rfl) dL_follows_31 ⟨rfl, rfl⟩ ⟨rfl, rfl⟩ (by omega) (by omega) (fun ov w_260 H locs hQ hP hD hS => ?_)
  obtain ⟨rfl, hw_260⟩ := hQ
  refine W.eq (g2 := F0 m 34 ls [.long v_259]) rfl ?_
  refine lv_lstore (lv' := [(7, .long v_259), (6, .int v_257), (5, .int v_255), (4, .int v_253), (2, .long v_250), (0, .ref (cA 0)), (1, .int p1)]) hx hb dL_follows_34 hl (by decide) rfl (fun ls hl => ?_)
  refine lv_aload_n hx hb dL_follows_36 rfl (lv_at hl 5 rfl) ?_
  refine lv_iconst (v := 1) hx hb dL_follows_37 (by decide) ?_
  obtain ⟨⟨v_262, X_264⟩, hv_261, h⟩ := bd_l h
  refine Lo_T (As := [.ref (cA 0), .int 1]) (rest := []) (wA := w_260) (wr := []) 12 81 (238) (1437) 1554 9530 (co_save l hst D k cA nA tA X w_260 hw_260 1 (v_262, X_264) hv_261) ⟨hx, hb, hml, hown, hts⟩ (vx_cwSW 2 hts gL_follows_L_save rfl rfl rfl (by decide +kernel) ⟨Nat.le_of_ble_eq_true rfl, Nat.le_of_ble_eq_true rfl⟩) hK hG hC hP hD hS hA (List.Perm.refl _) rfl hl.1 rfl (Nat.le_of_ble_eq_true rfl) dL_follows_38 ⟨rfl, rfl⟩ ⟨rfl, rfl⟩ (by omega) (by omega) (fun ov w_263 H locs hQ hP hD hS => ?_)
  obtain ⟨rfl, hw_263⟩ := hQ
  refine W.eq (g2 := F0 m 41 ls [.long v_262]) rfl ?_
  refine lv_lload hx hb dL_follows_41 (lv_at hl 0 rfl) ?_
  refine W.lcmp hx hb dL_follows_43 ?_
  refine lv_if_ne (tgt := 51) hx hb dL_follows_44 (by decide) (fun c_265 => ?_) (fun c_265 => ?_)
  · have h := it_r c_265 h
    refine lv_iconst (v := 0) hx hb dL_follows_51 (by decide) ?_
    refine lv_istore (lv' := [(9, .int 0), (7, .long v_259), (6, .int v_257), (5, .int v_255), (4, .int v_253), (2, .long v_250), (0, .ref (cA 0)), (1, .int p1)]) hx hb dL_follows_52 hl (by decide) rfl (fun ls hl => ?_)
    refine lv_bipush (v := 10) hx hb dL_follows_54 (by decide) ?_
    refine va_newa (atype := .long) (ty := .long) (a0 := (10, .inr (.inl (fun _ => 0)))) (N' := 10) hx hb w_3 rfl hK hP hD hS hA (fun _ => rfl) (by decide) (by decide) (Nat.le_of_ble_eq_true rfl) (by show 238 + 1 ≤ 1554; omega) (by show 1437 + 10 ≤ 9530; omega) dL_follows_56 (fun ar0 c4 H hK1 hP hD hS => ?_)
    have ec4 : c4 = k 4 := kcls_4 hK hK1
    subst ec4; clear hK1
    refine W.widen (k := 239) (n := 1447) (by omega) (by omega) ?_
    have hP : va_P D vwCl (w_263 ++ [(ar0, .inl (k 4, 10, .inr (.inl (fun _ => 0))))]) H := by rw [List.append_assoc] at hP; exact hP
    have hD : va_D A (w_263 ++ [(ar0, .inl (k 4, 10, .inr (.inl (fun _ => 0))))]) := by rw [List.append_assoc] at hD; exact hD
    refine W.eq (g2 := F0 m 58 ls [.ref ar0]) rfl ?_
    refine lv_astore (lv' := [(10, .ref ar0), (9, .int 0), (7, .long v_259), (6, .int v_257), (5, .int v_255), (4, .int v_253), (2, .long v_250), (0, .ref (cA 0)), (1, .int p1)]) hx hb dL_follows_58 hl (by decide) rfl (fun ls hl => ?_)
    refine lv_bipush (v := 10) hx hb dL_follows_60 (by decide) ?_
    refine va_newa (atype := .long) (ty := .long) (a0 := (10, .inr (.inl (fun _ => 0)))) (N' := 10) hx hb w_3 rfl hK hP hD hS hA (fun _ => rfl) (by decide) (by decide) (Nat.le_of_ble_eq_true rfl) (by show 239 + 1 ≤ 1554; omega) (by show 1447 + 10 ≤ 9530; omega) dL_follows_62 (fun ar1 c4 H hK1 hP hD hS => ?_)
    have ec4 : c4 = k 4 := kcls_4 hK hK1
    subst ec4; clear hK1
    refine W.widen (k := 240) (n := 1457) (by omega) (by omega) ?_
    have hP : va_P D vwCl (w_263 ++ ([(ar0, .inl (k 4, 10, .inr (.inl (fun _ => 0))))] ++ [(ar1, .inl (k 4, 10, .inr (.inl (fun _ => 0))))])) H := by rw [List.append_assoc] at hP; exact hP
    have hD : va_D A (w_263 ++ ([(ar0, .inl (k 4, 10, .inr (.inl (fun _ => 0))))] ++ [(ar1, .inl (k 4, 10, .inr (.inl (fun _ => 0))))])) := by rw [List.append_assoc] at hD; exact hD
    refine W.eq (g2 := F0 m 64 ls [.ref ar1]) rfl ?_
    refine lv_astore (lv' := [(11, .ref ar1), (10, .ref ar0), (9, .int 0), (7, .long v_259), (6, .int v_257), (5, .int v_255), (4, .int v_253), (2, .long v_250), (0, .ref (cA 0)), (1, .int p1)]) hx hb dL_follows_64 hl (by decide) rfl (fun ls hl => ?_)
    refine lv_iconst (v := 0) hx hb dL_follows_66 (by decide) ?_
    refine lv_istore (lv' := [(12, .int 0), (11, .ref ar1), (10, .ref ar0), (9, .int 0), (7, .long v_259), (6, .int v_257), (5, .int v_255), (4, .int v_253), (2, .long v_250), (0, .ref (cA 0)), (1, .int p1)]) hx hb dL_follows_67 hl (by decide) rfl (fun ls hl => ?_)
    refine W.widen (k := (273 - 3 * 11)) (n := (1655 - 18 * 11)) (by omega) (by omega) ?_
    exact hC_69 11 v_250 v_253 v_255 v_257 v_259 0 0 X_264 (fun _ => 0) (fun _ => 0) w_263 ar0 ar1 _ _ _ (Nat.le_refl _) hw_263 hP hD hS (lv_sub hl [9, 10, 8, 7, 6, 5, 4, 3, 2, 1, 0] rfl) h
  · have h := it_l c_265 h
    refine lv_iconst (v := 1) hx hb dL_follows_47 (by decide) ?_
    refine lv_goto (tgt := 52) hx hb dL_follows_48 (by decide) ?_
    refine lv_istore (lv' := [(9, .int 1), (7, .long v_259), (6, .int v_257), (5, .int v_255), (4, .int v_253), (2, .long v_250), (0, .ref (cA 0)), (1, .int p1)]) hx hb dL_follows_52 hl (by decide) rfl (fun ls hl => ?_)
    refine lv_bipush (v := 10) hx hb dL_follows_54 (by decide) ?_
    refine va_newa (atype := .long) (ty := .long) (a0 := (10, .inr (.inl (fun _ => 0)))) (N' := 10) hx hb w_3 rfl hK hP hD hS hA (fun _ => rfl) (by decide) (by decide) (Nat.le_of_ble_eq_true rfl) (by show 238 + 1 ≤ 1554; omega) (by show 1437 + 10 ≤ 9530; omega) dL_follows_56 (fun ar0 c4 H hK1 hP hD hS => ?_)
    have ec4 : c4 = k 4 := kcls_4 hK hK1
    subst ec4; clear hK1
    refine W.widen (k := 239) (n := 1447) (by omega) (by omega) ?_
    have hP : va_P D vwCl (w_263 ++ [(ar0, .inl (k 4, 10, .inr (.inl (fun _ => 0))))]) H := by rw [List.append_assoc] at hP; exact hP
    have hD : va_D A (w_263 ++ [(ar0, .inl (k 4, 10, .inr (.inl (fun _ => 0))))]) := by rw [List.append_assoc] at hD; exact hD
    refine W.eq (g2 := F0 m 58 ls [.ref ar0]) rfl ?_
    refine lv_astore (lv' := [(10, .ref ar0), (9, .int 1), (7, .long v_259), (6, .int v_257), (5, .int v_255), (4, .int v_253), (2, .long v_250), (0, .ref (cA 0)), (1, .int p1)]) hx hb dL_follows_58 hl (by decide) rfl (fun ls hl => ?_)
    refine lv_bipush (v := 10) hx hb dL_follows_60 (by decide) ?_
    refine va_newa (atype := .long) (ty := .long) (a0 := (10, .inr (.inl (fun _ => 0)))) (N' := 10) hx hb w_3 rfl hK hP hD hS hA (fun _ => rfl) (by decide) (by decide) (Nat.le_of_ble_eq_true rfl) (by show 239 + 1 ≤ 1554; omega) (by show 1447 + 10 ≤ 9530; omega) dL_follows_62 (fun ar1 c4 H hK1 hP hD hS => ?_)
    have ec4 : c4 = k 4 := kcls_4 hK hK1
    subst ec4; clear hK1
    refine W.widen (k := 240) (n := 1457) (by omega) (by omega) ?_
    have hP : va_P D vwCl (w_263 ++ ([(ar0, .inl (k 4, 10, .inr (.inl (fun _ => 0))))] ++ [(ar1, .inl (k 4, 10, .inr (.inl (fun _ => 0))))])) H := by rw [List.append_assoc] at hP; exact hP
    have hD : va_D A (w_263 ++ ([(ar0, .inl (k 4, 10, .inr (.inl (fun _ => 0))))] ++ [(ar1, .inl (k 4, 10, .inr (.inl (fun _ => 0))))])) := by rw [List.append_assoc] at hD; exact hD
    refine W.eq (g2 := F0 m 64 ls [.ref ar1]) rfl ?_
    refine lv_astore (lv' := [(11, .ref ar1), (10, .ref ar0), (9, .int 1), (7, .long v_259), (6, .int v_257), (5, .int v_255), (4, .int v_253), (2, .long v_250), (0, .ref (cA 0)), (1, .int p1)]) hx hb dL_follows_64 hl (by decide) rfl (fun ls hl => ?_)
    refine lv_iconst (v := 0) hx hb dL_follows_66 (by decide) ?_
    refine lv_istore (lv' := [(12, .int 0), (11, .ref ar1), (10, .ref ar0), (9, .int 1), (7, .long v_259), (6, .int v_257), (5, .int v_255), (4, .int v_253), (2, .long v_250), (0, .ref (cA 0)), (1, .int p1)]) hx hb dL_follows_67 hl (by decide) rfl (fun ls hl => ?_)
    refine W.widen (k := (273 - 3 * 11)) (n := (1655 - 18 * 11)) (by omega) (by omega) ?_
    exact hC_69 11 v_250 v_253 v_255 v_257 v_259 1 0 X_264 (fun _ => 0) (fun _ => 0) w_263 ar0 ar1 _ _ _ (Nat.le_refl _) hw_263 hP hD hS (lv_sub hl [9, 10, 8, 7, 6, 5, 4, 3, 2, 1, 0] rfl) h
noncomputable def f_L_digits_74 (k_42 : Int32 → Int32 → Int32 → Int32 → XV → Option (Int32 × XV)) (x3_74 : Int32) (x5_74 : Int32) (x6_74 : Int32) (t0_74 : Int32) (X_74 : XV) : Option (Int32 × XV) := gb (nz x3_74) <| nm (x5_74 - x5_74 / x3_74 * x3_74) fun v_2 => if x3_74 < 10 then (k_42 1 t0_74 v_2 (x6_74 + 1) X_74) else (nm (x3_74 / 10) fun v_4 => k_42 v_4 t0_74 v_2 (x6_74 + 1) X_74)
noncomputable def f_L_digits_42 (p2 : Int32) : Nat → Int32 → Int32 → Int32 → Int32 → XV → Option (Int32 × XV)
  | 0, _, _, _, _, _ => none
  | fu + 1, x3_42, x4_42, x5_42, x6_42, X_42 => if p2 ≤ x6_42 then (gb (isb x4_42) <| some (x4_42, X_42)) else (if x4_42 = 0 then (gb (isb x4_42) <| some (x4_42, X_42)) else (gb (nz x3_42) <| bd (o_append X_42 (48 + (x5_42 / x3_42))) fun ⟨v_11, X_13⟩ => if (lg_cmp v_11 0) ≤ 0 then (f_L_digits_74 (f_L_digits_42 p2 fu) x3_42 x5_42 x6_42 0 X_13) else (f_L_digits_74 (f_L_digits_42 p2 fu) x3_42 x5_42 x6_42 1 X_13)))
noncomputable def f_L_digits (X : XV) (p1 : Int32) (p2 : Int32) : Option (Int32 × XV) := if p2 = 4 then (f_L_digits_42 p2 5 1000 1 p1 0 X) else (if p2 = 3 then (f_L_digits_42 p2 5 100 1 p1 0 X) else (if p2 = 2 then (f_L_digits_42 p2 5 10 1 p1 0 X) else (f_L_digits_42 p2 5 1 1 p1 0 X)))
set_option maxRecDepth 100000 in
set_option maxHeartbeats 4000000 in
theorem c_L_digits (l : Launch) (hst : l.stackTraces = false) (D : va_G) (k : Nat → ClassId) (cA nA tA : Nat → Nat) (X : XV) (w : va_W) (hw : Ob k cA nA tA X w) (p1 : Int32) (p2 : Int32) (o : Int32 × XV) (h : f_L_digits X p1 p2 = some o) : CO l D k yL_digits wsL_digits ({ frames := 9, cells := 12, slots := 72, locals := 147 } : Room) [.ref (cA 0), .int p1, .int p2] (w) (fun (ov : Option Value) (w' : va_W) => ov = some (.int o.1) ∧ Ob k cA nA tA o.2 w') := by
  obtain ⟨B9, hB9⟩ : ∃ B : Option Value → va_W → Prop, B = fun (ov : Option Value) (w' : va_W) => ov = some (.int o.1) ∧ Ob k cA nA tA o.2 w' := ⟨_, rfl⟩
  refine CO.of (P := B9) ?_ (fun ov w' h9 => by rw [hB9] at h9; exact h9)
  refine Cl_of0 (cc := cL_digits) (maxL := 7) (ret := (some .boolean)) (by decide) rfl (Nat.le_of_ble_eq_true rfl) ?_
  intro p e s m args below meth c A ls hx hb hr hml hts hown hlocks hK hG hC hA hP hD hS hl
  have hl : lv_has ls 7 [(0, .ref (cA 0)), (1, .int p1), (2, .int p2)] := hl
  have hP := P_n hP
  have hD := D_n hD
  unfold f_L_digits at h
  have hC_42 : ∀ (fu_42 : Nat) (x3_42 : Int32) (x4_42 : Int32) (x5_42 : Int32) (x6_42 : Int32) (X_42 : XV) (w_42 : va_W) (H : Heap) (locs : List Loc) (ls : Array Slot), fu_42 ≤ 5 → Ob k cA nA tA X_42 w_42 → va_P D vwCl (w_42 ++ []) H → va_D A (w_42 ++ []) → va_S A s.heap H locs → lv_has ls 7 [(0, .ref (cA 0)), (2, .int p2), (3, .int x3_42), (4, .int x4_42), (5, .int x5_42), (6, .int x6_42)] → f_L_digits_42 p2 fu_42 x3_42 x4_42 x5_42 x6_42 X_42 = some o → W p l e ({ frames := 9, cells := 12, slots := 72, locals := 147 } : Room) s m args below meth c H locs ((10 - 2 * fu_42)) ((60 - 12 * fu_42)) (vx_MQ below (Qx D A (.inr B9)) (Xx D A (w) (.inr B9)) args s 12 72 A) (F0 m 42 ls []) := by
    intro fu_42
    induction fu_42 with
    | zero => intro x3_42 x4_42 x5_42 x6_42 X_42 w_42 H locs ls _ _ _ _ _ _ h; exact (no_l h).elim
    | succ fu_42 ih_42 =>
      intro x3_42 x4_42 x5_42 x6_42 X_42 w_42 H locs ls hfu_42 hw_42 hP hD hS hl h
      rw [f_L_digits_42] at h
      have hC_74 : ∀ (x3_74 : Int32) (x5_74 : Int32) (x6_74 : Int32) (t0_74 : Int32) (X_74 : XV) (w_74 : va_W) (H : Heap) (locs : List Loc) (ls : Array Slot), Ob k cA nA tA X_74 w_74 → va_P D vwCl (w_74 ++ []) H → va_D A (w_74 ++ []) → va_S A s.heap H locs → lv_has ls 7 [(0, .ref (cA 0)), (2, .int p2), (3, .int x3_74), (5, .int x5_74), (6, .int x6_74)] → f_L_digits_74 (f_L_digits_42 p2 fu_42) x3_74 x5_74 x6_74 t0_74 X_74 = some o → W p l e ({ frames := 9, cells := 12, slots := 72, locals := 147 } : Room) s m args below meth c H locs ((10 - 2 * (fu_42 + 1)) + 2) ((60 - 12 * (fu_42 + 1)) + 12) (vx_MQ below (Qx D A (.inr B9)) (Xx D A (w) (.inr B9)) args s 12 72 A) (F0 m 74 ls [.int t0_74]) := by
        intro x3_74 x5_74 x6_74 t0_74 X_74 w_74 H locs ls hw_74 hP hD hS hl h
        unfold f_L_digits_74 at h
        refine lv_istore (lv' := [(4, .int t0_74), (0, .ref (cA 0)), (2, .int p2), (3, .int x3_74), (5, .int x5_74), (6, .int x6_74)]) hx hb dL_digits_74 hl (by decide) rfl (fun ls hl => ?_)
        refine lv_iload hx hb dL_digits_76 (lv_at hl 4 rfl) ?_
        refine lv_iload_n hx hb dL_digits_78 rfl (lv_at hl 3 rfl) ?_
        have g_1 := nz_l (gb_l h)
        have h := gb_r h
        refine lv_irem hx hb dL_digits_79 g_1 ?_
        refine lv_topi (fun v_2 ev_2 => ?_)
        have h := nm_l h ev_2
        refine lv_istore (lv' := [(5, .int v_2), (4, .int t0_74), (0, .ref (cA 0)), (2, .int p2), (3, .int x3_74), (6, .int x6_74)]) hx hb dL_digits_80 hl (by decide) rfl (fun ls hl => ?_)
        refine lv_iload_n hx hb dL_digits_82 rfl (lv_at hl 4 rfl) ?_
        refine lv_bipush (v := 10) hx hb dL_digits_83 (by decide) ?_
        refine lv_icmp_lt (tgt := 95) hx hb dL_digits_85 (by decide) (fun c_3 => ?_) (fun c_3 => ?_)
        · have h := it_l c_3 h
          refine lv_iconst (v := 1) hx hb dL_digits_95 (by decide) ?_
          refine lv_istore_n (lv' := [(3, .int 1), (5, .int v_2), (4, .int t0_74), (0, .ref (cA 0)), (2, .int p2), (6, .int x6_74)]) hx hb dL_digits_96 rfl hl (by decide) rfl (fun ls hl => ?_)
          refine lv_iinc (v := (x6_74 + 1)) (lv' := [(6, .int (x6_74 + 1)), (3, .int 1), (5, .int v_2), (4, .int t0_74), (0, .ref (cA 0)), (2, .int p2)]) hx hb dL_digits_97 hl (k := 5) rfl rfl (by decide) rfl (fun ls hl => ?_)
          refine lv_goto (tgt := 42) hx hb dL_digits_100 (by decide) ?_
          refine W.widen (k := (10 - 2 * fu_42)) (n := (60 - 12 * fu_42)) (by omega) (by omega) ?_
          exact ih_42 1 t0_74 v_2 (x6_74 + 1) X_74 w_74 _ _ _ (by omega) hw_74 hP hD hS (lv_sub hl [4, 5, 1, 3, 2, 0] rfl) h
        · have h := it_r c_3 h
          refine lv_iload_n hx hb dL_digits_88 rfl (lv_at hl 4 rfl) ?_
          refine lv_bipush (v := 10) hx hb dL_digits_89 (by decide) ?_
          refine lv_idiv hx hb dL_digits_91 (by decide) ?_
          refine lv_goto (tgt := 96) hx hb dL_digits_92 (by decide) ?_
          refine lv_topi (fun v_4 ev_4 => ?_)
          have h := nm_l h ev_4
          refine lv_istore_n (lv' := [(3, .int v_4), (5, .int v_2), (4, .int t0_74), (0, .ref (cA 0)), (2, .int p2), (6, .int x6_74)]) hx hb dL_digits_96 rfl hl (by decide) rfl (fun ls hl => ?_)
          refine lv_iinc (v := (x6_74 + 1)) (lv' := [(6, .int (x6_74 + 1)), (3, .int v_4), (5, .int v_2), (4, .int t0_74), (0, .ref (cA 0)), (2, .int p2)]) hx hb dL_digits_97 hl (k := 5) rfl rfl (by decide) rfl (fun ls hl => ?_)
          refine lv_goto (tgt := 42) hx hb dL_digits_100 (by decide) ?_
          refine W.widen (k := (10 - 2 * fu_42)) (n := (60 - 12 * fu_42)) (by omega) (by omega) ?_
          exact ih_42 v_4 t0_74 v_2 (x6_74 + 1) X_74 w_74 _ _ _ (by omega) hw_74 hP hD hS (lv_sub hl [4, 5, 1, 3, 2, 0] rfl) h
      refine lv_iload hx hb dL_digits_42 (lv_at hl 5 rfl) ?_
      refine lv_iload_n hx hb dL_digits_44 rfl (lv_at hl 1 rfl) ?_
      refine lv_icmp_ge (tgt := 103) hx hb dL_digits_45 (by decide) (fun c_5 => ?_) (fun c_5 => ?_)
      · have h := it_l c_5 h
        refine lv_iload hx hb dL_digits_103 (lv_at hl 3 rfl) ?_
        have g_6 := gb_l h
        have h := gb_r h
        cases h
        exact Cx_zret (B := B9) rfl (by rw [hB9]; exact ⟨rfl, hw_42⟩) (by omega) (by omega) hx hb hr (isb_l g_6) (P_l hP) (D_l hD) hS dL_digits_105 hlocks
      · have h := it_r c_5 h
        refine lv_iload hx hb dL_digits_48 (lv_at hl 3 rfl) ?_
        refine lv_if_eq (tgt := 103) hx hb dL_digits_50 (by decide) (fun c_7 => ?_) (fun c_7 => ?_)
        · have h := it_l c_7 h
          refine lv_iload hx hb dL_digits_103 (lv_at hl 3 rfl) ?_
          have g_8 := gb_l h
          have h := gb_r h
          cases h
          exact Cx_zret (B := B9) rfl (by rw [hB9]; exact ⟨rfl, hw_42⟩) (by omega) (by omega) hx hb hr (isb_l g_8) (P_l hP) (D_l hD) hS dL_digits_105 hlocks
        · have h := it_r c_7 h
          refine lv_aload_n hx hb dL_digits_53 rfl (lv_at hl 0 rfl) ?_
          refine lv_bipush (v := 48) hx hb dL_digits_54 (by decide) ?_
          refine lv_iload hx hb dL_digits_56 (lv_at hl 4 rfl) ?_
          refine lv_iload_n hx hb dL_digits_58 rfl (lv_at hl 2 rfl) ?_
          have g_9 := nz_l (gb_l h)
          have h := gb_r h
          refine lv_idiv hx hb dL_digits_59 g_9 ?_
          refine lv_iadd hx hb dL_digits_60 ?_
          obtain ⟨⟨v_11, X_13⟩, hv_10, h⟩ := bd_l h
          refine Lo_T (As := [.ref (cA 0), .int (48 + (x5_42 / x3_42))]) (rest := []) (wA := w_42) (wr := []) 2 12 ((10 - 2 * (fu_42 + 1)) + 2) ((60 - 12 * (fu_42 + 1)) + 12) 12 72 (co_append l hst D k cA nA tA X_42 w_42 hw_42 (48 + (x5_42 / x3_42)) (v_11, X_13) hv_10) ⟨hx, hb, hml, hown, hts⟩ (vx_cwSW 2 hts gL_digits_L_append rfl rfl rfl (by decide +kernel) ⟨Nat.le_of_ble_eq_true rfl, Nat.le_of_ble_eq_true rfl⟩) hK hG hC hP hD hS hA (List.Perm.refl _) rfl hl.1 rfl (Nat.le_of_ble_eq_true rfl) dL_digits_61 ⟨rfl, rfl⟩ ⟨rfl, rfl⟩ (by omega) (by omega) (fun ov w_12 H locs hQ hP hD hS => ?_)
          obtain ⟨rfl, hw_12⟩ := hQ
          refine W.eq (g2 := F0 m 64 ls [.long v_11]) rfl ?_
          refine lv_lconst (v := 0) hx hb dL_digits_64 (by decide) ?_
          refine W.lcmp hx hb dL_digits_65 ?_
          refine lv_if_le (tgt := 73) hx hb dL_digits_66 (by decide) (fun c_14 => ?_) (fun c_14 => ?_)
          · have h := it_l c_14 h
            refine lv_iconst (v := 0) hx hb dL_digits_73 (by decide) ?_
            refine W.widen (k := (10 - 2 * (fu_42 + 1)) + 2) (n := (60 - 12 * (fu_42 + 1)) + 12) (by omega) (by omega) ?_
            exact hC_74 x3_42 x5_42 x6_42 0 X_13 w_12 _ _ _ hw_12 hP hD hS (lv_sub hl [0, 1, 2, 4, 5] rfl) h
          · have h := it_r c_14 h
            refine lv_iconst (v := 1) hx hb dL_digits_69 (by decide) ?_
            refine lv_goto (tgt := 74) hx hb dL_digits_70 (by decide) ?_
            refine W.widen (k := (10 - 2 * (fu_42 + 1)) + 2) (n := (60 - 12 * (fu_42 + 1)) + 12) (by omega) (by omega) ?_
            exact hC_74 x3_42 x5_42 x6_42 1 X_13 w_12 _ _ _ hw_12 hP hD hS (lv_sub hl [0, 1, 2, 4, 5] rfl) h
  refine lv_iload_n hx hb dL_digits_0 rfl (lv_at hl 2 rfl) ?_
  refine lv_iconst (v := 4) hx hb dL_digits_1 (by decide) ?_
  refine lv_icmp_ne (tgt := 11) hx hb dL_digits_2 (by decide) (fun c_15 => ?_) (fun c_15 => ?_)
  · have h := it_r c_15 h
    refine lv_iload_n hx hb dL_digits_11 rfl (lv_at hl 2 rfl) ?_
    refine lv_iconst (v := 3) hx hb dL_digits_12 (by decide) ?_
    refine lv_icmp_ne (tgt := 21) hx hb dL_digits_13 (by decide) (fun c_16 => ?_) (fun c_16 => ?_)
    · have h := it_r c_16 h
      refine lv_iload_n hx hb dL_digits_21 rfl (lv_at hl 2 rfl) ?_
      refine lv_iconst (v := 2) hx hb dL_digits_22 (by decide) ?_
      refine lv_icmp_ne (tgt := 31) hx hb dL_digits_23 (by decide) (fun c_17 => ?_) (fun c_17 => ?_)
      · have h := it_r c_17 h
        refine lv_iconst (v := 1) hx hb dL_digits_31 (by decide) ?_
        refine lv_istore_n (lv' := [(3, .int 1), (0, .ref (cA 0)), (1, .int p1), (2, .int p2)]) hx hb dL_digits_32 rfl hl (by decide) rfl (fun ls hl => ?_)
        refine lv_iconst (v := 1) hx hb dL_digits_33 (by decide) ?_
        refine lv_istore (lv' := [(4, .int 1), (3, .int 1), (0, .ref (cA 0)), (1, .int p1), (2, .int p2)]) hx hb dL_digits_34 hl (by decide) rfl (fun ls hl => ?_)
        refine lv_iload_n hx hb dL_digits_36 rfl (lv_at hl 3 rfl) ?_
        refine lv_istore (lv' := [(5, .int p1), (4, .int 1), (3, .int 1), (0, .ref (cA 0)), (1, .int p1), (2, .int p2)]) hx hb dL_digits_37 hl (by decide) rfl (fun ls hl => ?_)
        refine lv_iconst (v := 0) hx hb dL_digits_39 (by decide) ?_
        refine lv_istore (lv' := [(6, .int 0), (5, .int p1), (4, .int 1), (3, .int 1), (0, .ref (cA 0)), (1, .int p1), (2, .int p2)]) hx hb dL_digits_40 hl (by decide) rfl (fun ls hl => ?_)
        refine W.widen (k := (10 - 2 * 5)) (n := (60 - 12 * 5)) (by omega) (by omega) ?_
        exact hC_42 5 1 1 p1 0 X w _ _ _ (Nat.le_refl _) hw hP hD hS (lv_sub hl [4, 6, 3, 2, 1, 0] rfl) h
      · have h := it_l c_17 h
        refine lv_bipush (v := 10) hx hb dL_digits_26 (by decide) ?_
        refine lv_goto (tgt := 32) hx hb dL_digits_28 (by decide) ?_
        refine lv_istore_n (lv' := [(3, .int 10), (0, .ref (cA 0)), (1, .int p1), (2, .int p2)]) hx hb dL_digits_32 rfl hl (by decide) rfl (fun ls hl => ?_)
        refine lv_iconst (v := 1) hx hb dL_digits_33 (by decide) ?_
        refine lv_istore (lv' := [(4, .int 1), (3, .int 10), (0, .ref (cA 0)), (1, .int p1), (2, .int p2)]) hx hb dL_digits_34 hl (by decide) rfl (fun ls hl => ?_)
        refine lv_iload_n hx hb dL_digits_36 rfl (lv_at hl 3 rfl) ?_
        refine lv_istore (lv' := [(5, .int p1), (4, .int 1), (3, .int 10), (0, .ref (cA 0)), (1, .int p1), (2, .int p2)]) hx hb dL_digits_37 hl (by decide) rfl (fun ls hl => ?_)
        refine lv_iconst (v := 0) hx hb dL_digits_39 (by decide) ?_
        refine lv_istore (lv' := [(6, .int 0), (5, .int p1), (4, .int 1), (3, .int 10), (0, .ref (cA 0)), (1, .int p1), (2, .int p2)]) hx hb dL_digits_40 hl (by decide) rfl (fun ls hl => ?_)
        refine W.widen (k := (10 - 2 * 5)) (n := (60 - 12 * 5)) (by omega) (by omega) ?_
        exact hC_42 5 10 1 p1 0 X w _ _ _ (Nat.le_refl _) hw hP hD hS (lv_sub hl [4, 6, 3, 2, 1, 0] rfl) h
    · have h := it_l c_16 h
      refine lv_bipush (v := 100) hx hb dL_digits_16 (by decide) ?_
      refine lv_goto (tgt := 32) hx hb dL_digits_18 (by decide) ?_
      refine lv_istore_n (lv' := [(3, .int 100), (0, .ref (cA 0)), (1, .int p1), (2, .int p2)]) hx hb dL_digits_32 rfl hl (by decide) rfl (fun ls hl => ?_)
      refine lv_iconst (v := 1) hx hb dL_digits_33 (by decide) ?_
      refine lv_istore (lv' := [(4, .int 1), (3, .int 100), (0, .ref (cA 0)), (1, .int p1), (2, .int p2)]) hx hb dL_digits_34 hl (by decide) rfl (fun ls hl => ?_)
      refine lv_iload_n hx hb dL_digits_36 rfl (lv_at hl 3 rfl) ?_
      refine lv_istore (lv' := [(5, .int p1), (4, .int 1), (3, .int 100), (0, .ref (cA 0)), (1, .int p1), (2, .int p2)]) hx hb dL_digits_37 hl (by decide) rfl (fun ls hl => ?_)
      refine lv_iconst (v := 0) hx hb dL_digits_39 (by decide) ?_
      refine lv_istore (lv' := [(6, .int 0), (5, .int p1), (4, .int 1), (3, .int 100), (0, .ref (cA 0)), (1, .int p1), (2, .int p2)]) hx hb dL_digits_40 hl (by decide) rfl (fun ls hl => ?_)
      refine W.widen (k := (10 - 2 * 5)) (n := (60 - 12 * 5)) (by omega) (by omega) ?_
      exact hC_42 5 100 1 p1 0 X w _ _ _ (Nat.le_refl _) hw hP hD hS (lv_sub hl [4, 6, 3, 2, 1, 0] rfl) h
  · have h := it_l c_15 h
    refine lv_sipush (v := 1000) hx hb dL_digits_5 (by decide) ?_
    refine lv_goto (tgt := 32) hx hb dL_digits_8 (by decide) ?_
    refine lv_istore_n (lv' := [(3, .int 1000), (0, .ref (cA 0)), (1, .int p1), (2, .int p2)]) hx hb dL_digits_32 rfl hl (by decide) rfl (fun ls hl => ?_)
    refine lv_iconst (v := 1) hx hb dL_digits_33 (by decide) ?_
    refine lv_istore (lv' := [(4, .int 1), (3, .int 1000), (0, .ref (cA 0)), (1, .int p1), (2, .int p2)]) hx hb dL_digits_34 hl (by decide) rfl (fun ls hl => ?_)
    refine lv_iload_n hx hb dL_digits_36 rfl (lv_at hl 3 rfl) ?_
    refine lv_istore (lv' := [(5, .int p1), (4, .int 1), (3, .int 1000), (0, .ref (cA 0)), (1, .int p1), (2, .int p2)]) hx hb dL_digits_37 hl (by decide) rfl (fun ls hl => ?_)
    refine lv_iconst (v := 0) hx hb dL_digits_39 (by decide) ?_
    refine lv_istore (lv' := [(6, .int 0), (5, .int p1), (4, .int 1), (3, .int 1000), (0, .ref (cA 0)), (1, .int p1), (2, .int p2)]) hx hb dL_digits_40 hl (by decide) rfl (fun ls hl => ?_)
    refine W.widen (k := (10 - 2 * 5)) (n := (60 - 12 * 5)) (by omega) (by omega) ?_
    exact hC_42 5 1000 1 p1 0 X w _ _ _ (Nat.le_refl _) hw hP hD hS (lv_sub hl [4, 6, 3, 2, 1, 0] rfl) h
noncomputable def f_L_tells_278 (x3_278 : Int32) (x4_278 : Int32) (x5_278 : Int64) (X_278 : XV) : Option (Int32 × XV) := if x4_278 = 0 then (some (0, X_278)) else (bd (o_errorPosition X_278) fun v_3 => if v_3 = (-9) then (bd (o_load X_278) fun ⟨v_7, X_9⟩ => if (lg_cmp v_7 x5_278) = 0 then (bd (f_L_effects X_9) fun v_12 => if v_12 = x3_278 then (bd (o_total X_9 0) fun v_16 => if (lg_cmp v_16 0) = 0 then (bd (o_undo X_9) fun ⟨v_20, X_22⟩ => if (lg_cmp v_20 (-9000000000000000003)) = 0 then (some (1, X_22)) else (some (0, X_22))) else (some (0, X_9))) else (some (0, X_9))) else (some (0, X_9))) else (some (0, X_278)))
noncomputable def f_L_tells_125 (p2 : Int32) : Nat → Int32 → Int32 → Int64 → Int32 → XV → Option (Int32 × XV)
  | 0, _, _, _, _, _ => none
  | fu + 1, x3_125, x4_125, x5_125, x7_125, X_125 => if x3_125 ≤ x7_125 then (f_L_tells_278 x3_125 x4_125 x5_125 X_125) else (if x4_125 = 0 then (f_L_tells_278 x3_125 x4_125 x5_125 X_125) else (nm ((p2 ^^^ (977 * (x7_125 + 1))) &&& 2147483647) fun v_26 => nm (v_26 - v_26 / 4001 * 4001) fun v_27 => nm ((v_26 / 9) - (v_26 / 9) / 1001 * 1001) fun v_28 => nm (x5_125 + ((v_27 + v_28).toInt64)) fun v_29 => bd (f_L_digits X_125 (1 + (v_26 - v_26 / 9 * 9)) 1) fun ⟨v_31, X_33⟩ => if v_31 = 0 then ((f_L_tells_125 p2 fu) x3_125 0 v_29 (x7_125 + 1) X_33) else (bd (f_L_digits X_33 v_27 4) fun ⟨v_36, X_38⟩ => if v_36 = 0 then ((f_L_tells_125 p2 fu) x3_125 0 v_29 (x7_125 + 1) X_38) else (bd (f_L_digits X_38 v_28 4) fun ⟨v_41, X_43⟩ => if v_41 = 0 then ((f_L_tells_125 p2 fu) x3_125 0 v_29 (x7_125 + 1) X_43) else (bd (f_L_digits X_43 ((v_26 / 7) - (v_26 / 7) / 300 * 300) 3) fun ⟨v_46, X_48⟩ => if v_46 = 0 then ((f_L_tells_125 p2 fu) x3_125 0 v_29 (x7_125 + 1) X_48) else (bd (f_L_digits X_48 ((v_26 / 11) - (v_26 / 11) / 91 * 91) 2) fun ⟨v_51, X_53⟩ => if v_51 = 0 then ((f_L_tells_125 p2 fu) x3_125 0 v_29 (x7_125 + 1) X_53) else (bd (f_L_digits X_53 ((v_26 / 13) - (v_26 / 13) / 100 * 100) 2) fun ⟨v_56, X_58⟩ => if v_56 = 0 then ((f_L_tells_125 p2 fu) x3_125 0 v_29 (x7_125 + 1) X_58) else ((f_L_tells_125 p2 fu) x3_125 1 v_29 (x7_125 + 1) X_58))))))))
noncomputable def f_L_tells (X : XV) (p1 : Int32) (p2 : Int32) : Option (Int32 × XV) := nm (2 + (p1 - p1 / 5 * 5)) fun v_60 => bd (o_clearText X) fun ⟨v_62, X_64⟩ => if v_62 < 0 then (f_L_tells_125 p2 7 v_60 0 0 0 X_64) else (bd (o_append X_64 69) fun ⟨v_67, X_69⟩ => if (lg_cmp v_67 1) = 0 then (bd (f_L_digits X_69 v_60 1) fun ⟨v_72, X_74⟩ => if v_72 = 0 then (f_L_tells_125 p2 7 v_60 0 0 0 X_74) else (bd (f_L_digits X_74 ((p1 / 5) - (p1 / 5) / 1000 * 1000) 3) fun ⟨v_77, X_79⟩ => if v_77 = 0 then (f_L_tells_125 p2 7 v_60 0 0 0 X_79) else (bd (f_L_digits X_79 ((p1 / 5000) - (p1 / 5000) / 400 * 400) 3) fun ⟨v_82, X_84⟩ => if v_82 = 0 then (f_L_tells_125 p2 7 v_60 0 0 0 X_84) else (bd (f_L_digits X_84 (p2 - p2 / 100 * 100) 2) fun ⟨v_87, X_89⟩ => if v_87 = 0 then (f_L_tells_125 p2 7 v_60 0 0 0 X_89) else (bd (f_L_digits X_89 (((p2 / 100) - (p2 / 100) / 4 * 4) * 7) 2) fun ⟨v_92, X_94⟩ => if v_92 = 0 then (f_L_tells_125 p2 7 v_60 0 0 0 X_94) else (bd (f_L_digits X_94 (1 + ((p2 / 400) - (p2 / 400) / 20 * 20)) 2) fun ⟨v_97, X_99⟩ => if v_97 = 0 then (f_L_tells_125 p2 7 v_60 0 0 0 X_99) else (f_L_tells_125 p2 7 v_60 1 0 0 X_99))))))) else (f_L_tells_125 p2 7 v_60 0 0 0 X_69))
set_option maxRecDepth 100000 in
set_option maxHeartbeats 4000000 in
theorem c_L_tells (l : Launch) (hst : l.stackTraces = false) (D : va_G) (k : Nat → ClassId) (cA nA tA : Nat → Nat) (X : XV) (w : va_W) (hw : Ob k cA nA tA X w) (p1 : Int32) (p2 : Int32) (o : Int32 × XV) (h : f_L_tells X p1 p2 = some o) : CO l D k yL_tells wsL_tells ({ frames := 10, cells := 670, slots := 4029, locals := 173 } : Room) [.ref (cA 0), .int p1, .int p2] (w) (fun (ov : Option Value) (w' : va_W) => ov = some (.int o.1) ∧ Ob k cA nA tA o.2 w') := by
  obtain ⟨B9, hB9⟩ : ∃ B : Option Value → va_W → Prop, B = fun (ov : Option Value) (w' : va_W) => ov = some (.int o.1) ∧ Ob k cA nA tA o.2 w' := ⟨_, rfl⟩
  refine CO.of (P := B9) ?_ (fun ov w' h9 => by rw [hB9] at h9; exact h9)
  refine Cl_of0 (cc := cL_tells) (maxL := 11) (ret := (some .boolean)) (by decide) rfl (Nat.le_of_ble_eq_true rfl) ?_
  intro p e s m args below meth c A ls hx hb hr hml hts hown hlocks hK hG hC hA hP hD hS hl
  have hl : lv_has ls 11 [(0, .ref (cA 0)), (1, .int p1), (2, .int p2)] := hl
  have hP := P_n hP
  have hD := D_n hD
  have w_0 := hts (.constantLong RL 21 (-9000000000000000003)) (by decide +kernel)
  have w_1 := hts (.constant RL 8 (2147483647)) (by decide +kernel)
  unfold f_L_tells at h
  have hC_278 : ∀ (x3_278 : Int32) (x4_278 : Int32) (x5_278 : Int64) (X_278 : XV) (w_278 : va_W) (H : Heap) (locs : List Loc) (ls : Array Slot), Ob k cA nA tA X_278 w_278 → va_P D vwCl (w_278 ++ []) H → va_D A (w_278 ++ []) → va_S A s.heap H locs → lv_has ls 11 [(0, .ref (cA 0)), (3, .int x3_278), (4, .int x4_278), (5, .long x5_278)] → f_L_tells_278 x3_278 x4_278 x5_278 X_278 = some o → W p l e ({ frames := 10, cells := 670, slots := 4029, locals := 173 } : Room) s m args below meth c H locs (650) (3900) (vx_MQ below (Qx D A (.inr B9)) (Xx D A (w) (.inr B9)) args s 670 4029 A) (F0 m 278 ls []) := by
    intro x3_278 x4_278 x5_278 X_278 w_278 H locs ls hw_278 hP hD hS hl h
    unfold f_L_tells_278 at h
    refine lv_iload hx hb dL_tells_278 (lv_at hl 2 rfl) ?_
    refine lv_if_eq (tgt := 335) hx hb dL_tells_280 (by decide) (fun c_1 => ?_) (fun c_1 => ?_)
    · have h := it_l c_1 h
      refine lv_iconst (v := 0) hx hb dL_tells_335 (by decide) ?_
      cases h
      exact Cx_zret (B := B9) rfl (by rw [hB9]; exact ⟨rfl, hw_278⟩) (by omega) (by omega) hx hb hr (by decide) (P_l hP) (D_l hD) hS dL_tells_336 hlocks
    · have h := it_r c_1 h
      refine lv_aload_n hx hb dL_tells_283 rfl (lv_at hl 0 rfl) ?_
      obtain ⟨v_3, hv_2, h⟩ := bd_l h
      refine Lo_V (As := []) (rest := []) (wA := w_278) (wr := []) 0 0 (650) (3900) 670 4029 (co_errorPosition l hst D k cA nA tA X_278 w_278 hw_278 v_3 hv_2) ⟨hx, hb, hml, hown, hts⟩ (cwV 0 hts gL_tells_X1_errorPosition rfl rfl rfl (by decide +kernel) ⟨Nat.le_of_ble_eq_true rfl, Nat.le_of_ble_eq_true rfl⟩) hK hG hP hD hS hA (List.Perm.refl _) rfl hl.1 rfl (Nat.le_of_ble_eq_true rfl) dL_tells_284 ⟨rfl, rfl⟩ ⟨rfl, rfl⟩ (by omega) (by omega) (fun ov w_4 H locs hQ hP hD hS => ?_)
      obtain ⟨rfl, hw_4⟩ := hQ
      refine W.eq (g2 := F0 m 287 ls [.int v_3]) rfl ?_
      refine lv_bipush (v := (-9)) hx hb dL_tells_287 (by decide) ?_
      refine lv_icmp_ne (tgt := 335) hx hb dL_tells_289 (by decide) (fun c_5 => ?_) (fun c_5 => ?_)
      · have h := it_r c_5 h
        refine lv_iconst (v := 0) hx hb dL_tells_335 (by decide) ?_
        cases h
        exact Cx_zret (B := B9) rfl (by rw [hB9]; exact ⟨rfl, hw_4⟩) (by omega) (by omega) hx hb hr (by decide) (P_l hP) (D_l hD) hS dL_tells_336 hlocks
      · have h := it_l c_5 h
        refine lv_aload_n hx hb dL_tells_292 rfl (lv_at hl 0 rfl) ?_
        obtain ⟨⟨v_7, X_9⟩, hv_6, h⟩ := bd_l h
        refine Lo_T (As := [.ref (cA 0)]) (rest := []) (wA := w_4) (wr := []) 7 42 (657) (3942) 670 4029 (co_load l hst D k cA nA tA X_278 w_4 hw_4 (v_7, X_9) hv_6) ⟨hx, hb, hml, hown, hts⟩ (vx_cwSW 1 hts gL_tells_L_load rfl rfl rfl (by decide +kernel) ⟨Nat.le_of_ble_eq_true rfl, Nat.le_of_ble_eq_true rfl⟩) hK hG hC hP hD hS hA (List.Perm.refl _) rfl hl.1 rfl (Nat.le_of_ble_eq_true rfl) dL_tells_293 ⟨rfl, rfl⟩ ⟨rfl, rfl⟩ (by omega) (by omega) (fun ov w_8 H locs hQ hP hD hS => ?_)
        obtain ⟨rfl, hw_8⟩ := hQ
        refine W.eq (g2 := F0 m 296 ls [.long v_7]) rfl ?_
        refine lv_lload hx hb dL_tells_296 (lv_at hl 3 rfl) ?_
        refine W.lcmp hx hb dL_tells_298 ?_
        refine lv_if_ne (tgt := 335) hx hb dL_tells_299 (by decide) (fun c_10 => ?_) (fun c_10 => ?_)
        · have h := it_r c_10 h
          refine lv_iconst (v := 0) hx hb dL_tells_335 (by decide) ?_
          cases h
          exact Cx_zret (B := B9) rfl (by rw [hB9]; exact ⟨rfl, hw_8⟩) (by omega) (by omega) hx hb hr (by decide) (P_l hP) (D_l hD) hS dL_tells_336 hlocks
        · have h := it_l c_10 h
          refine lv_aload_n hx hb dL_tells_302 rfl (lv_at hl 0 rfl) ?_
          obtain ⟨v_12, hv_11, h⟩ := bd_l h
          refine Lo_S (As := [.ref (cA 0)]) (rest := []) (wA := w_8) (wr := []) 1 6 (658) (3948) 670 4029 (c_L_effects l hst D k cA nA tA X_9 w_8 hw_8 v_12 hv_11) ⟨hx, hb, hml, hown, hts⟩ (va_cwS 1 hts gL_tells_L_effects rfl rfl rfl (by decide +kernel) ⟨Nat.le_of_ble_eq_true rfl, Nat.le_of_ble_eq_true rfl⟩) hK hG hC hP hD hS hA (List.Perm.refl _) rfl hl.1 rfl (Nat.le_of_ble_eq_true rfl) dL_tells_303 ⟨rfl, rfl⟩ ⟨rfl, rfl⟩ (by omega) (by omega) (fun ov w_13 H locs hQ hP hD hS => ?_)
          obtain ⟨rfl, hw_13⟩ := hQ
          refine W.eq (g2 := F0 m 306 ls [.int v_12]) rfl ?_
          refine lv_iload_n hx hb dL_tells_306 rfl (lv_at hl 1 rfl) ?_
          refine lv_icmp_ne (tgt := 335) hx hb dL_tells_307 (by decide) (fun c_14 => ?_) (fun c_14 => ?_)
          · have h := it_r c_14 h
            refine lv_iconst (v := 0) hx hb dL_tells_335 (by decide) ?_
            cases h
            exact Cx_zret (B := B9) rfl (by rw [hB9]; exact ⟨rfl, hw_13⟩) (by omega) (by omega) hx hb hr (by decide) (P_l hP) (D_l hD) hS dL_tells_336 hlocks
          · have h := it_l c_14 h
            refine lv_aload_n hx hb dL_tells_310 rfl (lv_at hl 0 rfl) ?_
            refine lv_iconst (v := 0) hx hb dL_tells_311 (by decide) ?_
            obtain ⟨v_16, hv_15, h⟩ := bd_l h
            refine Lo_T (As := [.ref (cA 0), .int 0]) (rest := []) (wA := w_13) (wr := []) 1 6 (659) (3954) 670 4029 (co_total l hst D k cA nA tA X_9 w_13 hw_13 0 v_16 hv_15) ⟨hx, hb, hml, hown, hts⟩ (vx_cwSW 2 hts gL_tells_L_total rfl rfl rfl (by decide +kernel) ⟨Nat.le_of_ble_eq_true rfl, Nat.le_of_ble_eq_true rfl⟩) hK hG hC hP hD hS hA (List.Perm.refl _) rfl hl.1 rfl (Nat.le_of_ble_eq_true rfl) dL_tells_312 ⟨rfl, rfl⟩ ⟨rfl, rfl⟩ (by omega) (by omega) (fun ov w_17 H locs hQ hP hD hS => ?_)
            obtain ⟨rfl, hw_17⟩ := hQ
            refine W.eq (g2 := F0 m 315 ls [.long v_16]) rfl ?_
            refine lv_lconst (v := 0) hx hb dL_tells_315 (by decide) ?_
            refine W.lcmp hx hb dL_tells_316 ?_
            refine lv_if_ne (tgt := 335) hx hb dL_tells_317 (by decide) (fun c_18 => ?_) (fun c_18 => ?_)
            · have h := it_r c_18 h
              refine lv_iconst (v := 0) hx hb dL_tells_335 (by decide) ?_
              cases h
              exact Cx_zret (B := B9) rfl (by rw [hB9]; exact ⟨rfl, hw_17⟩) (by omega) (by omega) hx hb hr (by decide) (P_l hP) (D_l hD) hS dL_tells_336 hlocks
            · have h := it_l c_18 h
              refine lv_aload_n hx hb dL_tells_320 rfl (lv_at hl 0 rfl) ?_
              obtain ⟨⟨v_20, X_22⟩, hv_19, h⟩ := bd_l h
              refine Lo_T (As := [.ref (cA 0)]) (rest := []) (wA := w_17) (wr := []) 11 75 (670) (4029) 670 4029 (co_undo l hst D k cA nA tA X_9 w_17 hw_17 (v_20, X_22) hv_19) ⟨hx, hb, hml, hown, hts⟩ (vx_cwSW 1 hts gL_tells_L_undo rfl rfl rfl (by decide +kernel) ⟨Nat.le_of_ble_eq_true rfl, Nat.le_of_ble_eq_true rfl⟩) hK hG hC hP hD hS hA (List.Perm.refl _) rfl hl.1 rfl (Nat.le_of_ble_eq_true rfl) dL_tells_321 ⟨rfl, rfl⟩ ⟨rfl, rfl⟩ (by omega) (by omega) (fun ov w_21 H locs hQ hP hD hS => ?_)
              obtain ⟨rfl, hw_21⟩ := hQ
              refine W.eq (g2 := F0 m 324 ls [.long v_20]) rfl ?_
              refine lv_ldc2 (v := -9000000000000000003) hx hb hown w_0 dL_tells_324 ?_
              refine W.lcmp hx hb dL_tells_327 ?_
              refine lv_if_ne (tgt := 335) hx hb dL_tells_328 (by decide) (fun c_23 => ?_) (fun c_23 => ?_)
              · have h := it_r c_23 h
                refine lv_iconst (v := 0) hx hb dL_tells_335 (by decide) ?_
                cases h
                exact Cx_zret (B := B9) rfl (by rw [hB9]; exact ⟨rfl, hw_21⟩) (by omega) (by omega) hx hb hr (by decide) (P_l hP) (D_l hD) hS dL_tells_336 hlocks
              · have h := it_l c_23 h
                refine lv_iconst (v := 1) hx hb dL_tells_331 (by decide) ?_
                refine lv_goto (tgt := 336) hx hb dL_tells_332 (by decide) ?_
                cases h
                exact Cx_zret (B := B9) rfl (by rw [hB9]; exact ⟨rfl, hw_21⟩) (by omega) (by omega) hx hb hr (by decide) (P_l hP) (D_l hD) hS dL_tells_336 hlocks
  have hC_125 : ∀ (fu_125 : Nat) (x3_125 : Int32) (x4_125 : Int32) (x5_125 : Int64) (x7_125 : Int32) (X_125 : XV) (w_125 : va_W) (H : Heap) (locs : List Loc) (ls : Array Slot), fu_125 ≤ 7 → Ob k cA nA tA X_125 w_125 → va_P D vwCl (w_125 ++ []) H → va_D A (w_125 ++ []) → va_S A s.heap H locs → lv_has ls 11 [(0, .ref (cA 0)), (2, .int p2), (3, .int x3_125), (4, .int x4_125), (5, .long x5_125), (7, .int x7_125)] → f_L_tells_125 p2 fu_125 x3_125 x4_125 x5_125 x7_125 X_125 = some o → W p l e ({ frames := 10, cells := 670, slots := 4029, locals := 173 } : Room) s m args below meth c H locs ((578 - 72 * fu_125)) ((3468 - 432 * fu_125)) (vx_MQ below (Qx D A (.inr B9)) (Xx D A (w) (.inr B9)) args s 670 4029 A) (F0 m 125 ls []) := by
    intro fu_125
    induction fu_125 with
    | zero => intro x3_125 x4_125 x5_125 x7_125 X_125 w_125 H locs ls _ _ _ _ _ _ h; exact (no_l h).elim
    | succ fu_125 ih_125 =>
      intro x3_125 x4_125 x5_125 x7_125 X_125 w_125 H locs ls hfu_125 hw_125 hP hD hS hl h
      rw [f_L_tells_125] at h
      refine lv_iload hx hb dL_tells_125 (lv_at hl 5 rfl) ?_
      refine lv_iload_n hx hb dL_tells_127 rfl (lv_at hl 2 rfl) ?_
      refine lv_icmp_ge (tgt := 278) hx hb dL_tells_128 (by decide) (fun c_24 => ?_) (fun c_24 => ?_)
      · have h := it_l c_24 h
        refine W.widen (k := 650) (n := 3900) (by omega) (by omega) ?_
        exact hC_278 x3_125 x4_125 x5_125 X_125 w_125 _ _ _ hw_125 hP hD hS (lv_sub hl [0, 2, 3, 4] rfl) h
      · have h := it_r c_24 h
        refine lv_iload hx hb dL_tells_131 (lv_at hl 3 rfl) ?_
        refine lv_if_eq (tgt := 278) hx hb dL_tells_133 (by decide) (fun c_25 => ?_) (fun c_25 => ?_)
        · have h := it_l c_25 h
          refine W.widen (k := 650) (n := 3900) (by omega) (by omega) ?_
          exact hC_278 x3_125 x4_125 x5_125 X_125 w_125 _ _ _ hw_125 hP hD hS (lv_sub hl [0, 2, 3, 4] rfl) h
        · have h := it_r c_25 h
          refine lv_iload_n hx hb dL_tells_136 rfl (lv_at hl 1 rfl) ?_
          refine lv_sipush (v := 977) hx hb dL_tells_137 (by decide) ?_
          refine lv_iload hx hb dL_tells_140 (lv_at hl 5 rfl) ?_
          refine lv_iconst (v := 1) hx hb dL_tells_142 (by decide) ?_
          refine lv_iadd hx hb dL_tells_143 ?_
          refine lv_imul hx hb dL_tells_144 ?_
          refine lv_ixor hx hb dL_tells_145 ?_
          refine lv_ldc (v := 2147483647) hx hb hown w_1 dL_tells_146 ?_
          refine lv_iand hx hb dL_tells_148 ?_
          refine lv_topi (fun v_26 ev_26 => ?_)
          have h := nm_l h ev_26
          refine lv_istore (lv' := [(8, .int v_26), (0, .ref (cA 0)), (2, .int p2), (3, .int x3_125), (4, .int x4_125), (5, .long x5_125), (7, .int x7_125)]) hx hb dL_tells_149 hl (by decide) rfl (fun ls hl => ?_)
          refine lv_iload hx hb dL_tells_151 (lv_at hl 0 rfl) ?_
          refine lv_sipush (v := 4001) hx hb dL_tells_153 (by decide) ?_
          refine lv_irem hx hb dL_tells_156 (by decide) ?_
          refine lv_topi (fun v_27 ev_27 => ?_)
          have h := nm_l h ev_27
          refine lv_istore (lv' := [(9, .int v_27), (8, .int v_26), (0, .ref (cA 0)), (2, .int p2), (3, .int x3_125), (4, .int x4_125), (5, .long x5_125), (7, .int x7_125)]) hx hb dL_tells_157 hl (by decide) rfl (fun ls hl => ?_)
          refine lv_iload hx hb dL_tells_159 (lv_at hl 1 rfl) ?_
          refine lv_bipush (v := 9) hx hb dL_tells_161 (by decide) ?_
          refine lv_idiv hx hb dL_tells_163 (by decide) ?_
          refine lv_sipush (v := 1001) hx hb dL_tells_164 (by decide) ?_
          refine lv_irem hx hb dL_tells_167 (by decide) ?_
          refine lv_topi (fun v_28 ev_28 => ?_)
          have h := nm_l h ev_28
          refine lv_istore (lv' := [(10, .int v_28), (9, .int v_27), (8, .int v_26), (0, .ref (cA 0)), (2, .int p2), (3, .int x3_125), (4, .int x4_125), (5, .long x5_125), (7, .int x7_125)]) hx hb dL_tells_168 hl (by decide) rfl (fun ls hl => ?_)
          refine lv_lload hx hb dL_tells_170 (lv_at hl 7 rfl) ?_
          refine lv_iload hx hb dL_tells_172 (lv_at hl 1 rfl) ?_
          refine lv_iload hx hb dL_tells_174 (lv_at hl 0 rfl) ?_
          refine lv_iadd hx hb dL_tells_176 ?_
          refine lv_i2l hx hb dL_tells_177 rfl ?_
          refine lv_ladd hx hb dL_tells_178 ?_
          refine lv_topl (fun v_29 ev_29 => ?_)
          have h := nm_l h ev_29
          refine lv_lstore (lv' := [(5, .long v_29), (10, .int v_28), (9, .int v_27), (8, .int v_26), (0, .ref (cA 0)), (2, .int p2), (3, .int x3_125), (4, .int x4_125), (7, .int x7_125)]) hx hb dL_tells_179 hl (by decide) rfl (fun ls hl => ?_)
          refine lv_aload_n hx hb dL_tells_181 rfl (lv_at hl 4 rfl) ?_
          refine lv_iconst (v := 1) hx hb dL_tells_182 (by decide) ?_
          refine lv_iload hx hb dL_tells_183 (lv_at hl 3 rfl) ?_
          refine lv_bipush (v := 9) hx hb dL_tells_185 (by decide) ?_
          refine lv_irem hx hb dL_tells_187 (by decide) ?_
          refine lv_iadd hx hb dL_tells_188 ?_
          refine lv_iconst (v := 1) hx hb dL_tells_189 (by decide) ?_
          obtain ⟨⟨v_31, X_33⟩, hv_30, h⟩ := bd_l h
          refine Lo_S (As := [.ref (cA 0), .int (1 + (v_26 - v_26 / 9 * 9)), .int 1]) (rest := []) (wA := w_125) (wr := []) 12 72 ((578 - 72 * (fu_125 + 1)) + 12) ((3468 - 432 * (fu_125 + 1)) + 72) 670 4029 (c_L_digits l hst D k cA nA tA X_125 w_125 hw_125 (1 + (v_26 - v_26 / 9 * 9)) 1 (v_31, X_33) hv_30) ⟨hx, hb, hml, hown, hts⟩ (va_cwS 3 hts gL_tells_L_digits rfl rfl rfl (by decide +kernel) ⟨Nat.le_of_ble_eq_true rfl, Nat.le_of_ble_eq_true rfl⟩) hK hG hC hP hD hS hA (List.Perm.refl _) rfl hl.1 rfl (Nat.le_of_ble_eq_true rfl) dL_tells_190 ⟨rfl, rfl⟩ ⟨rfl, rfl⟩ (by omega) (by omega) (fun ov w_32 H locs hQ hP hD hS => ?_)
          obtain ⟨rfl, hw_32⟩ := hQ
          refine W.eq (g2 := F0 m 193 ls [.int v_31]) rfl ?_
          refine lv_if_eq (tgt := 269) hx hb dL_tells_193 (by decide) (fun c_34 => ?_) (fun c_34 => ?_)
          · have h := it_l c_34 h
            refine lv_iconst (v := 0) hx hb dL_tells_269 (by decide) ?_
            refine lv_istore (lv' := [(4, .int 0), (5, .long v_29), (10, .int v_28), (9, .int v_27), (8, .int v_26), (0, .ref (cA 0)), (2, .int p2), (3, .int x3_125), (7, .int x7_125)]) hx hb dL_tells_270 hl (by decide) rfl (fun ls hl => ?_)
            refine lv_iinc (v := (x7_125 + 1)) (lv' := [(7, .int (x7_125 + 1)), (4, .int 0), (5, .long v_29), (10, .int v_28), (9, .int v_27), (8, .int v_26), (0, .ref (cA 0)), (2, .int p2), (3, .int x3_125)]) hx hb dL_tells_272 hl (k := 8) rfl rfl (by decide) rfl (fun ls hl => ?_)
            refine lv_goto (tgt := 125) hx hb dL_tells_275 (by decide) ?_
            refine W.widen (k := (578 - 72 * fu_125)) (n := (3468 - 432 * fu_125)) (by omega) (by omega) ?_
            exact ih_125 x3_125 0 v_29 (x7_125 + 1) X_33 w_32 _ _ _ (by omega) hw_32 hP hD hS (lv_sub hl [6, 7, 8, 1, 2, 0] rfl) h
          · have h := it_r c_34 h
            refine lv_aload_n hx hb dL_tells_196 rfl (lv_at hl 4 rfl) ?_
            refine lv_iload hx hb dL_tells_197 (lv_at hl 2 rfl) ?_
            refine lv_iconst (v := 4) hx hb dL_tells_199 (by decide) ?_
            obtain ⟨⟨v_36, X_38⟩, hv_35, h⟩ := bd_l h
            refine Lo_S (As := [.ref (cA 0), .int v_27, .int 4]) (rest := []) (wA := w_32) (wr := []) 12 72 ((578 - 72 * (fu_125 + 1)) + 24) ((3468 - 432 * (fu_125 + 1)) + 144) 670 4029 (c_L_digits l hst D k cA nA tA X_33 w_32 hw_32 v_27 4 (v_36, X_38) hv_35) ⟨hx, hb, hml, hown, hts⟩ (va_cwS 3 hts gL_tells_L_digits rfl rfl rfl (by decide +kernel) ⟨Nat.le_of_ble_eq_true rfl, Nat.le_of_ble_eq_true rfl⟩) hK hG hC hP hD hS hA (List.Perm.refl _) rfl hl.1 rfl (Nat.le_of_ble_eq_true rfl) dL_tells_200 ⟨rfl, rfl⟩ ⟨rfl, rfl⟩ (by omega) (by omega) (fun ov w_37 H locs hQ hP hD hS => ?_)
            obtain ⟨rfl, hw_37⟩ := hQ
            refine W.eq (g2 := F0 m 203 ls [.int v_36]) rfl ?_
            refine lv_if_eq (tgt := 269) hx hb dL_tells_203 (by decide) (fun c_39 => ?_) (fun c_39 => ?_)
            · have h := it_l c_39 h
              refine lv_iconst (v := 0) hx hb dL_tells_269 (by decide) ?_
              refine lv_istore (lv' := [(4, .int 0), (5, .long v_29), (10, .int v_28), (9, .int v_27), (8, .int v_26), (0, .ref (cA 0)), (2, .int p2), (3, .int x3_125), (7, .int x7_125)]) hx hb dL_tells_270 hl (by decide) rfl (fun ls hl => ?_)
              refine lv_iinc (v := (x7_125 + 1)) (lv' := [(7, .int (x7_125 + 1)), (4, .int 0), (5, .long v_29), (10, .int v_28), (9, .int v_27), (8, .int v_26), (0, .ref (cA 0)), (2, .int p2), (3, .int x3_125)]) hx hb dL_tells_272 hl (k := 8) rfl rfl (by decide) rfl (fun ls hl => ?_)
              refine lv_goto (tgt := 125) hx hb dL_tells_275 (by decide) ?_
              refine W.widen (k := (578 - 72 * fu_125)) (n := (3468 - 432 * fu_125)) (by omega) (by omega) ?_
              exact ih_125 x3_125 0 v_29 (x7_125 + 1) X_38 w_37 _ _ _ (by omega) hw_37 hP hD hS (lv_sub hl [6, 7, 8, 1, 2, 0] rfl) h
            · have h := it_r c_39 h
              refine lv_aload_n hx hb dL_tells_206 rfl (lv_at hl 4 rfl) ?_
              refine lv_iload hx hb dL_tells_207 (lv_at hl 1 rfl) ?_
              refine lv_iconst (v := 4) hx hb dL_tells_209 (by decide) ?_
              obtain ⟨⟨v_41, X_43⟩, hv_40, h⟩ := bd_l h
              refine Lo_S (As := [.ref (cA 0), .int v_28, .int 4]) (rest := []) (wA := w_37) (wr := []) 12 72 ((578 - 72 * (fu_125 + 1)) + 36) ((3468 - 432 * (fu_125 + 1)) + 216) 670 4029 (c_L_digits l hst D k cA nA tA X_38 w_37 hw_37 v_28 4 (v_41, X_43) hv_40) ⟨hx, hb, hml, hown, hts⟩ (va_cwS 3 hts gL_tells_L_digits rfl rfl rfl (by decide +kernel) ⟨Nat.le_of_ble_eq_true rfl, Nat.le_of_ble_eq_true rfl⟩) hK hG hC hP hD hS hA (List.Perm.refl _) rfl hl.1 rfl (Nat.le_of_ble_eq_true rfl) dL_tells_210 ⟨rfl, rfl⟩ ⟨rfl, rfl⟩ (by omega) (by omega) (fun ov w_42 H locs hQ hP hD hS => ?_)
              obtain ⟨rfl, hw_42⟩ := hQ
              refine W.eq (g2 := F0 m 213 ls [.int v_41]) rfl ?_
              refine lv_if_eq (tgt := 269) hx hb dL_tells_213 (by decide) (fun c_44 => ?_) (fun c_44 => ?_)
              · have h := it_l c_44 h
                refine lv_iconst (v := 0) hx hb dL_tells_269 (by decide) ?_
                refine lv_istore (lv' := [(4, .int 0), (5, .long v_29), (10, .int v_28), (9, .int v_27), (8, .int v_26), (0, .ref (cA 0)), (2, .int p2), (3, .int x3_125), (7, .int x7_125)]) hx hb dL_tells_270 hl (by decide) rfl (fun ls hl => ?_)
                refine lv_iinc (v := (x7_125 + 1)) (lv' := [(7, .int (x7_125 + 1)), (4, .int 0), (5, .long v_29), (10, .int v_28), (9, .int v_27), (8, .int v_26), (0, .ref (cA 0)), (2, .int p2), (3, .int x3_125)]) hx hb dL_tells_272 hl (k := 8) rfl rfl (by decide) rfl (fun ls hl => ?_)
                refine lv_goto (tgt := 125) hx hb dL_tells_275 (by decide) ?_
                refine W.widen (k := (578 - 72 * fu_125)) (n := (3468 - 432 * fu_125)) (by omega) (by omega) ?_
                exact ih_125 x3_125 0 v_29 (x7_125 + 1) X_43 w_42 _ _ _ (by omega) hw_42 hP hD hS (lv_sub hl [6, 7, 8, 1, 2, 0] rfl) h
              · have h := it_r c_44 h
                refine lv_aload_n hx hb dL_tells_216 rfl (lv_at hl 4 rfl) ?_
                refine lv_iload hx hb dL_tells_217 (lv_at hl 3 rfl) ?_
                refine lv_bipush (v := 7) hx hb dL_tells_219 (by decide) ?_
                refine lv_idiv hx hb dL_tells_221 (by decide) ?_
                refine lv_sipush (v := 300) hx hb dL_tells_222 (by decide) ?_
                refine lv_irem hx hb dL_tells_225 (by decide) ?_
                refine lv_iconst (v := 3) hx hb dL_tells_226 (by decide) ?_
                obtain ⟨⟨v_46, X_48⟩, hv_45, h⟩ := bd_l h
                refine Lo_S (As := [.ref (cA 0), .int ((v_26 / 7) - (v_26 / 7) / 300 * 300), .int 3]) (rest := []) (wA := w_42) (wr := []) 12 72 ((578 - 72 * (fu_125 + 1)) + 48) ((3468 - 432 * (fu_125 + 1)) + 288) 670 4029 (c_L_digits l hst D k cA nA tA X_43 w_42 hw_42 ((v_26 / 7) - (v_26 / 7) / 300 * 300) 3 (v_46, X_48) hv_45) ⟨hx, hb, hml, hown, hts⟩ (va_cwS 3 hts gL_tells_L_digits rfl rfl rfl (by decide +kernel) ⟨Nat.le_of_ble_eq_true rfl, Nat.le_of_ble_eq_true rfl⟩) hK hG hC hP hD hS hA (List.Perm.refl _) rfl hl.1 rfl (Nat.le_of_ble_eq_true rfl) dL_tells_227 ⟨rfl, rfl⟩ ⟨rfl, rfl⟩ (by omega) (by omega) (fun ov w_47 H locs hQ hP hD hS => ?_)
                obtain ⟨rfl, hw_47⟩ := hQ
                refine W.eq (g2 := F0 m 230 ls [.int v_46]) rfl ?_
                refine lv_if_eq (tgt := 269) hx hb dL_tells_230 (by decide) (fun c_49 => ?_) (fun c_49 => ?_)
                · have h := it_l c_49 h
                  refine lv_iconst (v := 0) hx hb dL_tells_269 (by decide) ?_
                  refine lv_istore (lv' := [(4, .int 0), (5, .long v_29), (10, .int v_28), (9, .int v_27), (8, .int v_26), (0, .ref (cA 0)), (2, .int p2), (3, .int x3_125), (7, .int x7_125)]) hx hb dL_tells_270 hl (by decide) rfl (fun ls hl => ?_)
                  refine lv_iinc (v := (x7_125 + 1)) (lv' := [(7, .int (x7_125 + 1)), (4, .int 0), (5, .long v_29), (10, .int v_28), (9, .int v_27), (8, .int v_26), (0, .ref (cA 0)), (2, .int p2), (3, .int x3_125)]) hx hb dL_tells_272 hl (k := 8) rfl rfl (by decide) rfl (fun ls hl => ?_)
                  refine lv_goto (tgt := 125) hx hb dL_tells_275 (by decide) ?_
                  refine W.widen (k := (578 - 72 * fu_125)) (n := (3468 - 432 * fu_125)) (by omega) (by omega) ?_
                  exact ih_125 x3_125 0 v_29 (x7_125 + 1) X_48 w_47 _ _ _ (by omega) hw_47 hP hD hS (lv_sub hl [6, 7, 8, 1, 2, 0] rfl) h
                · have h := it_r c_49 h
                  refine lv_aload_n hx hb dL_tells_233 rfl (lv_at hl 4 rfl) ?_
                  refine lv_iload hx hb dL_tells_234 (lv_at hl 3 rfl) ?_
                  refine lv_bipush (v := 11) hx hb dL_tells_236 (by decide) ?_
                  refine lv_idiv hx hb dL_tells_238 (by decide) ?_
                  refine lv_bipush (v := 91) hx hb dL_tells_239 (by decide) ?_
                  refine lv_irem hx hb dL_tells_241 (by decide) ?_
                  refine lv_iconst (v := 2) hx hb dL_tells_242 (by decide) ?_
                  obtain ⟨⟨v_51, X_53⟩, hv_50, h⟩ := bd_l h
                  refine Lo_S (As := [.ref (cA 0), .int ((v_26 / 11) - (v_26 / 11) / 91 * 91), .int 2]) (rest := []) (wA := w_47) (wr := []) 12 72 ((578 - 72 * (fu_125 + 1)) + 60) ((3468 - 432 * (fu_125 + 1)) + 360) 670 4029 (c_L_digits l hst D k cA nA tA X_48 w_47 hw_47 ((v_26 / 11) - (v_26 / 11) / 91 * 91) 2 (v_51, X_53) hv_50) ⟨hx, hb, hml, hown, hts⟩ (va_cwS 3 hts gL_tells_L_digits rfl rfl rfl (by decide +kernel) ⟨Nat.le_of_ble_eq_true rfl, Nat.le_of_ble_eq_true rfl⟩) hK hG hC hP hD hS hA (List.Perm.refl _) rfl hl.1 rfl (Nat.le_of_ble_eq_true rfl) dL_tells_243 ⟨rfl, rfl⟩ ⟨rfl, rfl⟩ (by omega) (by omega) (fun ov w_52 H locs hQ hP hD hS => ?_)
                  obtain ⟨rfl, hw_52⟩ := hQ
                  refine W.eq (g2 := F0 m 246 ls [.int v_51]) rfl ?_
                  refine lv_if_eq (tgt := 269) hx hb dL_tells_246 (by decide) (fun c_54 => ?_) (fun c_54 => ?_)
                  · have h := it_l c_54 h
                    refine lv_iconst (v := 0) hx hb dL_tells_269 (by decide) ?_
                    refine lv_istore (lv' := [(4, .int 0), (5, .long v_29), (10, .int v_28), (9, .int v_27), (8, .int v_26), (0, .ref (cA 0)), (2, .int p2), (3, .int x3_125), (7, .int x7_125)]) hx hb dL_tells_270 hl (by decide) rfl (fun ls hl => ?_)
                    refine lv_iinc (v := (x7_125 + 1)) (lv' := [(7, .int (x7_125 + 1)), (4, .int 0), (5, .long v_29), (10, .int v_28), (9, .int v_27), (8, .int v_26), (0, .ref (cA 0)), (2, .int p2), (3, .int x3_125)]) hx hb dL_tells_272 hl (k := 8) rfl rfl (by decide) rfl (fun ls hl => ?_)
                    refine lv_goto (tgt := 125) hx hb dL_tells_275 (by decide) ?_
                    refine W.widen (k := (578 - 72 * fu_125)) (n := (3468 - 432 * fu_125)) (by omega) (by omega) ?_
                    exact ih_125 x3_125 0 v_29 (x7_125 + 1) X_53 w_52 _ _ _ (by omega) hw_52 hP hD hS (lv_sub hl [6, 7, 8, 1, 2, 0] rfl) h
                  · have h := it_r c_54 h
                    refine lv_aload_n hx hb dL_tells_249 rfl (lv_at hl 4 rfl) ?_
                    refine lv_iload hx hb dL_tells_250 (lv_at hl 3 rfl) ?_
                    refine lv_bipush (v := 13) hx hb dL_tells_252 (by decide) ?_
                    refine lv_idiv hx hb dL_tells_254 (by decide) ?_
                    refine lv_bipush (v := 100) hx hb dL_tells_255 (by decide) ?_
                    refine lv_irem hx hb dL_tells_257 (by decide) ?_
                    refine lv_iconst (v := 2) hx hb dL_tells_258 (by decide) ?_
                    obtain ⟨⟨v_56, X_58⟩, hv_55, h⟩ := bd_l h
                    refine Lo_S (As := [.ref (cA 0), .int ((v_26 / 13) - (v_26 / 13) / 100 * 100), .int 2]) (rest := []) (wA := w_52) (wr := []) 12 72 ((578 - 72 * (fu_125 + 1)) + 72) ((3468 - 432 * (fu_125 + 1)) + 432) 670 4029 (c_L_digits l hst D k cA nA tA X_53 w_52 hw_52 ((v_26 / 13) - (v_26 / 13) / 100 * 100) 2 (v_56, X_58) hv_55) ⟨hx, hb, hml, hown, hts⟩ (va_cwS 3 hts gL_tells_L_digits rfl rfl rfl (by decide +kernel) ⟨Nat.le_of_ble_eq_true rfl, Nat.le_of_ble_eq_true rfl⟩) hK hG hC hP hD hS hA (List.Perm.refl _) rfl hl.1 rfl (Nat.le_of_ble_eq_true rfl) dL_tells_259 ⟨rfl, rfl⟩ ⟨rfl, rfl⟩ (by omega) (by omega) (fun ov w_57 H locs hQ hP hD hS => ?_)
                    obtain ⟨rfl, hw_57⟩ := hQ
                    refine W.eq (g2 := F0 m 262 ls [.int v_56]) rfl ?_
                    refine lv_if_eq (tgt := 269) hx hb dL_tells_262 (by decide) (fun c_59 => ?_) (fun c_59 => ?_)
                    · have h := it_l c_59 h
                      refine lv_iconst (v := 0) hx hb dL_tells_269 (by decide) ?_
                      refine lv_istore (lv' := [(4, .int 0), (5, .long v_29), (10, .int v_28), (9, .int v_27), (8, .int v_26), (0, .ref (cA 0)), (2, .int p2), (3, .int x3_125), (7, .int x7_125)]) hx hb dL_tells_270 hl (by decide) rfl (fun ls hl => ?_)
                      refine lv_iinc (v := (x7_125 + 1)) (lv' := [(7, .int (x7_125 + 1)), (4, .int 0), (5, .long v_29), (10, .int v_28), (9, .int v_27), (8, .int v_26), (0, .ref (cA 0)), (2, .int p2), (3, .int x3_125)]) hx hb dL_tells_272 hl (k := 8) rfl rfl (by decide) rfl (fun ls hl => ?_)
                      refine lv_goto (tgt := 125) hx hb dL_tells_275 (by decide) ?_
                      refine W.widen (k := (578 - 72 * fu_125)) (n := (3468 - 432 * fu_125)) (by omega) (by omega) ?_
                      exact ih_125 x3_125 0 v_29 (x7_125 + 1) X_58 w_57 _ _ _ (by omega) hw_57 hP hD hS (lv_sub hl [6, 7, 8, 1, 2, 0] rfl) h
                    · have h := it_r c_59 h
                      refine lv_iconst (v := 1) hx hb dL_tells_265 (by decide) ?_
                      refine lv_goto (tgt := 270) hx hb dL_tells_266 (by decide) ?_
                      refine lv_istore (lv' := [(4, .int 1), (5, .long v_29), (10, .int v_28), (9, .int v_27), (8, .int v_26), (0, .ref (cA 0)), (2, .int p2), (3, .int x3_125), (7, .int x7_125)]) hx hb dL_tells_270 hl (by decide) rfl (fun ls hl => ?_)
                      refine lv_iinc (v := (x7_125 + 1)) (lv' := [(7, .int (x7_125 + 1)), (4, .int 1), (5, .long v_29), (10, .int v_28), (9, .int v_27), (8, .int v_26), (0, .ref (cA 0)), (2, .int p2), (3, .int x3_125)]) hx hb dL_tells_272 hl (k := 8) rfl rfl (by decide) rfl (fun ls hl => ?_)
                      refine lv_goto (tgt := 125) hx hb dL_tells_275 (by decide) ?_
                      refine W.widen (k := (578 - 72 * fu_125)) (n := (3468 - 432 * fu_125)) (by omega) (by omega) ?_
                      exact ih_125 x3_125 1 v_29 (x7_125 + 1) X_58 w_57 _ _ _ (by omega) hw_57 hP hD hS (lv_sub hl [6, 7, 8, 1, 2, 0] rfl) h
  refine lv_iconst (v := 2) hx hb dL_tells_0 (by decide) ?_
  refine lv_iload_n hx hb dL_tells_1 rfl (lv_at hl 1 rfl) ?_
  refine lv_iconst (v := 5) hx hb dL_tells_2 (by decide) ?_
  refine lv_irem hx hb dL_tells_3 (by decide) ?_
  refine lv_iadd hx hb dL_tells_4 ?_
  refine lv_topi (fun v_60 ev_60 => ?_)
  have h := nm_l h ev_60
  refine lv_istore_n (lv' := [(3, .int v_60), (0, .ref (cA 0)), (1, .int p1), (2, .int p2)]) hx hb dL_tells_5 rfl hl (by decide) rfl (fun ls hl => ?_)
  refine lv_aload_n hx hb dL_tells_6 rfl (lv_at hl 1 rfl) ?_
  obtain ⟨⟨v_62, X_64⟩, hv_61, h⟩ := bd_l h
  refine Lo_V (As := []) (rest := []) (wA := w) (wr := []) 0 0 (0) (0) 670 4029 (co_clearText l hst D k cA nA tA X w hw (v_62, X_64) hv_61) ⟨hx, hb, hml, hown, hts⟩ (cwV 0 hts gL_tells_X1_clearText rfl rfl rfl (by decide +kernel) ⟨Nat.le_of_ble_eq_true rfl, Nat.le_of_ble_eq_true rfl⟩) hK hG hP hD hS hA (List.Perm.refl _) rfl hl.1 rfl (Nat.le_of_ble_eq_true rfl) dL_tells_7 ⟨rfl, rfl⟩ ⟨rfl, rfl⟩ (by omega) (by omega) (fun ov w_63 H locs hQ hP hD hS => ?_)
  obtain ⟨rfl, hw_63⟩ := hQ
  refine W.eq (g2 := F0 m 10 ls [.int v_62]) rfl ?_
  refine lv_if_lt (tgt := 116) hx hb dL_tells_10 (by decide) (fun c_65 => ?_) (fun c_65 => ?_)
  · have h := it_l c_65 h
    refine lv_iconst (v := 0) hx hb dL_tells_116 (by decide) ?_
    refine lv_istore (lv' := [(4, .int 0), (3, .int v_60), (0, .ref (cA 0)), (1, .int p1), (2, .int p2)]) hx hb dL_tells_117 hl (by decide) rfl (fun ls hl => ?_)
    refine lv_lconst (v := 0) hx hb dL_tells_119 (by decide) ?_
    refine lv_lstore (lv' := [(5, .long 0), (4, .int 0), (3, .int v_60), (0, .ref (cA 0)), (1, .int p1), (2, .int p2)]) hx hb dL_tells_120 hl (by decide) rfl (fun ls hl => ?_)
    refine lv_iconst (v := 0) hx hb dL_tells_122 (by decide) ?_
    refine lv_istore (lv' := [(7, .int 0), (5, .long 0), (4, .int 0), (3, .int v_60), (0, .ref (cA 0)), (1, .int p1), (2, .int p2)]) hx hb dL_tells_123 hl (by decide) rfl (fun ls hl => ?_)
    refine W.widen (k := (578 - 72 * 7)) (n := (3468 - 432 * 7)) (by omega) (by omega) ?_
    exact hC_125 7 v_60 0 0 0 X_64 w_63 _ _ _ (Nat.le_refl _) hw_63 hP hD hS (lv_sub hl [4, 6, 3, 2, 1, 0] rfl) h
  · have h := it_r c_65 h
    refine lv_aload_n hx hb dL_tells_13 rfl (lv_at hl 1 rfl) ?_
    refine lv_bipush (v := 69) hx hb dL_tells_14 (by decide) ?_
    obtain ⟨⟨v_67, X_69⟩, hv_66, h⟩ := bd_l h
    refine Lo_T (As := [.ref (cA 0), .int 69]) (rest := []) (wA := w_63) (wr := []) 2 12 (2) (12) 670 4029 (co_append l hst D k cA nA tA X_64 w_63 hw_63 69 (v_67, X_69) hv_66) ⟨hx, hb, hml, hown, hts⟩ (vx_cwSW 2 hts gL_tells_L_append rfl rfl rfl (by decide +kernel) ⟨Nat.le_of_ble_eq_true rfl, Nat.le_of_ble_eq_true rfl⟩) hK hG hC hP hD hS hA (List.Perm.refl _) rfl hl.1 rfl (Nat.le_of_ble_eq_true rfl) dL_tells_16 ⟨rfl, rfl⟩ ⟨rfl, rfl⟩ (by omega) (by omega) (fun ov w_68 H locs hQ hP hD hS => ?_)
    obtain ⟨rfl, hw_68⟩ := hQ
    refine W.eq (g2 := F0 m 19 ls [.long v_67]) rfl ?_
    refine lv_lconst (v := 1) hx hb dL_tells_19 (by decide) ?_
    refine W.lcmp hx hb dL_tells_20 ?_
    refine lv_if_ne (tgt := 116) hx hb dL_tells_21 (by decide) (fun c_70 => ?_) (fun c_70 => ?_)
    · have h := it_r c_70 h
      refine lv_iconst (v := 0) hx hb dL_tells_116 (by decide) ?_
      refine lv_istore (lv' := [(4, .int 0), (3, .int v_60), (0, .ref (cA 0)), (1, .int p1), (2, .int p2)]) hx hb dL_tells_117 hl (by decide) rfl (fun ls hl => ?_)
      refine lv_lconst (v := 0) hx hb dL_tells_119 (by decide) ?_
      refine lv_lstore (lv' := [(5, .long 0), (4, .int 0), (3, .int v_60), (0, .ref (cA 0)), (1, .int p1), (2, .int p2)]) hx hb dL_tells_120 hl (by decide) rfl (fun ls hl => ?_)
      refine lv_iconst (v := 0) hx hb dL_tells_122 (by decide) ?_
      refine lv_istore (lv' := [(7, .int 0), (5, .long 0), (4, .int 0), (3, .int v_60), (0, .ref (cA 0)), (1, .int p1), (2, .int p2)]) hx hb dL_tells_123 hl (by decide) rfl (fun ls hl => ?_)
      refine W.widen (k := (578 - 72 * 7)) (n := (3468 - 432 * 7)) (by omega) (by omega) ?_
      exact hC_125 7 v_60 0 0 0 X_69 w_68 _ _ _ (Nat.le_refl _) hw_68 hP hD hS (lv_sub hl [4, 6, 3, 2, 1, 0] rfl) h
    · have h := it_l c_70 h
      refine lv_aload_n hx hb dL_tells_24 rfl (lv_at hl 1 rfl) ?_
      refine lv_iload_n hx hb dL_tells_25 rfl (lv_at hl 0 rfl) ?_
      refine lv_iconst (v := 1) hx hb dL_tells_26 (by decide) ?_
      obtain ⟨⟨v_72, X_74⟩, hv_71, h⟩ := bd_l h
      refine Lo_S (As := [.ref (cA 0), .int v_60, .int 1]) (rest := []) (wA := w_68) (wr := []) 12 72 (14) (84) 670 4029 (c_L_digits l hst D k cA nA tA X_69 w_68 hw_68 v_60 1 (v_72, X_74) hv_71) ⟨hx, hb, hml, hown, hts⟩ (va_cwS 3 hts gL_tells_L_digits rfl rfl rfl (by decide +kernel) ⟨Nat.le_of_ble_eq_true rfl, Nat.le_of_ble_eq_true rfl⟩) hK hG hC hP hD hS hA (List.Perm.refl _) rfl hl.1 rfl (Nat.le_of_ble_eq_true rfl) dL_tells_27 ⟨rfl, rfl⟩ ⟨rfl, rfl⟩ (by omega) (by omega) (fun ov w_73 H locs hQ hP hD hS => ?_)
      obtain ⟨rfl, hw_73⟩ := hQ
      refine W.eq (g2 := F0 m 30 ls [.int v_72]) rfl ?_
      refine lv_if_eq (tgt := 116) hx hb dL_tells_30 (by decide) (fun c_75 => ?_) (fun c_75 => ?_)
      · have h := it_l c_75 h
        refine lv_iconst (v := 0) hx hb dL_tells_116 (by decide) ?_
        refine lv_istore (lv' := [(4, .int 0), (3, .int v_60), (0, .ref (cA 0)), (1, .int p1), (2, .int p2)]) hx hb dL_tells_117 hl (by decide) rfl (fun ls hl => ?_)
        refine lv_lconst (v := 0) hx hb dL_tells_119 (by decide) ?_
        refine lv_lstore (lv' := [(5, .long 0), (4, .int 0), (3, .int v_60), (0, .ref (cA 0)), (1, .int p1), (2, .int p2)]) hx hb dL_tells_120 hl (by decide) rfl (fun ls hl => ?_)
        refine lv_iconst (v := 0) hx hb dL_tells_122 (by decide) ?_
        refine lv_istore (lv' := [(7, .int 0), (5, .long 0), (4, .int 0), (3, .int v_60), (0, .ref (cA 0)), (1, .int p1), (2, .int p2)]) hx hb dL_tells_123 hl (by decide) rfl (fun ls hl => ?_)
        refine W.widen (k := (578 - 72 * 7)) (n := (3468 - 432 * 7)) (by omega) (by omega) ?_
        exact hC_125 7 v_60 0 0 0 X_74 w_73 _ _ _ (Nat.le_refl _) hw_73 hP hD hS (lv_sub hl [4, 6, 3, 2, 1, 0] rfl) h
      · have h := it_r c_75 h
        refine lv_aload_n hx hb dL_tells_33 rfl (lv_at hl 1 rfl) ?_
        refine lv_iload_n hx hb dL_tells_34 rfl (lv_at hl 2 rfl) ?_
        refine lv_iconst (v := 5) hx hb dL_tells_35 (by decide) ?_
        refine lv_idiv hx hb dL_tells_36 (by decide) ?_
        refine lv_sipush (v := 1000) hx hb dL_tells_37 (by decide) ?_
        refine lv_irem hx hb dL_tells_40 (by decide) ?_
        refine lv_iconst (v := 3) hx hb dL_tells_41 (by decide) ?_
        obtain ⟨⟨v_77, X_79⟩, hv_76, h⟩ := bd_l h
        refine Lo_S (As := [.ref (cA 0), .int ((p1 / 5) - (p1 / 5) / 1000 * 1000), .int 3]) (rest := []) (wA := w_73) (wr := []) 12 72 (26) (156) 670 4029 (c_L_digits l hst D k cA nA tA X_74 w_73 hw_73 ((p1 / 5) - (p1 / 5) / 1000 * 1000) 3 (v_77, X_79) hv_76) ⟨hx, hb, hml, hown, hts⟩ (va_cwS 3 hts gL_tells_L_digits rfl rfl rfl (by decide +kernel) ⟨Nat.le_of_ble_eq_true rfl, Nat.le_of_ble_eq_true rfl⟩) hK hG hC hP hD hS hA (List.Perm.refl _) rfl hl.1 rfl (Nat.le_of_ble_eq_true rfl) dL_tells_42 ⟨rfl, rfl⟩ ⟨rfl, rfl⟩ (by omega) (by omega) (fun ov w_78 H locs hQ hP hD hS => ?_)
        obtain ⟨rfl, hw_78⟩ := hQ
        refine W.eq (g2 := F0 m 45 ls [.int v_77]) rfl ?_
        refine lv_if_eq (tgt := 116) hx hb dL_tells_45 (by decide) (fun c_80 => ?_) (fun c_80 => ?_)
        · have h := it_l c_80 h
          refine lv_iconst (v := 0) hx hb dL_tells_116 (by decide) ?_
          refine lv_istore (lv' := [(4, .int 0), (3, .int v_60), (0, .ref (cA 0)), (1, .int p1), (2, .int p2)]) hx hb dL_tells_117 hl (by decide) rfl (fun ls hl => ?_)
          refine lv_lconst (v := 0) hx hb dL_tells_119 (by decide) ?_
          refine lv_lstore (lv' := [(5, .long 0), (4, .int 0), (3, .int v_60), (0, .ref (cA 0)), (1, .int p1), (2, .int p2)]) hx hb dL_tells_120 hl (by decide) rfl (fun ls hl => ?_)
          refine lv_iconst (v := 0) hx hb dL_tells_122 (by decide) ?_
          refine lv_istore (lv' := [(7, .int 0), (5, .long 0), (4, .int 0), (3, .int v_60), (0, .ref (cA 0)), (1, .int p1), (2, .int p2)]) hx hb dL_tells_123 hl (by decide) rfl (fun ls hl => ?_)
          refine W.widen (k := (578 - 72 * 7)) (n := (3468 - 432 * 7)) (by omega) (by omega) ?_
          exact hC_125 7 v_60 0 0 0 X_79 w_78 _ _ _ (Nat.le_refl _) hw_78 hP hD hS (lv_sub hl [4, 6, 3, 2, 1, 0] rfl) h
        · have h := it_r c_80 h
          refine lv_aload_n hx hb dL_tells_48 rfl (lv_at hl 1 rfl) ?_
          refine lv_iload_n hx hb dL_tells_49 rfl (lv_at hl 2 rfl) ?_
          refine lv_sipush (v := 5000) hx hb dL_tells_50 (by decide) ?_
          refine lv_idiv hx hb dL_tells_53 (by decide) ?_
          refine lv_sipush (v := 400) hx hb dL_tells_54 (by decide) ?_
          refine lv_irem hx hb dL_tells_57 (by decide) ?_
          refine lv_iconst (v := 3) hx hb dL_tells_58 (by decide) ?_
          obtain ⟨⟨v_82, X_84⟩, hv_81, h⟩ := bd_l h
          refine Lo_S (As := [.ref (cA 0), .int ((p1 / 5000) - (p1 / 5000) / 400 * 400), .int 3]) (rest := []) (wA := w_78) (wr := []) 12 72 (38) (228) 670 4029 (c_L_digits l hst D k cA nA tA X_79 w_78 hw_78 ((p1 / 5000) - (p1 / 5000) / 400 * 400) 3 (v_82, X_84) hv_81) ⟨hx, hb, hml, hown, hts⟩ (va_cwS 3 hts gL_tells_L_digits rfl rfl rfl (by decide +kernel) ⟨Nat.le_of_ble_eq_true rfl, Nat.le_of_ble_eq_true rfl⟩) hK hG hC hP hD hS hA (List.Perm.refl _) rfl hl.1 rfl (Nat.le_of_ble_eq_true rfl) dL_tells_59 ⟨rfl, rfl⟩ ⟨rfl, rfl⟩ (by omega) (by omega) (fun ov w_83 H locs hQ hP hD hS => ?_)
          obtain ⟨rfl, hw_83⟩ := hQ
          refine W.eq (g2 := F0 m 62 ls [.int v_82]) rfl ?_
          refine lv_if_eq (tgt := 116) hx hb dL_tells_62 (by decide) (fun c_85 => ?_) (fun c_85 => ?_)
          · have h := it_l c_85 h
            refine lv_iconst (v := 0) hx hb dL_tells_116 (by decide) ?_
            refine lv_istore (lv' := [(4, .int 0), (3, .int v_60), (0, .ref (cA 0)), (1, .int p1), (2, .int p2)]) hx hb dL_tells_117 hl (by decide) rfl (fun ls hl => ?_)
            refine lv_lconst (v := 0) hx hb dL_tells_119 (by decide) ?_
            refine lv_lstore (lv' := [(5, .long 0), (4, .int 0), (3, .int v_60), (0, .ref (cA 0)), (1, .int p1), (2, .int p2)]) hx hb dL_tells_120 hl (by decide) rfl (fun ls hl => ?_)
            refine lv_iconst (v := 0) hx hb dL_tells_122 (by decide) ?_
            refine lv_istore (lv' := [(7, .int 0), (5, .long 0), (4, .int 0), (3, .int v_60), (0, .ref (cA 0)), (1, .int p1), (2, .int p2)]) hx hb dL_tells_123 hl (by decide) rfl (fun ls hl => ?_)
            refine W.widen (k := (578 - 72 * 7)) (n := (3468 - 432 * 7)) (by omega) (by omega) ?_
            exact hC_125 7 v_60 0 0 0 X_84 w_83 _ _ _ (Nat.le_refl _) hw_83 hP hD hS (lv_sub hl [4, 6, 3, 2, 1, 0] rfl) h
          · have h := it_r c_85 h
            refine lv_aload_n hx hb dL_tells_65 rfl (lv_at hl 1 rfl) ?_
            refine lv_iload_n hx hb dL_tells_66 rfl (lv_at hl 3 rfl) ?_
            refine lv_bipush (v := 100) hx hb dL_tells_67 (by decide) ?_
            refine lv_irem hx hb dL_tells_69 (by decide) ?_
            refine lv_iconst (v := 2) hx hb dL_tells_70 (by decide) ?_
            obtain ⟨⟨v_87, X_89⟩, hv_86, h⟩ := bd_l h
            refine Lo_S (As := [.ref (cA 0), .int (p2 - p2 / 100 * 100), .int 2]) (rest := []) (wA := w_83) (wr := []) 12 72 (50) (300) 670 4029 (c_L_digits l hst D k cA nA tA X_84 w_83 hw_83 (p2 - p2 / 100 * 100) 2 (v_87, X_89) hv_86) ⟨hx, hb, hml, hown, hts⟩ (va_cwS 3 hts gL_tells_L_digits rfl rfl rfl (by decide +kernel) ⟨Nat.le_of_ble_eq_true rfl, Nat.le_of_ble_eq_true rfl⟩) hK hG hC hP hD hS hA (List.Perm.refl _) rfl hl.1 rfl (Nat.le_of_ble_eq_true rfl) dL_tells_71 ⟨rfl, rfl⟩ ⟨rfl, rfl⟩ (by omega) (by omega) (fun ov w_88 H locs hQ hP hD hS => ?_)
            obtain ⟨rfl, hw_88⟩ := hQ
            refine W.eq (g2 := F0 m 74 ls [.int v_87]) rfl ?_
            refine lv_if_eq (tgt := 116) hx hb dL_tells_74 (by decide) (fun c_90 => ?_) (fun c_90 => ?_)
            · have h := it_l c_90 h
              refine lv_iconst (v := 0) hx hb dL_tells_116 (by decide) ?_
              refine lv_istore (lv' := [(4, .int 0), (3, .int v_60), (0, .ref (cA 0)), (1, .int p1), (2, .int p2)]) hx hb dL_tells_117 hl (by decide) rfl (fun ls hl => ?_)
              refine lv_lconst (v := 0) hx hb dL_tells_119 (by decide) ?_
              refine lv_lstore (lv' := [(5, .long 0), (4, .int 0), (3, .int v_60), (0, .ref (cA 0)), (1, .int p1), (2, .int p2)]) hx hb dL_tells_120 hl (by decide) rfl (fun ls hl => ?_)
              refine lv_iconst (v := 0) hx hb dL_tells_122 (by decide) ?_
              refine lv_istore (lv' := [(7, .int 0), (5, .long 0), (4, .int 0), (3, .int v_60), (0, .ref (cA 0)), (1, .int p1), (2, .int p2)]) hx hb dL_tells_123 hl (by decide) rfl (fun ls hl => ?_)
              refine W.widen (k := (578 - 72 * 7)) (n := (3468 - 432 * 7)) (by omega) (by omega) ?_
              exact hC_125 7 v_60 0 0 0 X_89 w_88 _ _ _ (Nat.le_refl _) hw_88 hP hD hS (lv_sub hl [4, 6, 3, 2, 1, 0] rfl) h
            · have h := it_r c_90 h
              refine lv_aload_n hx hb dL_tells_77 rfl (lv_at hl 1 rfl) ?_
              refine lv_iload_n hx hb dL_tells_78 rfl (lv_at hl 3 rfl) ?_
              refine lv_bipush (v := 100) hx hb dL_tells_79 (by decide) ?_
              refine lv_idiv hx hb dL_tells_81 (by decide) ?_
              refine lv_iconst (v := 4) hx hb dL_tells_82 (by decide) ?_
              refine lv_irem hx hb dL_tells_83 (by decide) ?_
              refine lv_bipush (v := 7) hx hb dL_tells_84 (by decide) ?_
              refine lv_imul hx hb dL_tells_86 ?_
              refine lv_iconst (v := 2) hx hb dL_tells_87 (by decide) ?_
              obtain ⟨⟨v_92, X_94⟩, hv_91, h⟩ := bd_l h
              refine Lo_S (As := [.ref (cA 0), .int (((p2 / 100) - (p2 / 100) / 4 * 4) * 7), .int 2]) (rest := []) (wA := w_88) (wr := []) 12 72 (62) (372) 670 4029 (c_L_digits l hst D k cA nA tA X_89 w_88 hw_88 (((p2 / 100) - (p2 / 100) / 4 * 4) * 7) 2 (v_92, X_94) hv_91) ⟨hx, hb, hml, hown, hts⟩ (va_cwS 3 hts gL_tells_L_digits rfl rfl rfl (by decide +kernel) ⟨Nat.le_of_ble_eq_true rfl, Nat.le_of_ble_eq_true rfl⟩) hK hG hC hP hD hS hA (List.Perm.refl _) rfl hl.1 rfl (Nat.le_of_ble_eq_true rfl) dL_tells_88 ⟨rfl, rfl⟩ ⟨rfl, rfl⟩ (by omega) (by omega) (fun ov w_93 H locs hQ hP hD hS => ?_)
              obtain ⟨rfl, hw_93⟩ := hQ
              refine W.eq (g2 := F0 m 91 ls [.int v_92]) rfl ?_
              refine lv_if_eq (tgt := 116) hx hb dL_tells_91 (by decide) (fun c_95 => ?_) (fun c_95 => ?_)
              · have h := it_l c_95 h
                refine lv_iconst (v := 0) hx hb dL_tells_116 (by decide) ?_
                refine lv_istore (lv' := [(4, .int 0), (3, .int v_60), (0, .ref (cA 0)), (1, .int p1), (2, .int p2)]) hx hb dL_tells_117 hl (by decide) rfl (fun ls hl => ?_)
                refine lv_lconst (v := 0) hx hb dL_tells_119 (by decide) ?_
                refine lv_lstore (lv' := [(5, .long 0), (4, .int 0), (3, .int v_60), (0, .ref (cA 0)), (1, .int p1), (2, .int p2)]) hx hb dL_tells_120 hl (by decide) rfl (fun ls hl => ?_)
                refine lv_iconst (v := 0) hx hb dL_tells_122 (by decide) ?_
                refine lv_istore (lv' := [(7, .int 0), (5, .long 0), (4, .int 0), (3, .int v_60), (0, .ref (cA 0)), (1, .int p1), (2, .int p2)]) hx hb dL_tells_123 hl (by decide) rfl (fun ls hl => ?_)
                refine W.widen (k := (578 - 72 * 7)) (n := (3468 - 432 * 7)) (by omega) (by omega) ?_
                exact hC_125 7 v_60 0 0 0 X_94 w_93 _ _ _ (Nat.le_refl _) hw_93 hP hD hS (lv_sub hl [4, 6, 3, 2, 1, 0] rfl) h
              · have h := it_r c_95 h
                refine lv_aload_n hx hb dL_tells_94 rfl (lv_at hl 1 rfl) ?_
                refine lv_iconst (v := 1) hx hb dL_tells_95 (by decide) ?_
                refine lv_iload_n hx hb dL_tells_96 rfl (lv_at hl 3 rfl) ?_
                refine lv_sipush (v := 400) hx hb dL_tells_97 (by decide) ?_
                refine lv_idiv hx hb dL_tells_100 (by decide) ?_
                refine lv_bipush (v := 20) hx hb dL_tells_101 (by decide) ?_
                refine lv_irem hx hb dL_tells_103 (by decide) ?_
                refine lv_iadd hx hb dL_tells_104 ?_
                refine lv_iconst (v := 2) hx hb dL_tells_105 (by decide) ?_
                obtain ⟨⟨v_97, X_99⟩, hv_96, h⟩ := bd_l h
                refine Lo_S (As := [.ref (cA 0), .int (1 + ((p2 / 400) - (p2 / 400) / 20 * 20)), .int 2]) (rest := []) (wA := w_93) (wr := []) 12 72 (74) (444) 670 4029 (c_L_digits l hst D k cA nA tA X_94 w_93 hw_93 (1 + ((p2 / 400) - (p2 / 400) / 20 * 20)) 2 (v_97, X_99) hv_96) ⟨hx, hb, hml, hown, hts⟩ (va_cwS 3 hts gL_tells_L_digits rfl rfl rfl (by decide +kernel) ⟨Nat.le_of_ble_eq_true rfl, Nat.le_of_ble_eq_true rfl⟩) hK hG hC hP hD hS hA (List.Perm.refl _) rfl hl.1 rfl (Nat.le_of_ble_eq_true rfl) dL_tells_106 ⟨rfl, rfl⟩ ⟨rfl, rfl⟩ (by omega) (by omega) (fun ov w_98 H locs hQ hP hD hS => ?_)
                obtain ⟨rfl, hw_98⟩ := hQ
                refine W.eq (g2 := F0 m 109 ls [.int v_97]) rfl ?_
                refine lv_if_eq (tgt := 116) hx hb dL_tells_109 (by decide) (fun c_100 => ?_) (fun c_100 => ?_)
                · have h := it_l c_100 h
                  refine lv_iconst (v := 0) hx hb dL_tells_116 (by decide) ?_
                  refine lv_istore (lv' := [(4, .int 0), (3, .int v_60), (0, .ref (cA 0)), (1, .int p1), (2, .int p2)]) hx hb dL_tells_117 hl (by decide) rfl (fun ls hl => ?_)
                  refine lv_lconst (v := 0) hx hb dL_tells_119 (by decide) ?_
                  refine lv_lstore (lv' := [(5, .long 0), (4, .int 0), (3, .int v_60), (0, .ref (cA 0)), (1, .int p1), (2, .int p2)]) hx hb dL_tells_120 hl (by decide) rfl (fun ls hl => ?_)
                  refine lv_iconst (v := 0) hx hb dL_tells_122 (by decide) ?_
                  refine lv_istore (lv' := [(7, .int 0), (5, .long 0), (4, .int 0), (3, .int v_60), (0, .ref (cA 0)), (1, .int p1), (2, .int p2)]) hx hb dL_tells_123 hl (by decide) rfl (fun ls hl => ?_)
                  refine W.widen (k := (578 - 72 * 7)) (n := (3468 - 432 * 7)) (by omega) (by omega) ?_
                  exact hC_125 7 v_60 0 0 0 X_99 w_98 _ _ _ (Nat.le_refl _) hw_98 hP hD hS (lv_sub hl [4, 6, 3, 2, 1, 0] rfl) h
                · have h := it_r c_100 h
                  refine lv_iconst (v := 1) hx hb dL_tells_112 (by decide) ?_
                  refine lv_goto (tgt := 117) hx hb dL_tells_113 (by decide) ?_
                  refine lv_istore (lv' := [(4, .int 1), (3, .int v_60), (0, .ref (cA 0)), (1, .int p1), (2, .int p2)]) hx hb dL_tells_117 hl (by decide) rfl (fun ls hl => ?_)
                  refine lv_lconst (v := 0) hx hb dL_tells_119 (by decide) ?_
                  refine lv_lstore (lv' := [(5, .long 0), (4, .int 1), (3, .int v_60), (0, .ref (cA 0)), (1, .int p1), (2, .int p2)]) hx hb dL_tells_120 hl (by decide) rfl (fun ls hl => ?_)
                  refine lv_iconst (v := 0) hx hb dL_tells_122 (by decide) ?_
                  refine lv_istore (lv' := [(7, .int 0), (5, .long 0), (4, .int 1), (3, .int v_60), (0, .ref (cA 0)), (1, .int p1), (2, .int p2)]) hx hb dL_tells_123 hl (by decide) rfl (fun ls hl => ?_)
                  refine W.widen (k := (578 - 72 * 7)) (n := (3468 - 432 * 7)) (by omega) (by omega) ?_
                  exact hC_125 7 v_60 1 0 0 X_99 w_98 _ _ _ (Nat.le_refl _) hw_98 hP hD hS (lv_sub hl [4, 6, 3, 2, 1, 0] rfl) h
noncomputable def f_L_act (X : XV) (p1 : Int32) (p2 : Int32) : Option (Int64 × XV) := nm (p2 - p2 / 6 * 6) fun v_1 => if (p1 - p1 / 14 * 14) = 0 then (bd (o_tick X (1 + (p2 - p2 / 20 * 20))) fun ⟨v_4, X_6⟩ => some (v_4, X_6)) else (if (p1 - p1 / 14 * 14) = 1 then (bd (o_tick X (1 + (p2 - p2 / 20 * 20))) fun ⟨v_9, X_11⟩ => some (v_9, X_11)) else (if (p1 - p1 / 14 * 14) = 2 then (bd (o_tick X (1 + (p2 - p2 / 20 * 20))) fun ⟨v_14, X_16⟩ => some (v_14, X_16)) else (if (p1 - p1 / 14 * 14) = 3 then (bd (o_tick X (1 + (p2 - p2 / 20 * 20))) fun ⟨v_19, X_21⟩ => some (v_19, X_21)) else (if (p1 - p1 / 14 * 14) = 4 then (bd (o_tick X (1 + (p2 - p2 / 90 * 90))) fun ⟨v_24, X_26⟩ => some (v_24, X_26)) else (if (p1 - p1 / 14 * 14) = 5 then (nm (p2 - p2 / 5 * 5) fun v_28 => if 2 ≤ v_28 then (if v_28 = 2 then (bd (o_set X v_28 ((p2 / 5) - (p2 / 5) / 100 * 100)) fun ⟨v_41, X_43⟩ => some (v_41, X_43)) else (if v_28 = 3 then (bd (o_set X v_28 ((p2 / 5) - (p2 / 5) / 9 * 9)) fun ⟨v_37, X_39⟩ => some (v_37, X_39)) else (bd (o_set X v_28 (1 + ((p2 / 5) - (p2 / 5) / 20 * 20))) fun ⟨v_33, X_35⟩ => some (v_33, X_35)))) else (bd (o_set X v_28 ((p2 / 5) - (p2 / 5) / 600 * 600)) fun ⟨v_45, X_47⟩ => some (v_45, X_47))) else (if (p1 - p1 / 14 * 14) = 6 then (nm (p2 - p2 / 5 * 5) fun v_49 => if 2 ≤ v_49 then (if v_49 = 2 then (bd (o_set X v_49 ((p2 / 5) - (p2 / 5) / 100 * 100)) fun ⟨v_62, X_64⟩ => some (v_62, X_64)) else (if v_49 = 3 then (bd (o_set X v_49 ((p2 / 5) - (p2 / 5) / 9 * 9)) fun ⟨v_58, X_60⟩ => some (v_58, X_60)) else (bd (o_set X v_49 (1 + ((p2 / 5) - (p2 / 5) / 20 * 20))) fun ⟨v_54, X_56⟩ => some (v_54, X_56)))) else (bd (o_set X v_49 ((p2 / 5) - (p2 / 5) / 600 * 600)) fun ⟨v_66, X_68⟩ => some (v_66, X_68))) else (if (p1 - p1 / 14 * 14) = 7 then (bd (o_setValve X v_1 ((p2 / 6) - (p2 / 6) / 300 * 300)) fun ⟨v_71, X_73⟩ => some (v_71, X_73)) else (if (p1 - p1 / 14 * 14) = 8 then (bd (o_setValve X v_1 ((p2 / 6) - (p2 / 6) / 300 * 300)) fun ⟨v_76, X_78⟩ => some (v_76, X_78)) else (if (p1 - p1 / 14 * 14) = 9 then (bd (o_setBleed X v_1 ((p2 / 6) - (p2 / 6) / 91 * 91)) fun ⟨v_81, X_83⟩ => some (v_81, X_83)) else (if (p1 - p1 / 14 * 14) = 10 then (bd (o_wash X v_1 (1 + ((p2 / 6) - (p2 / 6) / 20 * 20))) fun ⟨v_86, X_88⟩ => some (v_86, X_88)) else (if (p1 - p1 / 14 * 14) = 11 then (if (p2 - p2 / 2 * 2) = 0 then (bd (o_endWash X v_1) fun ⟨v_96, X_98⟩ => some (v_96, X_98)) else (bd (o_tick X 1) fun ⟨v_92, X_94⟩ => some (v_92, X_94))) else (if (p1 - p1 / 14 * 14) = 12 then (bd (o_undo X) fun ⟨v_101, X_103⟩ => some (v_101, X_103)) else (if (p2 - p2 / 2 * 2) = 0 then (bd (o_save X ((p2 / 2) &&& 1)) fun ⟨v_110, X_112⟩ => some (v_110, X_112)) else (bd (o_restore X ((p2 / 2) &&& 1)) fun ⟨v_106, X_108⟩ => some (v_106, X_108)))))))))))))))
set_option maxRecDepth 100000 in
set_option maxHeartbeats 4000000 in
theorem c_L_act (l : Launch) (hst : l.stackTraces = false) (D : va_G) (k : Nat → ClassId) (cA nA tA : Nat → Nat) (X : XV) (w : va_W) (hw : Ob k cA nA tA X w) (p1 : Int32) (p2 : Int32) (o : Int64 × XV) (h : f_L_act X p1 p2 = some o) : CO l D k yL_act wsL_act ({ frames := 9, cells := 14, slots := 93, locals := 150 } : Room) [.ref (cA 0), .int p1, .int p2] (w) (fun (ov : Option Value) (w' : va_W) => ov = some (.long o.1) ∧ Ob k cA nA tA o.2 w') := by
  obtain ⟨B9, hB9⟩ : ∃ B : Option Value → va_W → Prop, B = fun (ov : Option Value) (w' : va_W) => ov = some (.long o.1) ∧ Ob k cA nA tA o.2 w' := ⟨_, rfl⟩
  refine CO.of (P := B9) ?_ (fun ov w' h9 => by rw [hB9] at h9; exact h9)
  refine Cl_of0 (cc := cL_act) (maxL := 5) (ret := (some .long)) (by decide) rfl (Nat.le_of_ble_eq_true rfl) ?_
  intro p e s m args below meth c A ls hx hb hr hml hts hown hlocks hK hG hC hA hP hD hS hl
  have hl : lv_has ls 5 [(0, .ref (cA 0)), (1, .int p1), (2, .int p2)] := hl
  have hP := P_n hP
  have hD := D_n hD
  unfold f_L_act at h
  refine lv_iload_n hx hb dL_act_0 rfl (lv_at hl 2 rfl) ?_
  refine lv_bipush (v := 6) hx hb dL_act_1 (by decide) ?_
  refine lv_irem hx hb dL_act_3 (by decide) ?_
  refine lv_topi (fun v_1 ev_1 => ?_)
  have h := nm_l h ev_1
  refine lv_istore_n (lv' := [(3, .int v_1), (0, .ref (cA 0)), (1, .int p1), (2, .int p2)]) hx hb dL_act_4 rfl hl (by decide) rfl (fun ls hl => ?_)
  refine lv_iload_n hx hb dL_act_5 rfl (lv_at hl 2 rfl) ?_
  refine lv_bipush (v := 14) hx hb dL_act_6 (by decide) ?_
  refine lv_irem hx hb dL_act_8 (by decide) ?_
  by_cases c_2 : (p1 - p1 / 14 * 14) = 0
  · have h := it_l c_2 h
    refine lv_tableIn (tgt := 76) hx hb dL_act_9 (by rw [c_2]; decide) (by rw [c_2]; decide) (by rw [c_2]; rfl) (by decide) ?_
    refine lv_aload_n hx hb dL_act_76 rfl (lv_at hl 1 rfl) ?_
    refine lv_iconst (v := 1) hx hb dL_act_77 (by decide) ?_
    refine lv_iload_n hx hb dL_act_78 rfl (lv_at hl 3 rfl) ?_
    refine lv_bipush (v := 20) hx hb dL_act_79 (by decide) ?_
    refine lv_irem hx hb dL_act_81 (by decide) ?_
    refine lv_iadd hx hb dL_act_82 ?_
    obtain ⟨⟨v_4, X_6⟩, hv_3, h⟩ := bd_l h
    refine Lo_T (As := [.ref (cA 0), .int (1 + (p2 - p2 / 20 * 20))]) (rest := []) (wA := w) (wr := []) 12 81 (12) (81) 14 93 (co_tick l hst D k cA nA tA X w hw (1 + (p2 - p2 / 20 * 20)) (v_4, X_6) hv_3) ⟨hx, hb, hml, hown, hts⟩ (vx_cwSW 2 hts gL_act_L_tick rfl rfl rfl (by decide +kernel) ⟨Nat.le_of_ble_eq_true rfl, Nat.le_of_ble_eq_true rfl⟩) hK hG hC hP hD hS hA (List.Perm.refl _) rfl hl.1 rfl (Nat.le_of_ble_eq_true rfl) dL_act_83 ⟨rfl, rfl⟩ ⟨rfl, rfl⟩ (by omega) (by omega) (fun ov w_5 H locs hQ hP hD hS => ?_)
    obtain ⟨rfl, hw_5⟩ := hQ
    refine W.eq (g2 := F0 m 86 ls [.long v_4]) rfl ?_
    cases h
    exact Cx_lret (B := B9) rfl (by rw [hB9]; exact ⟨rfl, hw_5⟩) (by omega) (by omega) hx hb hr (P_l hP) (D_l hD) hS dL_act_86 hlocks
  · have h := it_r c_2 h
    by_cases c_7 : (p1 - p1 / 14 * 14) = 1
    · have h := it_l c_7 h
      refine lv_tableIn (tgt := 76) hx hb dL_act_9 (by rw [c_7]; decide) (by rw [c_7]; decide) (by rw [c_7]; rfl) (by decide) ?_
      refine lv_aload_n hx hb dL_act_76 rfl (lv_at hl 1 rfl) ?_
      refine lv_iconst (v := 1) hx hb dL_act_77 (by decide) ?_
      refine lv_iload_n hx hb dL_act_78 rfl (lv_at hl 3 rfl) ?_
      refine lv_bipush (v := 20) hx hb dL_act_79 (by decide) ?_
      refine lv_irem hx hb dL_act_81 (by decide) ?_
      refine lv_iadd hx hb dL_act_82 ?_
      obtain ⟨⟨v_9, X_11⟩, hv_8, h⟩ := bd_l h
      refine Lo_T (As := [.ref (cA 0), .int (1 + (p2 - p2 / 20 * 20))]) (rest := []) (wA := w) (wr := []) 12 81 (12) (81) 14 93 (co_tick l hst D k cA nA tA X w hw (1 + (p2 - p2 / 20 * 20)) (v_9, X_11) hv_8) ⟨hx, hb, hml, hown, hts⟩ (vx_cwSW 2 hts gL_act_L_tick rfl rfl rfl (by decide +kernel) ⟨Nat.le_of_ble_eq_true rfl, Nat.le_of_ble_eq_true rfl⟩) hK hG hC hP hD hS hA (List.Perm.refl _) rfl hl.1 rfl (Nat.le_of_ble_eq_true rfl) dL_act_83 ⟨rfl, rfl⟩ ⟨rfl, rfl⟩ (by omega) (by omega) (fun ov w_10 H locs hQ hP hD hS => ?_)
      obtain ⟨rfl, hw_10⟩ := hQ
      refine W.eq (g2 := F0 m 86 ls [.long v_9]) rfl ?_
      cases h
      exact Cx_lret (B := B9) rfl (by rw [hB9]; exact ⟨rfl, hw_10⟩) (by omega) (by omega) hx hb hr (P_l hP) (D_l hD) hS dL_act_86 hlocks
    · have h := it_r c_7 h
      by_cases c_12 : (p1 - p1 / 14 * 14) = 2
      · have h := it_l c_12 h
        refine lv_tableIn (tgt := 76) hx hb dL_act_9 (by rw [c_12]; decide) (by rw [c_12]; decide) (by rw [c_12]; rfl) (by decide) ?_
        refine lv_aload_n hx hb dL_act_76 rfl (lv_at hl 1 rfl) ?_
        refine lv_iconst (v := 1) hx hb dL_act_77 (by decide) ?_
        refine lv_iload_n hx hb dL_act_78 rfl (lv_at hl 3 rfl) ?_
        refine lv_bipush (v := 20) hx hb dL_act_79 (by decide) ?_
        refine lv_irem hx hb dL_act_81 (by decide) ?_
        refine lv_iadd hx hb dL_act_82 ?_
        obtain ⟨⟨v_14, X_16⟩, hv_13, h⟩ := bd_l h
        refine Lo_T (As := [.ref (cA 0), .int (1 + (p2 - p2 / 20 * 20))]) (rest := []) (wA := w) (wr := []) 12 81 (12) (81) 14 93 (co_tick l hst D k cA nA tA X w hw (1 + (p2 - p2 / 20 * 20)) (v_14, X_16) hv_13) ⟨hx, hb, hml, hown, hts⟩ (vx_cwSW 2 hts gL_act_L_tick rfl rfl rfl (by decide +kernel) ⟨Nat.le_of_ble_eq_true rfl, Nat.le_of_ble_eq_true rfl⟩) hK hG hC hP hD hS hA (List.Perm.refl _) rfl hl.1 rfl (Nat.le_of_ble_eq_true rfl) dL_act_83 ⟨rfl, rfl⟩ ⟨rfl, rfl⟩ (by omega) (by omega) (fun ov w_15 H locs hQ hP hD hS => ?_)
        obtain ⟨rfl, hw_15⟩ := hQ
        refine W.eq (g2 := F0 m 86 ls [.long v_14]) rfl ?_
        cases h
        exact Cx_lret (B := B9) rfl (by rw [hB9]; exact ⟨rfl, hw_15⟩) (by omega) (by omega) hx hb hr (P_l hP) (D_l hD) hS dL_act_86 hlocks
      · have h := it_r c_12 h
        by_cases c_17 : (p1 - p1 / 14 * 14) = 3
        · have h := it_l c_17 h
          refine lv_tableIn (tgt := 76) hx hb dL_act_9 (by rw [c_17]; decide) (by rw [c_17]; decide) (by rw [c_17]; rfl) (by decide) ?_
          refine lv_aload_n hx hb dL_act_76 rfl (lv_at hl 1 rfl) ?_
          refine lv_iconst (v := 1) hx hb dL_act_77 (by decide) ?_
          refine lv_iload_n hx hb dL_act_78 rfl (lv_at hl 3 rfl) ?_
          refine lv_bipush (v := 20) hx hb dL_act_79 (by decide) ?_
          refine lv_irem hx hb dL_act_81 (by decide) ?_
          refine lv_iadd hx hb dL_act_82 ?_
          obtain ⟨⟨v_19, X_21⟩, hv_18, h⟩ := bd_l h
          refine Lo_T (As := [.ref (cA 0), .int (1 + (p2 - p2 / 20 * 20))]) (rest := []) (wA := w) (wr := []) 12 81 (12) (81) 14 93 (co_tick l hst D k cA nA tA X w hw (1 + (p2 - p2 / 20 * 20)) (v_19, X_21) hv_18) ⟨hx, hb, hml, hown, hts⟩ (vx_cwSW 2 hts gL_act_L_tick rfl rfl rfl (by decide +kernel) ⟨Nat.le_of_ble_eq_true rfl, Nat.le_of_ble_eq_true rfl⟩) hK hG hC hP hD hS hA (List.Perm.refl _) rfl hl.1 rfl (Nat.le_of_ble_eq_true rfl) dL_act_83 ⟨rfl, rfl⟩ ⟨rfl, rfl⟩ (by omega) (by omega) (fun ov w_20 H locs hQ hP hD hS => ?_)
          obtain ⟨rfl, hw_20⟩ := hQ
          refine W.eq (g2 := F0 m 86 ls [.long v_19]) rfl ?_
          cases h
          exact Cx_lret (B := B9) rfl (by rw [hB9]; exact ⟨rfl, hw_20⟩) (by omega) (by omega) hx hb hr (P_l hP) (D_l hD) hS dL_act_86 hlocks
        · have h := it_r c_17 h
          by_cases c_22 : (p1 - p1 / 14 * 14) = 4
          · have h := it_l c_22 h
            refine lv_tableIn (tgt := 87) hx hb dL_act_9 (by rw [c_22]; decide) (by rw [c_22]; decide) (by rw [c_22]; rfl) (by decide) ?_
            refine lv_aload_n hx hb dL_act_87 rfl (lv_at hl 1 rfl) ?_
            refine lv_iconst (v := 1) hx hb dL_act_88 (by decide) ?_
            refine lv_iload_n hx hb dL_act_89 rfl (lv_at hl 3 rfl) ?_
            refine lv_bipush (v := 90) hx hb dL_act_90 (by decide) ?_
            refine lv_irem hx hb dL_act_92 (by decide) ?_
            refine lv_iadd hx hb dL_act_93 ?_
            obtain ⟨⟨v_24, X_26⟩, hv_23, h⟩ := bd_l h
            refine Lo_T (As := [.ref (cA 0), .int (1 + (p2 - p2 / 90 * 90))]) (rest := []) (wA := w) (wr := []) 12 81 (12) (81) 14 93 (co_tick l hst D k cA nA tA X w hw (1 + (p2 - p2 / 90 * 90)) (v_24, X_26) hv_23) ⟨hx, hb, hml, hown, hts⟩ (vx_cwSW 2 hts gL_act_L_tick rfl rfl rfl (by decide +kernel) ⟨Nat.le_of_ble_eq_true rfl, Nat.le_of_ble_eq_true rfl⟩) hK hG hC hP hD hS hA (List.Perm.refl _) rfl hl.1 rfl (Nat.le_of_ble_eq_true rfl) dL_act_94 ⟨rfl, rfl⟩ ⟨rfl, rfl⟩ (by omega) (by omega) (fun ov w_25 H locs hQ hP hD hS => ?_)
            obtain ⟨rfl, hw_25⟩ := hQ
            refine W.eq (g2 := F0 m 97 ls [.long v_24]) rfl ?_
            cases h
            exact Cx_lret (B := B9) rfl (by rw [hB9]; exact ⟨rfl, hw_25⟩) (by omega) (by omega) hx hb hr (P_l hP) (D_l hD) hS dL_act_97 hlocks
          · have h := it_r c_22 h
            by_cases c_27 : (p1 - p1 / 14 * 14) = 5
            · have h := it_l c_27 h
              refine lv_tableIn (tgt := 98) hx hb dL_act_9 (by rw [c_27]; decide) (by rw [c_27]; decide) (by rw [c_27]; rfl) (by decide) ?_
              refine lv_iload_n hx hb dL_act_98 rfl (lv_at hl 3 rfl) ?_
              refine lv_iconst (v := 5) hx hb dL_act_99 (by decide) ?_
              refine lv_irem hx hb dL_act_100 (by decide) ?_
              refine lv_topi (fun v_28 ev_28 => ?_)
              have h := nm_l h ev_28
              refine lv_istore (lv' := [(4, .int v_28), (3, .int v_1), (0, .ref (cA 0)), (1, .int p1), (2, .int p2)]) hx hb dL_act_101 hl (by decide) rfl (fun ls hl => ?_)
              refine lv_aload_n hx hb dL_act_103 rfl (lv_at hl 2 rfl) ?_
              refine lv_iload hx hb dL_act_104 (lv_at hl 0 rfl) ?_
              refine lv_iload hx hb dL_act_106 (lv_at hl 0 rfl) ?_
              refine lv_iconst (v := 2) hx hb dL_act_108 (by decide) ?_
              refine lv_icmp_ge (tgt := 122) hx hb dL_act_109 (by decide) (fun c_29 => ?_) (fun c_29 => ?_)
              · have h := it_l c_29 h
                refine lv_iload hx hb dL_act_122 (lv_at hl 0 rfl) ?_
                refine lv_iconst (v := 2) hx hb dL_act_124 (by decide) ?_
                refine lv_icmp_ne (tgt := 137) hx hb dL_act_125 (by decide) (fun c_30 => ?_) (fun c_30 => ?_)
                · have h := it_r c_30 h
                  refine lv_iload hx hb dL_act_137 (lv_at hl 0 rfl) ?_
                  refine lv_iconst (v := 3) hx hb dL_act_139 (by decide) ?_
                  refine lv_icmp_ne (tgt := 152) hx hb dL_act_140 (by decide) (fun c_31 => ?_) (fun c_31 => ?_)
                  · have h := it_r c_31 h
                    refine lv_iconst (v := 1) hx hb dL_act_152 (by decide) ?_
                    refine lv_iload_n hx hb dL_act_153 rfl (lv_at hl 4 rfl) ?_
                    refine lv_iconst (v := 5) hx hb dL_act_154 (by decide) ?_
                    refine lv_idiv hx hb dL_act_155 (by decide) ?_
                    refine lv_bipush (v := 20) hx hb dL_act_156 (by decide) ?_
                    refine lv_irem hx hb dL_act_158 (by decide) ?_
                    refine lv_iadd hx hb dL_act_159 ?_
                    obtain ⟨⟨v_33, X_35⟩, hv_32, h⟩ := bd_l h
                    refine Lo_T (As := [.ref (cA 0), .int v_28, .int (1 + ((p2 / 5) - (p2 / 5) / 20 * 20))]) (rest := []) (wA := w) (wr := []) 13 87 (13) (87) 14 93 (co_set l hst D k cA nA tA X w hw v_28 (1 + ((p2 / 5) - (p2 / 5) / 20 * 20)) (v_33, X_35) hv_32) ⟨hx, hb, hml, hown, hts⟩ (vx_cwSW 3 hts gL_act_L_set rfl rfl rfl (by decide +kernel) ⟨Nat.le_of_ble_eq_true rfl, Nat.le_of_ble_eq_true rfl⟩) hK hG hC hP hD hS hA (List.Perm.refl _) rfl hl.1 rfl (Nat.le_of_ble_eq_true rfl) dL_act_160 ⟨rfl, rfl⟩ ⟨rfl, rfl⟩ (by omega) (by omega) (fun ov w_34 H locs hQ hP hD hS => ?_)
                    obtain ⟨rfl, hw_34⟩ := hQ
                    refine W.eq (g2 := F0 m 163 ls [.long v_33]) rfl ?_
                    cases h
                    exact Cx_lret (B := B9) rfl (by rw [hB9]; exact ⟨rfl, hw_34⟩) (by omega) (by omega) hx hb hr (P_l hP) (D_l hD) hS dL_act_163 hlocks
                  · have h := it_l c_31 h
                    refine lv_iload_n hx hb dL_act_143 rfl (lv_at hl 4 rfl) ?_
                    refine lv_iconst (v := 5) hx hb dL_act_144 (by decide) ?_
                    refine lv_idiv hx hb dL_act_145 (by decide) ?_
                    refine lv_bipush (v := 9) hx hb dL_act_146 (by decide) ?_
                    refine lv_irem hx hb dL_act_148 (by decide) ?_
                    refine lv_goto (tgt := 160) hx hb dL_act_149 (by decide) ?_
                    obtain ⟨⟨v_37, X_39⟩, hv_36, h⟩ := bd_l h
                    refine Lo_T (As := [.ref (cA 0), .int v_28, .int ((p2 / 5) - (p2 / 5) / 9 * 9)]) (rest := []) (wA := w) (wr := []) 13 87 (13) (87) 14 93 (co_set l hst D k cA nA tA X w hw v_28 ((p2 / 5) - (p2 / 5) / 9 * 9) (v_37, X_39) hv_36) ⟨hx, hb, hml, hown, hts⟩ (vx_cwSW 3 hts gL_act_L_set rfl rfl rfl (by decide +kernel) ⟨Nat.le_of_ble_eq_true rfl, Nat.le_of_ble_eq_true rfl⟩) hK hG hC hP hD hS hA (List.Perm.refl _) rfl hl.1 rfl (Nat.le_of_ble_eq_true rfl) dL_act_160 ⟨rfl, rfl⟩ ⟨rfl, rfl⟩ (by omega) (by omega) (fun ov w_38 H locs hQ hP hD hS => ?_)
                    obtain ⟨rfl, hw_38⟩ := hQ
                    refine W.eq (g2 := F0 m 163 ls [.long v_37]) rfl ?_
                    cases h
                    exact Cx_lret (B := B9) rfl (by rw [hB9]; exact ⟨rfl, hw_38⟩) (by omega) (by omega) hx hb hr (P_l hP) (D_l hD) hS dL_act_163 hlocks
                · have h := it_l c_30 h
                  refine lv_iload_n hx hb dL_act_128 rfl (lv_at hl 4 rfl) ?_
                  refine lv_iconst (v := 5) hx hb dL_act_129 (by decide) ?_
                  refine lv_idiv hx hb dL_act_130 (by decide) ?_
                  refine lv_bipush (v := 100) hx hb dL_act_131 (by decide) ?_
                  refine lv_irem hx hb dL_act_133 (by decide) ?_
                  refine lv_goto (tgt := 160) hx hb dL_act_134 (by decide) ?_
                  obtain ⟨⟨v_41, X_43⟩, hv_40, h⟩ := bd_l h
                  refine Lo_T (As := [.ref (cA 0), .int v_28, .int ((p2 / 5) - (p2 / 5) / 100 * 100)]) (rest := []) (wA := w) (wr := []) 13 87 (13) (87) 14 93 (co_set l hst D k cA nA tA X w hw v_28 ((p2 / 5) - (p2 / 5) / 100 * 100) (v_41, X_43) hv_40) ⟨hx, hb, hml, hown, hts⟩ (vx_cwSW 3 hts gL_act_L_set rfl rfl rfl (by decide +kernel) ⟨Nat.le_of_ble_eq_true rfl, Nat.le_of_ble_eq_true rfl⟩) hK hG hC hP hD hS hA (List.Perm.refl _) rfl hl.1 rfl (Nat.le_of_ble_eq_true rfl) dL_act_160 ⟨rfl, rfl⟩ ⟨rfl, rfl⟩ (by omega) (by omega) (fun ov w_42 H locs hQ hP hD hS => ?_)
                  obtain ⟨rfl, hw_42⟩ := hQ
                  refine W.eq (g2 := F0 m 163 ls [.long v_41]) rfl ?_
                  cases h
                  exact Cx_lret (B := B9) rfl (by rw [hB9]; exact ⟨rfl, hw_42⟩) (by omega) (by omega) hx hb hr (P_l hP) (D_l hD) hS dL_act_163 hlocks
              · have h := it_r c_29 h
                refine lv_iload_n hx hb dL_act_112 rfl (lv_at hl 4 rfl) ?_
                refine lv_iconst (v := 5) hx hb dL_act_113 (by decide) ?_
                refine lv_idiv hx hb dL_act_114 (by decide) ?_
                refine lv_sipush (v := 600) hx hb dL_act_115 (by decide) ?_
                refine lv_irem hx hb dL_act_118 (by decide) ?_
                refine lv_goto (tgt := 160) hx hb dL_act_119 (by decide) ?_
                obtain ⟨⟨v_45, X_47⟩, hv_44, h⟩ := bd_l h
                refine Lo_T (As := [.ref (cA 0), .int v_28, .int ((p2 / 5) - (p2 / 5) / 600 * 600)]) (rest := []) (wA := w) (wr := []) 13 87 (13) (87) 14 93 (co_set l hst D k cA nA tA X w hw v_28 ((p2 / 5) - (p2 / 5) / 600 * 600) (v_45, X_47) hv_44) ⟨hx, hb, hml, hown, hts⟩ (vx_cwSW 3 hts gL_act_L_set rfl rfl rfl (by decide +kernel) ⟨Nat.le_of_ble_eq_true rfl, Nat.le_of_ble_eq_true rfl⟩) hK hG hC hP hD hS hA (List.Perm.refl _) rfl hl.1 rfl (Nat.le_of_ble_eq_true rfl) dL_act_160 ⟨rfl, rfl⟩ ⟨rfl, rfl⟩ (by omega) (by omega) (fun ov w_46 H locs hQ hP hD hS => ?_)
                obtain ⟨rfl, hw_46⟩ := hQ
                refine W.eq (g2 := F0 m 163 ls [.long v_45]) rfl ?_
                cases h
                exact Cx_lret (B := B9) rfl (by rw [hB9]; exact ⟨rfl, hw_46⟩) (by omega) (by omega) hx hb hr (P_l hP) (D_l hD) hS dL_act_163 hlocks
            · have h := it_r c_27 h
              by_cases c_48 : (p1 - p1 / 14 * 14) = 6
              · have h := it_l c_48 h
                refine lv_tableIn (tgt := 98) hx hb dL_act_9 (by rw [c_48]; decide) (by rw [c_48]; decide) (by rw [c_48]; rfl) (by decide) ?_
                refine lv_iload_n hx hb dL_act_98 rfl (lv_at hl 3 rfl) ?_
                refine lv_iconst (v := 5) hx hb dL_act_99 (by decide) ?_
                refine lv_irem hx hb dL_act_100 (by decide) ?_
                refine lv_topi (fun v_49 ev_49 => ?_)
                have h := nm_l h ev_49
                refine lv_istore (lv' := [(4, .int v_49), (3, .int v_1), (0, .ref (cA 0)), (1, .int p1), (2, .int p2)]) hx hb dL_act_101 hl (by decide) rfl (fun ls hl => ?_)
                refine lv_aload_n hx hb dL_act_103 rfl (lv_at hl 2 rfl) ?_
                refine lv_iload hx hb dL_act_104 (lv_at hl 0 rfl) ?_
                refine lv_iload hx hb dL_act_106 (lv_at hl 0 rfl) ?_
                refine lv_iconst (v := 2) hx hb dL_act_108 (by decide) ?_
                refine lv_icmp_ge (tgt := 122) hx hb dL_act_109 (by decide) (fun c_50 => ?_) (fun c_50 => ?_)
                · have h := it_l c_50 h
                  refine lv_iload hx hb dL_act_122 (lv_at hl 0 rfl) ?_
                  refine lv_iconst (v := 2) hx hb dL_act_124 (by decide) ?_
                  refine lv_icmp_ne (tgt := 137) hx hb dL_act_125 (by decide) (fun c_51 => ?_) (fun c_51 => ?_)
                  · have h := it_r c_51 h
                    refine lv_iload hx hb dL_act_137 (lv_at hl 0 rfl) ?_
                    refine lv_iconst (v := 3) hx hb dL_act_139 (by decide) ?_
                    refine lv_icmp_ne (tgt := 152) hx hb dL_act_140 (by decide) (fun c_52 => ?_) (fun c_52 => ?_)
                    · have h := it_r c_52 h
                      refine lv_iconst (v := 1) hx hb dL_act_152 (by decide) ?_
                      refine lv_iload_n hx hb dL_act_153 rfl (lv_at hl 4 rfl) ?_
                      refine lv_iconst (v := 5) hx hb dL_act_154 (by decide) ?_
                      refine lv_idiv hx hb dL_act_155 (by decide) ?_
                      refine lv_bipush (v := 20) hx hb dL_act_156 (by decide) ?_
                      refine lv_irem hx hb dL_act_158 (by decide) ?_
                      refine lv_iadd hx hb dL_act_159 ?_
                      obtain ⟨⟨v_54, X_56⟩, hv_53, h⟩ := bd_l h
                      refine Lo_T (As := [.ref (cA 0), .int v_49, .int (1 + ((p2 / 5) - (p2 / 5) / 20 * 20))]) (rest := []) (wA := w) (wr := []) 13 87 (13) (87) 14 93 (co_set l hst D k cA nA tA X w hw v_49 (1 + ((p2 / 5) - (p2 / 5) / 20 * 20)) (v_54, X_56) hv_53) ⟨hx, hb, hml, hown, hts⟩ (vx_cwSW 3 hts gL_act_L_set rfl rfl rfl (by decide +kernel) ⟨Nat.le_of_ble_eq_true rfl, Nat.le_of_ble_eq_true rfl⟩) hK hG hC hP hD hS hA (List.Perm.refl _) rfl hl.1 rfl (Nat.le_of_ble_eq_true rfl) dL_act_160 ⟨rfl, rfl⟩ ⟨rfl, rfl⟩ (by omega) (by omega) (fun ov w_55 H locs hQ hP hD hS => ?_)
                      obtain ⟨rfl, hw_55⟩ := hQ
                      refine W.eq (g2 := F0 m 163 ls [.long v_54]) rfl ?_
                      cases h
                      exact Cx_lret (B := B9) rfl (by rw [hB9]; exact ⟨rfl, hw_55⟩) (by omega) (by omega) hx hb hr (P_l hP) (D_l hD) hS dL_act_163 hlocks
                    · have h := it_l c_52 h
                      refine lv_iload_n hx hb dL_act_143 rfl (lv_at hl 4 rfl) ?_
                      refine lv_iconst (v := 5) hx hb dL_act_144 (by decide) ?_
                      refine lv_idiv hx hb dL_act_145 (by decide) ?_
                      refine lv_bipush (v := 9) hx hb dL_act_146 (by decide) ?_
                      refine lv_irem hx hb dL_act_148 (by decide) ?_
                      refine lv_goto (tgt := 160) hx hb dL_act_149 (by decide) ?_
                      obtain ⟨⟨v_58, X_60⟩, hv_57, h⟩ := bd_l h
                      refine Lo_T (As := [.ref (cA 0), .int v_49, .int ((p2 / 5) - (p2 / 5) / 9 * 9)]) (rest := []) (wA := w) (wr := []) 13 87 (13) (87) 14 93 (co_set l hst D k cA nA tA X w hw v_49 ((p2 / 5) - (p2 / 5) / 9 * 9) (v_58, X_60) hv_57) ⟨hx, hb, hml, hown, hts⟩ (vx_cwSW 3 hts gL_act_L_set rfl rfl rfl (by decide +kernel) ⟨Nat.le_of_ble_eq_true rfl, Nat.le_of_ble_eq_true rfl⟩) hK hG hC hP hD hS hA (List.Perm.refl _) rfl hl.1 rfl (Nat.le_of_ble_eq_true rfl) dL_act_160 ⟨rfl, rfl⟩ ⟨rfl, rfl⟩ (by omega) (by omega) (fun ov w_59 H locs hQ hP hD hS => ?_)
                      obtain ⟨rfl, hw_59⟩ := hQ
                      refine W.eq (g2 := F0 m 163 ls [.long v_58]) rfl ?_
                      cases h
                      exact Cx_lret (B := B9) rfl (by rw [hB9]; exact ⟨rfl, hw_59⟩) (by omega) (by omega) hx hb hr (P_l hP) (D_l hD) hS dL_act_163 hlocks
                  · have h := it_l c_51 h
                    refine lv_iload_n hx hb dL_act_128 rfl (lv_at hl 4 rfl) ?_
                    refine lv_iconst (v := 5) hx hb dL_act_129 (by decide) ?_
                    refine lv_idiv hx hb dL_act_130 (by decide) ?_
                    refine lv_bipush (v := 100) hx hb dL_act_131 (by decide) ?_
                    refine lv_irem hx hb dL_act_133 (by decide) ?_
                    refine lv_goto (tgt := 160) hx hb dL_act_134 (by decide) ?_
                    obtain ⟨⟨v_62, X_64⟩, hv_61, h⟩ := bd_l h
                    refine Lo_T (As := [.ref (cA 0), .int v_49, .int ((p2 / 5) - (p2 / 5) / 100 * 100)]) (rest := []) (wA := w) (wr := []) 13 87 (13) (87) 14 93 (co_set l hst D k cA nA tA X w hw v_49 ((p2 / 5) - (p2 / 5) / 100 * 100) (v_62, X_64) hv_61) ⟨hx, hb, hml, hown, hts⟩ (vx_cwSW 3 hts gL_act_L_set rfl rfl rfl (by decide +kernel) ⟨Nat.le_of_ble_eq_true rfl, Nat.le_of_ble_eq_true rfl⟩) hK hG hC hP hD hS hA (List.Perm.refl _) rfl hl.1 rfl (Nat.le_of_ble_eq_true rfl) dL_act_160 ⟨rfl, rfl⟩ ⟨rfl, rfl⟩ (by omega) (by omega) (fun ov w_63 H locs hQ hP hD hS => ?_)
                    obtain ⟨rfl, hw_63⟩ := hQ
                    refine W.eq (g2 := F0 m 163 ls [.long v_62]) rfl ?_
                    cases h
                    exact Cx_lret (B := B9) rfl (by rw [hB9]; exact ⟨rfl, hw_63⟩) (by omega) (by omega) hx hb hr (P_l hP) (D_l hD) hS dL_act_163 hlocks
                · have h := it_r c_50 h
                  refine lv_iload_n hx hb dL_act_112 rfl (lv_at hl 4 rfl) ?_
                  refine lv_iconst (v := 5) hx hb dL_act_113 (by decide) ?_
                  refine lv_idiv hx hb dL_act_114 (by decide) ?_
                  refine lv_sipush (v := 600) hx hb dL_act_115 (by decide) ?_
                  refine lv_irem hx hb dL_act_118 (by decide) ?_
                  refine lv_goto (tgt := 160) hx hb dL_act_119 (by decide) ?_
                  obtain ⟨⟨v_66, X_68⟩, hv_65, h⟩ := bd_l h
                  refine Lo_T (As := [.ref (cA 0), .int v_49, .int ((p2 / 5) - (p2 / 5) / 600 * 600)]) (rest := []) (wA := w) (wr := []) 13 87 (13) (87) 14 93 (co_set l hst D k cA nA tA X w hw v_49 ((p2 / 5) - (p2 / 5) / 600 * 600) (v_66, X_68) hv_65) ⟨hx, hb, hml, hown, hts⟩ (vx_cwSW 3 hts gL_act_L_set rfl rfl rfl (by decide +kernel) ⟨Nat.le_of_ble_eq_true rfl, Nat.le_of_ble_eq_true rfl⟩) hK hG hC hP hD hS hA (List.Perm.refl _) rfl hl.1 rfl (Nat.le_of_ble_eq_true rfl) dL_act_160 ⟨rfl, rfl⟩ ⟨rfl, rfl⟩ (by omega) (by omega) (fun ov w_67 H locs hQ hP hD hS => ?_)
                  obtain ⟨rfl, hw_67⟩ := hQ
                  refine W.eq (g2 := F0 m 163 ls [.long v_66]) rfl ?_
                  cases h
                  exact Cx_lret (B := B9) rfl (by rw [hB9]; exact ⟨rfl, hw_67⟩) (by omega) (by omega) hx hb hr (P_l hP) (D_l hD) hS dL_act_163 hlocks
              · have h := it_r c_48 h
                by_cases c_69 : (p1 - p1 / 14 * 14) = 7
                · have h := it_l c_69 h
                  refine lv_tableIn (tgt := 164) hx hb dL_act_9 (by rw [c_69]; decide) (by rw [c_69]; decide) (by rw [c_69]; rfl) (by decide) ?_
                  refine lv_aload_n hx hb dL_act_164 rfl (lv_at hl 1 rfl) ?_
                  refine lv_iload_n hx hb dL_act_165 rfl (lv_at hl 0 rfl) ?_
                  refine lv_iload_n hx hb dL_act_166 rfl (lv_at hl 3 rfl) ?_
                  refine lv_bipush (v := 6) hx hb dL_act_167 (by decide) ?_
                  refine lv_idiv hx hb dL_act_169 (by decide) ?_
                  refine lv_sipush (v := 300) hx hb dL_act_170 (by decide) ?_
                  refine lv_irem hx hb dL_act_173 (by decide) ?_
                  obtain ⟨⟨v_71, X_73⟩, hv_70, h⟩ := bd_l h
                  refine Lo_T (As := [.ref (cA 0), .int v_1, .int ((p2 / 6) - (p2 / 6) / 300 * 300)]) (rest := []) (wA := w) (wr := []) 13 87 (13) (87) 14 93 (co_setValve l hst D k cA nA tA X w hw v_1 ((p2 / 6) - (p2 / 6) / 300 * 300) (v_71, X_73) hv_70) ⟨hx, hb, hml, hown, hts⟩ (vx_cwSW 3 hts gL_act_L_setValve rfl rfl rfl (by decide +kernel) ⟨Nat.le_of_ble_eq_true rfl, Nat.le_of_ble_eq_true rfl⟩) hK hG hC hP hD hS hA (List.Perm.refl _) rfl hl.1 rfl (Nat.le_of_ble_eq_true rfl) dL_act_174 ⟨rfl, rfl⟩ ⟨rfl, rfl⟩ (by omega) (by omega) (fun ov w_72 H locs hQ hP hD hS => ?_)
                  obtain ⟨rfl, hw_72⟩ := hQ
                  refine W.eq (g2 := F0 m 177 ls [.long v_71]) rfl ?_
                  cases h
                  exact Cx_lret (B := B9) rfl (by rw [hB9]; exact ⟨rfl, hw_72⟩) (by omega) (by omega) hx hb hr (P_l hP) (D_l hD) hS dL_act_177 hlocks
                · have h := it_r c_69 h
                  by_cases c_74 : (p1 - p1 / 14 * 14) = 8
                  · have h := it_l c_74 h
                    refine lv_tableIn (tgt := 164) hx hb dL_act_9 (by rw [c_74]; decide) (by rw [c_74]; decide) (by rw [c_74]; rfl) (by decide) ?_
                    refine lv_aload_n hx hb dL_act_164 rfl (lv_at hl 1 rfl) ?_
                    refine lv_iload_n hx hb dL_act_165 rfl (lv_at hl 0 rfl) ?_
                    refine lv_iload_n hx hb dL_act_166 rfl (lv_at hl 3 rfl) ?_
                    refine lv_bipush (v := 6) hx hb dL_act_167 (by decide) ?_
                    refine lv_idiv hx hb dL_act_169 (by decide) ?_
                    refine lv_sipush (v := 300) hx hb dL_act_170 (by decide) ?_
                    refine lv_irem hx hb dL_act_173 (by decide) ?_
                    obtain ⟨⟨v_76, X_78⟩, hv_75, h⟩ := bd_l h
                    refine Lo_T (As := [.ref (cA 0), .int v_1, .int ((p2 / 6) - (p2 / 6) / 300 * 300)]) (rest := []) (wA := w) (wr := []) 13 87 (13) (87) 14 93 (co_setValve l hst D k cA nA tA X w hw v_1 ((p2 / 6) - (p2 / 6) / 300 * 300) (v_76, X_78) hv_75) ⟨hx, hb, hml, hown, hts⟩ (vx_cwSW 3 hts gL_act_L_setValve rfl rfl rfl (by decide +kernel) ⟨Nat.le_of_ble_eq_true rfl, Nat.le_of_ble_eq_true rfl⟩) hK hG hC hP hD hS hA (List.Perm.refl _) rfl hl.1 rfl (Nat.le_of_ble_eq_true rfl) dL_act_174 ⟨rfl, rfl⟩ ⟨rfl, rfl⟩ (by omega) (by omega) (fun ov w_77 H locs hQ hP hD hS => ?_)
                    obtain ⟨rfl, hw_77⟩ := hQ
                    refine W.eq (g2 := F0 m 177 ls [.long v_76]) rfl ?_
                    cases h
                    exact Cx_lret (B := B9) rfl (by rw [hB9]; exact ⟨rfl, hw_77⟩) (by omega) (by omega) hx hb hr (P_l hP) (D_l hD) hS dL_act_177 hlocks
                  · have h := it_r c_74 h
                    by_cases c_79 : (p1 - p1 / 14 * 14) = 9
                    · have h := it_l c_79 h
                      refine lv_tableIn (tgt := 178) hx hb dL_act_9 (by rw [c_79]; decide) (by rw [c_79]; decide) (by rw [c_79]; rfl) (by decide) ?_
                      refine lv_aload_n hx hb dL_act_178 rfl (lv_at hl 1 rfl) ?_
                      refine lv_iload_n hx hb dL_act_179 rfl (lv_at hl 0 rfl) ?_
                      refine lv_iload_n hx hb dL_act_180 rfl (lv_at hl 3 rfl) ?_
                      refine lv_bipush (v := 6) hx hb dL_act_181 (by decide) ?_
                      refine lv_idiv hx hb dL_act_183 (by decide) ?_
                      refine lv_bipush (v := 91) hx hb dL_act_184 (by decide) ?_
                      refine lv_irem hx hb dL_act_186 (by decide) ?_
                      obtain ⟨⟨v_81, X_83⟩, hv_80, h⟩ := bd_l h
                      refine Lo_T (As := [.ref (cA 0), .int v_1, .int ((p2 / 6) - (p2 / 6) / 91 * 91)]) (rest := []) (wA := w) (wr := []) 13 87 (13) (87) 14 93 (co_setBleed l hst D k cA nA tA X w hw v_1 ((p2 / 6) - (p2 / 6) / 91 * 91) (v_81, X_83) hv_80) ⟨hx, hb, hml, hown, hts⟩ (vx_cwSW 3 hts gL_act_L_setBleed rfl rfl rfl (by decide +kernel) ⟨Nat.le_of_ble_eq_true rfl, Nat.le_of_ble_eq_true rfl⟩) hK hG hC hP hD hS hA (List.Perm.refl _) rfl hl.1 rfl (Nat.le_of_ble_eq_true rfl) dL_act_187 ⟨rfl, rfl⟩ ⟨rfl, rfl⟩ (by omega) (by omega) (fun ov w_82 H locs hQ hP hD hS => ?_)
                      obtain ⟨rfl, hw_82⟩ := hQ
                      refine W.eq (g2 := F0 m 190 ls [.long v_81]) rfl ?_
                      cases h
                      exact Cx_lret (B := B9) rfl (by rw [hB9]; exact ⟨rfl, hw_82⟩) (by omega) (by omega) hx hb hr (P_l hP) (D_l hD) hS dL_act_190 hlocks
                    · have h := it_r c_79 h
                      by_cases c_84 : (p1 - p1 / 14 * 14) = 10
                      · have h := it_l c_84 h
                        refine lv_tableIn (tgt := 191) hx hb dL_act_9 (by rw [c_84]; decide) (by rw [c_84]; decide) (by rw [c_84]; rfl) (by decide) ?_
                        refine lv_aload_n hx hb dL_act_191 rfl (lv_at hl 1 rfl) ?_
                        refine lv_iload_n hx hb dL_act_192 rfl (lv_at hl 0 rfl) ?_
                        refine lv_iconst (v := 1) hx hb dL_act_193 (by decide) ?_
                        refine lv_iload_n hx hb dL_act_194 rfl (lv_at hl 3 rfl) ?_
                        refine lv_bipush (v := 6) hx hb dL_act_195 (by decide) ?_
                        refine lv_idiv hx hb dL_act_197 (by decide) ?_
                        refine lv_bipush (v := 20) hx hb dL_act_198 (by decide) ?_
                        refine lv_irem hx hb dL_act_200 (by decide) ?_
                        refine lv_iadd hx hb dL_act_201 ?_
                        obtain ⟨⟨v_86, X_88⟩, hv_85, h⟩ := bd_l h
                        refine Lo_T (As := [.ref (cA 0), .int v_1, .int (1 + ((p2 / 6) - (p2 / 6) / 20 * 20))]) (rest := []) (wA := w) (wr := []) 14 93 (14) (93) 14 93 (co_wash l hst D k cA nA tA X w hw v_1 (1 + ((p2 / 6) - (p2 / 6) / 20 * 20)) (v_86, X_88) hv_85) ⟨hx, hb, hml, hown, hts⟩ (vx_cwSW 3 hts gL_act_L_wash rfl rfl rfl (by decide +kernel) ⟨Nat.le_of_ble_eq_true rfl, Nat.le_of_ble_eq_true rfl⟩) hK hG hC hP hD hS hA (List.Perm.refl _) rfl hl.1 rfl (Nat.le_of_ble_eq_true rfl) dL_act_202 ⟨rfl, rfl⟩ ⟨rfl, rfl⟩ (by omega) (by omega) (fun ov w_87 H locs hQ hP hD hS => ?_)
                        obtain ⟨rfl, hw_87⟩ := hQ
                        refine W.eq (g2 := F0 m 205 ls [.long v_86]) rfl ?_
                        cases h
                        exact Cx_lret (B := B9) rfl (by rw [hB9]; exact ⟨rfl, hw_87⟩) (by omega) (by omega) hx hb hr (P_l hP) (D_l hD) hS dL_act_205 hlocks
                      · have h := it_r c_84 h
                        by_cases c_89 : (p1 - p1 / 14 * 14) = 11
                        · have h := it_l c_89 h
                          refine lv_tableIn (tgt := 206) hx hb dL_act_9 (by rw [c_89]; decide) (by rw [c_89]; decide) (by rw [c_89]; rfl) (by decide) ?_
                          refine lv_iload_n hx hb dL_act_206 rfl (lv_at hl 3 rfl) ?_
                          refine lv_iconst (v := 2) hx hb dL_act_207 (by decide) ?_
                          refine lv_irem hx hb dL_act_208 (by decide) ?_
                          refine lv_if_ne (tgt := 220) hx hb dL_act_209 (by decide) (fun c_90 => ?_) (fun c_90 => ?_)
                          · have h := it_r c_90 h
                            refine lv_aload_n hx hb dL_act_220 rfl (lv_at hl 1 rfl) ?_
                            refine lv_iconst (v := 1) hx hb dL_act_221 (by decide) ?_
                            obtain ⟨⟨v_92, X_94⟩, hv_91, h⟩ := bd_l h
                            refine Lo_T (As := [.ref (cA 0), .int 1]) (rest := []) (wA := w) (wr := []) 12 81 (12) (81) 14 93 (co_tick l hst D k cA nA tA X w hw 1 (v_92, X_94) hv_91) ⟨hx, hb, hml, hown, hts⟩ (vx_cwSW 2 hts gL_act_L_tick rfl rfl rfl (by decide +kernel) ⟨Nat.le_of_ble_eq_true rfl, Nat.le_of_ble_eq_true rfl⟩) hK hG hC hP hD hS hA (List.Perm.refl _) rfl hl.1 rfl (Nat.le_of_ble_eq_true rfl) dL_act_222 ⟨rfl, rfl⟩ ⟨rfl, rfl⟩ (by omega) (by omega) (fun ov w_93 H locs hQ hP hD hS => ?_)
                            obtain ⟨rfl, hw_93⟩ := hQ
                            refine W.eq (g2 := F0 m 225 ls [.long v_92]) rfl ?_
                            cases h
                            exact Cx_lret (B := B9) rfl (by rw [hB9]; exact ⟨rfl, hw_93⟩) (by omega) (by omega) hx hb hr (P_l hP) (D_l hD) hS dL_act_225 hlocks
                          · have h := it_l c_90 h
                            refine lv_aload_n hx hb dL_act_212 rfl (lv_at hl 1 rfl) ?_
                            refine lv_iload_n hx hb dL_act_213 rfl (lv_at hl 0 rfl) ?_
                            obtain ⟨⟨v_96, X_98⟩, hv_95, h⟩ := bd_l h
                            refine Lo_T (As := [.ref (cA 0), .int v_1]) (rest := []) (wA := w) (wr := []) 12 81 (12) (81) 14 93 (co_endWash l hst D k cA nA tA X w hw v_1 (v_96, X_98) hv_95) ⟨hx, hb, hml, hown, hts⟩ (vx_cwSW 2 hts gL_act_L_endWash rfl rfl rfl (by decide +kernel) ⟨Nat.le_of_ble_eq_true rfl, Nat.le_of_ble_eq_true rfl⟩) hK hG hC hP hD hS hA (List.Perm.refl _) rfl hl.1 rfl (Nat.le_of_ble_eq_true rfl) dL_act_214 ⟨rfl, rfl⟩ ⟨rfl, rfl⟩ (by omega) (by omega) (fun ov w_97 H locs hQ hP hD hS => ?_)
                            obtain ⟨rfl, hw_97⟩ := hQ
                            refine W.eq (g2 := F0 m 217 ls [.long v_96]) rfl ?_
                            refine lv_goto (tgt := 225) hx hb dL_act_217 (by decide) ?_
                            cases h
                            exact Cx_lret (B := B9) rfl (by rw [hB9]; exact ⟨rfl, hw_97⟩) (by omega) (by omega) hx hb hr (P_l hP) (D_l hD) hS dL_act_225 hlocks
                        · have h := it_r c_89 h
                          by_cases c_99 : (p1 - p1 / 14 * 14) = 12
                          · have h := it_l c_99 h
                            refine lv_tableIn (tgt := 226) hx hb dL_act_9 (by rw [c_99]; decide) (by rw [c_99]; decide) (by rw [c_99]; rfl) (by decide) ?_
                            refine lv_aload_n hx hb dL_act_226 rfl (lv_at hl 1 rfl) ?_
                            obtain ⟨⟨v_101, X_103⟩, hv_100, h⟩ := bd_l h
                            refine Lo_T (As := [.ref (cA 0)]) (rest := []) (wA := w) (wr := []) 11 75 (11) (75) 14 93 (co_undo l hst D k cA nA tA X w hw (v_101, X_103) hv_100) ⟨hx, hb, hml, hown, hts⟩ (vx_cwSW 1 hts gL_act_L_undo rfl rfl rfl (by decide +kernel) ⟨Nat.le_of_ble_eq_true rfl, Nat.le_of_ble_eq_true rfl⟩) hK hG hC hP hD hS hA (List.Perm.refl _) rfl hl.1 rfl (Nat.le_of_ble_eq_true rfl) dL_act_227 ⟨rfl, rfl⟩ ⟨rfl, rfl⟩ (by omega) (by omega) (fun ov w_102 H locs hQ hP hD hS => ?_)
                            obtain ⟨rfl, hw_102⟩ := hQ
                            refine W.eq (g2 := F0 m 230 ls [.long v_101]) rfl ?_
                            cases h
                            exact Cx_lret (B := B9) rfl (by rw [hB9]; exact ⟨rfl, hw_102⟩) (by omega) (by omega) hx hb hr (P_l hP) (D_l hD) hS dL_act_230 hlocks
                          · have h := it_r c_99 h
                            have n_c_2 : ¬ (p1 - p1 / 14 * 14).toInt = 0 := fun z9 => c_2 (Int32.toInt_inj.mp (z9.trans (by decide)))
                            have n_c_7 : ¬ (p1 - p1 / 14 * 14).toInt = 1 := fun z9 => c_7 (Int32.toInt_inj.mp (z9.trans (by decide)))
                            have n_c_12 : ¬ (p1 - p1 / 14 * 14).toInt = 2 := fun z9 => c_12 (Int32.toInt_inj.mp (z9.trans (by decide)))
                            have n_c_17 : ¬ (p1 - p1 / 14 * 14).toInt = 3 := fun z9 => c_17 (Int32.toInt_inj.mp (z9.trans (by decide)))
                            have n_c_22 : ¬ (p1 - p1 / 14 * 14).toInt = 4 := fun z9 => c_22 (Int32.toInt_inj.mp (z9.trans (by decide)))
                            have n_c_27 : ¬ (p1 - p1 / 14 * 14).toInt = 5 := fun z9 => c_27 (Int32.toInt_inj.mp (z9.trans (by decide)))
                            have n_c_48 : ¬ (p1 - p1 / 14 * 14).toInt = 6 := fun z9 => c_48 (Int32.toInt_inj.mp (z9.trans (by decide)))
                            have n_c_69 : ¬ (p1 - p1 / 14 * 14).toInt = 7 := fun z9 => c_69 (Int32.toInt_inj.mp (z9.trans (by decide)))
                            have n_c_74 : ¬ (p1 - p1 / 14 * 14).toInt = 8 := fun z9 => c_74 (Int32.toInt_inj.mp (z9.trans (by decide)))
                            have n_c_79 : ¬ (p1 - p1 / 14 * 14).toInt = 9 := fun z9 => c_79 (Int32.toInt_inj.mp (z9.trans (by decide)))
                            have n_c_84 : ¬ (p1 - p1 / 14 * 14).toInt = 10 := fun z9 => c_84 (Int32.toInt_inj.mp (z9.trans (by decide)))
                            have n_c_89 : ¬ (p1 - p1 / 14 * 14).toInt = 11 := fun z9 => c_89 (Int32.toInt_inj.mp (z9.trans (by decide)))
                            have n_c_99 : ¬ (p1 - p1 / 14 * 14).toInt = 12 := fun z9 => c_99 (Int32.toInt_inj.mp (z9.trans (by decide)))
                            refine lv_tableOut (tgt := 231) hx hb dL_act_9 (by omega) (by decide) ?_
                            refine lv_iload_n hx hb dL_act_231 rfl (lv_at hl 3 rfl) ?_
                            refine lv_iconst (v := 2) hx hb dL_act_232 (by decide) ?_
                            refine lv_irem hx hb dL_act_233 (by decide) ?_
                            refine lv_if_ne (tgt := 249) hx hb dL_act_234 (by decide) (fun c_104 => ?_) (fun c_104 => ?_)
                            · have h := it_r c_104 h
                              refine lv_aload_n hx hb dL_act_249 rfl (lv_at hl 1 rfl) ?_
                              refine lv_iload_n hx hb dL_act_250 rfl (lv_at hl 3 rfl) ?_
                              refine lv_iconst (v := 2) hx hb dL_act_251 (by decide) ?_
                              refine lv_idiv hx hb dL_act_252 (by decide) ?_
                              refine lv_iconst (v := 1) hx hb dL_act_253 (by decide) ?_
                              refine lv_iand hx hb dL_act_254 ?_
                              obtain ⟨⟨v_106, X_108⟩, hv_105, h⟩ := bd_l h
                              refine Lo_T (As := [.ref (cA 0), .int ((p2 / 2) &&& 1)]) (rest := []) (wA := w) (wr := []) 12 81 (12) (81) 14 93 (co_restore l hst D k cA nA tA X w hw ((p2 / 2) &&& 1) (v_106, X_108) hv_105) ⟨hx, hb, hml, hown, hts⟩ (vx_cwSW 2 hts gL_act_L_restore rfl rfl rfl (by decide +kernel) ⟨Nat.le_of_ble_eq_true rfl, Nat.le_of_ble_eq_true rfl⟩) hK hG hC hP hD hS hA (List.Perm.refl _) rfl hl.1 rfl (Nat.le_of_ble_eq_true rfl) dL_act_255 ⟨rfl, rfl⟩ ⟨rfl, rfl⟩ (by omega) (by omega) (fun ov w_107 H locs hQ hP hD hS => ?_)
                              obtain ⟨rfl, hw_107⟩ := hQ
                              refine W.eq (g2 := F0 m 258 ls [.long v_106]) rfl ?_
                              cases h
                              exact Cx_lret (B := B9) rfl (by rw [hB9]; exact ⟨rfl, hw_107⟩) (by omega) (by omega) hx hb hr (P_l hP) (D_l hD) hS dL_act_258 hlocks
                            · have h := it_l c_104 h
                              refine lv_aload_n hx hb dL_act_237 rfl (lv_at hl 1 rfl) ?_
                              refine lv_iload_n hx hb dL_act_238 rfl (lv_at hl 3 rfl) ?_
                              refine lv_iconst (v := 2) hx hb dL_act_239 (by decide) ?_
                              refine lv_idiv hx hb dL_act_240 (by decide) ?_
                              refine lv_iconst (v := 1) hx hb dL_act_241 (by decide) ?_
                              refine lv_iand hx hb dL_act_242 ?_
                              obtain ⟨⟨v_110, X_112⟩, hv_109, h⟩ := bd_l h
                              refine Lo_T (As := [.ref (cA 0), .int ((p2 / 2) &&& 1)]) (rest := []) (wA := w) (wr := []) 12 81 (12) (81) 14 93 (co_save l hst D k cA nA tA X w hw ((p2 / 2) &&& 1) (v_110, X_112) hv_109) ⟨hx, hb, hml, hown, hts⟩ (vx_cwSW 2 hts gL_act_L_save rfl rfl rfl (by decide +kernel) ⟨Nat.le_of_ble_eq_true rfl, Nat.le_of_ble_eq_true rfl⟩) hK hG hC hP hD hS hA (List.Perm.refl _) rfl hl.1 rfl (Nat.le_of_ble_eq_true rfl) dL_act_243 ⟨rfl, rfl⟩ ⟨rfl, rfl⟩ (by omega) (by omega) (fun ov w_111 H locs hQ hP hD hS => ?_)
                              obtain ⟨rfl, hw_111⟩ := hQ
                              refine W.eq (g2 := F0 m 246 ls [.long v_110]) rfl ?_
                              refine lv_goto (tgt := 258) hx hb dL_act_246 (by decide) ?_
                              cases h
                              exact Cx_lret (B := B9) rfl (by rw [hB9]; exact ⟨rfl, hw_111⟩) (by omega) (by omega) hx hb hr (P_l hP) (D_l hD) hS dL_act_258 hlocks
