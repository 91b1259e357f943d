def f_X1_withoutLastGroups_5 (p2 : Int32) : Nat → Int64 → Int32 → Option (String ⊕ (Int64))
  | 0, _, _ => none
  | fu + 1, x3_5, x5_5 => if p2 ≤ x5_5 then (some (.inr (x3_5))) else (nm (x3_5 / 100000) fun v_2 => (f_X1_withoutLastGroups_5 p2 fu) v_2 (x5_5 + 1))
def f_X1_withoutLastGroups (p1 : Int64) (p2 : Int32) : Option (String ⊕ (Int64)) := f_X1_withoutLastGroups_5 p2 2000 p1 0
set_option maxRecDepth 100000 in
set_option maxHeartbeats 4000000 in
theorem c_X1_withoutLastGroups (l : Launch) (hst : l.stackTraces = false) (D : va_G) (k : Nat → ClassId) (p1 : Int64) (p2 : Int32) (o : String ⊕ (Int64)) (h : f_X1_withoutLastGroups p1 p2 = some o) : Cx l D (tyK k) yX1_withoutLastGroups wsX1_withoutLastGroups ({ frames := 0, cells := 0, slots := 0, locals := 0 } : Room) [.long p1, .int p2] (([] : va_W)) (([] : va_W)) (Sum.map id (fun r : Int64 => fun (ov : Option Value) (w : va_W) => ov = (some (.long r) : Option Value) ∧ w = ([] : va_W)) o) := by
  obtain ⟨O, hO⟩ : ∃ O : Oc, O = Sum.map id (fun r : Int64 => fun (ov : Option Value) (w : va_W) => ov = (some (.long r) : Option Value) ∧ w = ([] : va_W)) o := ⟨_, rfl⟩
  rw [← hO]
  refine Cx_of (cc := cX1_withoutLastGroups) (maxL := 6) (ret := (some .long)) (by decide) rfl (Nat.le_of_ble_eq_true rfl) ?_
  intro p e s m args below meth c A ls hx hb hr hml hts hown hlocks hnm htab hK hG hA hP hD hS hl
  have hl : lv_has ls 6 [(0, .long p1), (2, .int p2)] := hl
  have hP : va_P D vwCl (([] : va_W)) s.heap := hP
  have w_0 := hts (.constantLong RX1 184 (100000)) (by decide +kernel)
  unfold f_X1_withoutLastGroups at h
  have hC_5 : ∀ (fu_5 : Nat) (x3_5 : Int64) (x5_5 : Int32) (H : Heap) (locs : List Loc) (ls : Array Slot), va_P D vwCl (([] : va_W)) H → va_D A (([] : va_W)) → va_S A s.heap H locs → lv_has ls 6 [(2, .int p2), (3, .long x3_5), (5, .int x5_5)] → f_X1_withoutLastGroups_5 p2 fu_5 x3_5 x5_5 = some o → W p l e ({ frames := 0, cells := 0, slots := 0, locals := 0 } : Room) s m args below meth c H locs 0 0 (vx_MQ below (Qx D A O) (Xx D A (([] : va_W)) O) args s 0 0 A) (F0 m 5 ls []) := by
    intro fu_5
    induction fu_5 with
    | zero => intro x3_5 x5_5 H locs ls _ _ _ _ h; exact (no_l h).elim
    | succ fu_5 ih_5 =>
      intro x3_5 x5_5 H locs ls hP hD hS hl h
      rw [f_X1_withoutLastGroups_5] at h
      refine lv_iload hx hb dX1_withoutLastGroups_5 (lv_at hl 2 rfl) ?_
      refine lv_iload_n hx hb dX1_withoutLastGroups_7 rfl (lv_at hl 0 rfl) ?_
      refine lv_icmp_ge (tgt := 23) hx hb dX1_withoutLastGroups_8 (by decide) (fun c_1 => ?_) (fun c_1 => ?_)
      · have h := it_l c_1 h
        refine lv_lload_n hx hb dX1_withoutLastGroups_23 rfl (lv_at hl 1 rfl) ?_
        cases h
        exact Cx_lret hO ⟨rfl, rfl⟩ (Nat.le_of_ble_eq_true rfl) (Nat.le_of_ble_eq_true rfl) hx hb hr hP hD hS dX1_withoutLastGroups_24 hlocks
      · have h := it_r c_1 h
        refine lv_lload_n hx hb dX1_withoutLastGroups_11 rfl (lv_at hl 1 rfl) ?_
        refine lv_ldc2 (v := 100000) hx hb hown w_0 dX1_withoutLastGroups_12 ?_
        refine lv_ldiv hx hb dX1_withoutLastGroups_15 (by decide) ?_
        refine lv_topl (fun v_2 ev_2 => ?_)
        have h := nm_l h ev_2
        refine lv_lstore_n (lv' := [(3, .long v_2), (2, .int p2), (5, .int x5_5)]) hx hb dX1_withoutLastGroups_16 rfl hl (by decide) rfl (fun ls hl => ?_)
        refine lv_iinc (v := (x5_5 + 1)) (lv' := [(5, .int (x5_5 + 1)), (3, .long v_2), (2, .int p2)]) hx hb dX1_withoutLastGroups_17 hl (k := 2) rfl rfl (by decide) rfl (fun ls hl => ?_)
        refine lv_goto (tgt := 5) hx hb dX1_withoutLastGroups_20 (by decide) ?_
        refine W.widen (k := 0) (n := 0) (Nat.le_of_ble_eq_true rfl) (Nat.le_of_ble_eq_true rfl) ?_
        exact ih_5 v_2 (x5_5 + 1) _ _ _ hP hD hS (lv_sub hl [2, 1, 0] rfl) h
  refine lv_lload_n hx hb dX1_withoutLastGroups_0 rfl (lv_at hl 0 rfl) ?_
  refine lv_lstore_n (lv' := [(3, .long p1), (0, .long p1), (2, .int p2)]) hx hb dX1_withoutLastGroups_1 rfl hl (by decide) rfl (fun ls hl => ?_)
  refine lv_iconst (v := 0) hx hb dX1_withoutLastGroups_2 (by decide) ?_
  refine lv_istore (lv' := [(5, .int 0), (3, .long p1), (0, .long p1), (2, .int p2)]) hx hb dX1_withoutLastGroups_3 hl (by decide) rfl (fun ls hl => ?_)
  refine W.widen (k := 0) (n := 0) (Nat.le_of_ble_eq_true rfl) (Nat.le_of_ble_eq_true rfl) ?_
  exact hC_5 2000 p1 0 _ _ _ hP hD hS (lv_sub hl [3, 1, 0] rfl) h
def f_X1_checkRange (p1 : Int32) (p2 : Int32) (p3 : Int32) : Option (String ⊕ (Unit)) := if p1 < p2 then (some (.inl "java/lang/IllegalArgumentException")) else (if p1 ≤ p3 then (some (.inr ())) else (some (.inl "java/lang/IllegalArgumentException")))
set_option maxRecDepth 100000 in
set_option maxHeartbeats 4000000 in
theorem c_X1_checkRange (l : Launch) (hst : l.stackTraces = false) (D : va_G) (k : Nat → ClassId) (p1 : Int32) (p2 : Int32) (p3 : Int32) (o : String ⊕ (Unit)) (h : f_X1_checkRange p1 p2 p3 = some o) : Cx l D (tyK k) yX1_checkRange wsX1_checkRange ({ frames := 6, cells := 1, slots := 6, locals := 82 } : Room) [.int p1, .int p2, .int p3] (([] : va_W)) (([] : va_W)) (Sum.map id (fun r : Unit => fun (ov : Option Value) (w : va_W) => ov = (none : Option Value) ∧ w = ([] : va_W)) o) := by
  obtain ⟨O, hO⟩ : ∃ O : Oc, O = Sum.map id (fun r : Unit => fun (ov : Option Value) (w : va_W) => ov = (none : Option Value) ∧ w = ([] : va_W)) o := ⟨_, rfl⟩
  rw [← hO]
  refine Cx_of (cc := cX1_checkRange) (maxL := 3) (ret := none) (by decide) rfl (Nat.le_of_ble_eq_true rfl) ?_
  intro p e s m args below meth c A ls hx hb hr hml hts hown hlocks hnm htab hK hG hA hP hD hS hl
  have hl : lv_has ls 3 [(0, .int p1), (1, .int p2), (2, .int p3)] := hl
  have hP : va_P D vwCl (([] : va_W)) s.heap := hP
  have w_0 := hts (.classLink RX1 179 "java/lang/IllegalArgumentException") (by decide +kernel)
  have w_1 := hts (.initialized "java/lang/IllegalArgumentException") (by decide +kernel)
  have w_2 : ∃ sa : Nat, vk_R RX1 209 "an argument is out of its range" sa s := hG.2.2.2.1 (209, "an argument is out of its range") (by decide +kernel)
  have w_3 := vx_hat (L := vx_atS RX1 183 "java/lang/IllegalArgumentException" ["java/lang/RuntimeException", "java/lang/Exception"]) (fun w hw => hts w (by revert w; decide +kernel)) (B := [Cond.castable "java/lang/IllegalArgumentException" "java/lang/IllegalArgumentException", Cond.declares (Bundle.initS "java/lang/RuntimeException"), Cond.declares (Bundle.initS "java/lang/Exception"), Cond.declares (Bundle.initS "java/lang/Throwable")]) (by decide +kernel) (vx_c (va_Nw.use rfl (hG.2.2.1.2.1 "java/lang/IllegalArgumentException" (by decide +kernel))) <| vx_c (va_Nw.use rfl (hG.2.2.1.2.2 "java/lang/RuntimeException" (by decide +kernel))) <| vx_c (va_Nw.use rfl (hG.2.2.1.2.2 "java/lang/Exception" (by decide +kernel))) <| vx_c (va_Nw.use rfl (hG.2.2.1.2.2 "java/lang/Throwable" (by decide +kernel))) vx_n)
  unfold f_X1_checkRange at h
  refine lv_iload_n hx hb dX1_checkRange_0 rfl (lv_at hl 0 rfl) ?_
  refine lv_iload_n hx hb dX1_checkRange_1 rfl (lv_at hl 1 rfl) ?_
  refine lv_icmp_lt (tgt := 10) hx hb dX1_checkRange_2 (by decide) (fun c_1 => ?_) (fun c_1 => ?_)
  · have h := it_l c_1 h
    cases h
    exact Cx_throw (names := ["java/lang/RuntimeException", "java/lang/Exception"]) (show O = Sum.inl "java/lang/IllegalArgumentException" from hO) hx hb hst hown rfl (by decide) w_0 w_1 w_2 w_3 (by decide +kernel) hG hP hS (hl.1.trans hml.symm) dX1_checkRange_10 dX1_checkRange_13 dX1_checkRange_14 dX1_checkRange_16 dX1_checkRange_19 htab (Nat.le_of_ble_eq_true rfl) (Nat.le_of_ble_eq_true rfl) (Nat.le_of_ble_eq_true rfl) (Nat.le_of_ble_eq_true rfl) hlocks (Nat.le_of_ble_eq_true rfl) (Nat.le_of_ble_eq_true rfl)
  · have h := it_r c_1 h
    refine lv_iload_n hx hb dX1_checkRange_5 rfl (lv_at hl 0 rfl) ?_
    refine lv_iload_n hx hb dX1_checkRange_6 rfl (lv_at hl 2 rfl) ?_
    refine lv_icmp_le (tgt := 20) hx hb dX1_checkRange_7 (by decide) (fun c_2 => ?_) (fun c_2 => ?_)
    · have h := it_l c_2 h
      cases h
      exact Cx_vret hO ⟨rfl, rfl⟩ (Nat.le_of_ble_eq_true rfl) (Nat.le_of_ble_eq_true rfl) hx hb hr hP hD hS dX1_checkRange_20 hlocks
    · have h := it_r c_2 h
      cases h
      exact Cx_throw (names := ["java/lang/RuntimeException", "java/lang/Exception"]) (show O = Sum.inl "java/lang/IllegalArgumentException" from hO) hx hb hst hown rfl (by decide) w_0 w_1 w_2 w_3 (by decide +kernel) hG hP hS (hl.1.trans hml.symm) dX1_checkRange_10 dX1_checkRange_13 dX1_checkRange_14 dX1_checkRange_16 dX1_checkRange_19 htab (Nat.le_of_ble_eq_true rfl) (Nat.le_of_ble_eq_true rfl) (Nat.le_of_ble_eq_true rfl) (Nat.le_of_ble_eq_true rfl) hlocks (Nat.le_of_ble_eq_true rfl) (Nat.le_of_ble_eq_true rfl)
def f_X1_checkSlot (p1 : Int32) : Option (String ⊕ (Unit)) := if p1 < 0 then (some (.inl "java/lang/IndexOutOfBoundsException")) else (if p1 < 2 then (some (.inr ())) else (some (.inl "java/lang/IndexOutOfBoundsException")))
set_option maxRecDepth 100000 in
set_option maxHeartbeats 4000000 in
theorem c_X1_checkSlot (l : Launch) (hst : l.stackTraces = false) (D : va_G) (k : Nat → ClassId) (p1 : Int32) (o : String ⊕ (Unit)) (h : f_X1_checkSlot p1 = some o) : Cx l D (tyK k) yX1_checkSlot wsX1_checkSlot ({ frames := 6, cells := 1, slots := 6, locals := 82 } : Room) [.int p1] (([] : va_W)) (([] : va_W)) (Sum.map id (fun r : Unit => fun (ov : Option Value) (w : va_W) => ov = (none : Option Value) ∧ w = ([] : va_W)) o) := by
  obtain ⟨O, hO⟩ : ∃ O : Oc, O = Sum.map id (fun r : Unit => fun (ov : Option Value) (w : va_W) => ov = (none : Option Value) ∧ w = ([] : va_W)) o := ⟨_, rfl⟩
  rw [← hO]
  refine Cx_of (cc := cX1_checkSlot) (maxL := 1) (ret := none) (by decide) rfl (Nat.le_of_ble_eq_true rfl) ?_
  intro p e s m args below meth c A ls hx hb hr hml hts hown hlocks hnm htab hK hG hA hP hD hS hl
  have hl : lv_has ls 1 [(0, .int p1)] := hl
  have hP : va_P D vwCl (([] : va_W)) s.heap := hP
  have w_0 := hts (.classLink RX1 211 "java/lang/IndexOutOfBoundsException") (by decide +kernel)
  have w_1 := hts (.initialized "java/lang/IndexOutOfBoundsException") (by decide +kernel)
  have w_2 : ∃ sa : Nat, vk_R RX1 216 "there is no such save slot" sa s := hG.2.2.2.1 (216, "there is no such save slot") (by decide +kernel)
  have w_3 := vx_hat (L := vx_atS RX1 215 "java/lang/IndexOutOfBoundsException" ["java/lang/RuntimeException", "java/lang/Exception"]) (fun w hw => hts w (by revert w; decide +kernel)) (B := [Cond.castable "java/lang/IndexOutOfBoundsException" "java/lang/IndexOutOfBoundsException", Cond.declares (Bundle.initS "java/lang/RuntimeException"), Cond.declares (Bundle.initS "java/lang/Exception"), Cond.declares (Bundle.initS "java/lang/Throwable")]) (by decide +kernel) (vx_c (va_Nw.use rfl (hG.2.2.1.2.1 "java/lang/IndexOutOfBoundsException" (by decide +kernel))) <| vx_c (va_Nw.use rfl (hG.2.2.1.2.2 "java/lang/RuntimeException" (by decide +kernel))) <| vx_c (va_Nw.use rfl (hG.2.2.1.2.2 "java/lang/Exception" (by decide +kernel))) <| vx_c (va_Nw.use rfl (hG.2.2.1.2.2 "java/lang/Throwable" (by decide +kernel))) vx_n)
  unfold f_X1_checkSlot at h
  refine lv_iload_n hx hb dX1_checkSlot_0 rfl (lv_at hl 0 rfl) ?_
  refine lv_if_lt (tgt := 9) hx hb dX1_checkSlot_1 (by decide) (fun c_1 => ?_) (fun c_1 => ?_)
  · have h := it_l c_1 h
    cases h
    exact Cx_throw (names := ["java/lang/RuntimeException", "java/lang/Exception"]) (show O = Sum.inl "java/lang/IndexOutOfBoundsException" from hO) hx hb hst hown rfl (by decide) w_0 w_1 w_2 w_3 (by decide +kernel) hG hP hS (hl.1.trans hml.symm) dX1_checkSlot_9 dX1_checkSlot_12 dX1_checkSlot_13 dX1_checkSlot_15 dX1_checkSlot_18 htab (Nat.le_of_ble_eq_true rfl) (Nat.le_of_ble_eq_true rfl) (Nat.le_of_ble_eq_true rfl) (Nat.le_of_ble_eq_true rfl) hlocks (Nat.le_of_ble_eq_true rfl) (Nat.le_of_ble_eq_true rfl)
  · have h := it_r c_1 h
    refine lv_iload_n hx hb dX1_checkSlot_4 rfl (lv_at hl 0 rfl) ?_
    refine lv_iconst (v := 2) hx hb dX1_checkSlot_5 (by decide) ?_
    refine lv_icmp_lt (tgt := 19) hx hb dX1_checkSlot_6 (by decide) (fun c_2 => ?_) (fun c_2 => ?_)
    · have h := it_l c_2 h
      cases h
      exact Cx_vret hO ⟨rfl, rfl⟩ (Nat.le_of_ble_eq_true rfl) (Nat.le_of_ble_eq_true rfl) hx hb hr hP hD hS dX1_checkSlot_19 hlocks
    · have h := it_r c_2 h
      cases h
      exact Cx_throw (names := ["java/lang/RuntimeException", "java/lang/Exception"]) (show O = Sum.inl "java/lang/IndexOutOfBoundsException" from hO) hx hb hst hown rfl (by decide) w_0 w_1 w_2 w_3 (by decide +kernel) hG hP hS (hl.1.trans hml.symm) dX1_checkSlot_9 dX1_checkSlot_12 dX1_checkSlot_13 dX1_checkSlot_15 dX1_checkSlot_18 htab (Nat.le_of_ble_eq_true rfl) (Nat.le_of_ble_eq_true rfl) (Nat.le_of_ble_eq_true rfl) (Nat.le_of_ble_eq_true rfl) hlocks (Nat.le_of_ble_eq_true rfl) (Nat.le_of_ble_eq_true rfl)
def f_X1_checkEffect (T : TrV) (N : StV) (p1 : Int32) : Option (String ⊕ (Unit)) := if p1 < 0 then (some (.inl "java/lang/IndexOutOfBoundsException")) else (if p1 < (s_n N) then (some (.inr ())) else (some (.inl "java/lang/IndexOutOfBoundsException")))
set_option maxRecDepth 100000 in
set_option maxHeartbeats 4000000 in
theorem c_X1_checkEffect (l : Launch) (hst : l.stackTraces = false) (D : va_G) (k : Nat → ClassId) (cA : Nat → Nat) (nA : Nat → Nat) (tA : Nat → Nat) (T : TrV) (N : StV) (p1 : Int32) (o : String ⊕ (Unit)) (h : f_X1_checkEffect T N p1 = some o) : Cx l D (tyK k) yX1_checkEffect wsX1_checkEffect ({ frames := 6, cells := 1, slots := 6, locals := 82 } : Room) [.ref (cA 0), .int p1] (trW k cA nA tA T ++ stW k nA N) (trW k cA nA tA T ++ stW k nA N) (Sum.map id (fun r : Unit => fun (ov : Option Value) (w : va_W) => ov = (none : Option Value) ∧ w = trW k cA nA tA T ++ stW k nA N) o) := by
  obtain ⟨O, hO⟩ : ∃ O : Oc, O = Sum.map id (fun r : Unit => fun (ov : Option Value) (w : va_W) => ov = (none : Option Value) ∧ w = trW k cA nA tA T ++ stW k nA N) o := ⟨_, rfl⟩
  rw [← hO]
  refine Cx_of (cc := cX1_checkEffect) (maxL := 2) (ret := none) (by decide) rfl (Nat.le_of_ble_eq_true rfl) ?_
  intro p e s m args below meth c A ls hx hb hr hml hts hown hlocks hnm htab hK hG hA hP hD hS hl
  have hl : lv_has ls 2 [(0, .ref (cA 0)), (1, .int p1)] := hl
  have hP : va_P D vwCl (trW k cA nA tA T ++ stW k nA N) s.heap := hP
  have w_0 := hts (.classLink RX1 211 "java/lang/IndexOutOfBoundsException") (by decide +kernel)
  have w_1 := hts (.initialized "java/lang/IndexOutOfBoundsException") (by decide +kernel)
  have w_2 : ∃ sa : Nat, vk_R RX1 213 "there is no such effect" sa s := hG.2.2.2.1 (213, "there is no such effect") (by decide +kernel)
  have w_3 := vx_hat (L := vx_atS RX1 215 "java/lang/IndexOutOfBoundsException" ["java/lang/RuntimeException", "java/lang/Exception"]) (fun w hw => hts w (by revert w; decide +kernel)) (B := [Cond.castable "java/lang/IndexOutOfBoundsException" "java/lang/IndexOutOfBoundsException", Cond.declares (Bundle.initS "java/lang/RuntimeException"), Cond.declares (Bundle.initS "java/lang/Exception"), Cond.declares (Bundle.initS "java/lang/Throwable")]) (by decide +kernel) (vx_c (va_Nw.use rfl (hG.2.2.1.2.1 "java/lang/IndexOutOfBoundsException" (by decide +kernel))) <| vx_c (va_Nw.use rfl (hG.2.2.1.2.2 "java/lang/RuntimeException" (by decide +kernel))) <| vx_c (va_Nw.use rfl (hG.2.2.1.2.2 "java/lang/Exception" (by decide +kernel))) <| vx_c (va_Nw.use rfl (hG.2.2.1.2.2 "java/lang/Throwable" (by decide +kernel))) vx_n)
  have w_4 := hts (.fieldLink RX1 24 "EffectTrain" "now" "LEffectTrain$State;") (by decide +kernel)
  have w_5 : ∀ w ∈ wsX10, w ∈ wsX1_checkEffect := by decide +kernel
  have w_6 : (Cond.fieldLinkNest RX1 94 "EffectTrain$State" "n" "I" "EffectTrain").before args s = true := va_Nw.use rfl (hG.2.2.2.2.1 (94, "EffectTrain$State", "n", "I", "EffectTrain") (by decide +kernel))
  have w_7 : ∀ w ∈ wsX00, w ∈ wsX1_checkEffect := by decide +kernel
  unfold f_X1_checkEffect at h
  refine lv_iload_n hx hb dX1_checkEffect_0 rfl (lv_at hl 1 rfl) ?_
  refine lv_if_lt (tgt := 15) hx hb dX1_checkEffect_1 (by decide) (fun c_1 => ?_) (fun c_1 => ?_)
  · have h := it_l c_1 h
    cases h
    exact Cx_throw (names := ["java/lang/RuntimeException", "java/lang/Exception"]) (show O = Sum.inl "java/lang/IndexOutOfBoundsException" from hO) hx hb hst hown rfl (by decide) w_0 w_1 w_2 w_3 (by decide +kernel) hG hP hS (hl.1.trans hml.symm) dX1_checkEffect_15 dX1_checkEffect_18 dX1_checkEffect_19 dX1_checkEffect_21 dX1_checkEffect_24 htab (Nat.le_of_ble_eq_true rfl) (Nat.le_of_ble_eq_true rfl) (Nat.le_of_ble_eq_true rfl) (Nat.le_of_ble_eq_true rfl) hlocks (Nat.le_of_ble_eq_true rfl) (Nat.le_of_ble_eq_true rfl)
  · have h := it_r c_1 h
    refine lv_iload_n hx hb dX1_checkEffect_4 rfl (lv_at hl 1 rfl) ?_
    refine lv_aload_n hx hb dX1_checkEffect_5 rfl (lv_at hl 0 rfl) ?_
    refine va_get (D := D) (ci := 1) (v := .ref (nA 0)) (C := RX1) (T := TX1) (N := 11) hx hb hts w_5 hown hK hP 0 rfl rfl 3 (by decide) w_4 (fun _ h9 => h9) rfl dX1_checkEffect_6 ?_
    refine va_getN (D := D) (ci := 0) (v := .int (s_n N)) (C := RX0) (T := TX0) (N := 12) hx hb hts w_7 hown hK hP 4 rfl rfl 0 (by decide) w_6 (fun _ h9 => h9) rfl dX1_checkEffect_9 ?_
    refine lv_icmp_lt (tgt := 25) hx hb dX1_checkEffect_12 (by decide) (fun c_2 => ?_) (fun c_2 => ?_)
    · have h := it_l c_2 h
      cases h
      exact Cx_vret hO ⟨rfl, rfl⟩ (Nat.le_of_ble_eq_true rfl) (Nat.le_of_ble_eq_true rfl) hx hb hr hP hD hS dX1_checkEffect_25 hlocks
    · have h := it_r c_2 h
      cases h
      exact Cx_throw (names := ["java/lang/RuntimeException", "java/lang/Exception"]) (show O = Sum.inl "java/lang/IndexOutOfBoundsException" from hO) hx hb hst hown rfl (by decide) w_0 w_1 w_2 w_3 (by decide +kernel) hG hP hS (hl.1.trans hml.symm) dX1_checkEffect_15 dX1_checkEffect_18 dX1_checkEffect_19 dX1_checkEffect_21 dX1_checkEffect_24 htab (Nat.le_of_ble_eq_true rfl) (Nat.le_of_ble_eq_true rfl) (Nat.le_of_ble_eq_true rfl) (Nat.le_of_ble_eq_true rfl) hlocks (Nat.le_of_ble_eq_true rfl) (Nat.le_of_ble_eq_true rfl)
def f_X1_checkWorks (T : TrV) (N : StV) (p1 : Int32) : Option (String ⊕ (Unit)) := gb (inb p1 6) <| if ((s_lef N) p1.toNatClampNeg) ≤ 0 then (some (.inr ())) else (some (.inl "java/lang/IllegalStateException"))
set_option maxRecDepth 100000 in
set_option maxHeartbeats 4000000 in
theorem c_X1_checkWorks (l : Launch) (hst : l.stackTraces = false) (D : va_G) (k : Nat → ClassId) (cA : Nat → Nat) (nA : Nat → Nat) (tA : Nat → Nat) (T : TrV) (N : StV) (p1 : Int32) (o : String ⊕ (Unit)) (h : f_X1_checkWorks T N p1 = some o) : Cx l D (tyK k) yX1_checkWorks wsX1_checkWorks ({ frames := 6, cells := 1, slots := 6, locals := 82 } : Room) [.ref (cA 0), .int p1] (trW k cA nA tA T ++ stW k nA N) (trW k cA nA tA T ++ stW k nA N) (Sum.map id (fun r : Unit => fun (ov : Option Value) (w : va_W) => ov = (none : Option Value) ∧ w = trW k cA nA tA T ++ stW k nA N) o) := by
  obtain ⟨O, hO⟩ : ∃ O : Oc, O = Sum.map id (fun r : Unit => fun (ov : Option Value) (w : va_W) => ov = (none : Option Value) ∧ w = trW k cA nA tA T ++ stW k nA N) o := ⟨_, rfl⟩
  rw [← hO]
  refine Cx_of (cc := cX1_checkWorks) (maxL := 2) (ret := none) (by decide) rfl (Nat.le_of_ble_eq_true rfl) ?_
  intro p e s m args below meth c A ls hx hb hr hml hts hown hlocks hnm htab hK hG hA hP hD hS hl
  have hl : lv_has ls 2 [(0, .ref (cA 0)), (1, .int p1)] := hl
  have hP : va_P D vwCl (trW k cA nA tA T ++ stW k nA N) s.heap := hP
  have w_0 := hts (.fieldLink RX1 24 "EffectTrain" "now" "LEffectTrain$State;") (by decide +kernel)
  have w_1 : ∀ w ∈ wsX10, w ∈ wsX1_checkWorks := by decide +kernel
  have w_2 : (Cond.fieldLinkNest RX1 144 "EffectTrain$State" "left" "[I" "EffectTrain").before args s = true := va_Nw.use rfl (hG.2.2.2.2.1 (144, "EffectTrain$State", "left", "[I", "EffectTrain") (by decide +kernel))
  have w_3 : ∀ w ∈ wsX00, w ∈ wsX1_checkWorks := by decide +kernel
  have w_4 := hts (.classLink RX1 55 "java/lang/IllegalStateException") (by decide +kernel)
  have w_5 := hts (.initialized "java/lang/IllegalStateException") (by decide +kernel)
  have w_6 : ∃ sa : Nat, vk_R RX1 218 "the effect is washed" sa s := hG.2.2.2.1 (218, "the effect is washed") (by decide +kernel)
  have w_7 := vx_hat (L := vx_atS RX1 59 "java/lang/IllegalStateException" ["java/lang/RuntimeException", "java/lang/Exception"]) (fun w hw => hts w (by revert w; decide +kernel)) (B := [Cond.castable "java/lang/IllegalStateException" "java/lang/IllegalStateException", Cond.declares (Bundle.initS "java/lang/RuntimeException"), Cond.declares (Bundle.initS "java/lang/Exception"), Cond.declares (Bundle.initS "java/lang/Throwable")]) (by decide +kernel) (vx_c (va_Nw.use rfl (hG.2.2.1.2.1 "java/lang/IllegalStateException" (by decide +kernel))) <| vx_c (va_Nw.use rfl (hG.2.2.1.2.2 "java/lang/RuntimeException" (by decide +kernel))) <| vx_c (va_Nw.use rfl (hG.2.2.1.2.2 "java/lang/Exception" (by decide +kernel))) <| vx_c (va_Nw.use rfl (hG.2.2.1.2.2 "java/lang/Throwable" (by decide +kernel))) vx_n)
  unfold f_X1_checkWorks at h
  refine lv_aload_n hx hb dX1_checkWorks_0 rfl (lv_at hl 0 rfl) ?_
  refine va_get (D := D) (ci := 1) (v := .ref (nA 0)) (C := RX1) (T := TX1) (N := 11) hx hb hts w_1 hown hK hP 0 rfl rfl 3 (by decide) w_0 (fun _ h9 => h9) rfl dX1_checkWorks_1 ?_
  refine va_getN (D := D) (ci := 0) (v := .ref (nA 10)) (C := RX0) (T := TX0) (N := 12) hx hb hts w_3 hown hK hP 4 rfl rfl 11 (by decide) w_2 (fun _ h9 => h9) rfl dX1_checkWorks_4 ?_
  refine lv_iload_n hx hb dX1_checkWorks_7 rfl (lv_at hl 1 rfl) ?_
  have g_1 := inb_vp (gb_l h)
  have h := gb_r h
  refine va_iald hx hb hK hP 14 0 rfl rfl g_1 dX1_checkWorks_8 ?_
  refine lv_if_le (tgt := 22) hx hb dX1_checkWorks_9 (by decide) (fun c_2 => ?_) (fun c_2 => ?_)
  · have h := it_l c_2 h
    cases h
    exact Cx_vret hO ⟨rfl, rfl⟩ (Nat.le_of_ble_eq_true rfl) (Nat.le_of_ble_eq_true rfl) hx hb hr hP hD hS dX1_checkWorks_22 hlocks
  · have h := it_r c_2 h
    cases h
    exact Cx_throw (names := ["java/lang/RuntimeException", "java/lang/Exception"]) (show O = Sum.inl "java/lang/IllegalStateException" from hO) hx hb hst hown rfl (by decide) w_4 w_5 w_6 w_7 (by decide +kernel) hG hP hS (hl.1.trans hml.symm) dX1_checkWorks_12 dX1_checkWorks_15 dX1_checkWorks_16 dX1_checkWorks_18 dX1_checkWorks_21 htab (Nat.le_of_ble_eq_true rfl) (Nat.le_of_ble_eq_true rfl) (Nat.le_of_ble_eq_true rfl) (Nat.le_of_ble_eq_true rfl) hlocks (Nat.le_of_ble_eq_true rfl) (Nat.le_of_ble_eq_true rfl)
def f_X1_numberAt_5 (T : TrV) (p1 : Int32) (p2 : Int32) : Nat → Int32 → Int32 → Option (String ⊕ (Int32))
  | 0, _, _ => none
  | fu + 1, x3_5, x4_5 => if (p1 + p2) ≤ x4_5 then (some (.inr (x3_5))) else (if (tr_tln T) ≤ x4_5 then (some (.inr (x3_5))) else (gb (inb x4_5 120) <| nm ((10 * x3_5) + (((tr_txt T) x4_5.toNatClampNeg) - 48)) fun v_4 => (f_X1_numberAt_5 T p1 p2 fu) v_4 (x4_5 + 1)))
def f_X1_numberAt (T : TrV) (p1 : Int32) (p2 : Int32) : Option (String ⊕ (Int32)) := f_X1_numberAt_5 T p1 p2 2000 0 p1
set_option maxRecDepth 100000 in
set_option maxHeartbeats 4000000 in
theorem c_X1_numberAt (l : Launch) (hst : l.stackTraces = false) (D : va_G) (k : Nat → ClassId) (cA : Nat → Nat) (nA : Nat → Nat) (tA : Nat → Nat) (T : TrV) (p1 : Int32) (p2 : Int32) (o : String ⊕ (Int32)) (h : f_X1_numberAt T p1 p2 = some o) : Cx l D (tyK k) yX1_numberAt wsX1_numberAt ({ frames := 0, cells := 0, slots := 0, locals := 0 } : Room) [.ref (cA 0), .int p1, .int p2] (trW k cA nA tA T) (trW k cA nA tA T) (Sum.map id (fun r : Int32 => fun (ov : Option Value) (w : va_W) => ov = (some (.int r) : Option Value) ∧ w = trW k cA nA tA T) o) := by
  obtain ⟨O, hO⟩ : ∃ O : Oc, O = Sum.map id (fun r : Int32 => fun (ov : Option Value) (w : va_W) => ov = (some (.int r) : Option Value) ∧ w = trW k cA nA tA T) o := ⟨_, rfl⟩
  rw [← hO]
  refine Cx_of (cc := cX1_numberAt) (maxL := 5) (ret := (some .int)) (by decide) rfl (Nat.le_of_ble_eq_true rfl) ?_
  intro p e s m args below meth c A ls hx hb hr hml hts hown hlocks hnm htab hK hG hA hP hD hS hl
  have hl : lv_has ls 5 [(0, .ref (cA 0)), (1, .int p1), (2, .int p2)] := hl
  have hP : va_P D vwCl (trW k cA nA tA T) s.heap := hP
  have w_0 := hts (.fieldLink RX1 13 "EffectTrain" "textLength" "I") (by decide +kernel)
  have w_1 : ∀ w ∈ wsX10, w ∈ wsX1_numberAt := by decide +kernel
  have w_2 := hts (.fieldLink RX1 9 "EffectTrain" "text" "[C") (by decide +kernel)
  unfold f_X1_numberAt at h
  have hC_5 : ∀ (fu_5 : Nat) (x3_5 : Int32) (x4_5 : Int32) (H : Heap) (locs : List Loc) (ls : Array Slot), va_P D vwCl (trW k cA nA tA T) H → va_D A (trW k cA nA tA T) → va_S A s.heap H locs → lv_has ls 5 [(0, .ref (cA 0)), (1, .int p1), (2, .int p2), (3, .int x3_5), (4, .int x4_5)] → f_X1_numberAt_5 T p1 p2 fu_5 x3_5 x4_5 = some o → W p l e ({ frames := 0, cells := 0, slots := 0, locals := 0 } : Room) s m args below meth c H locs 0 0 (vx_MQ below (Qx D A O) (Xx D A (trW k cA nA tA T) O) args s 0 0 A) (F0 m 5 ls []) := by
    intro fu_5
    induction fu_5 with
    | zero => intro x3_5 x4_5 H locs ls _ _ _ _ h; exact (no_l h).elim
    | succ fu_5 ih_5 =>
      intro x3_5 x4_5 H locs ls hP hD hS hl h
      rw [f_X1_numberAt_5] at h
      refine lv_iload hx hb dX1_numberAt_5 (lv_at hl 4 rfl) ?_
      refine lv_iload_n hx hb dX1_numberAt_7 rfl (lv_at hl 1 rfl) ?_
      refine lv_iload_n hx hb dX1_numberAt_8 rfl (lv_at hl 2 rfl) ?_
      refine lv_iadd hx hb dX1_numberAt_9 ?_
      refine lv_icmp_ge (tgt := 44) hx hb dX1_numberAt_10 (by decide) (fun c_1 => ?_) (fun c_1 => ?_)
      · have h := it_l c_1 h
        refine lv_iload_n hx hb dX1_numberAt_44 rfl (lv_at hl 3 rfl) ?_
        cases h
        exact Cx_iret hO ⟨rfl, rfl⟩ (Nat.le_of_ble_eq_true rfl) (Nat.le_of_ble_eq_true rfl) hx hb hr hP hD hS dX1_numberAt_45 hlocks
      · have h := it_r c_1 h
        refine lv_iload hx hb dX1_numberAt_13 (lv_at hl 4 rfl) ?_
        refine lv_aload_n hx hb dX1_numberAt_15 rfl (lv_at hl 0 rfl) ?_
        refine va_get (D := D) (ci := 1) (v := .int (tr_tln T)) (C := RX1) (T := TX1) (N := 11) hx hb hts w_1 hown hK hP 0 rfl rfl 1 (by decide) w_0 (fun _ h9 => h9) rfl dX1_numberAt_16 ?_
        refine lv_icmp_ge (tgt := 44) hx hb dX1_numberAt_19 (by decide) (fun c_2 => ?_) (fun c_2 => ?_)
        · have h := it_l c_2 h
          refine lv_iload_n hx hb dX1_numberAt_44 rfl (lv_at hl 3 rfl) ?_
          cases h
          exact Cx_iret hO ⟨rfl, rfl⟩ (Nat.le_of_ble_eq_true rfl) (Nat.le_of_ble_eq_true rfl) hx hb hr hP hD hS dX1_numberAt_45 hlocks
        · have h := it_r c_2 h
          refine lv_bipush (v := 10) hx hb dX1_numberAt_22 (by decide) ?_
          refine lv_iload_n hx hb dX1_numberAt_24 rfl (lv_at hl 3 rfl) ?_
          refine lv_imul hx hb dX1_numberAt_25 ?_
          refine lv_aload_n hx hb dX1_numberAt_26 rfl (lv_at hl 0 rfl) ?_
          refine va_get (D := D) (ci := 1) (v := .ref (cA 1)) (C := RX1) (T := TX1) (N := 11) hx hb hts w_1 hown hK hP 0 rfl rfl 0 (by decide) w_2 (fun _ h9 => h9) rfl dX1_numberAt_27 ?_
          refine lv_iload hx hb dX1_numberAt_30 (lv_at hl 4 rfl) ?_
          have g_3 := inb_vp (gb_l h)
          have h := gb_r h
          refine va_cald hx hb hK hP 1 1 rfl rfl g_3 dX1_numberAt_32 ?_
          refine lv_bipush (v := 48) hx hb dX1_numberAt_33 (by decide) ?_
          refine lv_isub hx hb dX1_numberAt_35 ?_
          refine lv_iadd hx hb dX1_numberAt_36 ?_
          refine lv_topi (fun v_4 ev_4 => ?_)
          have h := nm_l h ev_4
          refine lv_istore_n (lv' := [(3, .int v_4), (0, .ref (cA 0)), (1, .int p1), (2, .int p2), (4, .int x4_5)]) hx hb dX1_numberAt_37 rfl hl (by decide) rfl (fun ls hl => ?_)
          refine lv_iinc (v := (x4_5 + 1)) (lv' := [(4, .int (x4_5 + 1)), (3, .int v_4), (0, .ref (cA 0)), (1, .int p1), (2, .int p2)]) hx hb dX1_numberAt_38 hl (k := 4) rfl rfl (by decide) rfl (fun ls hl => ?_)
          refine lv_goto (tgt := 5) hx hb dX1_numberAt_41 (by decide) ?_
          refine W.widen (k := 0) (n := 0) (Nat.le_of_ble_eq_true rfl) (Nat.le_of_ble_eq_true rfl) ?_
          exact ih_5 v_4 (x4_5 + 1) _ _ _ hP hD hS (lv_sub hl [2, 3, 4, 1, 0] rfl) h
  refine lv_iconst (v := 0) hx hb dX1_numberAt_0 (by decide) ?_
  refine lv_istore_n (lv' := [(3, .int 0), (0, .ref (cA 0)), (1, .int p1), (2, .int p2)]) hx hb dX1_numberAt_1 rfl hl (by decide) rfl (fun ls hl => ?_)
  refine lv_iload_n hx hb dX1_numberAt_2 rfl (lv_at hl 2 rfl) ?_
  refine lv_istore (lv' := [(4, .int p1), (3, .int 0), (0, .ref (cA 0)), (1, .int p1), (2, .int p2)]) hx hb dX1_numberAt_3 hl (by decide) rfl (fun ls hl => ?_)
  refine W.widen (k := 0) (n := 0) (Nat.le_of_ble_eq_true rfl) (Nat.le_of_ble_eq_true rfl) ?_
  exact hC_5 2000 0 p1 _ _ _ hP hD hS (lv_sub hl [2, 3, 4, 1, 0] rfl) h
def f_X1_numberError_32 (T : TrV) (p1 : Int32) (p2 : Int32) : Nat → Int32 → Int32 → Int32 → Option (String ⊕ (Int32))
  | 0, _, _, _ => none
  | fu + 1, x3_32, x4_32, x5_32 => gb (inb p2 12) <| if (tD p2.toNatClampNeg) ≤ x5_32 then (some (.inr ((-9)))) else (nm (p1 + x5_32) fun v_3 => if v_3 < (tr_tln T) then (gb (inb v_3 120) <| nm (((tr_txt T) v_3.toNatClampNeg) - 48) fun v_6 => nm (x3_32 / 10) fun v_7 => nm (x4_32 + (v_6 * v_7)) fun v_8 => if v_6 < 0 then (some (.inr (v_3))) else (if 9 < v_6 then (some (.inr (v_3))) else (gb (inb p2 12) <| if (tG p2.toNatClampNeg) < v_8 then (some (.inr (v_3))) else (gb (inb p2 12) <| if (tL p2.toNatClampNeg) ≤ ((v_8 + v_7) - 1) then ((f_X1_numberError_32 T p1 p2 fu) v_7 v_8 (x5_32 + 1)) else (some (.inr (v_3))))))) else (some (.inr ((tr_tln T)))))
def f_X1_numberError_5 (T : TrV) (p1 : Int32) (p2 : Int32) : Nat → Int32 → Int32 → Option (String ⊕ (Int32))
  | 0, _, _ => none
  | fu + 1, x3_5, x4_5 => gb (inb p2 12) <| if (tD p2.toNatClampNeg) ≤ x4_5 then (f_X1_numberError_32 T p1 p2 2000 x3_5 0 0) else (nm (x3_5 * 10) fun v_17 => (f_X1_numberError_5 T p1 p2 fu) v_17 (x4_5 + 1))
def f_X1_numberError (T : TrV) (p1 : Int32) (p2 : Int32) : Option (String ⊕ (Int32)) := f_X1_numberError_5 T p1 p2 2000 1 0
set_option maxRecDepth 100000 in
set_option maxHeartbeats 4000000 in
theorem c_X1_numberError (l : Launch) (hst : l.stackTraces = false) (D : va_G) (k : Nat → ClassId) (cA : Nat → Nat) (nA : Nat → Nat) (tA : Nat → Nat) (T : TrV) (p1 : Int32) (p2 : Int32) (o : String ⊕ (Int32)) (h : f_X1_numberError T p1 p2 = some o) : Cx l D (tyK k) yX1_numberError wsX1_numberError ({ frames := 0, cells := 0, slots := 0, locals := 0 } : Room) [.ref (cA 0), .int p1, .int p2] (trW k cA nA tA T) (trW k cA nA tA T) (Sum.map id (fun r : Int32 => fun (ov : Option Value) (w : va_W) => ov = (some (.int r) : Option Value) ∧ w = trW k cA nA tA T) o) := by
  obtain ⟨O, hO⟩ : ∃ O : Oc, O = Sum.map id (fun r : Int32 => fun (ov : Option Value) (w : va_W) => ov = (some (.int r) : Option Value) ∧ w = trW k cA nA tA T) o := ⟨_, rfl⟩
  rw [← hO]
  refine Cx_of (cc := cX1_numberError) (maxL := 8) (ret := (some .int)) (by decide) rfl (Nat.le_of_ble_eq_true rfl) ?_
  intro p e s m args below meth c A ls hx hb hr hml hts hown hlocks hnm htab hK hG hA hP hD hS hl
  obtain ⟨t1, t2, t3, ⟨z1, b1⟩, ⟨z2, b2⟩, z3, b3⟩ := id hG.1
  have hl : lv_has ls 8 [(0, .ref (cA 0)), (1, .int p1), (2, .int p2)] := hl
  have hP : va_P D vwCl (trW k cA nA tA T) s.heap := hP
  have w_0 := hts (.fieldLink RX1 82 "EffectTrain" "DIGITS" "[I") (by decide +kernel)
  have w_1 := hts (.fieldLink RX1 13 "EffectTrain" "textLength" "I") (by decide +kernel)
  have w_2 : ∀ w ∈ wsX10, w ∈ wsX1_numberError := by decide +kernel
  have w_3 := hts (.fieldLink RX1 9 "EffectTrain" "text" "[C") (by decide +kernel)
  have w_4 := hts (.fieldLink RX1 88 "EffectTrain" "GREATEST" "[I") (by decide +kernel)
  have w_5 := hts (.fieldLink RX1 91 "EffectTrain" "LEAST" "[I") (by decide +kernel)
  unfold f_X1_numberError at h
  have hC_32 : ∀ (fu_32 : Nat) (x3_32 : Int32) (x4_32 : Int32) (x5_32 : Int32) (H : Heap) (locs : List Loc) (ls : Array Slot), va_P D vwCl (trW k cA nA tA T) H → va_D A (trW k cA nA tA T) → va_S A s.heap H locs → lv_has ls 8 [(0, .ref (cA 0)), (1, .int p1), (2, .int p2), (3, .int x3_32), (4, .int x4_32), (5, .int x5_32)] → f_X1_numberError_32 T p1 p2 fu_32 x3_32 x4_32 x5_32 = some o → W p l e ({ frames := 0, cells := 0, slots := 0, locals := 0 } : Room) s m args below meth c H locs 0 0 (vx_MQ below (Qx D A O) (Xx D A (trW k cA nA tA T) O) args s 0 0 A) (F0 m 32 ls []) := by
    intro fu_32
    induction fu_32 with
    | zero => intro x3_32 x4_32 x5_32 H locs ls _ _ _ _ h; exact (no_l h).elim
    | succ fu_32 ih_32 =>
      intro x3_32 x4_32 x5_32 H locs ls hP hD hS hl h
      rw [f_X1_numberError_32] at h
      refine lv_iload hx hb dX1_numberError_32 (lv_at hl 5 rfl) ?_
      refine va_gets hx hb z1 hS hown w_0 (fun _ h9 => h9) dX1_numberError_34 ?_
      refine lv_iload_n hx hb dX1_numberError_37 rfl (lv_at hl 2 rfl) ?_
      have g_1 := inb_vp (gb_l h)
      have h := gb_r h
      refine va_ti hx hb b1 hS g_1 rfl dX1_numberError_38 ?_
      refine lv_icmp_ge (tgt := 133) hx hb dX1_numberError_39 (by decide) (fun c_2 => ?_) (fun c_2 => ?_)
      · have h := it_l c_2 h
        refine lv_bipush (v := (-9)) hx hb dX1_numberError_133 (by decide) ?_
        cases h
        exact Cx_iret hO ⟨rfl, rfl⟩ (Nat.le_of_ble_eq_true rfl) (Nat.le_of_ble_eq_true rfl) hx hb hr hP hD hS dX1_numberError_135 hlocks
      · have h := it_r c_2 h
        refine lv_iload_n hx hb dX1_numberError_42 rfl (lv_at hl 1 rfl) ?_
        refine lv_iload hx hb dX1_numberError_43 (lv_at hl 5 rfl) ?_
        refine lv_iadd hx hb dX1_numberError_45 ?_
        refine lv_topi (fun v_3 ev_3 => ?_)
        have h := nm_l h ev_3
        refine lv_istore (lv' := [(6, .int v_3), (0, .ref (cA 0)), (1, .int p1), (2, .int p2), (3, .int x3_32), (4, .int x4_32), (5, .int x5_32)]) hx hb dX1_numberError_46 hl (by decide) rfl (fun ls hl => ?_)
        refine lv_iload hx hb dX1_numberError_48 (lv_at hl 0 rfl) ?_
        refine lv_aload_n hx hb dX1_numberError_50 rfl (lv_at hl 1 rfl) ?_
        refine va_get (D := D) (ci := 1) (v := .int (tr_tln T)) (C := RX1) (T := TX1) (N := 11) hx hb hts w_2 hown hK hP 0 rfl rfl 1 (by decide) w_1 (fun _ h9 => h9) rfl dX1_numberError_51 ?_
        refine lv_icmp_lt (tgt := 62) hx hb dX1_numberError_54 (by decide) (fun c_4 => ?_) (fun c_4 => ?_)
        · have h := it_l c_4 h
          refine lv_aload_n hx hb dX1_numberError_62 rfl (lv_at hl 1 rfl) ?_
          refine va_get (D := D) (ci := 1) (v := .ref (cA 1)) (C := RX1) (T := TX1) (N := 11) hx hb hts w_2 hown hK hP 0 rfl rfl 0 (by decide) w_3 (fun _ h9 => h9) rfl dX1_numberError_63 ?_
          refine lv_iload hx hb dX1_numberError_66 (lv_at hl 0 rfl) ?_
          have g_5 := inb_vp (gb_l h)
          have h := gb_r h
          refine va_cald hx hb hK hP 1 1 rfl rfl g_5 dX1_numberError_68 ?_
          refine lv_bipush (v := 48) hx hb dX1_numberError_69 (by decide) ?_
          refine lv_isub hx hb dX1_numberError_71 ?_
          refine lv_topi (fun v_6 ev_6 => ?_)
          have h := nm_l h ev_6
          refine lv_istore (lv' := [(7, .int v_6), (6, .int v_3), (0, .ref (cA 0)), (1, .int p1), (2, .int p2), (3, .int x3_32), (4, .int x4_32), (5, .int x5_32)]) hx hb dX1_numberError_72 hl (by decide) rfl (fun ls hl => ?_)
          refine lv_iload_n hx hb dX1_numberError_74 rfl (lv_at hl 5 rfl) ?_
          refine lv_bipush (v := 10) hx hb dX1_numberError_75 (by decide) ?_
          refine lv_idiv hx hb dX1_numberError_77 (by decide) ?_
          refine lv_topi (fun v_7 ev_7 => ?_)
          have h := nm_l h ev_7
          refine lv_istore_n (lv' := [(3, .int v_7), (7, .int v_6), (6, .int v_3), (0, .ref (cA 0)), (1, .int p1), (2, .int p2), (4, .int x4_32), (5, .int x5_32)]) hx hb dX1_numberError_78 rfl hl (by decide) rfl (fun ls hl => ?_)
          refine lv_iload hx hb dX1_numberError_79 (lv_at hl 6 rfl) ?_
          refine lv_iload hx hb dX1_numberError_81 (lv_at hl 1 rfl) ?_
          refine lv_iload_n hx hb dX1_numberError_83 rfl (lv_at hl 0 rfl) ?_
          refine lv_imul hx hb dX1_numberError_84 ?_
          refine lv_iadd hx hb dX1_numberError_85 ?_
          refine lv_topi (fun v_8 ev_8 => ?_)
          have h := nm_l h ev_8
          refine lv_istore (lv' := [(4, .int v_8), (3, .int v_7), (7, .int v_6), (6, .int v_3), (0, .ref (cA 0)), (1, .int p1), (2, .int p2), (5, .int x5_32)]) hx hb dX1_numberError_86 hl (by decide) rfl (fun ls hl => ?_)
          refine lv_iload hx hb dX1_numberError_88 (lv_at hl 2 rfl) ?_
          refine lv_if_lt (tgt := 124) hx hb dX1_numberError_90 (by decide) (fun c_9 => ?_) (fun c_9 => ?_)
          · have h := it_l c_9 h
            refine lv_iload hx hb dX1_numberError_124 (lv_at hl 3 rfl) ?_
            cases h
            exact Cx_iret hO ⟨rfl, rfl⟩ (Nat.le_of_ble_eq_true rfl) (Nat.le_of_ble_eq_true rfl) hx hb hr hP hD hS dX1_numberError_126 hlocks
          · have h := it_r c_9 h
            refine lv_iload hx hb dX1_numberError_93 (lv_at hl 2 rfl) ?_
            refine lv_bipush (v := 9) hx hb dX1_numberError_95 (by decide) ?_
            refine lv_icmp_gt (tgt := 124) hx hb dX1_numberError_97 (by decide) (fun c_10 => ?_) (fun c_10 => ?_)
            · have h := it_l c_10 h
              refine lv_iload hx hb dX1_numberError_124 (lv_at hl 3 rfl) ?_
              cases h
              exact Cx_iret hO ⟨rfl, rfl⟩ (Nat.le_of_ble_eq_true rfl) (Nat.le_of_ble_eq_true rfl) hx hb hr hP hD hS dX1_numberError_126 hlocks
            · have h := it_r c_10 h
              refine lv_iload hx hb dX1_numberError_100 (lv_at hl 0 rfl) ?_
              refine va_gets hx hb z3 hS hown w_4 (fun _ h9 => h9) dX1_numberError_102 ?_
              refine lv_iload_n hx hb dX1_numberError_105 rfl (lv_at hl 6 rfl) ?_
              have g_11 := inb_vp (gb_l h)
              have h := gb_r h
              refine va_ti hx hb b3 hS g_11 rfl dX1_numberError_106 ?_
              refine lv_icmp_gt (tgt := 124) hx hb dX1_numberError_107 (by decide) (fun c_12 => ?_) (fun c_12 => ?_)
              · have h := it_l c_12 h
                refine lv_iload hx hb dX1_numberError_124 (lv_at hl 3 rfl) ?_
                cases h
                exact Cx_iret hO ⟨rfl, rfl⟩ (Nat.le_of_ble_eq_true rfl) (Nat.le_of_ble_eq_true rfl) hx hb hr hP hD hS dX1_numberError_126 hlocks
              · have h := it_r c_12 h
                refine lv_iload hx hb dX1_numberError_110 (lv_at hl 0 rfl) ?_
                refine lv_iload_n hx hb dX1_numberError_112 rfl (lv_at hl 1 rfl) ?_
                refine lv_iadd hx hb dX1_numberError_113 ?_
                refine lv_iconst (v := 1) hx hb dX1_numberError_114 (by decide) ?_
                refine lv_isub hx hb dX1_numberError_115 ?_
                refine va_gets hx hb z2 hS hown w_5 (fun _ h9 => h9) dX1_numberError_116 ?_
                refine lv_iload_n hx hb dX1_numberError_119 rfl (lv_at hl 6 rfl) ?_
                have g_13 := inb_vp (gb_l h)
                have h := gb_r h
                refine va_ti hx hb b2 hS g_13 rfl dX1_numberError_120 ?_
                refine lv_icmp_ge (tgt := 127) hx hb dX1_numberError_121 (by decide) (fun c_14 => ?_) (fun c_14 => ?_)
                · have h := it_l c_14 h
                  refine lv_iinc (v := (x5_32 + 1)) (lv' := [(5, .int (x5_32 + 1)), (4, .int v_8), (3, .int v_7), (7, .int v_6), (6, .int v_3), (0, .ref (cA 0)), (1, .int p1), (2, .int p2)]) hx hb dX1_numberError_127 hl (k := 7) rfl rfl (by decide) rfl (fun ls hl => ?_)
                  refine lv_goto (tgt := 32) hx hb dX1_numberError_130 (by decide) ?_
                  refine W.widen (k := 0) (n := 0) (Nat.le_of_ble_eq_true rfl) (Nat.le_of_ble_eq_true rfl) ?_
                  exact ih_32 v_7 v_8 (x5_32 + 1) _ _ _ hP hD hS (lv_sub hl [5, 6, 7, 2, 1, 0] rfl) h
                · have h := it_r c_14 h
                  refine lv_iload hx hb dX1_numberError_124 (lv_at hl 3 rfl) ?_
                  cases h
                  exact Cx_iret hO ⟨rfl, rfl⟩ (Nat.le_of_ble_eq_true rfl) (Nat.le_of_ble_eq_true rfl) hx hb hr hP hD hS dX1_numberError_126 hlocks
        · have h := it_r c_4 h
          refine lv_aload_n hx hb dX1_numberError_57 rfl (lv_at hl 1 rfl) ?_
          refine va_get (D := D) (ci := 1) (v := .int (tr_tln T)) (C := RX1) (T := TX1) (N := 11) hx hb hts w_2 hown hK hP 0 rfl rfl 1 (by decide) w_1 (fun _ h9 => h9) rfl dX1_numberError_58 ?_
          cases h
          exact Cx_iret hO ⟨rfl, rfl⟩ (Nat.le_of_ble_eq_true rfl) (Nat.le_of_ble_eq_true rfl) hx hb hr hP hD hS dX1_numberError_61 hlocks
  have hC_5 : ∀ (fu_5 : Nat) (x3_5 : Int32) (x4_5 : Int32) (H : Heap) (locs : List Loc) (ls : Array Slot), va_P D vwCl (trW k cA nA tA T) H → va_D A (trW k cA nA tA T) → va_S A s.heap H locs → lv_has ls 8 [(0, .ref (cA 0)), (1, .int p1), (2, .int p2), (3, .int x3_5), (4, .int x4_5)] → f_X1_numberError_5 T p1 p2 fu_5 x3_5 x4_5 = some o → W p l e ({ frames := 0, cells := 0, slots := 0, locals := 0 } : Room) s m args below meth c H locs 0 0 (vx_MQ below (Qx D A O) (Xx D A (trW k cA nA tA T) O) args s 0 0 A) (F0 m 5 ls []) := by
    intro fu_5
    induction fu_5 with
    | zero => intro x3_5 x4_5 H locs ls _ _ _ _ h; exact (no_l h).elim
    | succ fu_5 ih_5 =>
      intro x3_5 x4_5 H locs ls hP hD hS hl h
      rw [f_X1_numberError_5] at h
      refine lv_iload hx hb dX1_numberError_5 (lv_at hl 4 rfl) ?_
      refine va_gets hx hb z1 hS hown w_0 (fun _ h9 => h9) dX1_numberError_7 ?_
      refine lv_iload_n hx hb dX1_numberError_10 rfl (lv_at hl 2 rfl) ?_
      have g_15 := inb_vp (gb_l h)
      have h := gb_r h
      refine va_ti hx hb b1 hS g_15 rfl dX1_numberError_11 ?_
      refine lv_icmp_ge (tgt := 26) hx hb dX1_numberError_12 (by decide) (fun c_16 => ?_) (fun c_16 => ?_)
      · have h := it_l c_16 h
        refine lv_iconst (v := 0) hx hb dX1_numberError_26 (by decide) ?_
        refine lv_istore (lv' := [(4, .int 0), (0, .ref (cA 0)), (1, .int p1), (2, .int p2), (3, .int x3_5)]) hx hb dX1_numberError_27 hl (by decide) rfl (fun ls hl => ?_)
        refine lv_iconst (v := 0) hx hb dX1_numberError_29 (by decide) ?_
        refine lv_istore (lv' := [(5, .int 0), (4, .int 0), (0, .ref (cA 0)), (1, .int p1), (2, .int p2), (3, .int x3_5)]) hx hb dX1_numberError_30 hl (by decide) rfl (fun ls hl => ?_)
        refine W.widen (k := 0) (n := 0) (Nat.le_of_ble_eq_true rfl) (Nat.le_of_ble_eq_true rfl) ?_
        exact hC_32 2000 x3_5 0 0 _ _ _ hP hD hS (lv_sub hl [2, 3, 4, 5, 1, 0] rfl) h
      · have h := it_r c_16 h
        refine lv_iload_n hx hb dX1_numberError_15 rfl (lv_at hl 3 rfl) ?_
        refine lv_bipush (v := 10) hx hb dX1_numberError_16 (by decide) ?_
        refine lv_imul hx hb dX1_numberError_18 ?_
        refine lv_topi (fun v_17 ev_17 => ?_)
        have h := nm_l h ev_17
        refine lv_istore_n (lv' := [(3, .int v_17), (0, .ref (cA 0)), (1, .int p1), (2, .int p2), (4, .int x4_5)]) hx hb dX1_numberError_19 rfl hl (by decide) rfl (fun ls hl => ?_)
        refine lv_iinc (v := (x4_5 + 1)) (lv' := [(4, .int (x4_5 + 1)), (3, .int v_17), (0, .ref (cA 0)), (1, .int p1), (2, .int p2)]) hx hb dX1_numberError_20 hl (k := 4) rfl rfl (by decide) rfl (fun ls hl => ?_)
        refine lv_goto (tgt := 5) hx hb dX1_numberError_23 (by decide) ?_
        refine W.widen (k := 0) (n := 0) (Nat.le_of_ble_eq_true rfl) (Nat.le_of_ble_eq_true rfl) ?_
        exact ih_5 v_17 (x4_5 + 1) _ _ _ hP hD hS (lv_sub hl [2, 3, 4, 1, 0] rfl) h
  refine lv_iconst (v := 1) hx hb dX1_numberError_0 (by decide) ?_
  refine lv_istore_n (lv' := [(3, .int 1), (0, .ref (cA 0)), (1, .int p1), (2, .int p2)]) hx hb dX1_numberError_1 rfl hl (by decide) rfl (fun ls hl => ?_)
  refine lv_iconst (v := 0) hx hb dX1_numberError_2 (by decide) ?_
  refine lv_istore (lv' := [(4, .int 0), (3, .int 1), (0, .ref (cA 0)), (1, .int p1), (2, .int p2)]) hx hb dX1_numberError_3 hl (by decide) rfl (fun ls hl => ?_)
  refine W.widen (k := 0) (n := 0) (Nat.le_of_ble_eq_true rfl) (Nat.le_of_ble_eq_true rfl) ?_
  exact hC_5 2000 1 0 _ _ _ hP hD hS (lv_sub hl [2, 3, 4, 1, 0] rfl) h
def f_X1_readText_58 (k_27 : Int32 → Int32 → Int32 → TrV → Option (String ⊕ (Int32 × TrV))) (x1_58 : Int32) (x2_58 : Int32) (x3_58 : Int32) (t0_58 : Int32) (T_58 : TrV) : Option (String ⊕ (Int32 × TrV)) := bn (f_X1_numberError T_58 x1_58 t0_58) fun v_1 => if v_1 = (-9) then (gb (inb t0_58 12) <| bn (f_X1_numberAt T_58 x1_58 (tD t0_58.toNatClampNeg)) fun v_7 => gb (inb x3_58 42) <| nm (tu_tnm T_58 (upd (tr_tnm T_58) x3_58.toNatClampNeg v_7)) fun q_12 => gb (inb t0_58 12) <| nm (x1_58 + (tD t0_58.toNatClampNeg)) fun v_14 => if x3_58 = 0 then (nm (6 + (6 * ((tr_tnm q_12) 0))) fun v_16 => k_27 v_14 v_16 (x3_58 + 1) q_12) else (k_27 v_14 x2_58 (x3_58 + 1) q_12)) else (some (.inr (v_1, T_58)))
def f_X1_readText_27 : Nat → Int32 → Int32 → Int32 → TrV → Option (String ⊕ (Int32 × TrV))
  | 0, _, _, _, _ => none
  | fu + 1, x1_27, x2_27, x3_27, T_27 => if x2_27 ≤ x3_27 then (if x1_27 = (tr_tln T_27) then (some (.inr ((-9), T_27))) else (some (.inr (x1_27, T_27)))) else (if 42 ≤ x3_27 then (if x1_27 = (tr_tln T_27) then (some (.inr ((-9), T_27))) else (some (.inr (x1_27, T_27)))) else (if 6 ≤ x3_27 then (f_X1_readText_58 (f_X1_readText_27 fu) x1_27 x2_27 x3_27 (6 + ((x3_27 - 6) - (x3_27 - 6) / 6 * 6)) T_27) else (f_X1_readText_58 (f_X1_readText_27 fu) x1_27 x2_27 x3_27 x3_27 T_27)))
def f_X1_readText (T : TrV) : Option (String ⊕ (Int32 × TrV)) := if (tr_tln T) = 0 then (some (.inr (0, T))) else (if ((tr_txt T) 0) = 69 then (f_X1_readText_27 2000 1 6 0 T) else (some (.inr (0, T))))
set_option maxRecDepth 100000 in
set_option maxHeartbeats 4000000 in
theorem c_X1_readText (l : Launch) (hst : l.stackTraces = false) (D : va_G) (k : Nat → ClassId) (cA : Nat → Nat) (nA : Nat → Nat) (tA : Nat → Nat) (T : TrV) (o : String ⊕ (Int32 × TrV)) (h : f_X1_readText T = some o) : Cx l D (tyK k) yX1_readText wsX1_readText ({ frames := 1, cells := 0, slots := 0, locals := 27 } : Room) [.ref (cA 0)] (trW k cA nA tA T) (trW k cA nA tA T) (Sum.map id (fun r : Int32 × TrV => fun (ov : Option Value) (w : va_W) => ov = (some (.int r.1) : Option Value) ∧ w = trW k cA nA tA r.2) o) := by
  obtain ⟨O, hO⟩ : ∃ O : Oc, O = Sum.map id (fun r : Int32 × TrV => fun (ov : Option Value) (w : va_W) => ov = (some (.int r.1) : Option Value) ∧ w = trW k cA nA tA r.2) o := ⟨_, rfl⟩
  rw [← hO]
  refine Cx_of (cc := cX1_readText) (maxL := 6) (ret := (some .int)) (by decide) rfl (Nat.le_of_ble_eq_true rfl) ?_
  intro p e s m args below meth c A ls hx hb hr hml hts hown hlocks hnm htab hK hG hA hP hD hS hl
  obtain ⟨t1, t2, t3, ⟨z1, b1⟩, ⟨z2, b2⟩, z3, b3⟩ := id hG.1
  have hl : lv_has ls 6 [(0, .ref (cA 0))] := hl
  have hP : va_P D vwCl (trW k cA nA tA T) s.heap := hP
  have w_0 := hts (.fieldLink RX1 17 "EffectTrain" "textNumbers" "[I") (by decide +kernel)
  have w_1 : ∀ w ∈ wsX10, w ∈ wsX1_readText := by decide +kernel
  have w_2 := hts (.fieldLink RX1 82 "EffectTrain" "DIGITS" "[I") (by decide +kernel)
  have w_3 := hts (.fieldLink RX1 13 "EffectTrain" "textLength" "I") (by decide +kernel)
  have w_4 := hts (.fieldLink RX1 9 "EffectTrain" "text" "[C") (by decide +kernel)
  unfold f_X1_readText at h
  have hC_27 : ∀ (fu_27 : Nat) (x1_27 : Int32) (x2_27 : Int32) (x3_27 : Int32) (T_27 : TrV) (H : Heap) (locs : List Loc) (ls : Array Slot), va_P D vwCl (trW k cA nA tA T_27) H → va_D A (trW k cA nA tA T_27) → va_S A s.heap H locs → lv_has ls 6 [(0, .ref (cA 0)), (1, .int x1_27), (2, .int x2_27), (3, .int x3_27)] → f_X1_readText_27 fu_27 x1_27 x2_27 x3_27 T_27 = some o → W p l e ({ frames := 1, cells := 0, slots := 0, locals := 27 } : Room) s m args below meth c H locs 0 0 (vx_MQ below (Qx D A O) (Xx D A (trW k cA nA tA T) O) args s 0 0 A) (F0 m 27 ls []) := by
    intro fu_27
    induction fu_27 with
    | zero => intro x1_27 x2_27 x3_27 T_27 H locs ls _ _ _ _ h; exact (no_l h).elim
    | succ fu_27 ih_27 =>
      intro x1_27 x2_27 x3_27 T_27 H locs ls hP hD hS hl h
      rw [f_X1_readText_27] at h
      have hC_58 : ∀ (x1_58 : Int32) (x2_58 : Int32) (x3_58 : Int32) (t0_58 : Int32) (T_58 : TrV) (H : Heap) (locs : List Loc) (ls : Array Slot), va_P D vwCl (trW k cA nA tA T_58) H → va_D A (trW k cA nA tA T_58) → va_S A s.heap H locs → lv_has ls 6 [(0, .ref (cA 0)), (1, .int x1_58), (2, .int x2_58), (3, .int x3_58)] → f_X1_readText_58 (f_X1_readText_27 fu_27) x1_58 x2_58 x3_58 t0_58 T_58 = some o → W p l e ({ frames := 1, cells := 0, slots := 0, locals := 27 } : Room) s m args below meth c H locs 0 0 (vx_MQ below (Qx D A O) (Xx D A (trW k cA nA tA T) O) args s 0 0 A) (F0 m 58 ls [.int t0_58]) := by
        intro x1_58 x2_58 x3_58 t0_58 T_58 H locs ls hP hD hS hl h
        unfold f_X1_readText_58 at h
        refine lv_istore (lv' := [(4, .int t0_58), (0, .ref (cA 0)), (1, .int x1_58), (2, .int x2_58), (3, .int x3_58)]) hx hb dX1_readText_58 hl (by decide) rfl (fun ls hl => ?_)
        refine lv_aload_n hx hb dX1_readText_60 rfl (lv_at hl 1 rfl) ?_
        refine lv_iload_n hx hb dX1_readText_61 rfl (lv_at hl 2 rfl) ?_
        refine lv_iload hx hb dX1_readText_62 (lv_at hl 0 rfl) ?_
        obtain ⟨v_1, hv_2, h⟩ := bn_l h
        refine Cx_in (w0' := trW k cA nA tA T_58) (wc' := trW k cA nA tA T_58) rfl (vx_runV (As := [.int x1_58, .int t0_58]) (rest := []) ⟨hx, hb, hml, hown, hts⟩ (c_X1_numberError l hst D k cA nA tA T_58 x1_58 t0_58 (.inr (v_1)) hv_2 _) (cwV 2 hts gX1_readText_X1_numberError rfl rfl rfl (by decide +kernel) ⟨Nat.le_of_ble_eq_true rfl, Nat.le_of_ble_eq_true rfl⟩) ⟨Px_blind, va_recv (q0 := 0) (ci := 1) hK hP rfl rfl, Px_at (wc := trW k cA nA tA T_58) hK hG hP hD hS hA ([0, 1, 2, 3]) tr_hi (by decide)⟩ rfl rfl hl.1 rfl (Nat.le_of_ble_eq_true rfl) dX1_readText_64 ⟨Nat.le_of_ble_eq_true rfl, Nat.le_of_ble_eq_true rfl⟩) hP hD hS hA ([0, 1, 2, 3]) tr_hi rfl tr_all (fun H locs hP hD hS => ?_)
        refine W.eq (g2 := F0 m 67 ls [.int v_1]) rfl ?_
        refine lv_istore (lv' := [(5, .int v_1), (4, .int t0_58), (0, .ref (cA 0)), (1, .int x1_58), (2, .int x2_58), (3, .int x3_58)]) hx hb dX1_readText_67 hl (by decide) rfl (fun ls hl => ?_)
        refine lv_iload hx hb dX1_readText_69 (lv_at hl 0 rfl) ?_
        refine lv_bipush (v := (-9)) hx hb dX1_readText_71 (by decide) ?_
        refine lv_icmp_eq (tgt := 79) hx hb dX1_readText_73 (by decide) (fun c_5 => ?_) (fun c_5 => ?_)
        · have h := it_l c_5 h
          refine lv_aload_n hx hb dX1_readText_79 rfl (lv_at hl 2 rfl) ?_
          refine va_get (D := D) (ci := 1) (v := .ref (cA 2)) (C := RX1) (T := TX1) (N := 11) hx hb hts w_1 hown hK hP 0 rfl rfl 2 (by decide) w_0 (fun _ h9 => h9) rfl dX1_readText_80 ?_
          refine lv_iload_n hx hb dX1_readText_83 rfl (lv_at hl 5 rfl) ?_
          refine lv_aload_n hx hb dX1_readText_84 rfl (lv_at hl 2 rfl) ?_
          refine lv_iload_n hx hb dX1_readText_85 rfl (lv_at hl 3 rfl) ?_
          refine va_gets hx hb z1 hS hown w_2 (fun _ h9 => h9) dX1_readText_86 ?_
          refine lv_iload hx hb dX1_readText_89 (lv_at hl 1 rfl) ?_
          have g_6 := inb_vp (gb_l h)
          have h := gb_r h
          refine va_ti hx hb b1 hS g_6 rfl dX1_readText_91 ?_
          obtain ⟨v_7, hv_8, h⟩ := bn_l h
          refine Cx_in (w0' := trW k cA nA tA T_58) (wc' := trW k cA nA tA T_58) rfl (vx_runV (As := [.int x1_58, .int (tD t0_58.toNatClampNeg)]) (rest := [.int x3_58, .ref (cA 2)]) ⟨hx, hb, hml, hown, hts⟩ (c_X1_numberAt l hst D k cA nA tA T_58 x1_58 (tD t0_58.toNatClampNeg) (.inr (v_7)) hv_8 _) (cwV 2 hts gX1_readText_X1_numberAt rfl rfl rfl (by decide +kernel) ⟨Nat.le_of_ble_eq_true rfl, Nat.le_of_ble_eq_true rfl⟩) ⟨Px_blind, va_recv (q0 := 0) (ci := 1) hK hP rfl rfl, Px_at (wc := trW k cA nA tA T_58) hK hG hP hD hS hA ([0, 1, 2, 3]) tr_hi (by decide)⟩ rfl rfl hl.1 rfl (Nat.le_of_ble_eq_true rfl) dX1_readText_92 ⟨Nat.le_of_ble_eq_true rfl, Nat.le_of_ble_eq_true rfl⟩) hP hD hS hA ([0, 1, 2, 3]) tr_hi rfl tr_all (fun H locs hP hD hS => ?_)
          refine W.eq (g2 := F0 m 95 ls [.int v_7, .int x3_58, .ref (cA 2)]) rfl ?_
          have g_11 := inb_vp (gb_l h)
          have h := gb_r h
          refine va_iast hx hb hK hP hD hS 2 0 rfl rfl g_11 dX1_readText_95 (fun H locs hP hD hS => ?_)
          obtain ⟨q_12, eq_12⟩ : ∃ y : TrV, y = tu_tnm T_58 (upd (tr_tnm T_58) x3_58.toNatClampNeg v_7) := ⟨_, rfl⟩
          have hP : va_P D vwCl (trW k cA nA tA q_12) H := by rw [eq_12, ← tr_set_tnm k cA nA tA T_58 _]; exact hP
          have hD : va_D A (trW k cA nA tA q_12) := by rw [eq_12, ← tr_set_tnm k cA nA tA T_58 _]; exact hD
          have h := nm_l h eq_12
          refine lv_iload_n hx hb dX1_readText_96 rfl (lv_at hl 3 rfl) ?_
          refine va_gets hx hb z1 hS hown w_2 (fun _ h9 => h9) dX1_readText_97 ?_
          refine lv_iload hx hb dX1_readText_100 (lv_at hl 1 rfl) ?_
          have g_13 := inb_vp (gb_l h)
          have h := gb_r h
          refine va_ti hx hb b1 hS g_13 rfl dX1_readText_102 ?_
          refine lv_iadd hx hb dX1_readText_103 ?_
          refine lv_topi (fun v_14 ev_14 => ?_)
          have h := nm_l h ev_14
          refine lv_istore_n (lv' := [(1, .int v_14), (5, .int v_1), (4, .int t0_58), (0, .ref (cA 0)), (2, .int x2_58), (3, .int x3_58)]) hx hb dX1_readText_104 rfl hl (by decide) rfl (fun ls hl => ?_)
          refine lv_iload_n hx hb dX1_readText_105 rfl (lv_at hl 5 rfl) ?_
          refine lv_if_ne (tgt := 122) hx hb dX1_readText_106 (by decide) (fun c_15 => ?_) (fun c_15 => ?_)
          · have h := it_r c_15 h
            refine lv_iinc (v := (x3_58 + 1)) (lv' := [(3, .int (x3_58 + 1)), (1, .int v_14), (5, .int v_1), (4, .int t0_58), (0, .ref (cA 0)), (2, .int x2_58)]) hx hb dX1_readText_122 hl (k := 5) rfl rfl (by decide) rfl (fun ls hl => ?_)
            refine lv_goto (tgt := 27) hx hb dX1_readText_125 (by decide) ?_
            refine W.widen (k := 0) (n := 0) (Nat.le_of_ble_eq_true rfl) (Nat.le_of_ble_eq_true rfl) ?_
            exact ih_27 v_14 x2_58 (x3_58 + 1) q_12 _ _ _ hP hD hS (lv_sub hl [4, 1, 5, 0] rfl) h
          · have h := it_l c_15 h
            refine lv_bipush (v := 6) hx hb dX1_readText_109 (by decide) ?_
            refine lv_bipush (v := 6) hx hb dX1_readText_111 (by decide) ?_
            refine lv_aload_n hx hb dX1_readText_113 rfl (lv_at hl 3 rfl) ?_
            refine va_get (D := D) (ci := 1) (v := .ref (cA 2)) (C := RX1) (T := TX1) (N := 11) hx hb hts w_1 hown hK hP 0 rfl rfl 2 (by decide) w_0 (fun _ h9 => h9) rfl dX1_readText_114 ?_
            refine lv_iconst (v := 0) hx hb dX1_readText_117 (by decide) ?_
            refine va_iald hx hb hK hP 2 0 rfl rfl (inb_vp (by decide)) dX1_readText_118 ?_
            refine W.eq (g2 := F0 m 119 ls [.int ((tr_tnm q_12) 0), .int 6, .int 6]) rfl ?_
            refine lv_imul hx hb dX1_readText_119 ?_
            refine lv_iadd hx hb dX1_readText_120 ?_
            refine lv_topi (fun v_16 ev_16 => ?_)
            have h := nm_l h ev_16
            refine lv_istore_n (lv' := [(2, .int v_16), (1, .int v_14), (5, .int v_1), (4, .int t0_58), (0, .ref (cA 0)), (3, .int x3_58)]) hx hb dX1_readText_121 rfl hl (by decide) rfl (fun ls hl => ?_)
            refine lv_iinc (v := (x3_58 + 1)) (lv' := [(3, .int (x3_58 + 1)), (2, .int v_16), (1, .int v_14), (5, .int v_1), (4, .int t0_58), (0, .ref (cA 0))]) hx hb dX1_readText_122 hl (k := 5) rfl rfl (by decide) rfl (fun ls hl => ?_)
            refine lv_goto (tgt := 27) hx hb dX1_readText_125 (by decide) ?_
            refine W.widen (k := 0) (n := 0) (Nat.le_of_ble_eq_true rfl) (Nat.le_of_ble_eq_true rfl) ?_
            exact ih_27 v_14 v_16 (x3_58 + 1) q_12 _ _ _ hP hD hS (lv_sub hl [5, 2, 1, 0] rfl) h
        · have h := it_r c_5 h
          refine lv_iload hx hb dX1_readText_76 (lv_at hl 0 rfl) ?_
          cases h
          exact Cx_iret hO ⟨rfl, rfl⟩ (Nat.le_of_ble_eq_true rfl) (Nat.le_of_ble_eq_true rfl) hx hb hr hP hD hS dX1_readText_78 hlocks
      refine lv_iload_n hx hb dX1_readText_27 rfl (lv_at hl 3 rfl) ?_
      refine lv_iload_n hx hb dX1_readText_28 rfl (lv_at hl 2 rfl) ?_
      refine lv_icmp_ge (tgt := 128) hx hb dX1_readText_29 (by decide) (fun c_17 => ?_) (fun c_17 => ?_)
      · have h := it_l c_17 h
        refine lv_iload_n hx hb dX1_readText_128 rfl (lv_at hl 1 rfl) ?_
        refine lv_aload_n hx hb dX1_readText_129 rfl (lv_at hl 0 rfl) ?_
        refine va_get (D := D) (ci := 1) (v := .int (tr_tln T_27)) (C := RX1) (T := TX1) (N := 11) hx hb hts w_1 hown hK hP 0 rfl rfl 1 (by decide) w_3 (fun _ h9 => h9) rfl dX1_readText_130 ?_
        refine lv_icmp_ne (tgt := 141) hx hb dX1_readText_133 (by decide) (fun c_18 => ?_) (fun c_18 => ?_)
        · have h := it_r c_18 h
          refine lv_iload_n hx hb dX1_readText_141 rfl (lv_at hl 1 rfl) ?_
          cases h
          exact Cx_iret hO ⟨rfl, rfl⟩ (Nat.le_of_ble_eq_true rfl) (Nat.le_of_ble_eq_true rfl) hx hb hr hP hD hS dX1_readText_142 hlocks
        · have h := it_l c_18 h
          refine lv_bipush (v := (-9)) hx hb dX1_readText_136 (by decide) ?_
          refine lv_goto (tgt := 142) hx hb dX1_readText_138 (by decide) ?_
          cases h
          exact Cx_iret hO ⟨rfl, rfl⟩ (Nat.le_of_ble_eq_true rfl) (Nat.le_of_ble_eq_true rfl) hx hb hr hP hD hS dX1_readText_142 hlocks
      · have h := it_r c_17 h
        refine lv_iload_n hx hb dX1_readText_32 rfl (lv_at hl 3 rfl) ?_
        refine lv_bipush (v := 42) hx hb dX1_readText_33 (by decide) ?_
        refine lv_icmp_ge (tgt := 128) hx hb dX1_readText_35 (by decide) (fun c_19 => ?_) (fun c_19 => ?_)
        · have h := it_l c_19 h
          refine lv_iload_n hx hb dX1_readText_128 rfl (lv_at hl 1 rfl) ?_
          refine lv_aload_n hx hb dX1_readText_129 rfl (lv_at hl 0 rfl) ?_
          refine va_get (D := D) (ci := 1) (v := .int (tr_tln T_27)) (C := RX1) (T := TX1) (N := 11) hx hb hts w_1 hown hK hP 0 rfl rfl 1 (by decide) w_3 (fun _ h9 => h9) rfl dX1_readText_130 ?_
          refine lv_icmp_ne (tgt := 141) hx hb dX1_readText_133 (by decide) (fun c_20 => ?_) (fun c_20 => ?_)
          · have h := it_r c_20 h
            refine lv_iload_n hx hb dX1_readText_141 rfl (lv_at hl 1 rfl) ?_
            cases h
            exact Cx_iret hO ⟨rfl, rfl⟩ (Nat.le_of_ble_eq_true rfl) (Nat.le_of_ble_eq_true rfl) hx hb hr hP hD hS dX1_readText_142 hlocks
          · have h := it_l c_20 h
            refine lv_bipush (v := (-9)) hx hb dX1_readText_136 (by decide) ?_
            refine lv_goto (tgt := 142) hx hb dX1_readText_138 (by decide) ?_
            cases h
            exact Cx_iret hO ⟨rfl, rfl⟩ (Nat.le_of_ble_eq_true rfl) (Nat.le_of_ble_eq_true rfl) hx hb hr hP hD hS dX1_readText_142 hlocks
        · have h := it_r c_19 h
          refine lv_iload_n hx hb dX1_readText_38 rfl (lv_at hl 3 rfl) ?_
          refine lv_bipush (v := 6) hx hb dX1_readText_39 (by decide) ?_
          refine lv_icmp_ge (tgt := 48) hx hb dX1_readText_41 (by decide) (fun c_21 => ?_) (fun c_21 => ?_)
          · have h := it_l c_21 h
            refine lv_bipush (v := 6) hx hb dX1_readText_48 (by decide) ?_
            refine lv_iload_n hx hb dX1_readText_50 rfl (lv_at hl 3 rfl) ?_
            refine lv_bipush (v := 6) hx hb dX1_readText_51 (by decide) ?_
            refine lv_isub hx hb dX1_readText_53 ?_
            refine lv_bipush (v := 6) hx hb dX1_readText_54 (by decide) ?_
            refine lv_irem hx hb dX1_readText_56 (by decide) ?_
            refine lv_iadd hx hb dX1_readText_57 ?_
            refine W.widen (k := 0) (n := 0) (Nat.le_of_ble_eq_true rfl) (Nat.le_of_ble_eq_true rfl) ?_
            exact hC_58 x1_27 x2_27 x3_27 (6 + ((x3_27 - 6) - (x3_27 - 6) / 6 * 6)) T_27 _ _ _ hP hD hS (lv_sub hl [0, 1, 2, 3] rfl) h
          · have h := it_r c_21 h
            refine lv_iload_n hx hb dX1_readText_44 rfl (lv_at hl 3 rfl) ?_
            refine lv_goto (tgt := 58) hx hb dX1_readText_45 (by decide) ?_
            refine W.widen (k := 0) (n := 0) (Nat.le_of_ble_eq_true rfl) (Nat.le_of_ble_eq_true rfl) ?_
            exact hC_58 x1_27 x2_27 x3_27 x3_27 T_27 _ _ _ hP hD hS (lv_sub hl [0, 1, 2, 3] rfl) h
  refine lv_aload_n hx hb dX1_readText_0 rfl (lv_at hl 0 rfl) ?_
  refine va_get (D := D) (ci := 1) (v := .int (tr_tln T)) (C := RX1) (T := TX1) (N := 11) hx hb hts w_1 hown hK hP 0 rfl rfl 1 (by decide) w_3 (fun _ h9 => h9) rfl dX1_readText_1 ?_
  refine lv_if_eq (tgt := 18) hx hb dX1_readText_4 (by decide) (fun c_22 => ?_) (fun c_22 => ?_)
  · have h := it_l c_22 h
    refine lv_iconst (v := 0) hx hb dX1_readText_18 (by decide) ?_
    cases h
    exact Cx_iret hO ⟨rfl, rfl⟩ (Nat.le_of_ble_eq_true rfl) (Nat.le_of_ble_eq_true rfl) hx hb hr hP hD hS dX1_readText_19 hlocks
  · have h := it_r c_22 h
    refine lv_aload_n hx hb dX1_readText_7 rfl (lv_at hl 0 rfl) ?_
    refine va_get (D := D) (ci := 1) (v := .ref (cA 1)) (C := RX1) (T := TX1) (N := 11) hx hb hts w_1 hown hK hP 0 rfl rfl 0 (by decide) w_4 (fun _ h9 => h9) rfl dX1_readText_8 ?_
    refine lv_iconst (v := 0) hx hb dX1_readText_11 (by decide) ?_
    refine va_cald hx hb hK hP 1 1 rfl rfl (inb_vp (by decide)) dX1_readText_12 ?_
    refine W.eq (g2 := F0 m 13 ls [.int ((tr_txt T) 0)]) rfl ?_
    refine lv_bipush (v := 69) hx hb dX1_readText_13 (by decide) ?_
    refine lv_icmp_eq (tgt := 20) hx hb dX1_readText_15 (by decide) (fun c_23 => ?_) (fun c_23 => ?_)
    · have h := it_l c_23 h
      refine lv_iconst (v := 1) hx hb dX1_readText_20 (by decide) ?_
      refine lv_istore_n (lv' := [(1, .int 1), (0, .ref (cA 0))]) hx hb dX1_readText_21 rfl hl (by decide) rfl (fun ls hl => ?_)
      refine lv_bipush (v := 6) hx hb dX1_readText_22 (by decide) ?_
      refine lv_istore_n (lv' := [(2, .int 6), (1, .int 1), (0, .ref (cA 0))]) hx hb dX1_readText_24 rfl hl (by decide) rfl (fun ls hl => ?_)
      refine lv_iconst (v := 0) hx hb dX1_readText_25 (by decide) ?_
      refine lv_istore_n (lv' := [(3, .int 0), (2, .int 6), (1, .int 1), (0, .ref (cA 0))]) hx hb dX1_readText_26 rfl hl (by decide) rfl (fun ls hl => ?_)
      refine W.widen (k := 0) (n := 0) (Nat.le_of_ble_eq_true rfl) (Nat.le_of_ble_eq_true rfl) ?_
      exact hC_27 2000 1 6 0 T _ _ _ hP hD hS (lv_sub hl [3, 2, 1, 0] rfl) h
    · have h := it_r c_23 h
      refine lv_iconst (v := 0) hx hb dX1_readText_18 (by decide) ?_
      cases h
      exact Cx_iret hO ⟨rfl, rfl⟩ (Nat.le_of_ble_eq_true rfl) (Nat.le_of_ble_eq_true rfl) hx hb hr hP hD hS dX1_readText_19 hlocks
def f_X1_errorPosition (T : TrV) : Option (String ⊕ (Int32 × TrV)) := bn (f_X1_readText T) fun ⟨v_1, q_2⟩ => some (.inr (v_1, q_2))
set_option maxRecDepth 100000 in
set_option maxHeartbeats 4000000 in
theorem c_X1_errorPosition (l : Launch) (hst : l.stackTraces = false) (D : va_G) (k : Nat → ClassId) (cA : Nat → Nat) (nA : Nat → Nat) (tA : Nat → Nat) (T : TrV) (o : String ⊕ (Int32 × TrV)) (h : f_X1_errorPosition T = some o) : Cx l D (tyK k) yX1_errorPosition wsX1_errorPosition ({ frames := 2, cells := 0, slots := 0, locals := 52 } : Room) [.ref (cA 0)] (trW k cA nA tA T) (trW k cA nA tA T) (Sum.map id (fun r : Int32 × TrV => fun (ov : Option Value) (w : va_W) => ov = (some (.int r.1) : Option Value) ∧ w = trW k cA nA tA r.2) o) := by
  obtain ⟨O, hO⟩ : ∃ O : Oc, O = Sum.map id (fun r : Int32 × TrV => fun (ov : Option Value) (w : va_W) => ov = (some (.int r.1) : Option Value) ∧ w = trW k cA nA tA r.2) o := ⟨_, rfl⟩
  rw [← hO]
  refine Cx_of (cc := cX1_errorPosition) (maxL := 1) (ret := (some .int)) (by decide) rfl (Nat.le_of_ble_eq_true rfl) ?_
  intro p e s m args below meth c A ls hx hb hr hml hts hown hlocks hnm htab hK hG hA hP hD hS hl
  have hl : lv_has ls 1 [(0, .ref (cA 0))] := hl
  have hP : va_P D vwCl (trW k cA nA tA T) s.heap := hP
  unfold f_X1_errorPosition at h
  refine lv_aload_n hx hb dX1_errorPosition_0 rfl (lv_at hl 0 rfl) ?_
  obtain ⟨⟨v_1, q_2⟩, hv_3, h⟩ := bn_l h
  refine Cx_in (w0' := trW k cA nA tA q_2) (wc' := trW k cA nA tA q_2) rfl (vx_runV (As := []) (rest := []) ⟨hx, hb, hml, hown, hts⟩ (c_X1_readText l hst D k cA nA tA T (.inr (v_1, q_2)) hv_3 _) (cwV 0 hts gX1_errorPosition_X1_readText rfl rfl rfl (by decide +kernel) ⟨Nat.le_of_ble_eq_true rfl, Nat.le_of_ble_eq_true rfl⟩) ⟨Px_blind, va_recv (q0 := 0) (ci := 1) hK hP rfl rfl, Px_at (wc := trW k cA nA tA T) hK hG hP hD hS hA ([0, 1, 2, 3]) tr_hi (by decide)⟩ rfl rfl hl.1 rfl (Nat.le_of_ble_eq_true rfl) dX1_errorPosition_1 ⟨Nat.le_of_ble_eq_true rfl, Nat.le_of_ble_eq_true rfl⟩) hP hD hS hA ([0, 1, 2, 3]) tr_hi rfl tr_all (fun H locs hP hD hS => ?_)
  refine W.eq (g2 := F0 m 4 ls [.int v_1]) rfl ?_
  cases h
  exact Cx_iret hO ⟨rfl, rfl⟩ (Nat.le_of_ble_eq_true rfl) (Nat.le_of_ble_eq_true rfl) hx hb hr hP hD hS dX1_errorPosition_4 hlocks
def f_X1_append (T : TrV) (p1 : Int32) : Option (String ⊕ (Int32 × TrV)) := bx (f_X1_checkRange p1 0 255) fun ⟨⟩ => if (tr_tln T) < 120 then (gb (inb (tr_tln T) 120) <| nm (tu_txt T (upd (tr_txt T) (tr_tln T).toNatClampNeg (vp_nar .char ((p1.toUInt32 % 65536).toInt32)))) fun q_6 => nm ((tr_tln q_6) + 1) fun v_7 => nm (tu_tln q_6 v_7) fun q_8 => some (.inr ((tr_tln q_8), q_8))) else (some (.inl "java/lang/IllegalStateException"))
set_option maxRecDepth 100000 in
set_option maxHeartbeats 4000000 in
theorem c_X1_append (l : Launch) (hst : l.stackTraces = false) (D : va_G) (k : Nat → ClassId) (cA : Nat → Nat) (nA : Nat → Nat) (tA : Nat → Nat) (T : TrV) (p1 : Int32) (o : String ⊕ (Int32 × TrV)) (h : f_X1_append T p1 = some o) : Cx l D (tyK k) yX1_append wsX1_append ({ frames := 7, cells := 2, slots := 12, locals := 104 } : Room) [.ref (cA 0), .int p1] (trW k cA nA tA T) (trW k cA nA tA T) (Sum.map id (fun r : Int32 × TrV => fun (ov : Option Value) (w : va_W) => ov = (some (.int r.1) : Option Value) ∧ w = trW k cA nA tA r.2) o) := by
  obtain ⟨O, hO⟩ : ∃ O : Oc, O = Sum.map id (fun r : Int32 × TrV => fun (ov : Option Value) (w : va_W) => ov = (some (.int r.1) : Option Value) ∧ w = trW k cA nA tA r.2) o := ⟨_, rfl⟩
  rw [← hO]
  refine Cx_of (cc := cX1_append) (maxL := 2) (ret := (some .int)) (by decide) rfl (Nat.le_of_ble_eq_true rfl) ?_
  intro p e s m args below meth c A ls hx hb hr hml hts hown hlocks hnm htab hK hG hA hP hD hS hl
  have hl : lv_has ls 2 [(0, .ref (cA 0)), (1, .int p1)] := hl
  have hP : va_P D vwCl (trW k cA nA tA T) s.heap := hP
  have w_0 := hts (.fieldLink RX1 13 "EffectTrain" "textLength" "I") (by decide +kernel)
  have w_1 : ∀ w ∈ wsX10, w ∈ wsX1_append := by decide +kernel
  have w_2 := hts (.fieldLink RX1 9 "EffectTrain" "text" "[C") (by decide +kernel)
  have w_3 := hts (.classLink RX1 55 "java/lang/IllegalStateException") (by decide +kernel)
  have w_4 := hts (.initialized "java/lang/IllegalStateException") (by decide +kernel)
  have w_5 : ∃ sa : Nat, vk_R RX1 57 "the text is full" sa s := hG.2.2.2.1 (57, "the text is full") (by decide +kernel)
  have w_6 := vx_hat (L := vx_atS RX1 59 "java/lang/IllegalStateException" ["java/lang/RuntimeException", "java/lang/Exception"]) (fun w hw => hts w (by revert w; decide +kernel)) (B := [Cond.castable "java/lang/IllegalStateException" "java/lang/IllegalStateException", Cond.declares (Bundle.initS "java/lang/RuntimeException"), Cond.declares (Bundle.initS "java/lang/Exception"), Cond.declares (Bundle.initS "java/lang/Throwable")]) (by decide +kernel) (vx_c (va_Nw.use rfl (hG.2.2.1.2.1 "java/lang/IllegalStateException" (by decide +kernel))) <| vx_c (va_Nw.use rfl (hG.2.2.1.2.2 "java/lang/RuntimeException" (by decide +kernel))) <| vx_c (va_Nw.use rfl (hG.2.2.1.2.2 "java/lang/Exception" (by decide +kernel))) <| vx_c (va_Nw.use rfl (hG.2.2.1.2.2 "java/lang/Throwable" (by decide +kernel))) vx_n)
  unfold f_X1_append at h
  refine lv_iload_n hx hb dX1_append_0 rfl (lv_at hl 1 rfl) ?_
  refine lv_iconst (v := 0) hx hb dX1_append_1 (by decide) ?_
  refine lv_sipush (v := 255) hx hb dX1_append_2 (by decide) ?_
  rcases bx_l h with ⟨E_2, hv_1, ho_3⟩ | ⟨⟨⟩, hv_1, h⟩
  · subst ho_3
    exact Cx_thru (w0 := trW k cA nA tA T) hO rfl (vx_runS (As := [.int p1, .int 0, .int 255]) (rest := []) ⟨hx, hb, hml, hown, hts⟩ (c_X1_checkRange l hst D k  p1 0 255 (.inl E_2) hv_1 _) (va_cwS 3 hts gX1_append_X1_checkRange rfl rfl rfl (by decide +kernel) ⟨Nat.le_of_ble_eq_true rfl, Nat.le_of_ble_eq_true rfl⟩) ⟨Px_blind, Px_at (wc := ([] : va_W)) hK hG hP hD hS hA [] rfl (by decide)⟩ rfl rfl hl.1 rfl (Nat.le_of_ble_eq_true rfl) dX1_append_5 ⟨Nat.le_of_ble_eq_true rfl, Nat.le_of_ble_eq_true rfl⟩) hP hD hS hA [] rfl htab hlocks (Nat.le_of_ble_eq_true rfl) (Nat.le_of_ble_eq_true rfl)
  refine Cx_in (w0' := trW k cA nA tA T) (wc' := ([] : va_W)) rfl (vx_runS (As := [.int p1, .int 0, .int 255]) (rest := []) ⟨hx, hb, hml, hown, hts⟩ (c_X1_checkRange l hst D k  p1 0 255 (.inr ()) hv_1 _) (va_cwS 3 hts gX1_append_X1_checkRange rfl rfl rfl (by decide +kernel) ⟨Nat.le_of_ble_eq_true rfl, Nat.le_of_ble_eq_true rfl⟩) ⟨Px_blind, Px_at (wc := ([] : va_W)) hK hG hP hD hS hA [] rfl (by decide)⟩ rfl rfl hl.1 rfl (Nat.le_of_ble_eq_true rfl) dX1_append_5 ⟨Nat.le_of_ble_eq_true rfl, Nat.le_of_ble_eq_true rfl⟩) hP hD hS hA [] rfl rfl rfl (fun H locs hP hD hS => ?_)
  refine W.eq (g2 := F0 m 8 ls []) rfl ?_
  refine lv_aload_n hx hb dX1_append_8 rfl (lv_at hl 0 rfl) ?_
  refine va_get (D := D) (ci := 1) (v := .int (tr_tln T)) (C := RX1) (T := TX1) (N := 11) hx hb hts w_1 hown hK hP 0 rfl rfl 1 (by decide) w_0 (fun _ h9 => h9) rfl dX1_append_9 ?_
  refine lv_bipush (v := 120) hx hb dX1_append_12 (by decide) ?_
  refine lv_icmp_lt (tgt := 27) hx hb dX1_append_14 (by decide) (fun c_4 => ?_) (fun c_4 => ?_)
  · have h := it_l c_4 h
    refine lv_aload_n hx hb dX1_append_27 rfl (lv_at hl 0 rfl) ?_
    refine va_get (D := D) (ci := 1) (v := .ref (cA 1)) (C := RX1) (T := TX1) (N := 11) hx hb hts w_1 hown hK hP 0 rfl rfl 0 (by decide) w_2 (fun _ h9 => h9) rfl dX1_append_28 ?_
    refine lv_aload_n hx hb dX1_append_31 rfl (lv_at hl 0 rfl) ?_
    refine va_get (D := D) (ci := 1) (v := .int (tr_tln T)) (C := RX1) (T := TX1) (N := 11) hx hb hts w_1 hown hK hP 0 rfl rfl 1 (by decide) w_0 (fun _ h9 => h9) rfl dX1_append_32 ?_
    refine lv_iload_n hx hb dX1_append_35 rfl (lv_at hl 1 rfl) ?_
    refine lv_i2c hx hb dX1_append_36 rfl ?_
    have g_5 := inb_vp (gb_l h)
    have h := gb_r h
    refine va_cast hx hb hK hP hD hS 1 1 rfl rfl g_5 dX1_append_37 (fun H locs hP hD hS => ?_)
    obtain ⟨q_6, eq_6⟩ : ∃ y : TrV, y = tu_txt T (upd (tr_txt T) (tr_tln T).toNatClampNeg (vp_nar .char ((p1.toUInt32 % 65536).toInt32))) := ⟨_, rfl⟩
    have hP : va_P D vwCl (trW k cA nA tA q_6) H := by rw [eq_6, ← tr_set_txt k cA nA tA T _]; exact hP
    have hD : va_D A (trW k cA nA tA q_6) := by rw [eq_6, ← tr_set_txt k cA nA tA T _]; exact hD
    have h := nm_l h eq_6
    refine lv_aload_n hx hb dX1_append_38 rfl (lv_at hl 0 rfl) ?_
    refine lv_dup hx hb dX1_append_39 rfl ?_
    refine va_get (D := D) (ci := 1) (v := .int (tr_tln q_6)) (C := RX1) (T := TX1) (N := 11) hx hb hts w_1 hown hK hP 0 rfl rfl 1 (by decide) w_0 (fun _ h9 => h9) rfl dX1_append_40 ?_
    refine lv_iconst (v := 1) hx hb dX1_append_43 (by decide) ?_
    refine lv_iadd hx hb dX1_append_44 ?_
    refine lv_topi (fun v_7 ev_7 => ?_)
    have h := nm_l h ev_7
    refine va_put (D := D) (ci := 1) (v := .int v_7) (ty := .int) (C := RX1) (T := TX1) (N := 11) hx hb hts w_1 tyX1 tyX1_ok nmX1 hown hK hP hD hS 0 rfl rfl 1 (by decide) w_0 (fun _ h9 => h9) rfl (by decide +kernel) rfl rfl (Nat.le_of_ble_eq_true rfl) dX1_append_45 (fun H locs hP hD hS => ?_)
    obtain ⟨q_8, eq_8⟩ : ∃ y : TrV, y = tu_tln q_6 v_7 := ⟨_, rfl⟩
    have hP : va_P D vwCl (trW k cA nA tA q_8) H := by rw [eq_8, ← tr_set_tln k cA nA tA q_6 _]; exact hP
    have hD : va_D A (trW k cA nA tA q_8) := by rw [eq_8, ← tr_set_tln k cA nA tA q_6 _]; exact hD
    have h := nm_l h eq_8
    refine lv_aload_n hx hb dX1_append_48 rfl (lv_at hl 0 rfl) ?_
    refine va_get (D := D) (ci := 1) (v := .int (tr_tln q_8)) (C := RX1) (T := TX1) (N := 11) hx hb hts w_1 hown hK hP 0 rfl rfl 1 (by decide) w_0 (fun _ h9 => h9) rfl dX1_append_49 ?_
    cases h
    exact Cx_iret hO ⟨rfl, rfl⟩ (Nat.le_of_ble_eq_true rfl) (Nat.le_of_ble_eq_true rfl) hx hb hr hP hD hS dX1_append_52 hlocks
  · have h := it_r c_4 h
    cases h
    exact Cx_throw (names := ["java/lang/RuntimeException", "java/lang/Exception"]) (show O = Sum.inl "java/lang/IllegalStateException" from hO) hx hb hst hown rfl (by decide) w_3 w_4 w_5 w_6 (by decide +kernel) hG hP hS (hl.1.trans hml.symm) dX1_append_17 dX1_append_20 dX1_append_21 dX1_append_23 dX1_append_26 htab (Nat.le_of_ble_eq_true rfl) (Nat.le_of_ble_eq_true rfl) (Nat.le_of_ble_eq_true rfl) (Nat.le_of_ble_eq_true rfl) hlocks (Nat.le_of_ble_eq_true rfl) (Nat.le_of_ble_eq_true rfl)
def f_X1_clearText (T : TrV) : Option (String ⊕ (Int32 × TrV)) := nm (tr_tln T) fun v_1 => nm (tu_tln T 0) fun q_2 => some (.inr (v_1, q_2))
set_option maxRecDepth 100000 in
set_option maxHeartbeats 4000000 in
theorem c_X1_clearText (l : Launch) (hst : l.stackTraces = false) (D : va_G) (k : Nat → ClassId) (cA : Nat → Nat) (nA : Nat → Nat) (tA : Nat → Nat) (T : TrV) (o : String ⊕ (Int32 × TrV)) (h : f_X1_clearText T = some o) : Cx l D (tyK k) yX1_clearText wsX1_clearText ({ frames := 0, cells := 0, slots := 0, locals := 0 } : Room) [.ref (cA 0)] (trW k cA nA tA T) (trW k cA nA tA T) (Sum.map id (fun r : Int32 × TrV => fun (ov : Option Value) (w : va_W) => ov = (some (.int r.1) : Option Value) ∧ w = trW k cA nA tA r.2) o) := by
  obtain ⟨O, hO⟩ : ∃ O : Oc, O = Sum.map id (fun r : Int32 × TrV => fun (ov : Option Value) (w : va_W) => ov = (some (.int r.1) : Option Value) ∧ w = trW k cA nA tA r.2) o := ⟨_, rfl⟩
  rw [← hO]
  refine Cx_of (cc := cX1_clearText) (maxL := 2) (ret := (some .int)) (by decide) rfl (Nat.le_of_ble_eq_true rfl) ?_
  intro p e s m args below meth c A ls hx hb hr hml hts hown hlocks hnm htab hK hG hA hP hD hS hl
  have hl : lv_has ls 2 [(0, .ref (cA 0))] := hl
  have hP : va_P D vwCl (trW k cA nA tA T) s.heap := hP
  have w_0 := hts (.fieldLink RX1 13 "EffectTrain" "textLength" "I") (by decide +kernel)
  have w_1 : ∀ w ∈ wsX10, w ∈ wsX1_clearText := by decide +kernel
  unfold f_X1_clearText at h
  refine lv_aload_n hx hb dX1_clearText_0 rfl (lv_at hl 0 rfl) ?_
  refine va_get (D := D) (ci := 1) (v := .int (tr_tln T)) (C := RX1) (T := TX1) (N := 11) hx hb hts w_1 hown hK hP 0 rfl rfl 1 (by decide) w_0 (fun _ h9 => h9) rfl dX1_clearText_1 ?_
  refine lv_topi (fun v_1 ev_1 => ?_)
  have h := nm_l h ev_1
  refine lv_istore_n (lv' := [(1, .int v_1), (0, .ref (cA 0))]) hx hb dX1_clearText_4 rfl hl (by decide) rfl (fun ls hl => ?_)
  refine lv_aload_n hx hb dX1_clearText_5 rfl (lv_at hl 1 rfl) ?_
  refine lv_iconst (v := 0) hx hb dX1_clearText_6 (by decide) ?_
  refine va_put (D := D) (ci := 1) (v := .int 0) (ty := .int) (C := RX1) (T := TX1) (N := 11) hx hb hts w_1 tyX1 tyX1_ok nmX1 hown hK hP hD hS 0 rfl rfl 1 (by decide) w_0 (fun _ h9 => h9) rfl (by decide +kernel) rfl rfl (Nat.le_of_ble_eq_true rfl) dX1_clearText_7 (fun H locs hP hD hS => ?_)
  obtain ⟨q_2, eq_2⟩ : ∃ y : TrV, y = tu_tln T 0 := ⟨_, rfl⟩
  have hP : va_P D vwCl (trW k cA nA tA q_2) H := by rw [eq_2, ← tr_set_tln k cA nA tA T _]; exact hP
  have hD : va_D A (trW k cA nA tA q_2) := by rw [eq_2, ← tr_set_tln k cA nA tA T _]; exact hD
  have h := nm_l h eq_2
  refine lv_iload_n hx hb dX1_clearText_10 rfl (lv_at hl 0 rfl) ?_
  cases h
  exact Cx_iret hO ⟨rfl, rfl⟩ (Nat.le_of_ble_eq_true rfl) (Nat.le_of_ble_eq_true rfl) hx hb hr hP hD hS dX1_clearText_11 hlocks
def f_X1_load_37 : Nat → Int32 → TrV → StV → Option ((String × TrV) ⊕ (Int32 × TrV × StV))
  | 0, _, _, _ => none
  | fu + 1, x1_37, T_37, N_37 => if 2 ≤ x1_37 then (bd (f_X0_allWater N_37) fun v_2 => bd (f_X0_allSolids N_37) fun v_4 => some (.inr ((v_2 + v_4), T_37, N_37))) else (gb (inb x1_37 2) <| nm (tu_fil T_37 (upd (tr_fil T_37) x1_37.toNatClampNeg (vp_nar .boolean 0))) fun q_7 => (f_X1_load_37 fu) (x1_37 + 1) q_7 N_37)
def f_X1_load (T : TrV) (N : StV) : Option ((String × TrV) ⊕ (Int32 × TrV × StV)) := bn (f_X1_readText T) fun ⟨v_8, q_9⟩ => if v_8 = (-9) then (bd (f_X0_takeNumbers N (tr_tnm q_9)) fun q_14 => nm (tu_rcn q_9 0) fun q_16 => f_X1_load_37 2000 0 q_16 q_14) else (some (.inl ("java/lang/IllegalStateException", q_9)))
set_option maxRecDepth 100000 in
set_option maxHeartbeats 4000000 in
theorem c_X1_load (l : Launch) (hst : l.stackTraces = false) (D : va_G) (k : Nat → ClassId) (cA : Nat → Nat) (nA : Nat → Nat) (tA : Nat → Nat) (T : TrV) (N : StV) (o : (String × TrV) ⊕ (Int32 × TrV × StV)) (h : f_X1_load T N = some o) : Cx l D (tyK k) yX1_load wsX1_load ({ frames := 6, cells := 7, slots := 42, locals := 83 } : Room) [.ref (cA 0)] (trW k cA nA tA T ++ stW k nA N) (sxW o (fun q => trW k cA nA tA q.2 ++ stW k nA N) (trW k cA nA tA T ++ stW k nA N)) (Sum.map Prod.fst (fun r : Int32 × TrV × StV => fun (ov : Option Value) (w : va_W) => ov = (some (.int r.1) : Option Value) ∧ w = trW k cA nA tA r.2.1 ++ stW k nA r.2.2) o) := by
  obtain ⟨O, hO⟩ : ∃ O : Oc, O = Sum.map Prod.fst (fun r : Int32 × TrV × StV => fun (ov : Option Value) (w : va_W) => ov = (some (.int r.1) : Option Value) ∧ w = trW k cA nA tA r.2.1 ++ stW k nA r.2.2) o := ⟨_, rfl⟩
  rw [← hO]
  refine Cx_of (cc := cX1_load) (maxL := 2) (ret := (some .int)) (by decide) rfl (Nat.le_of_ble_eq_true rfl) ?_
  intro p e s m args below meth c A ls hx hb hr hml hts hown hlocks hnm htab hK hG hA hP hD hS hl
  have hl : lv_has ls 2 [(0, .ref (cA 0))] := hl
  have hP : va_P D vwCl (trW k cA nA tA T ++ stW k nA N) s.heap := hP
  have w_0 := hts (.fieldLink RX1 24 "EffectTrain" "now" "LEffectTrain$State;") (by decide +kernel)
  have w_1 : ∀ w ∈ wsX10, w ∈ wsX1_load := by decide +kernel
  have w_2 : va_Nw (.methodLinkNest RX1 72 yX0_allWater "EffectTrain") s := hG.2.2.2.2.2 (72, yX0_allWater, "EffectTrain") (by decide +kernel)
  have w_3 := hts (.initialized RX0) (by decide +kernel)
  have w_4 := hts (.instanceMethod yX0_allWater) (by decide +kernel)
  have w_5 := hts (.selects RX0 yX0_allWater yX0_allWater) (by decide +kernel)
  have w_6 : va_Nw (.methodLinkNest RX1 75 yX0_allSolids "EffectTrain") s := hG.2.2.2.2.2 (75, yX0_allSolids, "EffectTrain") (by decide +kernel)
  have w_7 := hts (.instanceMethod yX0_allSolids) (by decide +kernel)
  have w_8 := hts (.selects RX0 yX0_allSolids yX0_allSolids) (by decide +kernel)
  have w_9 := hts (.fieldLink RX1 47 "EffectTrain" "slotFilled" "[Z") (by decide +kernel)
  have w_10 := hts (.fieldLink RX1 17 "EffectTrain" "textNumbers" "[I") (by decide +kernel)
  have w_11 : va_Nw (.methodLinkNest RX1 68 yX0_takeNumbers "EffectTrain") s := hG.2.2.2.2.2 (68, yX0_takeNumbers, "EffectTrain") (by decide +kernel)
  have w_12 := hts (.instanceMethod yX0_takeNumbers) (by decide +kernel)
  have w_13 := hts (.selects RX0 yX0_takeNumbers yX0_takeNumbers) (by decide +kernel)
  have w_14 := hts (.fieldLink RX1 41 "EffectTrain" "rememberedCount" "I") (by decide +kernel)
  have w_15 := hts (.classLink RX1 55 "java/lang/IllegalStateException") (by decide +kernel)
  have w_16 := hts (.initialized "java/lang/IllegalStateException") (by decide +kernel)
  have w_17 : ∃ sa : Nat, vk_R RX1 66 "the text describes no train" sa s := hG.2.2.2.1 (66, "the text describes no train") (by decide +kernel)
  have w_18 := vx_hat (L := vx_atS RX1 59 "java/lang/IllegalStateException" ["java/lang/RuntimeException", "java/lang/Exception"]) (fun w hw => hts w (by revert w; decide +kernel)) (B := [Cond.castable "java/lang/IllegalStateException" "java/lang/IllegalStateException", Cond.declares (Bundle.initS "java/lang/RuntimeException"), Cond.declares (Bundle.initS "java/lang/Exception"), Cond.declares (Bundle.initS "java/lang/Throwable")]) (by decide +kernel) (vx_c (va_Nw.use rfl (hG.2.2.1.2.1 "java/lang/IllegalStateException" (by decide +kernel))) <| vx_c (va_Nw.use rfl (hG.2.2.1.2.2 "java/lang/RuntimeException" (by decide +kernel))) <| vx_c (va_Nw.use rfl (hG.2.2.1.2.2 "java/lang/Exception" (by decide +kernel))) <| vx_c (va_Nw.use rfl (hG.2.2.1.2.2 "java/lang/Throwable" (by decide +kernel))) vx_n)
  unfold f_X1_load at h
  have hC_37 : ∀ (fu_37 : Nat) (x1_37 : Int32) (T_37 : TrV) (N_37 : StV) (H : Heap) (locs : List Loc) (ls : Array Slot), va_P D vwCl (trW k cA nA tA T_37 ++ stW k nA N_37) H → va_D A (trW k cA nA tA T_37 ++ stW k nA N_37) → va_S A s.heap H locs → lv_has ls 2 [(0, .ref (cA 0)), (1, .int x1_37)] → f_X1_load_37 fu_37 x1_37 T_37 N_37 = some o → W p l e ({ frames := 6, cells := 7, slots := 42, locals := 83 } : Room) s m args below meth c H locs 6 36 (vx_MQ below (Qx D A O) (Xx D A (sxW o (fun q => trW k cA nA tA q.2 ++ stW k nA N) (trW k cA nA tA T ++ stW k nA N)) O) args s 7 42 A) (F0 m 37 ls []) := by
    intro fu_37
    induction fu_37 with
    | zero => intro x1_37 T_37 N_37 H locs ls _ _ _ _ h; exact (no_l h).elim
    | succ fu_37 ih_37 =>
      intro x1_37 T_37 N_37 H locs ls hP hD hS hl h
      rw [f_X1_load_37] at h
      refine lv_iload_n hx hb dX1_load_37 rfl (lv_at hl 1 rfl) ?_
      refine lv_iconst (v := 2) hx hb dX1_load_38 (by decide) ?_
      refine lv_icmp_ge (tgt := 55) hx hb dX1_load_39 (by decide) (fun c_1 => ?_) (fun c_1 => ?_)
      · have h := it_l c_1 h
        refine lv_aload_n hx hb dX1_load_55 rfl (lv_at hl 0 rfl) ?_
        refine va_get (D := D) (ci := 1) (v := .ref (nA 0)) (C := RX1) (T := TX1) (N := 11) hx hb hts w_1 hown hK hP 0 rfl rfl 3 (by decide) w_0 (fun _ h9 => h9) rfl dX1_load_56 ?_
        obtain ⟨v_2, hv_3, h⟩ := bd_l h
        refine Ck_VN (As := []) (rest := []) (wc := stW k nA N_37) (wc' := stW k nA N_37) (w0' := trW k cA nA tA T_37 ++ stW k nA N_37) ⟨hx, hb, hml, hown, hts⟩ (c_X0_allWater l D k nA N_37 v_2 hv_3) ⟨va_cnB 0 hts gX1_load_X0_allWater_n72 rfl rfl rfl w_2 w_3 (by decide +kernel) ⟨Nat.le_of_ble_eq_true rfl, Nat.le_of_ble_eq_true rfl⟩, w_4, w_5⟩ hK hP hD hS hA (q0 := 4) (ci := 0) rfl rfl ([4, 5, 6, 7, 8, 9, 10, 11, 12, 13, 14]) (hi_R rfl st_hi) (by decide) rfl (vs_R rfl st_all) rfl hl.1 rfl (Nat.le_of_ble_eq_true rfl) dX1_load_59 ⟨Nat.le_of_ble_eq_true rfl, Nat.le_of_ble_eq_true rfl⟩ (fun H locs hP hD hS => ?_)
        refine W.eq (g2 := F0 m 62 ls [.int v_2]) rfl ?_
        refine lv_aload_n hx hb dX1_load_62 rfl (lv_at hl 0 rfl) ?_
        refine va_get (D := D) (ci := 1) (v := .ref (nA 0)) (C := RX1) (T := TX1) (N := 11) hx hb hts w_1 hown hK hP 0 rfl rfl 3 (by decide) w_0 (fun _ h9 => h9) rfl dX1_load_63 ?_
        obtain ⟨v_4, hv_5, h⟩ := bd_l h
        refine Ck_VN (As := []) (rest := [.int v_2]) (wc := stW k nA N_37) (wc' := stW k nA N_37) (w0' := trW k cA nA tA T_37 ++ stW k nA N_37) ⟨hx, hb, hml, hown, hts⟩ (c_X0_allSolids l D k nA N_37 v_4 hv_5) ⟨va_cnB 0 hts gX1_load_X0_allSolids_n75 rfl rfl rfl w_6 w_3 (by decide +kernel) ⟨Nat.le_of_ble_eq_true rfl, Nat.le_of_ble_eq_true rfl⟩, w_7, w_8⟩ hK hP hD hS hA (q0 := 4) (ci := 0) rfl rfl ([4, 5, 6, 7, 8, 9, 10, 11, 12, 13, 14]) (hi_R rfl st_hi) (by decide) rfl (vs_R rfl st_all) rfl hl.1 rfl (Nat.le_of_ble_eq_true rfl) dX1_load_66 ⟨Nat.le_of_ble_eq_true rfl, Nat.le_of_ble_eq_true rfl⟩ (fun H locs hP hD hS => ?_)
        refine W.eq (g2 := F0 m 69 ls [.int v_4, .int v_2]) rfl ?_
        refine lv_iadd hx hb dX1_load_69 ?_
        cases h
        exact Cx_iret hO ⟨rfl, rfl⟩ (Nat.le_of_ble_eq_true rfl) (Nat.le_of_ble_eq_true rfl) hx hb hr hP hD hS dX1_load_70 hlocks
      · have h := it_r c_1 h
        refine lv_aload_n hx hb dX1_load_42 rfl (lv_at hl 0 rfl) ?_
        refine va_get (D := D) (ci := 1) (v := .ref (cA 6)) (C := RX1) (T := TX1) (N := 11) hx hb hts w_1 hown hK hP 0 rfl rfl 10 (by decide) w_9 (fun _ h9 => h9) rfl dX1_load_43 ?_
        refine lv_iload_n hx hb dX1_load_46 rfl (lv_at hl 1 rfl) ?_
        refine lv_iconst (v := 0) hx hb dX1_load_47 (by decide) ?_
        have g_6 := inb_vp (gb_l h)
        have h := gb_r h
        refine va_zast hx hb hK hP hD hS 3 2 rfl rfl g_6 dX1_load_48 (fun H locs hP hD hS => ?_)
        obtain ⟨q_7, eq_7⟩ : ∃ y : TrV, y = tu_fil T_37 (upd (tr_fil T_37) x1_37.toNatClampNeg (vp_nar .boolean 0)) := ⟨_, rfl⟩
        have hP : va_P D vwCl (trW k cA nA tA q_7 ++ stW k nA N_37) H := by rw [eq_7, ← tr_set_fil k cA nA tA T_37 _, ← set_appL1 (Nat.le_of_ble_eq_true rfl)]; exact hP
        have hD : va_D A (trW k cA nA tA q_7 ++ stW k nA N_37) := by rw [eq_7, ← tr_set_fil k cA nA tA T_37 _, ← set_appL1 (Nat.le_of_ble_eq_true rfl)]; exact hD
        have h := nm_l h eq_7
        refine lv_iinc (v := (x1_37 + 1)) (lv' := [(1, .int (x1_37 + 1)), (0, .ref (cA 0))]) hx hb dX1_load_49 hl (k := 1) rfl rfl (by decide) rfl (fun ls hl => ?_)
        refine lv_goto (tgt := 37) hx hb dX1_load_52 (by decide) ?_
        refine W.widen (k := 6) (n := 36) (Nat.le_of_ble_eq_true rfl) (Nat.le_of_ble_eq_true rfl) ?_
        exact ih_37 (x1_37 + 1) q_7 N_37 _ _ _ hP hD hS (lv_sub hl [1, 0] rfl) h
  refine lv_aload_n hx hb dX1_load_0 rfl (lv_at hl 0 rfl) ?_
  obtain ⟨⟨v_8, q_9⟩, hv_10, h⟩ := bn_l h
  refine Cx_in (w0' := trW k cA nA tA q_9 ++ stW k nA N) (wc' := trW k cA nA tA q_9) rfl (vx_runV (As := []) (rest := []) ⟨hx, hb, hml, hown, hts⟩ (c_X1_readText l hst D k cA nA tA T (.inr (v_8, q_9)) hv_10 _) (cwV 0 hts gX1_load_X1_readText rfl rfl rfl (by decide +kernel) ⟨Nat.le_of_ble_eq_true rfl, Nat.le_of_ble_eq_true rfl⟩) ⟨Px_blind, va_recv (q0 := 0) (ci := 1) hK hP rfl rfl, Px_at (wc := trW k cA nA tA T) hK hG hP hD hS hA ([0, 1, 2, 3]) (hi_L rfl tr_hi) (by decide)⟩ rfl rfl hl.1 rfl (Nat.le_of_ble_eq_true rfl) dX1_load_1 ⟨Nat.le_of_ble_eq_true rfl, Nat.le_of_ble_eq_true rfl⟩) hP hD hS hA ([0, 1, 2, 3]) (hi_L rfl tr_hi) rfl (vs_L rfl tr_all) (fun H locs hP hD hS => ?_)
  refine W.eq (g2 := F0 m 4 ls [.int v_8]) rfl ?_
  refine lv_bipush (v := (-9)) hx hb dX1_load_4 (by decide) ?_
  refine lv_icmp_eq (tgt := 19) hx hb dX1_load_6 (by decide) (fun c_13 => ?_) (fun c_13 => ?_)
  · have h := it_l c_13 h
    refine lv_aload_n hx hb dX1_load_19 rfl (lv_at hl 0 rfl) ?_
    refine va_get (D := D) (ci := 1) (v := .ref (nA 0)) (C := RX1) (T := TX1) (N := 11) hx hb hts w_1 hown hK hP 0 rfl rfl 3 (by decide) w_0 (fun _ h9 => h9) rfl dX1_load_20 ?_
    refine lv_aload_n hx hb dX1_load_23 rfl (lv_at hl 0 rfl) ?_
    refine va_get (D := D) (ci := 1) (v := .ref (cA 2)) (C := RX1) (T := TX1) (N := 11) hx hb hts w_1 hown hK hP 0 rfl rfl 2 (by decide) w_10 (fun _ h9 => h9) rfl dX1_load_24 ?_
    obtain ⟨q_14, hv_15, h⟩ := bd_l h
    refine Ck_VN (As := [.ref (cA 2)]) (rest := []) (wc := stW k nA N ++ [(cA 2, .inl (k 0, 42, .inl (tr_tnm q_9)))]) (wc' := stW k nA q_14 ++ [(cA 2, .inl (k 0, 42, .inl (tr_tnm q_9)))]) (w0' := trW k cA nA tA q_9 ++ stW k nA q_14) ⟨hx, hb, hml, hown, hts⟩ (c_X0_takeNumbers l D k nA (cA 2) N (tr_tnm q_9) q_14 hv_15) ⟨va_cnB 1 hts gX1_load_X0_takeNumbers_n68 rfl rfl rfl w_11 w_3 (by decide +kernel) ⟨Nat.le_of_ble_eq_true rfl, Nat.le_of_ble_eq_true rfl⟩, w_12, w_13⟩ hK hP hD hS hA (q0 := 4) (ci := 0) rfl rfl ([4, 5, 6, 7, 8, 9, 10, 11, 12, 13, 14] ++ [2]) (hi_2 (hi_R rfl st_hi) (hi_L rfl rfl)) (by decide) rfl (vs_2 rfl (vs_R rfl st_all) (vs_L rfl rfl)) rfl hl.1 rfl (Nat.le_of_ble_eq_true rfl) dX1_load_27 ⟨Nat.le_of_ble_eq_true rfl, Nat.le_of_ble_eq_true rfl⟩ (fun H locs hP hD hS => ?_)
    refine W.eq (g2 := F0 m 30 ls []) rfl ?_
    refine lv_aload_n hx hb dX1_load_30 rfl (lv_at hl 0 rfl) ?_
    refine lv_iconst (v := 0) hx hb dX1_load_31 (by decide) ?_
    refine va_put (D := D) (ci := 1) (v := .int 0) (ty := .int) (C := RX1) (T := TX1) (N := 11) hx hb hts w_1 tyX1 tyX1_ok nmX1 hown hK hP hD hS 0 rfl rfl 8 (by decide) w_14 (fun _ h9 => h9) rfl (by decide +kernel) rfl rfl (Nat.le_of_ble_eq_true rfl) dX1_load_32 (fun H locs hP hD hS => ?_)
    obtain ⟨q_16, eq_16⟩ : ∃ y : TrV, y = tu_rcn q_9 0 := ⟨_, rfl⟩
    have hP : va_P D vwCl (trW k cA nA tA q_16 ++ stW k nA q_14) H := by rw [eq_16, ← tr_set_rcn k cA nA tA q_9 _, ← set_appL1 (Nat.le_of_ble_eq_true rfl)]; exact hP
    have hD : va_D A (trW k cA nA tA q_16 ++ stW k nA q_14) := by rw [eq_16, ← tr_set_rcn k cA nA tA q_9 _, ← set_appL1 (Nat.le_of_ble_eq_true rfl)]; exact hD
    have h := nm_l h eq_16
    refine lv_iconst (v := 0) hx hb dX1_load_35 (by decide) ?_
    refine lv_istore_n (lv' := [(1, .int 0), (0, .ref (cA 0))]) hx hb dX1_load_36 rfl hl (by decide) rfl (fun ls hl => ?_)
    refine W.widen (k := 6) (n := 36) (Nat.le_of_ble_eq_true rfl) (Nat.le_of_ble_eq_true rfl) ?_
    exact hC_37 2000 0 q_16 q_14 _ _ _ hP hD hS (lv_sub hl [1, 0] rfl) h
  · have h := it_r c_13 h
    cases h
    exact Cx_throw (names := ["java/lang/RuntimeException", "java/lang/Exception"]) (show O = Sum.inl "java/lang/IllegalStateException" from hO) hx hb hst hown rfl (by decide) w_15 w_16 w_17 w_18 (by decide +kernel) hG hP hS (hl.1.trans hml.symm) dX1_load_9 dX1_load_12 dX1_load_13 dX1_load_15 dX1_load_18 htab (Nat.le_of_ble_eq_true rfl) (Nat.le_of_ble_eq_true rfl) (Nat.le_of_ble_eq_true rfl) (Nat.le_of_ble_eq_true rfl) hlocks (Nat.le_of_ble_eq_true rfl) (Nat.le_of_ble_eq_true rfl)
def f_X1_about (T : TrV) (N : StV) (p1 : Int32) : Option (String ⊕ (Int32)) := bx (f_X1_checkRange p1 0 9) fun ⟨⟩ => if p1 = 0 then (some (.inr ((s_n N)))) else (if p1 = 1 then (gb (inb (p1 - 1) 5) <| some (.inr (((s_set N) (p1 - 1).toNatClampNeg)))) else (if p1 = 2 then (gb (inb (p1 - 1) 5) <| some (.inr (((s_set N) (p1 - 1).toNatClampNeg)))) else (if p1 = 3 then (gb (inb (p1 - 1) 5) <| some (.inr (((s_set N) (p1 - 1).toNatClampNeg)))) else (if p1 = 4 then (gb (inb (p1 - 1) 5) <| some (.inr (((s_set N) (p1 - 1).toNatClampNeg)))) else (if p1 = 5 then (gb (inb (p1 - 1) 5) <| some (.inr (((s_set N) (p1 - 1).toNatClampNeg)))) else (if p1 = 6 then (some (.inr ((s_clk N)))) else (if p1 = 7 then (bd (f_X0_washedEffects N) fun v_17 => some (.inr (v_17))) else (if p1 = 8 then (bd (f_X0_allWater N) fun v_20 => some (.inr (v_20))) else (if p1 = 9 then (bd (f_X0_allSolids N) fun v_23 => some (.inr (v_23))) else (gb (inb (p1 - 1) 5) <| some (.inr (((s_set N) (p1 - 1).toNatClampNeg)))))))))))))
set_option maxRecDepth 100000 in
set_option maxHeartbeats 4000000 in
theorem c_X1_about (l : Launch) (hst : l.stackTraces = false) (D : va_G) (k : Nat → ClassId) (cA : Nat → Nat) (nA : Nat → Nat) (tA : Nat → Nat) (T : TrV) (N : StV) (p1 : Int32) (o : String ⊕ (Int32)) (h : f_X1_about T N p1 = some o) : Cx l D (tyK k) yX1_about wsX1_about ({ frames := 7, cells := 1, slots := 6, locals := 104 } : Room) [.ref (cA 0), .int p1] (trW k cA nA tA T ++ stW k nA N) (trW k cA nA tA T ++ stW k nA N) (Sum.map id (fun r : Int32 => fun (ov : Option Value) (w : va_W) => ov = (some (.int r) : Option Value) ∧ w = trW k cA nA tA T ++ stW k nA N) o) := by
  obtain ⟨O, hO⟩ : ∃ O : Oc, O = Sum.map id (fun r : Int32 => fun (ov : Option Value) (w : va_W) => ov = (some (.int r) : Option Value) ∧ w = trW k cA nA tA T ++ stW k nA N) o := ⟨_, rfl⟩
  rw [← hO]
  refine Cx_of (cc := cX1_about) (maxL := 2) (ret := (some .int)) (by decide) rfl (Nat.le_of_ble_eq_true rfl) ?_
  intro p e s m args below meth c A ls hx hb hr hml hts hown hlocks hnm htab hK hG hA hP hD hS hl
  have hl : lv_has ls 2 [(0, .ref (cA 0)), (1, .int p1)] := hl
  have hP : va_P D vwCl (trW k cA nA tA T ++ stW k nA N) s.heap := hP
  have w_0 := hts (.fieldLink RX1 24 "EffectTrain" "now" "LEffectTrain$State;") (by decide +kernel)
  have w_1 : ∀ w ∈ wsX10, w ∈ wsX1_about := by decide +kernel
  have w_2 : (Cond.fieldLinkNest RX1 94 "EffectTrain$State" "n" "I" "EffectTrain").before args s = true := va_Nw.use rfl (hG.2.2.2.2.1 (94, "EffectTrain$State", "n", "I", "EffectTrain") (by decide +kernel))
  have w_3 : ∀ w ∈ wsX00, w ∈ wsX1_about := by decide +kernel
  have w_4 : (Cond.fieldLinkNest RX1 103 "EffectTrain$State" "settings" "[I" "EffectTrain").before args s = true := va_Nw.use rfl (hG.2.2.2.2.1 (103, "EffectTrain$State", "settings", "[I", "EffectTrain") (by decide +kernel))
  have w_5 : (Cond.fieldLinkNest RX1 97 "EffectTrain$State" "clock" "I" "EffectTrain").before args s = true := va_Nw.use rfl (hG.2.2.2.2.1 (97, "EffectTrain$State", "clock", "I", "EffectTrain") (by decide +kernel))
  have w_6 : va_Nw (.methodLinkNest RX1 100 yX0_washedEffects "EffectTrain") s := hG.2.2.2.2.2 (100, yX0_washedEffects, "EffectTrain") (by decide +kernel)
  have w_7 := hts (.initialized RX0) (by decide +kernel)
  have w_8 := hts (.instanceMethod yX0_washedEffects) (by decide +kernel)
  have w_9 := hts (.selects RX0 yX0_washedEffects yX0_washedEffects) (by decide +kernel)
  have w_10 : va_Nw (.methodLinkNest RX1 72 yX0_allWater "EffectTrain") s := hG.2.2.2.2.2 (72, yX0_allWater, "EffectTrain") (by decide +kernel)
  have w_11 := hts (.instanceMethod yX0_allWater) (by decide +kernel)
  have w_12 := hts (.selects RX0 yX0_allWater yX0_allWater) (by decide +kernel)
  have w_13 : va_Nw (.methodLinkNest RX1 75 yX0_allSolids "EffectTrain") s := hG.2.2.2.2.2 (75, yX0_allSolids, "EffectTrain") (by decide +kernel)
  have w_14 := hts (.instanceMethod yX0_allSolids) (by decide +kernel)
  have w_15 := hts (.selects RX0 yX0_allSolids yX0_allSolids) (by decide +kernel)
  unfold f_X1_about at h
  refine lv_iload_n hx hb dX1_about_0 rfl (lv_at hl 1 rfl) ?_
  refine lv_iconst (v := 0) hx hb dX1_about_1 (by decide) ?_
  refine lv_bipush (v := 9) hx hb dX1_about_2 (by decide) ?_
  rcases bx_l h with ⟨E_2, hv_1, ho_3⟩ | ⟨⟨⟩, hv_1, h⟩
  · subst ho_3
    exact Cx_thru (w0 := trW k cA nA tA T ++ stW k nA N) hO rfl (vx_runS (As := [.int p1, .int 0, .int 9]) (rest := []) ⟨hx, hb, hml, hown, hts⟩ (c_X1_checkRange l hst D k  p1 0 9 (.inl E_2) hv_1 _) (va_cwS 3 hts gX1_about_X1_checkRange rfl rfl rfl (by decide +kernel) ⟨Nat.le_of_ble_eq_true rfl, Nat.le_of_ble_eq_true rfl⟩) ⟨Px_blind, Px_at (wc := ([] : va_W)) hK hG hP hD hS hA [] rfl (by decide)⟩ rfl rfl hl.1 rfl (Nat.le_of_ble_eq_true rfl) dX1_about_4 ⟨Nat.le_of_ble_eq_true rfl, Nat.le_of_ble_eq_true rfl⟩) hP hD hS hA [] rfl htab hlocks (Nat.le_of_ble_eq_true rfl) (Nat.le_of_ble_eq_true rfl)
  refine Cx_in (w0' := trW k cA nA tA T ++ stW k nA N) (wc' := ([] : va_W)) rfl (vx_runS (As := [.int p1, .int 0, .int 9]) (rest := []) ⟨hx, hb, hml, hown, hts⟩ (c_X1_checkRange l hst D k  p1 0 9 (.inr ()) hv_1 _) (va_cwS 3 hts gX1_about_X1_checkRange rfl rfl rfl (by decide +kernel) ⟨Nat.le_of_ble_eq_true rfl, Nat.le_of_ble_eq_true rfl⟩) ⟨Px_blind, Px_at (wc := ([] : va_W)) hK hG hP hD hS hA [] rfl (by decide)⟩ rfl rfl hl.1 rfl (Nat.le_of_ble_eq_true rfl) dX1_about_4 ⟨Nat.le_of_ble_eq_true rfl, Nat.le_of_ble_eq_true rfl⟩) hP hD hS hA [] rfl rfl rfl (fun H locs hP hD hS => ?_)
  refine W.eq (g2 := F0 m 7 ls []) rfl ?_
  refine lv_iload_n hx hb dX1_about_7 rfl (lv_at hl 1 rfl) ?_
  by_cases c_4 : p1 = 0
  · have h := it_l c_4 h
    refine lv_tableIn (tgt := 64) hx hb dX1_about_8 (by rw [c_4]; decide) (by rw [c_4]; decide) (by rw [c_4]; rfl) (by decide) ?_
    refine lv_aload_n hx hb dX1_about_64 rfl (lv_at hl 0 rfl) ?_
    refine va_get (D := D) (ci := 1) (v := .ref (nA 0)) (C := RX1) (T := TX1) (N := 11) hx hb hts w_1 hown hK hP 0 rfl rfl 3 (by decide) w_0 (fun _ h9 => h9) rfl dX1_about_65 ?_
    refine va_getN (D := D) (ci := 0) (v := .int (s_n N)) (C := RX0) (T := TX0) (N := 12) hx hb hts w_3 hown hK hP 4 rfl rfl 0 (by decide) w_2 (fun _ h9 => h9) rfl dX1_about_68 ?_
    cases h
    exact Cx_iret hO ⟨rfl, rfl⟩ (Nat.le_of_ble_eq_true rfl) (Nat.le_of_ble_eq_true rfl) hx hb hr hP hD hS dX1_about_71 hlocks
  · have h := it_r c_4 h
    by_cases c_5 : p1 = 1
    · have h := it_l c_5 h
      refine lv_tableIn (tgt := 104) hx hb dX1_about_8 (by rw [c_5]; decide) (by rw [c_5]; decide) (by rw [c_5]; rfl) (by decide) ?_
      refine lv_aload_n hx hb dX1_about_104 rfl (lv_at hl 0 rfl) ?_
      refine va_get (D := D) (ci := 1) (v := .ref (nA 0)) (C := RX1) (T := TX1) (N := 11) hx hb hts w_1 hown hK hP 0 rfl rfl 3 (by decide) w_0 (fun _ h9 => h9) rfl dX1_about_105 ?_
      refine va_getN (D := D) (ci := 0) (v := .ref (nA 1)) (C := RX0) (T := TX0) (N := 12) hx hb hts w_3 hown hK hP 4 rfl rfl 1 (by decide) w_4 (fun _ h9 => h9) rfl dX1_about_108 ?_
      refine lv_iload_n hx hb dX1_about_111 rfl (lv_at hl 1 rfl) ?_
      refine lv_iconst (v := 1) hx hb dX1_about_112 (by decide) ?_
      refine lv_isub hx hb dX1_about_113 ?_
      have g_6 := inb_vp (gb_l h)
      have h := gb_r h
      refine va_iald hx hb hK hP 5 0 rfl rfl g_6 dX1_about_114 ?_
      cases h
      exact Cx_iret hO ⟨rfl, rfl⟩ (Nat.le_of_ble_eq_true rfl) (Nat.le_of_ble_eq_true rfl) hx hb hr hP hD hS dX1_about_115 hlocks
    · have h := it_r c_5 h
      by_cases c_7 : p1 = 2
      · have h := it_l c_7 h
        refine lv_tableIn (tgt := 104) hx hb dX1_about_8 (by rw [c_7]; decide) (by rw [c_7]; decide) (by rw [c_7]; rfl) (by decide) ?_
        refine lv_aload_n hx hb dX1_about_104 rfl (lv_at hl 0 rfl) ?_
        refine va_get (D := D) (ci := 1) (v := .ref (nA 0)) (C := RX1) (T := TX1) (N := 11) hx hb hts w_1 hown hK hP 0 rfl rfl 3 (by decide) w_0 (fun _ h9 => h9) rfl dX1_about_105 ?_
        refine va_getN (D := D) (ci := 0) (v := .ref (nA 1)) (C := RX0) (T := TX0) (N := 12) hx hb hts w_3 hown hK hP 4 rfl rfl 1 (by decide) w_4 (fun _ h9 => h9) rfl dX1_about_108 ?_
        refine lv_iload_n hx hb dX1_about_111 rfl (lv_at hl 1 rfl) ?_
        refine lv_iconst (v := 1) hx hb dX1_about_112 (by decide) ?_
        refine lv_isub hx hb dX1_about_113 ?_
        have g_8 := inb_vp (gb_l h)
        have h := gb_r h
        refine va_iald hx hb hK hP 5 0 rfl rfl g_8 dX1_about_114 ?_
        cases h
        exact Cx_iret hO ⟨rfl, rfl⟩ (Nat.le_of_ble_eq_true rfl) (Nat.le_of_ble_eq_true rfl) hx hb hr hP hD hS dX1_about_115 hlocks
      · have h := it_r c_7 h
        by_cases c_9 : p1 = 3
        · have h := it_l c_9 h
          refine lv_tableIn (tgt := 104) hx hb dX1_about_8 (by rw [c_9]; decide) (by rw [c_9]; decide) (by rw [c_9]; rfl) (by decide) ?_
          refine lv_aload_n hx hb dX1_about_104 rfl (lv_at hl 0 rfl) ?_
          refine va_get (D := D) (ci := 1) (v := .ref (nA 0)) (C := RX1) (T := TX1) (N := 11) hx hb hts w_1 hown hK hP 0 rfl rfl 3 (by decide) w_0 (fun _ h9 => h9) rfl dX1_about_105 ?_
          refine va_getN (D := D) (ci := 0) (v := .ref (nA 1)) (C := RX0) (T := TX0) (N := 12) hx hb hts w_3 hown hK hP 4 rfl rfl 1 (by decide) w_4 (fun _ h9 => h9) rfl dX1_about_108 ?_
          refine lv_iload_n hx hb dX1_about_111 rfl (lv_at hl 1 rfl) ?_
          refine lv_iconst (v := 1) hx hb dX1_about_112 (by decide) ?_
          refine lv_isub hx hb dX1_about_113 ?_
          have g_10 := inb_vp (gb_l h)
          have h := gb_r h
          refine va_iald hx hb hK hP 5 0 rfl rfl g_10 dX1_about_114 ?_
          cases h
          exact Cx_iret hO ⟨rfl, rfl⟩ (Nat.le_of_ble_eq_true rfl) (Nat.le_of_ble_eq_true rfl) hx hb hr hP hD hS dX1_about_115 hlocks
        · have h := it_r c_9 h
          by_cases c_11 : p1 = 4
          · have h := it_l c_11 h
            refine lv_tableIn (tgt := 104) hx hb dX1_about_8 (by rw [c_11]; decide) (by rw [c_11]; decide) (by rw [c_11]; rfl) (by decide) ?_
            refine lv_aload_n hx hb dX1_about_104 rfl (lv_at hl 0 rfl) ?_
            refine va_get (D := D) (ci := 1) (v := .ref (nA 0)) (C := RX1) (T := TX1) (N := 11) hx hb hts w_1 hown hK hP 0 rfl rfl 3 (by decide) w_0 (fun _ h9 => h9) rfl dX1_about_105 ?_
            refine va_getN (D := D) (ci := 0) (v := .ref (nA 1)) (C := RX0) (T := TX0) (N := 12) hx hb hts w_3 hown hK hP 4 rfl rfl 1 (by decide) w_4 (fun _ h9 => h9) rfl dX1_about_108 ?_
            refine lv_iload_n hx hb dX1_about_111 rfl (lv_at hl 1 rfl) ?_
            refine lv_iconst (v := 1) hx hb dX1_about_112 (by decide) ?_
            refine lv_isub hx hb dX1_about_113 ?_
            have g_12 := inb_vp (gb_l h)
            have h := gb_r h
            refine va_iald hx hb hK hP 5 0 rfl rfl g_12 dX1_about_114 ?_
            cases h
            exact Cx_iret hO ⟨rfl, rfl⟩ (Nat.le_of_ble_eq_true rfl) (Nat.le_of_ble_eq_true rfl) hx hb hr hP hD hS dX1_about_115 hlocks
          · have h := it_r c_11 h
            by_cases c_13 : p1 = 5
            · have h := it_l c_13 h
              refine lv_tableIn (tgt := 104) hx hb dX1_about_8 (by rw [c_13]; decide) (by rw [c_13]; decide) (by rw [c_13]; rfl) (by decide) ?_
              refine lv_aload_n hx hb dX1_about_104 rfl (lv_at hl 0 rfl) ?_
              refine va_get (D := D) (ci := 1) (v := .ref (nA 0)) (C := RX1) (T := TX1) (N := 11) hx hb hts w_1 hown hK hP 0 rfl rfl 3 (by decide) w_0 (fun _ h9 => h9) rfl dX1_about_105 ?_
              refine va_getN (D := D) (ci := 0) (v := .ref (nA 1)) (C := RX0) (T := TX0) (N := 12) hx hb hts w_3 hown hK hP 4 rfl rfl 1 (by decide) w_4 (fun _ h9 => h9) rfl dX1_about_108 ?_
              refine lv_iload_n hx hb dX1_about_111 rfl (lv_at hl 1 rfl) ?_
              refine lv_iconst (v := 1) hx hb dX1_about_112 (by decide) ?_
              refine lv_isub hx hb dX1_about_113 ?_
              have g_14 := inb_vp (gb_l h)
              have h := gb_r h
              refine va_iald hx hb hK hP 5 0 rfl rfl g_14 dX1_about_114 ?_
              cases h
              exact Cx_iret hO ⟨rfl, rfl⟩ (Nat.le_of_ble_eq_true rfl) (Nat.le_of_ble_eq_true rfl) hx hb hr hP hD hS dX1_about_115 hlocks
            · have h := it_r c_13 h
              by_cases c_15 : p1 = 6
              · have h := it_l c_15 h
                refine lv_tableIn (tgt := 72) hx hb dX1_about_8 (by rw [c_15]; decide) (by rw [c_15]; decide) (by rw [c_15]; rfl) (by decide) ?_
                refine lv_aload_n hx hb dX1_about_72 rfl (lv_at hl 0 rfl) ?_
                refine va_get (D := D) (ci := 1) (v := .ref (nA 0)) (C := RX1) (T := TX1) (N := 11) hx hb hts w_1 hown hK hP 0 rfl rfl 3 (by decide) w_0 (fun _ h9 => h9) rfl dX1_about_73 ?_
                refine va_getN (D := D) (ci := 0) (v := .int (s_clk N)) (C := RX0) (T := TX0) (N := 12) hx hb hts w_3 hown hK hP 4 rfl rfl 2 (by decide) w_5 (fun _ h9 => h9) rfl dX1_about_76 ?_
                cases h
                exact Cx_iret hO ⟨rfl, rfl⟩ (Nat.le_of_ble_eq_true rfl) (Nat.le_of_ble_eq_true rfl) hx hb hr hP hD hS dX1_about_79 hlocks
              · have h := it_r c_15 h
                by_cases c_16 : p1 = 7
                · have h := it_l c_16 h
                  refine lv_tableIn (tgt := 80) hx hb dX1_about_8 (by rw [c_16]; decide) (by rw [c_16]; decide) (by rw [c_16]; rfl) (by decide) ?_
                  refine lv_aload_n hx hb dX1_about_80 rfl (lv_at hl 0 rfl) ?_
                  refine va_get (D := D) (ci := 1) (v := .ref (nA 0)) (C := RX1) (T := TX1) (N := 11) hx hb hts w_1 hown hK hP 0 rfl rfl 3 (by decide) w_0 (fun _ h9 => h9) rfl dX1_about_81 ?_
                  obtain ⟨v_17, hv_18, h⟩ := bd_l h
                  refine Ck_VN (As := []) (rest := []) (wc := stW k nA N) (wc' := stW k nA N) (w0' := trW k cA nA tA T ++ stW k nA N) ⟨hx, hb, hml, hown, hts⟩ (c_X0_washedEffects l D k nA N v_17 hv_18) ⟨va_cnB 0 hts gX1_about_X0_washedEffects_n100 rfl rfl rfl w_6 w_7 (by decide +kernel) ⟨Nat.le_of_ble_eq_true rfl, Nat.le_of_ble_eq_true rfl⟩, w_8, w_9⟩ hK hP hD hS hA (q0 := 4) (ci := 0) rfl rfl ([4, 5, 6, 7, 8, 9, 10, 11, 12, 13, 14]) (hi_R rfl st_hi) (by decide) rfl (vs_R rfl st_all) rfl hl.1 rfl (Nat.le_of_ble_eq_true rfl) dX1_about_84 ⟨Nat.le_of_ble_eq_true rfl, Nat.le_of_ble_eq_true rfl⟩ (fun H locs hP hD hS => ?_)
                  refine W.eq (g2 := F0 m 87 ls [.int v_17]) rfl ?_
                  cases h
                  exact Cx_iret hO ⟨rfl, rfl⟩ (Nat.le_of_ble_eq_true rfl) (Nat.le_of_ble_eq_true rfl) hx hb hr hP hD hS dX1_about_87 hlocks
                · have h := it_r c_16 h
                  by_cases c_19 : p1 = 8
                  · have h := it_l c_19 h
                    refine lv_tableIn (tgt := 88) hx hb dX1_about_8 (by rw [c_19]; decide) (by rw [c_19]; decide) (by rw [c_19]; rfl) (by decide) ?_
                    refine lv_aload_n hx hb dX1_about_88 rfl (lv_at hl 0 rfl) ?_
                    refine va_get (D := D) (ci := 1) (v := .ref (nA 0)) (C := RX1) (T := TX1) (N := 11) hx hb hts w_1 hown hK hP 0 rfl rfl 3 (by decide) w_0 (fun _ h9 => h9) rfl dX1_about_89 ?_
                    obtain ⟨v_20, hv_21, h⟩ := bd_l h
                    refine Ck_VN (As := []) (rest := []) (wc := stW k nA N) (wc' := stW k nA N) (w0' := trW k cA nA tA T ++ stW k nA N) ⟨hx, hb, hml, hown, hts⟩ (c_X0_allWater l D k nA N v_20 hv_21) ⟨va_cnB 0 hts gX1_about_X0_allWater_n72 rfl rfl rfl w_10 w_7 (by decide +kernel) ⟨Nat.le_of_ble_eq_true rfl, Nat.le_of_ble_eq_true rfl⟩, w_11, w_12⟩ hK hP hD hS hA (q0 := 4) (ci := 0) rfl rfl ([4, 5, 6, 7, 8, 9, 10, 11, 12, 13, 14]) (hi_R rfl st_hi) (by decide) rfl (vs_R rfl st_all) rfl hl.1 rfl (Nat.le_of_ble_eq_true rfl) dX1_about_92 ⟨Nat.le_of_ble_eq_true rfl, Nat.le_of_ble_eq_true rfl⟩ (fun H locs hP hD hS => ?_)
                    refine W.eq (g2 := F0 m 95 ls [.int v_20]) rfl ?_
                    cases h
                    exact Cx_iret hO ⟨rfl, rfl⟩ (Nat.le_of_ble_eq_true rfl) (Nat.le_of_ble_eq_true rfl) hx hb hr hP hD hS dX1_about_95 hlocks
                  · have h := it_r c_19 h
                    by_cases c_22 : p1 = 9
                    · have h := it_l c_22 h
                      refine lv_tableIn (tgt := 96) hx hb dX1_about_8 (by rw [c_22]; decide) (by rw [c_22]; decide) (by rw [c_22]; rfl) (by decide) ?_
                      refine lv_aload_n hx hb dX1_about_96 rfl (lv_at hl 0 rfl) ?_
                      refine va_get (D := D) (ci := 1) (v := .ref (nA 0)) (C := RX1) (T := TX1) (N := 11) hx hb hts w_1 hown hK hP 0 rfl rfl 3 (by decide) w_0 (fun _ h9 => h9) rfl dX1_about_97 ?_
                      obtain ⟨v_23, hv_24, h⟩ := bd_l h
                      refine Ck_VN (As := []) (rest := []) (wc := stW k nA N) (wc' := stW k nA N) (w0' := trW k cA nA tA T ++ stW k nA N) ⟨hx, hb, hml, hown, hts⟩ (c_X0_allSolids l D k nA N v_23 hv_24) ⟨va_cnB 0 hts gX1_about_X0_allSolids_n75 rfl rfl rfl w_13 w_7 (by decide +kernel) ⟨Nat.le_of_ble_eq_true rfl, Nat.le_of_ble_eq_true rfl⟩, w_14, w_15⟩ hK hP hD hS hA (q0 := 4) (ci := 0) rfl rfl ([4, 5, 6, 7, 8, 9, 10, 11, 12, 13, 14]) (hi_R rfl st_hi) (by decide) rfl (vs_R rfl st_all) rfl hl.1 rfl (Nat.le_of_ble_eq_true rfl) dX1_about_100 ⟨Nat.le_of_ble_eq_true rfl, Nat.le_of_ble_eq_true rfl⟩ (fun H locs hP hD hS => ?_)
                      refine W.eq (g2 := F0 m 103 ls [.int v_23]) rfl ?_
                      cases h
                      exact Cx_iret hO ⟨rfl, rfl⟩ (Nat.le_of_ble_eq_true rfl) (Nat.le_of_ble_eq_true rfl) hx hb hr hP hD hS dX1_about_103 hlocks
                    · have h := it_r c_22 h
                      have n_c_4 : ¬ p1.toInt = 0 := fun z9 => c_4 (Int32.toInt_inj.mp (z9.trans (by decide)))
                      have n_c_5 : ¬ p1.toInt = 1 := fun z9 => c_5 (Int32.toInt_inj.mp (z9.trans (by decide)))
                      have n_c_7 : ¬ p1.toInt = 2 := fun z9 => c_7 (Int32.toInt_inj.mp (z9.trans (by decide)))
                      have n_c_9 : ¬ p1.toInt = 3 := fun z9 => c_9 (Int32.toInt_inj.mp (z9.trans (by decide)))
                      have n_c_11 : ¬ p1.toInt = 4 := fun z9 => c_11 (Int32.toInt_inj.mp (z9.trans (by decide)))
                      have n_c_13 : ¬ p1.toInt = 5 := fun z9 => c_13 (Int32.toInt_inj.mp (z9.trans (by decide)))
                      have n_c_15 : ¬ p1.toInt = 6 := fun z9 => c_15 (Int32.toInt_inj.mp (z9.trans (by decide)))
                      have n_c_16 : ¬ p1.toInt = 7 := fun z9 => c_16 (Int32.toInt_inj.mp (z9.trans (by decide)))
                      have n_c_19 : ¬ p1.toInt = 8 := fun z9 => c_19 (Int32.toInt_inj.mp (z9.trans (by decide)))
                      have n_c_22 : ¬ p1.toInt = 9 := fun z9 => c_22 (Int32.toInt_inj.mp (z9.trans (by decide)))
                      refine lv_tableOut (tgt := 104) hx hb dX1_about_8 (by omega) (by decide) ?_
                      refine lv_aload_n hx hb dX1_about_104 rfl (lv_at hl 0 rfl) ?_
                      refine va_get (D := D) (ci := 1) (v := .ref (nA 0)) (C := RX1) (T := TX1) (N := 11) hx hb hts w_1 hown hK hP 0 rfl rfl 3 (by decide) w_0 (fun _ h9 => h9) rfl dX1_about_105 ?_
                      refine va_getN (D := D) (ci := 0) (v := .ref (nA 1)) (C := RX0) (T := TX0) (N := 12) hx hb hts w_3 hown hK hP 4 rfl rfl 1 (by decide) w_4 (fun _ h9 => h9) rfl dX1_about_108 ?_
                      refine lv_iload_n hx hb dX1_about_111 rfl (lv_at hl 1 rfl) ?_
                      refine lv_iconst (v := 1) hx hb dX1_about_112 (by decide) ?_
                      refine lv_isub hx hb dX1_about_113 ?_
                      have g_25 := inb_vp (gb_l h)
                      have h := gb_r h
                      refine va_iald hx hb hK hP 5 0 rfl rfl g_25 dX1_about_114 ?_
                      cases h
                      exact Cx_iret hO ⟨rfl, rfl⟩ (Nat.le_of_ble_eq_true rfl) (Nat.le_of_ble_eq_true rfl) hx hb hr hP hD hS dX1_about_115 hlocks
def f_X1_total (T : TrV) (N : StV) (p1 : Int32) : Option (String ⊕ (Int32)) := bx (f_X1_checkRange p1 0 9) fun ⟨⟩ => gb (inb p1 10) <| some (.inr (((s_cou N) p1.toNatClampNeg)))
set_option maxRecDepth 100000 in
set_option maxHeartbeats 4000000 in
theorem c_X1_total (l : Launch) (hst : l.stackTraces = false) (D : va_G) (k : Nat → ClassId) (cA : Nat → Nat) (nA : Nat → Nat) (tA : Nat → Nat) (T : TrV) (N : StV) (p1 : Int32) (o : String ⊕ (Int32)) (h : f_X1_total T N p1 = some o) : Cx l D (tyK k) yX1_total wsX1_total ({ frames := 7, cells := 1, slots := 6, locals := 104 } : Room) [.ref (cA 0), .int p1] (trW k cA nA tA T ++ stW k nA N) (trW k cA nA tA T ++ stW k nA N) (Sum.map id (fun r : Int32 => fun (ov : Option Value) (w : va_W) => ov = (some (.int r) : Option Value) ∧ w = trW k cA nA tA T ++ stW k nA N) o) := by
  obtain ⟨O, hO⟩ : ∃ O : Oc, O = Sum.map id (fun r : Int32 => fun (ov : Option Value) (w : va_W) => ov = (some (.int r) : Option Value) ∧ w = trW k cA nA tA T ++ stW k nA N) o := ⟨_, rfl⟩
  rw [← hO]
  refine Cx_of (cc := cX1_total) (maxL := 2) (ret := (some .int)) (by decide) rfl (Nat.le_of_ble_eq_true rfl) ?_
  intro p e s m args below meth c A ls hx hb hr hml hts hown hlocks hnm htab hK hG hA hP hD hS hl
  have hl : lv_has ls 2 [(0, .ref (cA 0)), (1, .int p1)] := hl
  have hP : va_P D vwCl (trW k cA nA tA T ++ stW k nA N) s.heap := hP
  have w_0 := hts (.fieldLink RX1 24 "EffectTrain" "now" "LEffectTrain$State;") (by decide +kernel)
  have w_1 : ∀ w ∈ wsX10, w ∈ wsX1_total := by decide +kernel
  have w_2 : (Cond.fieldLinkNest RX1 106 "EffectTrain$State" "counts" "[I" "EffectTrain").before args s = true := va_Nw.use rfl (hG.2.2.2.2.1 (106, "EffectTrain$State", "counts", "[I", "EffectTrain") (by decide +kernel))
  have w_3 : ∀ w ∈ wsX00, w ∈ wsX1_total := by decide +kernel
  unfold f_X1_total at h
  refine lv_iload_n hx hb dX1_total_0 rfl (lv_at hl 1 rfl) ?_
  refine lv_iconst (v := 0) hx hb dX1_total_1 (by decide) ?_
  refine lv_bipush (v := 9) hx hb dX1_total_2 (by decide) ?_
  rcases bx_l h with ⟨E_2, hv_1, ho_3⟩ | ⟨⟨⟩, hv_1, h⟩
  · subst ho_3
    exact Cx_thru (w0 := trW k cA nA tA T ++ stW k nA N) hO rfl (vx_runS (As := [.int p1, .int 0, .int 9]) (rest := []) ⟨hx, hb, hml, hown, hts⟩ (c_X1_checkRange l hst D k  p1 0 9 (.inl E_2) hv_1 _) (va_cwS 3 hts gX1_total_X1_checkRange rfl rfl rfl (by decide +kernel) ⟨Nat.le_of_ble_eq_true rfl, Nat.le_of_ble_eq_true rfl⟩) ⟨Px_blind, Px_at (wc := ([] : va_W)) hK hG hP hD hS hA [] rfl (by decide)⟩ rfl rfl hl.1 rfl (Nat.le_of_ble_eq_true rfl) dX1_total_4 ⟨Nat.le_of_ble_eq_true rfl, Nat.le_of_ble_eq_true rfl⟩) hP hD hS hA [] rfl htab hlocks (Nat.le_of_ble_eq_true rfl) (Nat.le_of_ble_eq_true rfl)
  refine Cx_in (w0' := trW k cA nA tA T ++ stW k nA N) (wc' := ([] : va_W)) rfl (vx_runS (As := [.int p1, .int 0, .int 9]) (rest := []) ⟨hx, hb, hml, hown, hts⟩ (c_X1_checkRange l hst D k  p1 0 9 (.inr ()) hv_1 _) (va_cwS 3 hts gX1_total_X1_checkRange rfl rfl rfl (by decide +kernel) ⟨Nat.le_of_ble_eq_true rfl, Nat.le_of_ble_eq_true rfl⟩) ⟨Px_blind, Px_at (wc := ([] : va_W)) hK hG hP hD hS hA [] rfl (by decide)⟩ rfl rfl hl.1 rfl (Nat.le_of_ble_eq_true rfl) dX1_total_4 ⟨Nat.le_of_ble_eq_true rfl, Nat.le_of_ble_eq_true rfl⟩) hP hD hS hA [] rfl rfl rfl (fun H locs hP hD hS => ?_)
  refine W.eq (g2 := F0 m 7 ls []) rfl ?_
  refine lv_aload_n hx hb dX1_total_7 rfl (lv_at hl 0 rfl) ?_
  refine va_get (D := D) (ci := 1) (v := .ref (nA 0)) (C := RX1) (T := TX1) (N := 11) hx hb hts w_1 hown hK hP 0 rfl rfl 3 (by decide) w_0 (fun _ h9 => h9) rfl dX1_total_8 ?_
  refine va_getN (D := D) (ci := 0) (v := .ref (nA 2)) (C := RX0) (T := TX0) (N := 12) hx hb hts w_3 hown hK hP 4 rfl rfl 3 (by decide) w_2 (fun _ h9 => h9) rfl dX1_total_11 ?_
  refine lv_iload_n hx hb dX1_total_14 rfl (lv_at hl 1 rfl) ?_
  have g_4 := inb_vp (gb_l h)
  have h := gb_r h
  refine va_iald hx hb hK hP 6 0 rfl rfl g_4 dX1_total_15 ?_
  cases h
  exact Cx_iret hO ⟨rfl, rfl⟩ (Nat.le_of_ble_eq_true rfl) (Nat.le_of_ble_eq_true rfl) hx hb hr hP hD hS dX1_total_16 hlocks
def f_X1_effect (T : TrV) (N : StV) (p1 : Int32) (p2 : Int32) : Option (String ⊕ (Int32)) := bx (f_X1_checkEffect T N p1) fun ⟨⟩ => bx (f_X1_checkRange p2 0 9) fun ⟨⟩ => bd (f_X0_numberOf N p1 p2) fun v_7 => some (.inr (v_7))
set_option maxRecDepth 100000 in
set_option maxHeartbeats 4000000 in
theorem c_X1_effect (l : Launch) (hst : l.stackTraces = false) (D : va_G) (k : Nat → ClassId) (cA : Nat → Nat) (nA : Nat → Nat) (tA : Nat → Nat) (T : TrV) (N : StV) (p1 : Int32) (p2 : Int32) (o : String ⊕ (Int32)) (h : f_X1_effect T N p1 p2 = some o) : Cx l D (tyK k) yX1_effect wsX1_effect ({ frames := 7, cells := 2, slots := 12, locals := 104 } : Room) [.ref (cA 0), .int p1, .int p2] (trW k cA nA tA T ++ stW k nA N) (trW k cA nA tA T ++ stW k nA N) (Sum.map id (fun r : Int32 => fun (ov : Option Value) (w : va_W) => ov = (some (.int r) : Option Value) ∧ w = trW k cA nA tA T ++ stW k nA N) o) := by
  obtain ⟨O, hO⟩ : ∃ O : Oc, O = Sum.map id (fun r : Int32 => fun (ov : Option Value) (w : va_W) => ov = (some (.int r) : Option Value) ∧ w = trW k cA nA tA T ++ stW k nA N) o := ⟨_, rfl⟩
  rw [← hO]
  refine Cx_of (cc := cX1_effect) (maxL := 3) (ret := (some .int)) (by decide) rfl (Nat.le_of_ble_eq_true rfl) ?_
  intro p e s m args below meth c A ls hx hb hr hml hts hown hlocks hnm htab hK hG hA hP hD hS hl
  have hl : lv_has ls 3 [(0, .ref (cA 0)), (1, .int p1), (2, .int p2)] := hl
  have hP : va_P D vwCl (trW k cA nA tA T ++ stW k nA N) s.heap := hP
  have w_0 := hts (.fieldLink RX1 24 "EffectTrain" "now" "LEffectTrain$State;") (by decide +kernel)
  have w_1 : ∀ w ∈ wsX10, w ∈ wsX1_effect := by decide +kernel
  have w_2 : va_Nw (.methodLinkNest RX1 113 yX0_numberOf "EffectTrain") s := hG.2.2.2.2.2 (113, yX0_numberOf, "EffectTrain") (by decide +kernel)
  have w_3 := hts (.initialized RX0) (by decide +kernel)
  have w_4 := hts (.instanceMethod yX0_numberOf) (by decide +kernel)
  have w_5 := hts (.selects RX0 yX0_numberOf yX0_numberOf) (by decide +kernel)
  unfold f_X1_effect at h
  refine lv_aload_n hx hb dX1_effect_0 rfl (lv_at hl 0 rfl) ?_
  refine lv_iload_n hx hb dX1_effect_1 rfl (lv_at hl 1 rfl) ?_
  rcases bx_l h with ⟨E_2, hv_1, ho_3⟩ | ⟨⟨⟩, hv_1, h⟩
  · subst ho_3
    exact Cx_thru (w0 := trW k cA nA tA T ++ stW k nA N) hO rfl (vx_runV (As := [.int p1]) (rest := []) ⟨hx, hb, hml, hown, hts⟩ (c_X1_checkEffect l hst D k cA nA tA T N p1 (.inl E_2) hv_1 _) (cwV 1 hts gX1_effect_X1_checkEffect rfl rfl rfl (by decide +kernel) ⟨Nat.le_of_ble_eq_true rfl, Nat.le_of_ble_eq_true rfl⟩) ⟨Px_blind, va_recv (q0 := 0) (ci := 1) hK hP rfl rfl, Px_at (wc := trW k cA nA tA T ++ stW k nA N) hK hG hP hD hS hA ([0, 1, 2, 3] ++ [4, 5, 6, 7, 8, 9, 10, 11, 12, 13, 14]) (hi_2 (hi_L rfl tr_hi) (hi_R rfl st_hi)) (by decide)⟩ rfl rfl hl.1 rfl (Nat.le_of_ble_eq_true rfl) dX1_effect_2 ⟨Nat.le_of_ble_eq_true rfl, Nat.le_of_ble_eq_true rfl⟩) hP hD hS hA ([0, 1, 2, 3] ++ [4, 5, 6, 7, 8, 9, 10, 11, 12, 13, 14]) (hi_2 (hi_L rfl tr_hi) (hi_R rfl st_hi)) htab hlocks (Nat.le_of_ble_eq_true rfl) (Nat.le_of_ble_eq_true rfl)
  refine Cx_in (w0' := trW k cA nA tA T ++ stW k nA N) (wc' := trW k cA nA tA T ++ stW k nA N) rfl (vx_runV (As := [.int p1]) (rest := []) ⟨hx, hb, hml, hown, hts⟩ (c_X1_checkEffect l hst D k cA nA tA T N p1 (.inr ()) hv_1 _) (cwV 1 hts gX1_effect_X1_checkEffect rfl rfl rfl (by decide +kernel) ⟨Nat.le_of_ble_eq_true rfl, Nat.le_of_ble_eq_true rfl⟩) ⟨Px_blind, va_recv (q0 := 0) (ci := 1) hK hP rfl rfl, Px_at (wc := trW k cA nA tA T ++ stW k nA N) hK hG hP hD hS hA ([0, 1, 2, 3] ++ [4, 5, 6, 7, 8, 9, 10, 11, 12, 13, 14]) (hi_2 (hi_L rfl tr_hi) (hi_R rfl st_hi)) (by decide)⟩ rfl rfl hl.1 rfl (Nat.le_of_ble_eq_true rfl) dX1_effect_2 ⟨Nat.le_of_ble_eq_true rfl, Nat.le_of_ble_eq_true rfl⟩) hP hD hS hA ([0, 1, 2, 3] ++ [4, 5, 6, 7, 8, 9, 10, 11, 12, 13, 14]) (hi_2 (hi_L rfl tr_hi) (hi_R rfl st_hi)) rfl (vs_2 rfl (vs_L rfl tr_all) (vs_R rfl st_all)) (fun H locs hP hD hS => ?_)
  refine W.eq (g2 := F0 m 5 ls []) rfl ?_
  refine lv_iload_n hx hb dX1_effect_5 rfl (lv_at hl 2 rfl) ?_
  refine lv_iconst (v := 0) hx hb dX1_effect_6 (by decide) ?_
  refine lv_bipush (v := 9) hx hb dX1_effect_7 (by decide) ?_
  rcases bx_l h with ⟨E_5, hv_4, ho_6⟩ | ⟨⟨⟩, hv_4, h⟩
  · subst ho_6
    exact Cx_thru (w0 := trW k cA nA tA T ++ stW k nA N) hO rfl (vx_runS (As := [.int p2, .int 0, .int 9]) (rest := []) ⟨hx, hb, hml, hown, hts⟩ (c_X1_checkRange l hst D k  p2 0 9 (.inl E_5) hv_4 _) (va_cwS 3 hts gX1_effect_X1_checkRange rfl rfl rfl (by decide +kernel) ⟨Nat.le_of_ble_eq_true rfl, Nat.le_of_ble_eq_true rfl⟩) ⟨Px_blind, Px_at (wc := ([] : va_W)) hK hG hP hD hS hA [] rfl (by decide)⟩ rfl rfl hl.1 rfl (Nat.le_of_ble_eq_true rfl) dX1_effect_9 ⟨Nat.le_of_ble_eq_true rfl, Nat.le_of_ble_eq_true rfl⟩) hP hD hS hA [] rfl htab hlocks (Nat.le_of_ble_eq_true rfl) (Nat.le_of_ble_eq_true rfl)
  refine Cx_in (w0' := trW k cA nA tA T ++ stW k nA N) (wc' := ([] : va_W)) rfl (vx_runS (As := [.int p2, .int 0, .int 9]) (rest := []) ⟨hx, hb, hml, hown, hts⟩ (c_X1_checkRange l hst D k  p2 0 9 (.inr ()) hv_4 _) (va_cwS 3 hts gX1_effect_X1_checkRange rfl rfl rfl (by decide +kernel) ⟨Nat.le_of_ble_eq_true rfl, Nat.le_of_ble_eq_true rfl⟩) ⟨Px_blind, Px_at (wc := ([] : va_W)) hK hG hP hD hS hA [] rfl (by decide)⟩ rfl rfl hl.1 rfl (Nat.le_of_ble_eq_true rfl) dX1_effect_9 ⟨Nat.le_of_ble_eq_true rfl, Nat.le_of_ble_eq_true rfl⟩) hP hD hS hA [] rfl rfl rfl (fun H locs hP hD hS => ?_)
  refine W.eq (g2 := F0 m 12 ls []) rfl ?_
  refine lv_aload_n hx hb dX1_effect_12 rfl (lv_at hl 0 rfl) ?_
  refine va_get (D := D) (ci := 1) (v := .ref (nA 0)) (C := RX1) (T := TX1) (N := 11) hx hb hts w_1 hown hK hP 0 rfl rfl 3 (by decide) w_0 (fun _ h9 => h9) rfl dX1_effect_13 ?_
  refine lv_iload_n hx hb dX1_effect_16 rfl (lv_at hl 1 rfl) ?_
  refine lv_iload_n hx hb dX1_effect_17 rfl (lv_at hl 2 rfl) ?_
  obtain ⟨v_7, hv_8, h⟩ := bd_l h
  refine Ck_VN (As := [.int p1, .int p2]) (rest := []) (wc := stW k nA N) (wc' := stW k nA N) (w0' := trW k cA nA tA T ++ stW k nA N) ⟨hx, hb, hml, hown, hts⟩ (c_X0_numberOf l D k nA N p1 p2 v_7 hv_8) ⟨va_cnB 2 hts gX1_effect_X0_numberOf_n113 rfl rfl rfl w_2 w_3 (by decide +kernel) ⟨Nat.le_of_ble_eq_true rfl, Nat.le_of_ble_eq_true rfl⟩, w_4, w_5⟩ hK hP hD hS hA (q0 := 4) (ci := 0) rfl rfl ([4, 5, 6, 7, 8, 9, 10, 11, 12, 13, 14]) (hi_R rfl st_hi) (by decide) rfl (vs_R rfl st_all) rfl hl.1 rfl (Nat.le_of_ble_eq_true rfl) dX1_effect_18 ⟨Nat.le_of_ble_eq_true rfl, Nat.le_of_ble_eq_true rfl⟩ (fun H locs hP hD hS => ?_)
  refine W.eq (g2 := F0 m 21 ls [.int v_7]) rfl ?_
  cases h
  exact Cx_iret hO ⟨rfl, rfl⟩ (Nat.le_of_ble_eq_true rfl) (Nat.le_of_ble_eq_true rfl) hx hb hr hP hD hS dX1_effect_21 hlocks
def f_X1_neighbor (T : TrV) (N : StV) (p1 : Int32) (p2 : Int32) : Option (String ⊕ (Int32)) := bx (f_X1_checkEffect T N p1) fun ⟨⟩ => if p2 = 0 then (bd (f_X0_effectBefore N p1) fun v_5 => some (.inr (v_5))) else (bd (f_X0_effectBehind N p1) fun v_7 => some (.inr (v_7)))
set_option maxRecDepth 100000 in
set_option maxHeartbeats 4000000 in
theorem c_X1_neighbor (l : Launch) (hst : l.stackTraces = false) (D : va_G) (k : Nat → ClassId) (cA : Nat → Nat) (nA : Nat → Nat) (tA : Nat → Nat) (T : TrV) (N : StV) (p1 : Int32) (p2 : Int32) (o : String ⊕ (Int32)) (h : f_X1_neighbor T N p1 p2 = some o) : Cx l D (tyK k) yX1_neighbor wsX1_neighbor ({ frames := 7, cells := 1, slots := 6, locals := 103 } : Room) [.ref (cA 0), .int p1, .int p2] (trW k cA nA tA T ++ stW k nA N) (trW k cA nA tA T ++ stW k nA N) (Sum.map id (fun r : Int32 => fun (ov : Option Value) (w : va_W) => ov = (some (.int r) : Option Value) ∧ w = trW k cA nA tA T ++ stW k nA N) o) := by
  obtain ⟨O, hO⟩ : ∃ O : Oc, O = Sum.map id (fun r : Int32 => fun (ov : Option Value) (w : va_W) => ov = (some (.int r) : Option Value) ∧ w = trW k cA nA tA T ++ stW k nA N) o := ⟨_, rfl⟩
  rw [← hO]
  refine Cx_of (cc := cX1_neighbor) (maxL := 3) (ret := (some .int)) (by decide) rfl (Nat.le_of_ble_eq_true rfl) ?_
  intro p e s m args below meth c A ls hx hb hr hml hts hown hlocks hnm htab hK hG hA hP hD hS hl
  have hl : lv_has ls 3 [(0, .ref (cA 0)), (1, .int p1), (2, .int p2)] := hl
  have hP : va_P D vwCl (trW k cA nA tA T ++ stW k nA N) s.heap := hP
  have w_0 := hts (.fieldLink RX1 24 "EffectTrain" "now" "LEffectTrain$State;") (by decide +kernel)
  have w_1 : ∀ w ∈ wsX10, w ∈ wsX1_neighbor := by decide +kernel
  have w_2 : va_Nw (.methodLinkNest RX1 120 yX0_effectBefore "EffectTrain") s := hG.2.2.2.2.2 (120, yX0_effectBefore, "EffectTrain") (by decide +kernel)
  have w_3 := hts (.initialized RX0) (by decide +kernel)
  have w_4 := hts (.instanceMethod yX0_effectBefore) (by decide +kernel)
  have w_5 := hts (.selects RX0 yX0_effectBefore yX0_effectBefore) (by decide +kernel)
  have w_6 : va_Nw (.methodLinkNest RX1 116 yX0_effectBehind "EffectTrain") s := hG.2.2.2.2.2 (116, yX0_effectBehind, "EffectTrain") (by decide +kernel)
  have w_7 := hts (.instanceMethod yX0_effectBehind) (by decide +kernel)
  have w_8 := hts (.selects RX0 yX0_effectBehind yX0_effectBehind) (by decide +kernel)
  unfold f_X1_neighbor at h
  refine lv_aload_n hx hb dX1_neighbor_0 rfl (lv_at hl 0 rfl) ?_
  refine lv_iload_n hx hb dX1_neighbor_1 rfl (lv_at hl 1 rfl) ?_
  rcases bx_l h with ⟨E_2, hv_1, ho_3⟩ | ⟨⟨⟩, hv_1, h⟩
  · subst ho_3
    exact Cx_thru (w0 := trW k cA nA tA T ++ stW k nA N) hO rfl (vx_runV (As := [.int p1]) (rest := []) ⟨hx, hb, hml, hown, hts⟩ (c_X1_checkEffect l hst D k cA nA tA T N p1 (.inl E_2) hv_1 _) (cwV 1 hts gX1_neighbor_X1_checkEffect rfl rfl rfl (by decide +kernel) ⟨Nat.le_of_ble_eq_true rfl, Nat.le_of_ble_eq_true rfl⟩) ⟨Px_blind, va_recv (q0 := 0) (ci := 1) hK hP rfl rfl, Px_at (wc := trW k cA nA tA T ++ stW k nA N) hK hG hP hD hS hA ([0, 1, 2, 3] ++ [4, 5, 6, 7, 8, 9, 10, 11, 12, 13, 14]) (hi_2 (hi_L rfl tr_hi) (hi_R rfl st_hi)) (by decide)⟩ rfl rfl hl.1 rfl (Nat.le_of_ble_eq_true rfl) dX1_neighbor_2 ⟨Nat.le_of_ble_eq_true rfl, Nat.le_of_ble_eq_true rfl⟩) hP hD hS hA ([0, 1, 2, 3] ++ [4, 5, 6, 7, 8, 9, 10, 11, 12, 13, 14]) (hi_2 (hi_L rfl tr_hi) (hi_R rfl st_hi)) htab hlocks (Nat.le_of_ble_eq_true rfl) (Nat.le_of_ble_eq_true rfl)
  refine Cx_in (w0' := trW k cA nA tA T ++ stW k nA N) (wc' := trW k cA nA tA T ++ stW k nA N) rfl (vx_runV (As := [.int p1]) (rest := []) ⟨hx, hb, hml, hown, hts⟩ (c_X1_checkEffect l hst D k cA nA tA T N p1 (.inr ()) hv_1 _) (cwV 1 hts gX1_neighbor_X1_checkEffect rfl rfl rfl (by decide +kernel) ⟨Nat.le_of_ble_eq_true rfl, Nat.le_of_ble_eq_true rfl⟩) ⟨Px_blind, va_recv (q0 := 0) (ci := 1) hK hP rfl rfl, Px_at (wc := trW k cA nA tA T ++ stW k nA N) hK hG hP hD hS hA ([0, 1, 2, 3] ++ [4, 5, 6, 7, 8, 9, 10, 11, 12, 13, 14]) (hi_2 (hi_L rfl tr_hi) (hi_R rfl st_hi)) (by decide)⟩ rfl rfl hl.1 rfl (Nat.le_of_ble_eq_true rfl) dX1_neighbor_2 ⟨Nat.le_of_ble_eq_true rfl, Nat.le_of_ble_eq_true rfl⟩) hP hD hS hA ([0, 1, 2, 3] ++ [4, 5, 6, 7, 8, 9, 10, 11, 12, 13, 14]) (hi_2 (hi_L rfl tr_hi) (hi_R rfl st_hi)) rfl (vs_2 rfl (vs_L rfl tr_all) (vs_R rfl st_all)) (fun H locs hP hD hS => ?_)
  refine W.eq (g2 := F0 m 5 ls []) rfl ?_
  refine lv_iload_n hx hb dX1_neighbor_5 rfl (lv_at hl 2 rfl) ?_
  refine lv_if_eq (tgt := 20) hx hb dX1_neighbor_6 (by decide) (fun c_4 => ?_) (fun c_4 => ?_)
  · have h := it_l c_4 h
    refine lv_aload_n hx hb dX1_neighbor_20 rfl (lv_at hl 0 rfl) ?_
    refine va_get (D := D) (ci := 1) (v := .ref (nA 0)) (C := RX1) (T := TX1) (N := 11) hx hb hts w_1 hown hK hP 0 rfl rfl 3 (by decide) w_0 (fun _ h9 => h9) rfl dX1_neighbor_21 ?_
    refine lv_iload_n hx hb dX1_neighbor_24 rfl (lv_at hl 1 rfl) ?_
    obtain ⟨v_5, hv_6, h⟩ := bd_l h
    refine Ck_VN (As := [.int p1]) (rest := []) (wc := stW k nA N) (wc' := stW k nA N) (w0' := trW k cA nA tA T ++ stW k nA N) ⟨hx, hb, hml, hown, hts⟩ (c_X0_effectBefore l D k nA N p1 v_5 hv_6) ⟨va_cnB 1 hts gX1_neighbor_X0_effectBefore_n120 rfl rfl rfl w_2 w_3 (by decide +kernel) ⟨Nat.le_of_ble_eq_true rfl, Nat.le_of_ble_eq_true rfl⟩, w_4, w_5⟩ hK hP hD hS hA (q0 := 4) (ci := 0) rfl rfl ([4, 5, 6, 7, 8, 9, 10, 11, 12, 13, 14]) (hi_R rfl st_hi) (by decide) rfl (vs_R rfl st_all) rfl hl.1 rfl (Nat.le_of_ble_eq_true rfl) dX1_neighbor_25 ⟨Nat.le_of_ble_eq_true rfl, Nat.le_of_ble_eq_true rfl⟩ (fun H locs hP hD hS => ?_)
    refine W.eq (g2 := F0 m 28 ls [.int v_5]) rfl ?_
    cases h
    exact Cx_iret hO ⟨rfl, rfl⟩ (Nat.le_of_ble_eq_true rfl) (Nat.le_of_ble_eq_true rfl) hx hb hr hP hD hS dX1_neighbor_28 hlocks
  · have h := it_r c_4 h
    refine lv_aload_n hx hb dX1_neighbor_9 rfl (lv_at hl 0 rfl) ?_
    refine va_get (D := D) (ci := 1) (v := .ref (nA 0)) (C := RX1) (T := TX1) (N := 11) hx hb hts w_1 hown hK hP 0 rfl rfl 3 (by decide) w_0 (fun _ h9 => h9) rfl dX1_neighbor_10 ?_
    refine lv_iload_n hx hb dX1_neighbor_13 rfl (lv_at hl 1 rfl) ?_
    obtain ⟨v_7, hv_8, h⟩ := bd_l h
    refine Ck_VN (As := [.int p1]) (rest := []) (wc := stW k nA N) (wc' := stW k nA N) (w0' := trW k cA nA tA T ++ stW k nA N) ⟨hx, hb, hml, hown, hts⟩ (c_X0_effectBehind l D k nA N p1 v_7 hv_8) ⟨va_cnB 1 hts gX1_neighbor_X0_effectBehind_n116 rfl rfl rfl w_6 w_3 (by decide +kernel) ⟨Nat.le_of_ble_eq_true rfl, Nat.le_of_ble_eq_true rfl⟩, w_7, w_8⟩ hK hP hD hS hA (q0 := 4) (ci := 0) rfl rfl ([4, 5, 6, 7, 8, 9, 10, 11, 12, 13, 14]) (hi_R rfl st_hi) (by decide) rfl (vs_R rfl st_all) rfl hl.1 rfl (Nat.le_of_ble_eq_true rfl) dX1_neighbor_14 ⟨Nat.le_of_ble_eq_true rfl, Nat.le_of_ble_eq_true rfl⟩ (fun H locs hP hD hS => ?_)
    refine W.eq (g2 := F0 m 17 ls [.int v_7]) rfl ?_
    refine lv_goto (tgt := 28) hx hb dX1_neighbor_17 (by decide) ?_
    cases h
    exact Cx_iret hO ⟨rfl, rfl⟩ (Nat.le_of_ble_eq_true rfl) (Nat.le_of_ble_eq_true rfl) hx hb hr hP hD hS dX1_neighbor_28 hlocks
def f_X1_economy (T : TrV) (N : StV) : Option (String ⊕ (UInt32)) := nm ((s_cou N) 0) fun v_1 => if v_1 ≤ 0 then (some (.inr (FP.fconst0))) else (gb (nn32 (FP.fdiv (FP.i2f ((s_cou N) 1)) (FP.i2f v_1))) <| some (.inr ((FP.fdiv (FP.i2f ((s_cou N) 1)) (FP.i2f v_1)))))
set_option maxRecDepth 100000 in
set_option maxHeartbeats 4000000 in
theorem c_X1_economy (l : Launch) (hst : l.stackTraces = false) (D : va_G) (k : Nat → ClassId) (cA : Nat → Nat) (nA : Nat → Nat) (tA : Nat → Nat) (T : TrV) (N : StV) (o : String ⊕ (UInt32)) (h : f_X1_economy T N = some o) : Cx l D (tyK k) yX1_economy wsX1_economy ({ frames := 0, cells := 0, slots := 0, locals := 0 } : Room) [.ref (cA 0)] (trW k cA nA tA T ++ stW k nA N) (trW k cA nA tA T ++ stW k nA N) (Sum.map id (fun r : UInt32 => fun (ov : Option Value) (w : va_W) => ov = (some (.float r) : Option Value) ∧ w = trW k cA nA tA T ++ stW k nA N) o) := by
  obtain ⟨O, hO⟩ : ∃ O : Oc, O = Sum.map id (fun r : UInt32 => fun (ov : Option Value) (w : va_W) => ov = (some (.float r) : Option Value) ∧ w = trW k cA nA tA T ++ stW k nA N) o := ⟨_, rfl⟩
  rw [← hO]
  refine Cx_of (cc := cX1_economy) (maxL := 2) (ret := (some .float)) (by decide) rfl (Nat.le_of_ble_eq_true rfl) ?_
  intro p e s m args below meth c A ls hx hb hr hml hts hown hlocks hnm htab hK hG hA hP hD hS hl
  have hl : lv_has ls 2 [(0, .ref (cA 0))] := hl
  have hP : va_P D vwCl (trW k cA nA tA T ++ stW k nA N) s.heap := hP
  have w_0 := hts (.fieldLink RX1 24 "EffectTrain" "now" "LEffectTrain$State;") (by decide +kernel)
  have w_1 : ∀ w ∈ wsX10, w ∈ wsX1_economy := by decide +kernel
  have w_2 : (Cond.fieldLinkNest RX1 106 "EffectTrain$State" "counts" "[I" "EffectTrain").before args s = true := va_Nw.use rfl (hG.2.2.2.2.1 (106, "EffectTrain$State", "counts", "[I", "EffectTrain") (by decide +kernel))
  have w_3 : ∀ w ∈ wsX00, w ∈ wsX1_economy := by decide +kernel
  unfold f_X1_economy at h
  refine lv_aload_n hx hb dX1_economy_0 rfl (lv_at hl 0 rfl) ?_
  refine va_get (D := D) (ci := 1) (v := .ref (nA 0)) (C := RX1) (T := TX1) (N := 11) hx hb hts w_1 hown hK hP 0 rfl rfl 3 (by decide) w_0 (fun _ h9 => h9) rfl dX1_economy_1 ?_
  refine va_getN (D := D) (ci := 0) (v := .ref (nA 2)) (C := RX0) (T := TX0) (N := 12) hx hb hts w_3 hown hK hP 4 rfl rfl 3 (by decide) w_2 (fun _ h9 => h9) rfl dX1_economy_4 ?_
  refine lv_iconst (v := 0) hx hb dX1_economy_7 (by decide) ?_
  refine va_iald hx hb hK hP 6 0 rfl rfl (inb_vp (by decide)) dX1_economy_8 ?_
  refine W.eq (g2 := F0 m 9 ls [.int ((s_cou N) 0)]) rfl ?_
  refine lv_topi (fun v_1 ev_1 => ?_)
  have h := nm_l h ev_1
  refine lv_istore_n (lv' := [(1, .int v_1), (0, .ref (cA 0))]) hx hb dX1_economy_9 rfl hl (by decide) rfl (fun ls hl => ?_)
  refine lv_iload_n hx hb dX1_economy_10 rfl (lv_at hl 0 rfl) ?_
  refine lv_if_le (tgt := 30) hx hb dX1_economy_11 (by decide) (fun c_2 => ?_) (fun c_2 => ?_)
  · have h := it_l c_2 h
    refine lv_fconst0 hx hb dX1_economy_30 ?_
    cases h
    exact Cx_fret hO ⟨rfl, rfl⟩ (Nat.le_of_ble_eq_true rfl) (Nat.le_of_ble_eq_true rfl) hx hb hr hP hD hS dX1_economy_31 hlocks
  · have h := it_r c_2 h
    refine lv_aload_n hx hb dX1_economy_14 rfl (lv_at hl 1 rfl) ?_
    refine va_get (D := D) (ci := 1) (v := .ref (nA 0)) (C := RX1) (T := TX1) (N := 11) hx hb hts w_1 hown hK hP 0 rfl rfl 3 (by decide) w_0 (fun _ h9 => h9) rfl dX1_economy_15 ?_
    refine va_getN (D := D) (ci := 0) (v := .ref (nA 2)) (C := RX0) (T := TX0) (N := 12) hx hb hts w_3 hown hK hP 4 rfl rfl 3 (by decide) w_2 (fun _ h9 => h9) rfl dX1_economy_18 ?_
    refine lv_iconst (v := 1) hx hb dX1_economy_21 (by decide) ?_
    refine va_iald hx hb hK hP 6 0 rfl rfl (inb_vp (by decide)) dX1_economy_22 ?_
    refine W.eq (g2 := F0 m 23 ls [.int ((s_cou N) 1)]) rfl ?_
    refine lv_i2f hx hb dX1_economy_23 ?_
    refine lv_iload_n hx hb dX1_economy_24 rfl (lv_at hl 0 rfl) ?_
    refine lv_i2f hx hb dX1_economy_25 ?_
    have g_3 := nn32_l (gb_l h)
    have h := gb_r h
    refine lv_fdiv hx hb dX1_economy_26 g_3 ?_
    refine lv_goto (tgt := 31) hx hb dX1_economy_27 (by decide) ?_
    cases h
    exact Cx_fret hO ⟨rfl, rfl⟩ (Nat.le_of_ble_eq_true rfl) (Nat.le_of_ble_eq_true rfl) hx hb hr hP hD hS dX1_economy_31 hlocks
def f_X1_share (T : TrV) (N : StV) (p1 : Int32) : Option (String ⊕ (UInt32)) := bx (f_X1_checkEffect T N p1) fun ⟨⟩ => bd (f_X0_amount N p1) fun v_4 => if v_4 ≤ 0 then (some (.inr (FP.fconst0))) else (gb (inb p1 6) <| gb (nn32 (FP.fdiv (FP.i2f ((s_sol N) p1.toNatClampNeg)) (FP.i2f v_4))) <| some (.inr ((FP.fdiv (FP.i2f ((s_sol N) p1.toNatClampNeg)) (FP.i2f v_4)))))
set_option maxRecDepth 100000 in
set_option maxHeartbeats 4000000 in
theorem c_X1_share (l : Launch) (hst : l.stackTraces = false) (D : va_G) (k : Nat → ClassId) (cA : Nat → Nat) (nA : Nat → Nat) (tA : Nat → Nat) (T : TrV) (N : StV) (p1 : Int32) (o : String ⊕ (UInt32)) (h : f_X1_share T N p1 = some o) : Cx l D (tyK k) yX1_share wsX1_share ({ frames := 7, cells := 1, slots := 6, locals := 103 } : Room) [.ref (cA 0), .int p1] (trW k cA nA tA T ++ stW k nA N) (trW k cA nA tA T ++ stW k nA N) (Sum.map id (fun r : UInt32 => fun (ov : Option Value) (w : va_W) => ov = (some (.float r) : Option Value) ∧ w = trW k cA nA tA T ++ stW k nA N) o) := by
  obtain ⟨O, hO⟩ : ∃ O : Oc, O = Sum.map id (fun r : UInt32 => fun (ov : Option Value) (w : va_W) => ov = (some (.float r) : Option Value) ∧ w = trW k cA nA tA T ++ stW k nA N) o := ⟨_, rfl⟩
  rw [← hO]
  refine Cx_of (cc := cX1_share) (maxL := 3) (ret := (some .float)) (by decide) rfl (Nat.le_of_ble_eq_true rfl) ?_
  intro p e s m args below meth c A ls hx hb hr hml hts hown hlocks hnm htab hK hG hA hP hD hS hl
  have hl : lv_has ls 3 [(0, .ref (cA 0)), (1, .int p1)] := hl
  have hP : va_P D vwCl (trW k cA nA tA T ++ stW k nA N) s.heap := hP
  have w_0 := hts (.fieldLink RX1 24 "EffectTrain" "now" "LEffectTrain$State;") (by decide +kernel)
  have w_1 : ∀ w ∈ wsX10, w ∈ wsX1_share := by decide +kernel
  have w_2 : va_Nw (.methodLinkNest RX1 123 yX0_amount "EffectTrain") s := hG.2.2.2.2.2 (123, yX0_amount, "EffectTrain") (by decide +kernel)
  have w_3 := hts (.initialized RX0) (by decide +kernel)
  have w_4 := hts (.instanceMethod yX0_amount) (by decide +kernel)
  have w_5 := hts (.selects RX0 yX0_amount yX0_amount) (by decide +kernel)
  have w_6 : (Cond.fieldLinkNest RX1 126 "EffectTrain$State" "solids" "[I" "EffectTrain").before args s = true := va_Nw.use rfl (hG.2.2.2.2.1 (126, "EffectTrain$State", "solids", "[I", "EffectTrain") (by decide +kernel))
  have w_7 : ∀ w ∈ wsX00, w ∈ wsX1_share := by decide +kernel
  unfold f_X1_share at h
  refine lv_aload_n hx hb dX1_share_0 rfl (lv_at hl 0 rfl) ?_
  refine lv_iload_n hx hb dX1_share_1 rfl (lv_at hl 1 rfl) ?_
  rcases bx_l h with ⟨E_2, hv_1, ho_3⟩ | ⟨⟨⟩, hv_1, h⟩
  · subst ho_3
    exact Cx_thru (w0 := trW k cA nA tA T ++ stW k nA N) hO rfl (vx_runV (As := [.int p1]) (rest := []) ⟨hx, hb, hml, hown, hts⟩ (c_X1_checkEffect l hst D k cA nA tA T N p1 (.inl E_2) hv_1 _) (cwV 1 hts gX1_share_X1_checkEffect rfl rfl rfl (by decide +kernel) ⟨Nat.le_of_ble_eq_true rfl, Nat.le_of_ble_eq_true rfl⟩) ⟨Px_blind, va_recv (q0 := 0) (ci := 1) hK hP rfl rfl, Px_at (wc := trW k cA nA tA T ++ stW k nA N) hK hG hP hD hS hA ([0, 1, 2, 3] ++ [4, 5, 6, 7, 8, 9, 10, 11, 12, 13, 14]) (hi_2 (hi_L rfl tr_hi) (hi_R rfl st_hi)) (by decide)⟩ rfl rfl hl.1 rfl (Nat.le_of_ble_eq_true rfl) dX1_share_2 ⟨Nat.le_of_ble_eq_true rfl, Nat.le_of_ble_eq_true rfl⟩) hP hD hS hA ([0, 1, 2, 3] ++ [4, 5, 6, 7, 8, 9, 10, 11, 12, 13, 14]) (hi_2 (hi_L rfl tr_hi) (hi_R rfl st_hi)) htab hlocks (Nat.le_of_ble_eq_true rfl) (Nat.le_of_ble_eq_true rfl)
  refine Cx_in (w0' := trW k cA nA tA T ++ stW k nA N) (wc' := trW k cA nA tA T ++ stW k nA N) rfl (vx_runV (As := [.int p1]) (rest := []) ⟨hx, hb, hml, hown, hts⟩ (c_X1_checkEffect l hst D k cA nA tA T N p1 (.inr ()) hv_1 _) (cwV 1 hts gX1_share_X1_checkEffect rfl rfl rfl (by decide +kernel) ⟨Nat.le_of_ble_eq_true rfl, Nat.le_of_ble_eq_true rfl⟩) ⟨Px_blind, va_recv (q0 := 0) (ci := 1) hK hP rfl rfl, Px_at (wc := trW k cA nA tA T ++ stW k nA N) hK hG hP hD hS hA ([0, 1, 2, 3] ++ [4, 5, 6, 7, 8, 9, 10, 11, 12, 13, 14]) (hi_2 (hi_L rfl tr_hi) (hi_R rfl st_hi)) (by decide)⟩ rfl rfl hl.1 rfl (Nat.le_of_ble_eq_true rfl) dX1_share_2 ⟨Nat.le_of_ble_eq_true rfl, Nat.le_of_ble_eq_true rfl⟩) hP hD hS hA ([0, 1, 2, 3] ++ [4, 5, 6, 7, 8, 9, 10, 11, 12, 13, 14]) (hi_2 (hi_L rfl tr_hi) (hi_R rfl st_hi)) rfl (vs_2 rfl (vs_L rfl tr_all) (vs_R rfl st_all)) (fun H locs hP hD hS => ?_)
  refine W.eq (g2 := F0 m 5 ls []) rfl ?_
  refine lv_aload_n hx hb dX1_share_5 rfl (lv_at hl 0 rfl) ?_
  refine va_get (D := D) (ci := 1) (v := .ref (nA 0)) (C := RX1) (T := TX1) (N := 11) hx hb hts w_1 hown hK hP 0 rfl rfl 3 (by decide) w_0 (fun _ h9 => h9) rfl dX1_share_6 ?_
  refine lv_iload_n hx hb dX1_share_9 rfl (lv_at hl 1 rfl) ?_
  obtain ⟨v_4, hv_5, h⟩ := bd_l h
  refine Ck_VN (As := [.int p1]) (rest := []) (wc := stW k nA N) (wc' := stW k nA N) (w0' := trW k cA nA tA T ++ stW k nA N) ⟨hx, hb, hml, hown, hts⟩ (c_X0_amount l D k nA N p1 v_4 hv_5) ⟨va_cnB 1 hts gX1_share_X0_amount_n123 rfl rfl rfl w_2 w_3 (by decide +kernel) ⟨Nat.le_of_ble_eq_true rfl, Nat.le_of_ble_eq_true rfl⟩, w_4, w_5⟩ hK hP hD hS hA (q0 := 4) (ci := 0) rfl rfl ([4, 5, 6, 7, 8, 9, 10, 11, 12, 13, 14]) (hi_R rfl st_hi) (by decide) rfl (vs_R rfl st_all) rfl hl.1 rfl (Nat.le_of_ble_eq_true rfl) dX1_share_10 ⟨Nat.le_of_ble_eq_true rfl, Nat.le_of_ble_eq_true rfl⟩ (fun H locs hP hD hS => ?_)
  refine W.eq (g2 := F0 m 13 ls [.int v_4]) rfl ?_
  refine lv_istore_n (lv' := [(2, .int v_4), (0, .ref (cA 0)), (1, .int p1)]) hx hb dX1_share_13 rfl hl (by decide) rfl (fun ls hl => ?_)
  refine lv_iload_n hx hb dX1_share_14 rfl (lv_at hl 0 rfl) ?_
  refine lv_if_le (tgt := 34) hx hb dX1_share_15 (by decide) (fun c_6 => ?_) (fun c_6 => ?_)
  · have h := it_l c_6 h
    refine lv_fconst0 hx hb dX1_share_34 ?_
    cases h
    exact Cx_fret hO ⟨rfl, rfl⟩ (Nat.le_of_ble_eq_true rfl) (Nat.le_of_ble_eq_true rfl) hx hb hr hP hD hS dX1_share_35 hlocks
  · have h := it_r c_6 h
    refine lv_aload_n hx hb dX1_share_18 rfl (lv_at hl 1 rfl) ?_
    refine va_get (D := D) (ci := 1) (v := .ref (nA 0)) (C := RX1) (T := TX1) (N := 11) hx hb hts w_1 hown hK hP 0 rfl rfl 3 (by decide) w_0 (fun _ h9 => h9) rfl dX1_share_19 ?_
    refine va_getN (D := D) (ci := 0) (v := .ref (nA 5)) (C := RX0) (T := TX0) (N := 12) hx hb hts w_7 hown hK hP 4 rfl rfl 6 (by decide) w_6 (fun _ h9 => h9) rfl dX1_share_22 ?_
    refine lv_iload_n hx hb dX1_share_25 rfl (lv_at hl 2 rfl) ?_
    have g_7 := inb_vp (gb_l h)
    have h := gb_r h
    refine va_iald hx hb hK hP 9 0 rfl rfl g_7 dX1_share_26 ?_
    refine lv_i2f hx hb dX1_share_27 ?_
    refine lv_iload_n hx hb dX1_share_28 rfl (lv_at hl 0 rfl) ?_
    refine lv_i2f hx hb dX1_share_29 ?_
    have g_8 := nn32_l (gb_l h)
    have h := gb_r h
    refine lv_fdiv hx hb dX1_share_30 g_8 ?_
    refine lv_goto (tgt := 35) hx hb dX1_share_31 (by decide) ?_
    cases h
    exact Cx_fret hO ⟨rfl, rfl⟩ (Nat.le_of_ble_eq_true rfl) (Nat.le_of_ble_eq_true rfl) hx hb hr hP hD hS dX1_share_35 hlocks
def f_X1_ahead (T : TrV) (N : StV) (V : StV) (p1 : Int32) (p2 : Int32) (p3 : Int32) : Option (String ⊕ (Int32 × StV)) := bx (f_X1_checkEffect T N p1) fun ⟨⟩ => bx (f_X1_checkRange p2 0 99) fun ⟨⟩ => bx (f_X1_checkRange p3 0 9) fun ⟨⟩ => bd (f_X0_copyFrom V N) fun q_10 => bd (f_X0_pass q_10 p2) fun ⟨v_12, q_13⟩ => bd (f_X0_numberOf q_13 p1 p3) fun v_15 => some (.inr (v_15, q_13))
set_option maxRecDepth 100000 in
set_option maxHeartbeats 4000000 in
theorem c_X1_ahead (l : Launch) (hst : l.stackTraces = false) (D : va_G) (k : Nat → ClassId) (cA : Nat → Nat) (nA : Nat → Nat) (tA : Nat → Nat) (T : TrV) (N : StV) (V : StV) (p1 : Int32) (p2 : Int32) (p3 : Int32) (o : String ⊕ (Int32 × StV)) (h : f_X1_ahead T N V p1 p2 p3 = some o) : Cx l D (tyK k) yX1_ahead wsX1_ahead ({ frames := 7, cells := 3, slots := 18, locals := 104 } : Room) [.ref (cA 0), .int p1, .int p2, .int p3] (trW k cA nA tA T ++ stW k nA N ++ stW k tA V) (trW k cA nA tA T ++ stW k nA N ++ stW k tA V) (Sum.map id (fun r : Int32 × StV => fun (ov : Option Value) (w : va_W) => ov = (some (.int r.1) : Option Value) ∧ w = trW k cA nA tA T ++ stW k nA N ++ stW k tA r.2) o) := by
  obtain ⟨O, hO⟩ : ∃ O : Oc, O = Sum.map id (fun r : Int32 × StV => fun (ov : Option Value) (w : va_W) => ov = (some (.int r.1) : Option Value) ∧ w = trW k cA nA tA T ++ stW k nA N ++ stW k tA r.2) o := ⟨_, rfl⟩
  rw [← hO]
  refine Cx_of (cc := cX1_ahead) (maxL := 4) (ret := (some .int)) (by decide) rfl (Nat.le_of_ble_eq_true rfl) ?_
  intro p e s m args below meth c A ls hx hb hr hml hts hown hlocks hnm htab hK hG hA hP hD hS hl
  have hl : lv_has ls 4 [(0, .ref (cA 0)), (1, .int p1), (2, .int p2), (3, .int p3)] := hl
  have hP : va_P D vwCl (trW k cA nA tA T ++ stW k nA N ++ stW k tA V) s.heap := hP
  have w_0 := hts (.fieldLink RX1 28 "EffectTrain" "trial" "LEffectTrain$State;") (by decide +kernel)
  have w_1 : ∀ w ∈ wsX10, w ∈ wsX1_ahead := by decide +kernel
  have w_2 := hts (.fieldLink RX1 24 "EffectTrain" "now" "LEffectTrain$State;") (by decide +kernel)
  have w_3 : va_Nw (.methodLinkNest RX1 155 yX0_copyFrom "EffectTrain") s := hG.2.2.2.2.2 (155, yX0_copyFrom, "EffectTrain") (by decide +kernel)
  have w_4 := hts (.initialized RX0) (by decide +kernel)
  have w_5 := hts (.instanceMethod yX0_copyFrom) (by decide +kernel)
  have w_6 := hts (.selects RX0 yX0_copyFrom yX0_copyFrom) (by decide +kernel)
  have w_7 : va_Nw (.methodLinkNest RX1 132 yX0_pass "EffectTrain") s := hG.2.2.2.2.2 (132, yX0_pass, "EffectTrain") (by decide +kernel)
  have w_8 := hts (.instanceMethod yX0_pass) (by decide +kernel)
  have w_9 := hts (.selects RX0 yX0_pass yX0_pass) (by decide +kernel)
  have w_10 : va_Nw (.methodLinkNest RX1 113 yX0_numberOf "EffectTrain") s := hG.2.2.2.2.2 (113, yX0_numberOf, "EffectTrain") (by decide +kernel)
  have w_11 := hts (.instanceMethod yX0_numberOf) (by decide +kernel)
  have w_12 := hts (.selects RX0 yX0_numberOf yX0_numberOf) (by decide +kernel)
  unfold f_X1_ahead at h
  refine lv_aload_n hx hb dX1_ahead_0 rfl (lv_at hl 0 rfl) ?_
  refine lv_iload_n hx hb dX1_ahead_1 rfl (lv_at hl 1 rfl) ?_
  rcases bx_l h with ⟨E_2, hv_1, ho_3⟩ | ⟨⟨⟩, hv_1, h⟩
  · subst ho_3
    exact Cx_thru (w0 := trW k cA nA tA T ++ stW k nA N ++ stW k tA V) hO rfl (vx_runV (As := [.int p1]) (rest := []) ⟨hx, hb, hml, hown, hts⟩ (c_X1_checkEffect l hst D k cA nA tA T N p1 (.inl E_2) hv_1 _) (cwV 1 hts gX1_ahead_X1_checkEffect rfl rfl rfl (by decide +kernel) ⟨Nat.le_of_ble_eq_true rfl, Nat.le_of_ble_eq_true rfl⟩) ⟨Px_blind, va_recv (q0 := 0) (ci := 1) hK hP rfl rfl, Px_at (wc := trW k cA nA tA T ++ stW k nA N) hK hG hP hD hS hA ([0, 1, 2, 3] ++ [4, 5, 6, 7, 8, 9, 10, 11, 12, 13, 14]) (hi_2 (hi_L rfl (hi_L rfl tr_hi)) (hi_L rfl (hi_R rfl st_hi))) (by decide)⟩ rfl rfl hl.1 rfl (Nat.le_of_ble_eq_true rfl) dX1_ahead_2 ⟨Nat.le_of_ble_eq_true rfl, Nat.le_of_ble_eq_true rfl⟩) hP hD hS hA ([0, 1, 2, 3] ++ [4, 5, 6, 7, 8, 9, 10, 11, 12, 13, 14]) (hi_2 (hi_L rfl (hi_L rfl tr_hi)) (hi_L rfl (hi_R rfl st_hi))) htab hlocks (Nat.le_of_ble_eq_true rfl) (Nat.le_of_ble_eq_true rfl)
  refine Cx_in (w0' := trW k cA nA tA T ++ stW k nA N ++ stW k tA V) (wc' := trW k cA nA tA T ++ stW k nA N) rfl (vx_runV (As := [.int p1]) (rest := []) ⟨hx, hb, hml, hown, hts⟩ (c_X1_checkEffect l hst D k cA nA tA T N p1 (.inr ()) hv_1 _) (cwV 1 hts gX1_ahead_X1_checkEffect rfl rfl rfl (by decide +kernel) ⟨Nat.le_of_ble_eq_true rfl, Nat.le_of_ble_eq_true rfl⟩) ⟨Px_blind, va_recv (q0 := 0) (ci := 1) hK hP rfl rfl, Px_at (wc := trW k cA nA tA T ++ stW k nA N) hK hG hP hD hS hA ([0, 1, 2, 3] ++ [4, 5, 6, 7, 8, 9, 10, 11, 12, 13, 14]) (hi_2 (hi_L rfl (hi_L rfl tr_hi)) (hi_L rfl (hi_R rfl st_hi))) (by decide)⟩ rfl rfl hl.1 rfl (Nat.le_of_ble_eq_true rfl) dX1_ahead_2 ⟨Nat.le_of_ble_eq_true rfl, Nat.le_of_ble_eq_true rfl⟩) hP hD hS hA ([0, 1, 2, 3] ++ [4, 5, 6, 7, 8, 9, 10, 11, 12, 13, 14]) (hi_2 (hi_L rfl (hi_L rfl tr_hi)) (hi_L rfl (hi_R rfl st_hi))) rfl (vs_2 rfl (vs_L rfl (vs_L rfl tr_all)) (vs_L rfl (vs_R rfl st_all))) (fun H locs hP hD hS => ?_)
  refine W.eq (g2 := F0 m 5 ls []) rfl ?_
  refine lv_iload_n hx hb dX1_ahead_5 rfl (lv_at hl 2 rfl) ?_
  refine lv_iconst (v := 0) hx hb dX1_ahead_6 (by decide) ?_
  refine lv_bipush (v := 99) hx hb dX1_ahead_7 (by decide) ?_
  rcases bx_l h with ⟨E_5, hv_4, ho_6⟩ | ⟨⟨⟩, hv_4, h⟩
  · subst ho_6
    exact Cx_thru (w0 := trW k cA nA tA T ++ stW k nA N ++ stW k tA V) hO rfl (vx_runS (As := [.int p2, .int 0, .int 99]) (rest := []) ⟨hx, hb, hml, hown, hts⟩ (c_X1_checkRange l hst D k  p2 0 99 (.inl E_5) hv_4 _) (va_cwS 3 hts gX1_ahead_X1_checkRange rfl rfl rfl (by decide +kernel) ⟨Nat.le_of_ble_eq_true rfl, Nat.le_of_ble_eq_true rfl⟩) ⟨Px_blind, Px_at (wc := ([] : va_W)) hK hG hP hD hS hA [] rfl (by decide)⟩ rfl rfl hl.1 rfl (Nat.le_of_ble_eq_true rfl) dX1_ahead_9 ⟨Nat.le_of_ble_eq_true rfl, Nat.le_of_ble_eq_true rfl⟩) hP hD hS hA [] rfl htab hlocks (Nat.le_of_ble_eq_true rfl) (Nat.le_of_ble_eq_true rfl)
  refine Cx_in (w0' := trW k cA nA tA T ++ stW k nA N ++ stW k tA V) (wc' := ([] : va_W)) rfl (vx_runS (As := [.int p2, .int 0, .int 99]) (rest := []) ⟨hx, hb, hml, hown, hts⟩ (c_X1_checkRange l hst D k  p2 0 99 (.inr ()) hv_4 _) (va_cwS 3 hts gX1_ahead_X1_checkRange rfl rfl rfl (by decide +kernel) ⟨Nat.le_of_ble_eq_true rfl, Nat.le_of_ble_eq_true rfl⟩) ⟨Px_blind, Px_at (wc := ([] : va_W)) hK hG hP hD hS hA [] rfl (by decide)⟩ rfl rfl hl.1 rfl (Nat.le_of_ble_eq_true rfl) dX1_ahead_9 ⟨Nat.le_of_ble_eq_true rfl, Nat.le_of_ble_eq_true rfl⟩) hP hD hS hA [] rfl rfl rfl (fun H locs hP hD hS => ?_)
  refine W.eq (g2 := F0 m 12 ls []) rfl ?_
  refine lv_iload_n hx hb dX1_ahead_12 rfl (lv_at hl 3 rfl) ?_
  refine lv_iconst (v := 0) hx hb dX1_ahead_13 (by decide) ?_
  refine lv_bipush (v := 9) hx hb dX1_ahead_14 (by decide) ?_
  rcases bx_l h with ⟨E_8, hv_7, ho_9⟩ | ⟨⟨⟩, hv_7, h⟩
  · subst ho_9
    exact Cx_thru (w0 := trW k cA nA tA T ++ stW k nA N ++ stW k tA V) hO rfl (vx_runS (As := [.int p3, .int 0, .int 9]) (rest := []) ⟨hx, hb, hml, hown, hts⟩ (c_X1_checkRange l hst D k  p3 0 9 (.inl E_8) hv_7 _) (va_cwS 3 hts gX1_ahead_X1_checkRange rfl rfl rfl (by decide +kernel) ⟨Nat.le_of_ble_eq_true rfl, Nat.le_of_ble_eq_true rfl⟩) ⟨Px_blind, Px_at (wc := ([] : va_W)) hK hG hP hD hS hA [] rfl (by decide)⟩ rfl rfl hl.1 rfl (Nat.le_of_ble_eq_true rfl) dX1_ahead_16 ⟨Nat.le_of_ble_eq_true rfl, Nat.le_of_ble_eq_true rfl⟩) hP hD hS hA [] rfl htab hlocks (Nat.le_of_ble_eq_true rfl) (Nat.le_of_ble_eq_true rfl)
  refine Cx_in (w0' := trW k cA nA tA T ++ stW k nA N ++ stW k tA V) (wc' := ([] : va_W)) rfl (vx_runS (As := [.int p3, .int 0, .int 9]) (rest := []) ⟨hx, hb, hml, hown, hts⟩ (c_X1_checkRange l hst D k  p3 0 9 (.inr ()) hv_7 _) (va_cwS 3 hts gX1_ahead_X1_checkRange rfl rfl rfl (by decide +kernel) ⟨Nat.le_of_ble_eq_true rfl, Nat.le_of_ble_eq_true rfl⟩) ⟨Px_blind, Px_at (wc := ([] : va_W)) hK hG hP hD hS hA [] rfl (by decide)⟩ rfl rfl hl.1 rfl (Nat.le_of_ble_eq_true rfl) dX1_ahead_16 ⟨Nat.le_of_ble_eq_true rfl, Nat.le_of_ble_eq_true rfl⟩) hP hD hS hA [] rfl rfl rfl (fun H locs hP hD hS => ?_)
  refine W.eq (g2 := F0 m 19 ls []) rfl ?_
  refine lv_aload_n hx hb dX1_ahead_19 rfl (lv_at hl 0 rfl) ?_
  refine va_get (D := D) (ci := 1) (v := .ref (tA 0)) (C := RX1) (T := TX1) (N := 11) hx hb hts w_1 hown hK hP 0 rfl rfl 4 (by decide) w_0 (fun _ h9 => h9) rfl dX1_ahead_20 ?_
  refine lv_aload_n hx hb dX1_ahead_23 rfl (lv_at hl 0 rfl) ?_
  refine va_get (D := D) (ci := 1) (v := .ref (nA 0)) (C := RX1) (T := TX1) (N := 11) hx hb hts w_1 hown hK hP 0 rfl rfl 3 (by decide) w_2 (fun _ h9 => h9) rfl dX1_ahead_24 ?_
  obtain ⟨q_10, hv_11, h⟩ := bd_l h
  refine Ck_VN (As := [.ref (nA 0)]) (rest := []) (wc := stW k tA V ++ stW k nA N) (wc' := stW k tA q_10 ++ stW k nA N) (w0' := trW k cA nA tA T ++ stW k nA N ++ stW k tA q_10) ⟨hx, hb, hml, hown, hts⟩ (c_X0_copyFrom l D k tA nA V N q_10 hv_11) ⟨va_cnB 1 hts gX1_ahead_X0_copyFrom_n155 rfl rfl rfl w_3 w_4 (by decide +kernel) ⟨Nat.le_of_ble_eq_true rfl, Nat.le_of_ble_eq_true rfl⟩, w_5, w_6⟩ hK hP hD hS hA (q0 := 15) (ci := 0) rfl rfl ([15, 16, 17, 18, 19, 20, 21, 22, 23, 24, 25] ++ [4, 5, 6, 7, 8, 9, 10, 11, 12, 13, 14]) (hi_2 (hi_R rfl st_hi) (hi_L rfl (hi_R rfl st_hi))) (by decide) rfl (vs_2 rfl (vs_R rfl st_all) (vs_L rfl (vs_R rfl st_all))) rfl hl.1 rfl (Nat.le_of_ble_eq_true rfl) dX1_ahead_27 ⟨Nat.le_of_ble_eq_true rfl, Nat.le_of_ble_eq_true rfl⟩ (fun H locs hP hD hS => ?_)
  refine W.eq (g2 := F0 m 30 ls []) rfl ?_
  refine lv_aload_n hx hb dX1_ahead_30 rfl (lv_at hl 0 rfl) ?_
  refine va_get (D := D) (ci := 1) (v := .ref (tA 0)) (C := RX1) (T := TX1) (N := 11) hx hb hts w_1 hown hK hP 0 rfl rfl 4 (by decide) w_0 (fun _ h9 => h9) rfl dX1_ahead_31 ?_
  refine lv_iload_n hx hb dX1_ahead_34 rfl (lv_at hl 2 rfl) ?_
  obtain ⟨⟨v_12, q_13⟩, hv_14, h⟩ := bd_l h
  refine Ck_VN (As := [.int p2]) (rest := []) (wc := stW k tA q_10) (wc' := stW k tA q_13) (w0' := trW k cA nA tA T ++ stW k nA N ++ stW k tA q_13) ⟨hx, hb, hml, hown, hts⟩ (c_X0_pass l D k tA q_10 p2 v_12 q_13 hv_14) ⟨va_cnB 1 hts gX1_ahead_X0_pass_n132 rfl rfl rfl w_7 w_4 (by decide +kernel) ⟨Nat.le_of_ble_eq_true rfl, Nat.le_of_ble_eq_true rfl⟩, w_8, w_9⟩ hK hP hD hS hA (q0 := 15) (ci := 0) rfl rfl ([15, 16, 17, 18, 19, 20, 21, 22, 23, 24, 25]) (hi_R rfl st_hi) (by decide) rfl (vs_R rfl st_all) rfl hl.1 rfl (Nat.le_of_ble_eq_true rfl) dX1_ahead_35 ⟨Nat.le_of_ble_eq_true rfl, Nat.le_of_ble_eq_true rfl⟩ (fun H locs hP hD hS => ?_)
  refine W.eq (g2 := F0 m 38 ls [.int v_12]) rfl ?_
  refine lv_pop hx hb dX1_ahead_38 rfl ?_
  refine lv_aload_n hx hb dX1_ahead_39 rfl (lv_at hl 0 rfl) ?_
  refine va_get (D := D) (ci := 1) (v := .ref (tA 0)) (C := RX1) (T := TX1) (N := 11) hx hb hts w_1 hown hK hP 0 rfl rfl 4 (by decide) w_0 (fun _ h9 => h9) rfl dX1_ahead_40 ?_
  refine lv_iload_n hx hb dX1_ahead_43 rfl (lv_at hl 1 rfl) ?_
  refine lv_iload_n hx hb dX1_ahead_44 rfl (lv_at hl 3 rfl) ?_
  obtain ⟨v_15, hv_16, h⟩ := bd_l h
  refine Ck_VN (As := [.int p1, .int p3]) (rest := []) (wc := stW k tA q_13) (wc' := stW k tA q_13) (w0' := trW k cA nA tA T ++ stW k nA N ++ stW k tA q_13) ⟨hx, hb, hml, hown, hts⟩ (c_X0_numberOf l D k tA q_13 p1 p3 v_15 hv_16) ⟨va_cnB 2 hts gX1_ahead_X0_numberOf_n113 rfl rfl rfl w_10 w_4 (by decide +kernel) ⟨Nat.le_of_ble_eq_true rfl, Nat.le_of_ble_eq_true rfl⟩, w_11, w_12⟩ hK hP hD hS hA (q0 := 15) (ci := 0) rfl rfl ([15, 16, 17, 18, 19, 20, 21, 22, 23, 24, 25]) (hi_R rfl st_hi) (by decide) rfl (vs_R rfl st_all) rfl hl.1 rfl (Nat.le_of_ble_eq_true rfl) dX1_ahead_45 ⟨Nat.le_of_ble_eq_true rfl, Nat.le_of_ble_eq_true rfl⟩ (fun H locs hP hD hS => ?_)
  refine W.eq (g2 := F0 m 48 ls [.int v_15]) rfl ?_
  cases h
  exact Cx_iret hO ⟨rfl, rfl⟩ (Nat.le_of_ble_eq_true rfl) (Nat.le_of_ble_eq_true rfl) hx hb hr hP hD hS dX1_ahead_48 hlocks
def f_X1_growth (T : TrV) (N : StV) (V : StV) (p1 : Int32) (p2 : Int32) : Option (String ⊕ (Int32 × StV)) := bx (f_X1_checkRange p1 1 99) fun ⟨⟩ => bx (f_X1_checkRange p2 0 9) fun ⟨⟩ => bd (f_X0_copyFrom V N) fun q_7 => bd (f_X0_pass q_7 p1) fun ⟨v_9, q_10⟩ => gb (inb p2 10) <| gb (inb p2 10) <| some (.inr ((((s_cou q_10) p2.toNatClampNeg) - ((s_cou N) p2.toNatClampNeg)), q_10))
set_option maxRecDepth 100000 in
set_option maxHeartbeats 4000000 in
theorem c_X1_growth (l : Launch) (hst : l.stackTraces = false) (D : va_G) (k : Nat → ClassId) (cA : Nat → Nat) (nA : Nat → Nat) (tA : Nat → Nat) (T : TrV) (N : StV) (V : StV) (p1 : Int32) (p2 : Int32) (o : String ⊕ (Int32 × StV)) (h : f_X1_growth T N V p1 p2 = some o) : Cx l D (tyK k) yX1_growth wsX1_growth ({ frames := 7, cells := 2, slots := 12, locals := 104 } : Room) [.ref (cA 0), .int p1, .int p2] (trW k cA nA tA T ++ stW k nA N ++ stW k tA V) (trW k cA nA tA T ++ stW k nA N ++ stW k tA V) (Sum.map id (fun r : Int32 × StV => fun (ov : Option Value) (w : va_W) => ov = (some (.int r.1) : Option Value) ∧ w = trW k cA nA tA T ++ stW k nA N ++ stW k tA r.2) o) := by
  obtain ⟨O, hO⟩ : ∃ O : Oc, O = Sum.map id (fun r : Int32 × StV => fun (ov : Option Value) (w : va_W) => ov = (some (.int r.1) : Option Value) ∧ w = trW k cA nA tA T ++ stW k nA N ++ stW k tA r.2) o := ⟨_, rfl⟩
  rw [← hO]
  refine Cx_of (cc := cX1_growth) (maxL := 3) (ret := (some .int)) (by decide) rfl (Nat.le_of_ble_eq_true rfl) ?_
  intro p e s m args below meth c A ls hx hb hr hml hts hown hlocks hnm htab hK hG hA hP hD hS hl
  have hl : lv_has ls 3 [(0, .ref (cA 0)), (1, .int p1), (2, .int p2)] := hl
  have hP : va_P D vwCl (trW k cA nA tA T ++ stW k nA N ++ stW k tA V) s.heap := hP
  have w_0 := hts (.fieldLink RX1 28 "EffectTrain" "trial" "LEffectTrain$State;") (by decide +kernel)
  have w_1 : ∀ w ∈ wsX10, w ∈ wsX1_growth := by decide +kernel
  have w_2 := hts (.fieldLink RX1 24 "EffectTrain" "now" "LEffectTrain$State;") (by decide +kernel)
  have w_3 : va_Nw (.methodLinkNest RX1 155 yX0_copyFrom "EffectTrain") s := hG.2.2.2.2.2 (155, yX0_copyFrom, "EffectTrain") (by decide +kernel)
  have w_4 := hts (.initialized RX0) (by decide +kernel)
  have w_5 := hts (.instanceMethod yX0_copyFrom) (by decide +kernel)
  have w_6 := hts (.selects RX0 yX0_copyFrom yX0_copyFrom) (by decide +kernel)
  have w_7 : va_Nw (.methodLinkNest RX1 132 yX0_pass "EffectTrain") s := hG.2.2.2.2.2 (132, yX0_pass, "EffectTrain") (by decide +kernel)
  have w_8 := hts (.instanceMethod yX0_pass) (by decide +kernel)
  have w_9 := hts (.selects RX0 yX0_pass yX0_pass) (by decide +kernel)
  have w_10 : (Cond.fieldLinkNest RX1 106 "EffectTrain$State" "counts" "[I" "EffectTrain").before args s = true := va_Nw.use rfl (hG.2.2.2.2.1 (106, "EffectTrain$State", "counts", "[I", "EffectTrain") (by decide +kernel))
  have w_11 : ∀ w ∈ wsX00, w ∈ wsX1_growth := by decide +kernel
  unfold f_X1_growth at h
  refine lv_iload_n hx hb dX1_growth_0 rfl (lv_at hl 1 rfl) ?_
  refine lv_iconst (v := 1) hx hb dX1_growth_1 (by decide) ?_
  refine lv_bipush (v := 99) hx hb dX1_growth_2 (by decide) ?_
  rcases bx_l h with ⟨E_2, hv_1, ho_3⟩ | ⟨⟨⟩, hv_1, h⟩
  · subst ho_3
    exact Cx_thru (w0 := trW k cA nA tA T ++ stW k nA N ++ stW k tA V) hO rfl (vx_runS (As := [.int p1, .int 1, .int 99]) (rest := []) ⟨hx, hb, hml, hown, hts⟩ (c_X1_checkRange l hst D k  p1 1 99 (.inl E_2) hv_1 _) (va_cwS 3 hts gX1_growth_X1_checkRange rfl rfl rfl (by decide +kernel) ⟨Nat.le_of_ble_eq_true rfl, Nat.le_of_ble_eq_true rfl⟩) ⟨Px_blind, Px_at (wc := ([] : va_W)) hK hG hP hD hS hA [] rfl (by decide)⟩ rfl rfl hl.1 rfl (Nat.le_of_ble_eq_true rfl) dX1_growth_4 ⟨Nat.le_of_ble_eq_true rfl, Nat.le_of_ble_eq_true rfl⟩) hP hD hS hA [] rfl htab hlocks (Nat.le_of_ble_eq_true rfl) (Nat.le_of_ble_eq_true rfl)
  refine Cx_in (w0' := trW k cA nA tA T ++ stW k nA N ++ stW k tA V) (wc' := ([] : va_W)) rfl (vx_runS (As := [.int p1, .int 1, .int 99]) (rest := []) ⟨hx, hb, hml, hown, hts⟩ (c_X1_checkRange l hst D k  p1 1 99 (.inr ()) hv_1 _) (va_cwS 3 hts gX1_growth_X1_checkRange rfl rfl rfl (by decide +kernel) ⟨Nat.le_of_ble_eq_true rfl, Nat.le_of_ble_eq_true rfl⟩) ⟨Px_blind, Px_at (wc := ([] : va_W)) hK hG hP hD hS hA [] rfl (by decide)⟩ rfl rfl hl.1 rfl (Nat.le_of_ble_eq_true rfl) dX1_growth_4 ⟨Nat.le_of_ble_eq_true rfl, Nat.le_of_ble_eq_true rfl⟩) hP hD hS hA [] rfl rfl rfl (fun H locs hP hD hS => ?_)
  refine W.eq (g2 := F0 m 7 ls []) rfl ?_
  refine lv_iload_n hx hb dX1_growth_7 rfl (lv_at hl 2 rfl) ?_
  refine lv_iconst (v := 0) hx hb dX1_growth_8 (by decide) ?_
  refine lv_bipush (v := 9) hx hb dX1_growth_9 (by decide) ?_
  rcases bx_l h with ⟨E_5, hv_4, ho_6⟩ | ⟨⟨⟩, hv_4, h⟩
  · subst ho_6
    exact Cx_thru (w0 := trW k cA nA tA T ++ stW k nA N ++ stW k tA V) hO rfl (vx_runS (As := [.int p2, .int 0, .int 9]) (rest := []) ⟨hx, hb, hml, hown, hts⟩ (c_X1_checkRange l hst D k  p2 0 9 (.inl E_5) hv_4 _) (va_cwS 3 hts gX1_growth_X1_checkRange rfl rfl rfl (by decide +kernel) ⟨Nat.le_of_ble_eq_true rfl, Nat.le_of_ble_eq_true rfl⟩) ⟨Px_blind, Px_at (wc := ([] : va_W)) hK hG hP hD hS hA [] rfl (by decide)⟩ rfl rfl hl.1 rfl (Nat.le_of_ble_eq_true rfl) dX1_growth_11 ⟨Nat.le_of_ble_eq_true rfl, Nat.le_of_ble_eq_true rfl⟩) hP hD hS hA [] rfl htab hlocks (Nat.le_of_ble_eq_true rfl) (Nat.le_of_ble_eq_true rfl)
  refine Cx_in (w0' := trW k cA nA tA T ++ stW k nA N ++ stW k tA V) (wc' := ([] : va_W)) rfl (vx_runS (As := [.int p2, .int 0, .int 9]) (rest := []) ⟨hx, hb, hml, hown, hts⟩ (c_X1_checkRange l hst D k  p2 0 9 (.inr ()) hv_4 _) (va_cwS 3 hts gX1_growth_X1_checkRange rfl rfl rfl (by decide +kernel) ⟨Nat.le_of_ble_eq_true rfl, Nat.le_of_ble_eq_true rfl⟩) ⟨Px_blind, Px_at (wc := ([] : va_W)) hK hG hP hD hS hA [] rfl (by decide)⟩ rfl rfl hl.1 rfl (Nat.le_of_ble_eq_true rfl) dX1_growth_11 ⟨Nat.le_of_ble_eq_true rfl, Nat.le_of_ble_eq_true rfl⟩) hP hD hS hA [] rfl rfl rfl (fun H locs hP hD hS => ?_)
  refine W.eq (g2 := F0 m 14 ls []) rfl ?_
  refine lv_aload_n hx hb dX1_growth_14 rfl (lv_at hl 0 rfl) ?_
  refine va_get (D := D) (ci := 1) (v := .ref (tA 0)) (C := RX1) (T := TX1) (N := 11) hx hb hts w_1 hown hK hP 0 rfl rfl 4 (by decide) w_0 (fun _ h9 => h9) rfl dX1_growth_15 ?_
  refine lv_aload_n hx hb dX1_growth_18 rfl (lv_at hl 0 rfl) ?_
  refine va_get (D := D) (ci := 1) (v := .ref (nA 0)) (C := RX1) (T := TX1) (N := 11) hx hb hts w_1 hown hK hP 0 rfl rfl 3 (by decide) w_2 (fun _ h9 => h9) rfl dX1_growth_19 ?_
  obtain ⟨q_7, hv_8, h⟩ := bd_l h
  refine Ck_VN (As := [.ref (nA 0)]) (rest := []) (wc := stW k tA V ++ stW k nA N) (wc' := stW k tA q_7 ++ stW k nA N) (w0' := trW k cA nA tA T ++ stW k nA N ++ stW k tA q_7) ⟨hx, hb, hml, hown, hts⟩ (c_X0_copyFrom l D k tA nA V N q_7 hv_8) ⟨va_cnB 1 hts gX1_growth_X0_copyFrom_n155 rfl rfl rfl w_3 w_4 (by decide +kernel) ⟨Nat.le_of_ble_eq_true rfl, Nat.le_of_ble_eq_true rfl⟩, w_5, w_6⟩ hK hP hD hS hA (q0 := 15) (ci := 0) rfl rfl ([15, 16, 17, 18, 19, 20, 21, 22, 23, 24, 25] ++ [4, 5, 6, 7, 8, 9, 10, 11, 12, 13, 14]) (hi_2 (hi_R rfl st_hi) (hi_L rfl (hi_R rfl st_hi))) (by decide) rfl (vs_2 rfl (vs_R rfl st_all) (vs_L rfl (vs_R rfl st_all))) rfl hl.1 rfl (Nat.le_of_ble_eq_true rfl) dX1_growth_22 ⟨Nat.le_of_ble_eq_true rfl, Nat.le_of_ble_eq_true rfl⟩ (fun H locs hP hD hS => ?_)
  refine W.eq (g2 := F0 m 25 ls []) rfl ?_
  refine lv_aload_n hx hb dX1_growth_25 rfl (lv_at hl 0 rfl) ?_
  refine va_get (D := D) (ci := 1) (v := .ref (tA 0)) (C := RX1) (T := TX1) (N := 11) hx hb hts w_1 hown hK hP 0 rfl rfl 4 (by decide) w_0 (fun _ h9 => h9) rfl dX1_growth_26 ?_
  refine lv_iload_n hx hb dX1_growth_29 rfl (lv_at hl 1 rfl) ?_
  obtain ⟨⟨v_9, q_10⟩, hv_11, h⟩ := bd_l h
  refine Ck_VN (As := [.int p1]) (rest := []) (wc := stW k tA q_7) (wc' := stW k tA q_10) (w0' := trW k cA nA tA T ++ stW k nA N ++ stW k tA q_10) ⟨hx, hb, hml, hown, hts⟩ (c_X0_pass l D k tA q_7 p1 v_9 q_10 hv_11) ⟨va_cnB 1 hts gX1_growth_X0_pass_n132 rfl rfl rfl w_7 w_4 (by decide +kernel) ⟨Nat.le_of_ble_eq_true rfl, Nat.le_of_ble_eq_true rfl⟩, w_8, w_9⟩ hK hP hD hS hA (q0 := 15) (ci := 0) rfl rfl ([15, 16, 17, 18, 19, 20, 21, 22, 23, 24, 25]) (hi_R rfl st_hi) (by decide) rfl (vs_R rfl st_all) rfl hl.1 rfl (Nat.le_of_ble_eq_true rfl) dX1_growth_30 ⟨Nat.le_of_ble_eq_true rfl, Nat.le_of_ble_eq_true rfl⟩ (fun H locs hP hD hS => ?_)
  refine W.eq (g2 := F0 m 33 ls [.int v_9]) rfl ?_
  refine lv_pop hx hb dX1_growth_33 rfl ?_
  refine lv_aload_n hx hb dX1_growth_34 rfl (lv_at hl 0 rfl) ?_
  refine va_get (D := D) (ci := 1) (v := .ref (tA 0)) (C := RX1) (T := TX1) (N := 11) hx hb hts w_1 hown hK hP 0 rfl rfl 4 (by decide) w_0 (fun _ h9 => h9) rfl dX1_growth_35 ?_
  refine va_getN (D := D) (ci := 0) (v := .ref (tA 2)) (C := RX0) (T := TX0) (N := 12) hx hb hts w_11 hown hK hP 15 rfl rfl 3 (by decide) w_10 (fun _ h9 => h9) rfl dX1_growth_38 ?_
  refine lv_iload_n hx hb dX1_growth_41 rfl (lv_at hl 2 rfl) ?_
  have g_12 := inb_vp (gb_l h)
  have h := gb_r h
  refine va_iald hx hb hK hP 17 0 rfl rfl g_12 dX1_growth_42 ?_
  refine lv_aload_n hx hb dX1_growth_43 rfl (lv_at hl 0 rfl) ?_
  refine va_get (D := D) (ci := 1) (v := .ref (nA 0)) (C := RX1) (T := TX1) (N := 11) hx hb hts w_1 hown hK hP 0 rfl rfl 3 (by decide) w_2 (fun _ h9 => h9) rfl dX1_growth_44 ?_
  refine va_getN (D := D) (ci := 0) (v := .ref (nA 2)) (C := RX0) (T := TX0) (N := 12) hx hb hts w_11 hown hK hP 4 rfl rfl 3 (by decide) w_10 (fun _ h9 => h9) rfl dX1_growth_47 ?_
  refine lv_iload_n hx hb dX1_growth_50 rfl (lv_at hl 2 rfl) ?_
  have g_13 := inb_vp (gb_l h)
  have h := gb_r h
  refine va_iald hx hb hK hP 6 0 rfl rfl g_13 dX1_growth_51 ?_
  refine lv_isub hx hb dX1_growth_52 ?_
  cases h
  exact Cx_iret hO ⟨rfl, rfl⟩ (Nat.le_of_ble_eq_true rfl) (Nat.le_of_ble_eq_true rfl) hx hb hr hP hD hS dX1_growth_53 hlocks
def f_X1_washGain (T : TrV) (N : StV) (V : StV) (p1 : Int32) (p2 : Int32) (p3 : Int32) : Option (String ⊕ (Int32 × StV)) := bx (f_X1_checkEffect T N p1) fun ⟨⟩ => bx (f_X1_checkRange p2 1 20) fun ⟨⟩ => bx (f_X1_checkRange p3 1 99) fun ⟨⟩ => bx (f_X1_checkWorks T N p1) fun ⟨⟩ => bd (f_X0_copyFrom V N) fun q_13 => bd (f_X0_pass q_13 p3) fun ⟨v_15, q_16⟩ => bd (f_X0_copyFrom q_16 N) fun q_18 => gb (inb p1 6) <| nm (su_lef q_18 (upd (s_lef q_18) p1.toNatClampNeg p2)) fun q_21 => bd (f_X0_pass q_21 p3) fun ⟨v_22, q_23⟩ => some (.inr ((v_22 - v_15), q_23))
set_option maxRecDepth 100000 in
set_option maxHeartbeats 4000000 in
theorem c_X1_washGain (l : Launch) (hst : l.stackTraces = false) (D : va_G) (k : Nat → ClassId) (cA : Nat → Nat) (nA : Nat → Nat) (tA : Nat → Nat) (T : TrV) (N : StV) (V : StV) (p1 : Int32) (p2 : Int32) (p3 : Int32) (o : String ⊕ (Int32 × StV)) (h : f_X1_washGain T N V p1 p2 p3 = some o) : Cx l D (tyK k) yX1_washGain wsX1_washGain ({ frames := 7, cells := 4, slots := 24, locals := 104 } : Room) [.ref (cA 0), .int p1, .int p2, .int p3] (trW k cA nA tA T ++ stW k nA N ++ stW k tA V) (trW k cA nA tA T ++ stW k nA N ++ stW k tA V) (Sum.map id (fun r : Int32 × StV => fun (ov : Option Value) (w : va_W) => ov = (some (.int r.1) : Option Value) ∧ w = trW k cA nA tA T ++ stW k nA N ++ stW k tA r.2) o) := by
  obtain ⟨O, hO⟩ : ∃ O : Oc, O = Sum.map id (fun r : Int32 × StV => fun (ov : Option Value) (w : va_W) => ov = (some (.int r.1) : Option Value) ∧ w = trW k cA nA tA T ++ stW k nA N ++ stW k tA r.2) o := ⟨_, rfl⟩
  rw [← hO]
  refine Cx_of (cc := cX1_washGain) (maxL := 5) (ret := (some .int)) (by decide) rfl (Nat.le_of_ble_eq_true rfl) ?_
  intro p e s m args below meth c A ls hx hb hr hml hts hown hlocks hnm htab hK hG hA hP hD hS hl
  have hl : lv_has ls 5 [(0, .ref (cA 0)), (1, .int p1), (2, .int p2), (3, .int p3)] := hl
  have hP : va_P D vwCl (trW k cA nA tA T ++ stW k nA N ++ stW k tA V) s.heap := hP
  have w_0 := hts (.fieldLink RX1 28 "EffectTrain" "trial" "LEffectTrain$State;") (by decide +kernel)
  have w_1 : ∀ w ∈ wsX10, w ∈ wsX1_washGain := by decide +kernel
  have w_2 := hts (.fieldLink RX1 24 "EffectTrain" "now" "LEffectTrain$State;") (by decide +kernel)
  have w_3 : va_Nw (.methodLinkNest RX1 155 yX0_copyFrom "EffectTrain") s := hG.2.2.2.2.2 (155, yX0_copyFrom, "EffectTrain") (by decide +kernel)
  have w_4 := hts (.initialized RX0) (by decide +kernel)
  have w_5 := hts (.instanceMethod yX0_copyFrom) (by decide +kernel)
  have w_6 := hts (.selects RX0 yX0_copyFrom yX0_copyFrom) (by decide +kernel)
  have w_7 : va_Nw (.methodLinkNest RX1 132 yX0_pass "EffectTrain") s := hG.2.2.2.2.2 (132, yX0_pass, "EffectTrain") (by decide +kernel)
  have w_8 := hts (.instanceMethod yX0_pass) (by decide +kernel)
  have w_9 := hts (.selects RX0 yX0_pass yX0_pass) (by decide +kernel)
  have w_10 : (Cond.fieldLinkNest RX1 144 "EffectTrain$State" "left" "[I" "EffectTrain").before args s = true := va_Nw.use rfl (hG.2.2.2.2.1 (144, "EffectTrain$State", "left", "[I", "EffectTrain") (by decide +kernel))
  have w_11 : ∀ w ∈ wsX00, w ∈ wsX1_washGain := by decide +kernel
  unfold f_X1_washGain at h
  refine lv_aload_n hx hb dX1_washGain_0 rfl (lv_at hl 0 rfl) ?_
  refine lv_iload_n hx hb dX1_washGain_1 rfl (lv_at hl 1 rfl) ?_
  rcases bx_l h with ⟨E_2, hv_1, ho_3⟩ | ⟨⟨⟩, hv_1, h⟩
  · subst ho_3
    exact Cx_thru (w0 := trW k cA nA tA T ++ stW k nA N ++ stW k tA V) hO rfl (vx_runV (As := [.int p1]) (rest := []) ⟨hx, hb, hml, hown, hts⟩ (c_X1_checkEffect l hst D k cA nA tA T N p1 (.inl E_2) hv_1 _) (cwV 1 hts gX1_washGain_X1_checkEffect rfl rfl rfl (by decide +kernel) ⟨Nat.le_of_ble_eq_true rfl, Nat.le_of_ble_eq_true rfl⟩) ⟨Px_blind, va_recv (q0 := 0) (ci := 1) hK hP rfl rfl, Px_at (wc := trW k cA nA tA T ++ stW k nA N) hK hG hP hD hS hA ([0, 1, 2, 3] ++ [4, 5, 6, 7, 8, 9, 10, 11, 12, 13, 14]) (hi_2 (hi_L rfl (hi_L rfl tr_hi)) (hi_L rfl (hi_R rfl st_hi))) (by decide)⟩ rfl rfl hl.1 rfl (Nat.le_of_ble_eq_true rfl) dX1_washGain_2 ⟨Nat.le_of_ble_eq_true rfl, Nat.le_of_ble_eq_true rfl⟩) hP hD hS hA ([0, 1, 2, 3] ++ [4, 5, 6, 7, 8, 9, 10, 11, 12, 13, 14]) (hi_2 (hi_L rfl (hi_L rfl tr_hi)) (hi_L rfl (hi_R rfl st_hi))) htab hlocks (Nat.le_of_ble_eq_true rfl) (Nat.le_of_ble_eq_true rfl)
  refine Cx_in (w0' := trW k cA nA tA T ++ stW k nA N ++ stW k tA V) (wc' := trW k cA nA tA T ++ stW k nA N) rfl (vx_runV (As := [.int p1]) (rest := []) ⟨hx, hb, hml, hown, hts⟩ (c_X1_checkEffect l hst D k cA nA tA T N p1 (.inr ()) hv_1 _) (cwV 1 hts gX1_washGain_X1_checkEffect rfl rfl rfl (by decide +kernel) ⟨Nat.le_of_ble_eq_true rfl, Nat.le_of_ble_eq_true rfl⟩) ⟨Px_blind, va_recv (q0 := 0) (ci := 1) hK hP rfl rfl, Px_at (wc := trW k cA nA tA T ++ stW k nA N) hK hG hP hD hS hA ([0, 1, 2, 3] ++ [4, 5, 6, 7, 8, 9, 10, 11, 12, 13, 14]) (hi_2 (hi_L rfl (hi_L rfl tr_hi)) (hi_L rfl (hi_R rfl st_hi))) (by decide)⟩ rfl rfl hl.1 rfl (Nat.le_of_ble_eq_true rfl) dX1_washGain_2 ⟨Nat.le_of_ble_eq_true rfl, Nat.le_of_ble_eq_true rfl⟩) hP hD hS hA ([0, 1, 2, 3] ++ [4, 5, 6, 7, 8, 9, 10, 11, 12, 13, 14]) (hi_2 (hi_L rfl (hi_L rfl tr_hi)) (hi_L rfl (hi_R rfl st_hi))) rfl (vs_2 rfl (vs_L rfl (vs_L rfl tr_all)) (vs_L rfl (vs_R rfl st_all))) (fun H locs hP hD hS => ?_)
  refine W.eq (g2 := F0 m 5 ls []) rfl ?_
  refine lv_iload_n hx hb dX1_washGain_5 rfl (lv_at hl 2 rfl) ?_
  refine lv_iconst (v := 1) hx hb dX1_washGain_6 (by decide) ?_
  refine lv_bipush (v := 20) hx hb dX1_washGain_7 (by decide) ?_
  rcases bx_l h with ⟨E_5, hv_4, ho_6⟩ | ⟨⟨⟩, hv_4, h⟩
  · subst ho_6
    exact Cx_thru (w0 := trW k cA nA tA T ++ stW k nA N ++ stW k tA V) hO rfl (vx_runS (As := [.int p2, .int 1, .int 20]) (rest := []) ⟨hx, hb, hml, hown, hts⟩ (c_X1_checkRange l hst D k  p2 1 20 (.inl E_5) hv_4 _) (va_cwS 3 hts gX1_washGain_X1_checkRange rfl rfl rfl (by decide +kernel) ⟨Nat.le_of_ble_eq_true rfl, Nat.le_of_ble_eq_true rfl⟩) ⟨Px_blind, Px_at (wc := ([] : va_W)) hK hG hP hD hS hA [] rfl (by decide)⟩ rfl rfl hl.1 rfl (Nat.le_of_ble_eq_true rfl) dX1_washGain_9 ⟨Nat.le_of_ble_eq_true rfl, Nat.le_of_ble_eq_true rfl⟩) hP hD hS hA [] rfl htab hlocks (Nat.le_of_ble_eq_true rfl) (Nat.le_of_ble_eq_true rfl)
  refine Cx_in (w0' := trW k cA nA tA T ++ stW k nA N ++ stW k tA V) (wc' := ([] : va_W)) rfl (vx_runS (As := [.int p2, .int 1, .int 20]) (rest := []) ⟨hx, hb, hml, hown, hts⟩ (c_X1_checkRange l hst D k  p2 1 20 (.inr ()) hv_4 _) (va_cwS 3 hts gX1_washGain_X1_checkRange rfl rfl rfl (by decide +kernel) ⟨Nat.le_of_ble_eq_true rfl, Nat.le_of_ble_eq_true rfl⟩) ⟨Px_blind, Px_at (wc := ([] : va_W)) hK hG hP hD hS hA [] rfl (by decide)⟩ rfl rfl hl.1 rfl (Nat.le_of_ble_eq_true rfl) dX1_washGain_9 ⟨Nat.le_of_ble_eq_true rfl, Nat.le_of_ble_eq_true rfl⟩) hP hD hS hA [] rfl rfl rfl (fun H locs hP hD hS => ?_)
  refine W.eq (g2 := F0 m 12 ls []) rfl ?_
  refine lv_iload_n hx hb dX1_washGain_12 rfl (lv_at hl 3 rfl) ?_
  refine lv_iconst (v := 1) hx hb dX1_washGain_13 (by decide) ?_
  refine lv_bipush (v := 99) hx hb dX1_washGain_14 (by decide) ?_
  rcases bx_l h with ⟨E_8, hv_7, ho_9⟩ | ⟨⟨⟩, hv_7, h⟩
  · subst ho_9
    exact Cx_thru (w0 := trW k cA nA tA T ++ stW k nA N ++ stW k tA V) hO rfl (vx_runS (As := [.int p3, .int 1, .int 99]) (rest := []) ⟨hx, hb, hml, hown, hts⟩ (c_X1_checkRange l hst D k  p3 1 99 (.inl E_8) hv_7 _) (va_cwS 3 hts gX1_washGain_X1_checkRange rfl rfl rfl (by decide +kernel) ⟨Nat.le_of_ble_eq_true rfl, Nat.le_of_ble_eq_true rfl⟩) ⟨Px_blind, Px_at (wc := ([] : va_W)) hK hG hP hD hS hA [] rfl (by decide)⟩ rfl rfl hl.1 rfl (Nat.le_of_ble_eq_true rfl) dX1_washGain_16 ⟨Nat.le_of_ble_eq_true rfl, Nat.le_of_ble_eq_true rfl⟩) hP hD hS hA [] rfl htab hlocks (Nat.le_of_ble_eq_true rfl) (Nat.le_of_ble_eq_true rfl)
  refine Cx_in (w0' := trW k cA nA tA T ++ stW k nA N ++ stW k tA V) (wc' := ([] : va_W)) rfl (vx_runS (As := [.int p3, .int 1, .int 99]) (rest := []) ⟨hx, hb, hml, hown, hts⟩ (c_X1_checkRange l hst D k  p3 1 99 (.inr ()) hv_7 _) (va_cwS 3 hts gX1_washGain_X1_checkRange rfl rfl rfl (by decide +kernel) ⟨Nat.le_of_ble_eq_true rfl, Nat.le_of_ble_eq_true rfl⟩) ⟨Px_blind, Px_at (wc := ([] : va_W)) hK hG hP hD hS hA [] rfl (by decide)⟩ rfl rfl hl.1 rfl (Nat.le_of_ble_eq_true rfl) dX1_washGain_16 ⟨Nat.le_of_ble_eq_true rfl, Nat.le_of_ble_eq_true rfl⟩) hP hD hS hA [] rfl rfl rfl (fun H locs hP hD hS => ?_)
  refine W.eq (g2 := F0 m 19 ls []) rfl ?_
  refine lv_aload_n hx hb dX1_washGain_19 rfl (lv_at hl 0 rfl) ?_
  refine lv_iload_n hx hb dX1_washGain_20 rfl (lv_at hl 1 rfl) ?_
  rcases bx_l h with ⟨E_11, hv_10, ho_12⟩ | ⟨⟨⟩, hv_10, h⟩
  · subst ho_12
    exact Cx_thru (w0 := trW k cA nA tA T ++ stW k nA N ++ stW k tA V) hO rfl (vx_runV (As := [.int p1]) (rest := []) ⟨hx, hb, hml, hown, hts⟩ (c_X1_checkWorks l hst D k cA nA tA T N p1 (.inl E_11) hv_10 _) (cwV 1 hts gX1_washGain_X1_checkWorks rfl rfl rfl (by decide +kernel) ⟨Nat.le_of_ble_eq_true rfl, Nat.le_of_ble_eq_true rfl⟩) ⟨Px_blind, va_recv (q0 := 0) (ci := 1) hK hP rfl rfl, Px_at (wc := trW k cA nA tA T ++ stW k nA N) hK hG hP hD hS hA ([0, 1, 2, 3] ++ [4, 5, 6, 7, 8, 9, 10, 11, 12, 13, 14]) (hi_2 (hi_L rfl (hi_L rfl tr_hi)) (hi_L rfl (hi_R rfl st_hi))) (by decide)⟩ rfl rfl hl.1 rfl (Nat.le_of_ble_eq_true rfl) dX1_washGain_21 ⟨Nat.le_of_ble_eq_true rfl, Nat.le_of_ble_eq_true rfl⟩) hP hD hS hA ([0, 1, 2, 3] ++ [4, 5, 6, 7, 8, 9, 10, 11, 12, 13, 14]) (hi_2 (hi_L rfl (hi_L rfl tr_hi)) (hi_L rfl (hi_R rfl st_hi))) htab hlocks (Nat.le_of_ble_eq_true rfl) (Nat.le_of_ble_eq_true rfl)
  refine Cx_in (w0' := trW k cA nA tA T ++ stW k nA N ++ stW k tA V) (wc' := trW k cA nA tA T ++ stW k nA N) rfl (vx_runV (As := [.int p1]) (rest := []) ⟨hx, hb, hml, hown, hts⟩ (c_X1_checkWorks l hst D k cA nA tA T N p1 (.inr ()) hv_10 _) (cwV 1 hts gX1_washGain_X1_checkWorks rfl rfl rfl (by decide +kernel) ⟨Nat.le_of_ble_eq_true rfl, Nat.le_of_ble_eq_true rfl⟩) ⟨Px_blind, va_recv (q0 := 0) (ci := 1) hK hP rfl rfl, Px_at (wc := trW k cA nA tA T ++ stW k nA N) hK hG hP hD hS hA ([0, 1, 2, 3] ++ [4, 5, 6, 7, 8, 9, 10, 11, 12, 13, 14]) (hi_2 (hi_L rfl (hi_L rfl tr_hi)) (hi_L rfl (hi_R rfl st_hi))) (by decide)⟩ rfl rfl hl.1 rfl (Nat.le_of_ble_eq_true rfl) dX1_washGain_21 ⟨Nat.le_of_ble_eq_true rfl, Nat.le_of_ble_eq_true rfl⟩) hP hD hS hA ([0, 1, 2, 3] ++ [4, 5, 6, 7, 8, 9, 10, 11, 12, 13, 14]) (hi_2 (hi_L rfl (hi_L rfl tr_hi)) (hi_L rfl (hi_R rfl st_hi))) rfl (vs_2 rfl (vs_L rfl (vs_L rfl tr_all)) (vs_L rfl (vs_R rfl st_all))) (fun H locs hP hD hS => ?_)
  refine W.eq (g2 := F0 m 24 ls []) rfl ?_
  refine lv_aload_n hx hb dX1_washGain_24 rfl (lv_at hl 0 rfl) ?_
  refine va_get (D := D) (ci := 1) (v := .ref (tA 0)) (C := RX1) (T := TX1) (N := 11) hx hb hts w_1 hown hK hP 0 rfl rfl 4 (by decide) w_0 (fun _ h9 => h9) rfl dX1_washGain_25 ?_
  refine lv_aload_n hx hb dX1_washGain_28 rfl (lv_at hl 0 rfl) ?_
  refine va_get (D := D) (ci := 1) (v := .ref (nA 0)) (C := RX1) (T := TX1) (N := 11) hx hb hts w_1 hown hK hP 0 rfl rfl 3 (by decide) w_2 (fun _ h9 => h9) rfl dX1_washGain_29 ?_
  obtain ⟨q_13, hv_14, h⟩ := bd_l h
  refine Ck_VN (As := [.ref (nA 0)]) (rest := []) (wc := stW k tA V ++ stW k nA N) (wc' := stW k tA q_13 ++ stW k nA N) (w0' := trW k cA nA tA T ++ stW k nA N ++ stW k tA q_13) ⟨hx, hb, hml, hown, hts⟩ (c_X0_copyFrom l D k tA nA V N q_13 hv_14) ⟨va_cnB 1 hts gX1_washGain_X0_copyFrom_n155 rfl rfl rfl w_3 w_4 (by decide +kernel) ⟨Nat.le_of_ble_eq_true rfl, Nat.le_of_ble_eq_true rfl⟩, w_5, w_6⟩ hK hP hD hS hA (q0 := 15) (ci := 0) rfl rfl ([15, 16, 17, 18, 19, 20, 21, 22, 23, 24, 25] ++ [4, 5, 6, 7, 8, 9, 10, 11, 12, 13, 14]) (hi_2 (hi_R rfl st_hi) (hi_L rfl (hi_R rfl st_hi))) (by decide) rfl (vs_2 rfl (vs_R rfl st_all) (vs_L rfl (vs_R rfl st_all))) rfl hl.1 rfl (Nat.le_of_ble_eq_true rfl) dX1_washGain_32 ⟨Nat.le_of_ble_eq_true rfl, Nat.le_of_ble_eq_true rfl⟩ (fun H locs hP hD hS => ?_)
  refine W.eq (g2 := F0 m 35 ls []) rfl ?_
  refine lv_aload_n hx hb dX1_washGain_35 rfl (lv_at hl 0 rfl) ?_
  refine va_get (D := D) (ci := 1) (v := .ref (tA 0)) (C := RX1) (T := TX1) (N := 11) hx hb hts w_1 hown hK hP 0 rfl rfl 4 (by decide) w_0 (fun _ h9 => h9) rfl dX1_washGain_36 ?_
  refine lv_iload_n hx hb dX1_washGain_39 rfl (lv_at hl 3 rfl) ?_
  obtain ⟨⟨v_15, q_16⟩, hv_17, h⟩ := bd_l h
  refine Ck_VN (As := [.int p3]) (rest := []) (wc := stW k tA q_13) (wc' := stW k tA q_16) (w0' := trW k cA nA tA T ++ stW k nA N ++ stW k tA q_16) ⟨hx, hb, hml, hown, hts⟩ (c_X0_pass l D k tA q_13 p3 v_15 q_16 hv_17) ⟨va_cnB 1 hts gX1_washGain_X0_pass_n132 rfl rfl rfl w_7 w_4 (by decide +kernel) ⟨Nat.le_of_ble_eq_true rfl, Nat.le_of_ble_eq_true rfl⟩, w_8, w_9⟩ hK hP hD hS hA (q0 := 15) (ci := 0) rfl rfl ([15, 16, 17, 18, 19, 20, 21, 22, 23, 24, 25]) (hi_R rfl st_hi) (by decide) rfl (vs_R rfl st_all) rfl hl.1 rfl (Nat.le_of_ble_eq_true rfl) dX1_washGain_40 ⟨Nat.le_of_ble_eq_true rfl, Nat.le_of_ble_eq_true rfl⟩ (fun H locs hP hD hS => ?_)
  refine W.eq (g2 := F0 m 43 ls [.int v_15]) rfl ?_
  refine lv_istore (lv' := [(4, .int v_15), (0, .ref (cA 0)), (1, .int p1), (2, .int p2), (3, .int p3)]) hx hb dX1_washGain_43 hl (by decide) rfl (fun ls hl => ?_)
  refine lv_aload_n hx hb dX1_washGain_45 rfl (lv_at hl 1 rfl) ?_
  refine va_get (D := D) (ci := 1) (v := .ref (tA 0)) (C := RX1) (T := TX1) (N := 11) hx hb hts w_1 hown hK hP 0 rfl rfl 4 (by decide) w_0 (fun _ h9 => h9) rfl dX1_washGain_46 ?_
  refine lv_aload_n hx hb dX1_washGain_49 rfl (lv_at hl 1 rfl) ?_
  refine va_get (D := D) (ci := 1) (v := .ref (nA 0)) (C := RX1) (T := TX1) (N := 11) hx hb hts w_1 hown hK hP 0 rfl rfl 3 (by decide) w_2 (fun _ h9 => h9) rfl dX1_washGain_50 ?_
  obtain ⟨q_18, hv_19, h⟩ := bd_l h
  refine Ck_VN (As := [.ref (nA 0)]) (rest := []) (wc := stW k tA q_16 ++ stW k nA N) (wc' := stW k tA q_18 ++ stW k nA N) (w0' := trW k cA nA tA T ++ stW k nA N ++ stW k tA q_18) ⟨hx, hb, hml, hown, hts⟩ (c_X0_copyFrom l D k tA nA q_16 N q_18 hv_19) ⟨va_cnB 1 hts gX1_washGain_X0_copyFrom_n155 rfl rfl rfl w_3 w_4 (by decide +kernel) ⟨Nat.le_of_ble_eq_true rfl, Nat.le_of_ble_eq_true rfl⟩, w_5, w_6⟩ hK hP hD hS hA (q0 := 15) (ci := 0) rfl rfl ([15, 16, 17, 18, 19, 20, 21, 22, 23, 24, 25] ++ [4, 5, 6, 7, 8, 9, 10, 11, 12, 13, 14]) (hi_2 (hi_R rfl st_hi) (hi_L rfl (hi_R rfl st_hi))) (by decide) rfl (vs_2 rfl (vs_R rfl st_all) (vs_L rfl (vs_R rfl st_all))) rfl hl.1 rfl (Nat.le_of_ble_eq_true rfl) dX1_washGain_53 ⟨Nat.le_of_ble_eq_true rfl, Nat.le_of_ble_eq_true rfl⟩ (fun H locs hP hD hS => ?_)
  refine W.eq (g2 := F0 m 56 ls []) rfl ?_
  refine lv_aload_n hx hb dX1_washGain_56 rfl (lv_at hl 1 rfl) ?_
  refine va_get (D := D) (ci := 1) (v := .ref (tA 0)) (C := RX1) (T := TX1) (N := 11) hx hb hts w_1 hown hK hP 0 rfl rfl 4 (by decide) w_0 (fun _ h9 => h9) rfl dX1_washGain_57 ?_
  refine va_getN (D := D) (ci := 0) (v := .ref (tA 10)) (C := RX0) (T := TX0) (N := 12) hx hb hts w_11 hown hK hP 15 rfl rfl 11 (by decide) w_10 (fun _ h9 => h9) rfl dX1_washGain_60 ?_
  refine lv_iload_n hx hb dX1_washGain_63 rfl (lv_at hl 2 rfl) ?_
  refine lv_iload_n hx hb dX1_washGain_64 rfl (lv_at hl 3 rfl) ?_
  have g_20 := inb_vp (gb_l h)
  have h := gb_r h
  refine va_iast hx hb hK hP hD hS 25 0 rfl rfl g_20 dX1_washGain_65 (fun H locs hP hD hS => ?_)
  obtain ⟨q_21, eq_21⟩ : ∃ y : StV, y = su_lef q_18 (upd (s_lef q_18) p1.toNatClampNeg p2) := ⟨_, rfl⟩
  have hP : va_P D vwCl (trW k cA nA tA T ++ stW k nA N ++ stW k tA q_21) H := by rw [eq_21, ← st_set_lef k tA q_18 _, ← set_appR3 (A := trW k cA nA tA T ++ stW k nA N) (q := 25) (q' := 10) rfl]; exact hP
  have hD : va_D A (trW k cA nA tA T ++ stW k nA N ++ stW k tA q_21) := by rw [eq_21, ← st_set_lef k tA q_18 _, ← set_appR3 (A := trW k cA nA tA T ++ stW k nA N) (q := 25) (q' := 10) rfl]; exact hD
  have h := nm_l h eq_21
  refine lv_aload_n hx hb dX1_washGain_66 rfl (lv_at hl 1 rfl) ?_
  refine va_get (D := D) (ci := 1) (v := .ref (tA 0)) (C := RX1) (T := TX1) (N := 11) hx hb hts w_1 hown hK hP 0 rfl rfl 4 (by decide) w_0 (fun _ h9 => h9) rfl dX1_washGain_67 ?_
  refine lv_iload_n hx hb dX1_washGain_70 rfl (lv_at hl 4 rfl) ?_
  obtain ⟨⟨v_22, q_23⟩, hv_24, h⟩ := bd_l h
  refine Ck_VN (As := [.int p3]) (rest := []) (wc := stW k tA q_21) (wc' := stW k tA q_23) (w0' := trW k cA nA tA T ++ stW k nA N ++ stW k tA q_23) ⟨hx, hb, hml, hown, hts⟩ (c_X0_pass l D k tA q_21 p3 v_22 q_23 hv_24) ⟨va_cnB 1 hts gX1_washGain_X0_pass_n132 rfl rfl rfl w_7 w_4 (by decide +kernel) ⟨Nat.le_of_ble_eq_true rfl, Nat.le_of_ble_eq_true rfl⟩, w_8, w_9⟩ hK hP hD hS hA (q0 := 15) (ci := 0) rfl rfl ([15, 16, 17, 18, 19, 20, 21, 22, 23, 24, 25]) (hi_R rfl st_hi) (by decide) rfl (vs_R rfl st_all) rfl hl.1 rfl (Nat.le_of_ble_eq_true rfl) dX1_washGain_71 ⟨Nat.le_of_ble_eq_true rfl, Nat.le_of_ble_eq_true rfl⟩ (fun H locs hP hD hS => ?_)
  refine W.eq (g2 := F0 m 74 ls [.int v_22]) rfl ?_
  refine lv_iload hx hb dX1_washGain_74 (lv_at hl 0 rfl) ?_
  refine lv_isub hx hb dX1_washGain_76 ?_
  cases h
  exact Cx_iret hO ⟨rfl, rfl⟩ (Nat.le_of_ble_eq_true rfl) (Nat.le_of_ble_eq_true rfl) hx hb hr hP hD hS dX1_washGain_77 hlocks
def f_X1_scaledAfter_25 (p1 : Int32) (p2 : Int32) : Nat → Int32 → StV → Option (String ⊕ (Int32 × StV))
  | 0, _, _ => none
  | fu + 1, x3_25, V_25 => if 200 < x3_25 then (some (.inr ((-9), V_25))) else (gb (inb p1 6) <| if ((s_sca V_25) p1.toNatClampNeg) < p2 then (bd (f_X0_pass V_25 1) fun ⟨v_4, q_5⟩ => (f_X1_scaledAfter_25 p1 p2 fu) (x3_25 + 1) q_5) else (some (.inr (x3_25, V_25))))
def f_X1_scaledAfter (T : TrV) (N : StV) (V : StV) (p1 : Int32) (p2 : Int32) : Option (String ⊕ (Int32 × StV)) := bx (f_X1_checkEffect T N p1) fun ⟨⟩ => bx (f_X1_checkRange p2 1 99) fun ⟨⟩ => bd (f_X0_copyFrom V N) fun q_13 => f_X1_scaledAfter_25 p1 p2 2000 0 q_13
set_option maxRecDepth 100000 in
set_option maxHeartbeats 4000000 in
theorem c_X1_scaledAfter (l : Launch) (hst : l.stackTraces = false) (D : va_G) (k : Nat → ClassId) (cA : Nat → Nat) (nA : Nat → Nat) (tA : Nat → Nat) (T : TrV) (N : StV) (V : StV) (p1 : Int32) (p2 : Int32) (o : String ⊕ (Int32 × StV)) (h : f_X1_scaledAfter T N V p1 p2 = some o) : Cx l D (tyK k) yX1_scaledAfter wsX1_scaledAfter ({ frames := 7, cells := 7, slots := 42, locals := 104 } : Room) [.ref (cA 0), .int p1, .int p2] (trW k cA nA tA T ++ stW k nA N ++ stW k tA V) (trW k cA nA tA T ++ stW k nA N ++ stW k tA V) (Sum.map id (fun r : Int32 × StV => fun (ov : Option Value) (w : va_W) => ov = (some (.int r.1) : Option Value) ∧ w = trW k cA nA tA T ++ stW k nA N ++ stW k tA r.2) o) := by
  obtain ⟨O, hO⟩ : ∃ O : Oc, O = Sum.map id (fun r : Int32 × StV => fun (ov : Option Value) (w : va_W) => ov = (some (.int r.1) : Option Value) ∧ w = trW k cA nA tA T ++ stW k nA N ++ stW k tA r.2) o := ⟨_, rfl⟩
  rw [← hO]
  refine Cx_of (cc := cX1_scaledAfter) (maxL := 4) (ret := (some .int)) (by decide) rfl (Nat.le_of_ble_eq_true rfl) ?_
  intro p e s m args below meth c A ls hx hb hr hml hts hown hlocks hnm htab hK hG hA hP hD hS hl
  have hl : lv_has ls 4 [(0, .ref (cA 0)), (1, .int p1), (2, .int p2)] := hl
  have hP : va_P D vwCl (trW k cA nA tA T ++ stW k nA N ++ stW k tA V) s.heap := hP
  have w_0 := hts (.fieldLink RX1 28 "EffectTrain" "trial" "LEffectTrain$State;") (by decide +kernel)
  have w_1 : ∀ w ∈ wsX10, w ∈ wsX1_scaledAfter := by decide +kernel
  have w_2 : (Cond.fieldLinkNest RX1 172 "EffectTrain$State" "scale" "[I" "EffectTrain").before args s = true := va_Nw.use rfl (hG.2.2.2.2.1 (172, "EffectTrain$State", "scale", "[I", "EffectTrain") (by decide +kernel))
  have w_3 : ∀ w ∈ wsX00, w ∈ wsX1_scaledAfter := by decide +kernel
  have w_4 : va_Nw (.methodLinkNest RX1 132 yX0_pass "EffectTrain") s := hG.2.2.2.2.2 (132, yX0_pass, "EffectTrain") (by decide +kernel)
  have w_5 := hts (.initialized RX0) (by decide +kernel)
  have w_6 := hts (.instanceMethod yX0_pass) (by decide +kernel)
  have w_7 := hts (.selects RX0 yX0_pass yX0_pass) (by decide +kernel)
  have w_8 := hts (.fieldLink RX1 24 "EffectTrain" "now" "LEffectTrain$State;") (by decide +kernel)
  have w_9 : va_Nw (.methodLinkNest RX1 155 yX0_copyFrom "EffectTrain") s := hG.2.2.2.2.2 (155, yX0_copyFrom, "EffectTrain") (by decide +kernel)
  have w_10 := hts (.instanceMethod yX0_copyFrom) (by decide +kernel)
  have w_11 := hts (.selects RX0 yX0_copyFrom yX0_copyFrom) (by decide +kernel)
  unfold f_X1_scaledAfter at h
  have hC_25 : ∀ (fu_25 : Nat) (x3_25 : Int32) (V_25 : StV) (H : Heap) (locs : List Loc) (ls : Array Slot), va_P D vwCl (trW k cA nA tA T ++ stW k nA N ++ stW k tA V_25) H → va_D A (trW k cA nA tA T ++ stW k nA N ++ stW k tA V_25) → va_S A s.heap H locs → lv_has ls 4 [(0, .ref (cA 0)), (1, .int p1), (2, .int p2), (3, .int x3_25)] → f_X1_scaledAfter_25 p1 p2 fu_25 x3_25 V_25 = some o → W p l e ({ frames := 7, cells := 7, slots := 42, locals := 104 } : Room) s m args below meth c H locs 6 36 (vx_MQ below (Qx D A O) (Xx D A (trW k cA nA tA T ++ stW k nA N ++ stW k tA V) O) args s 7 42 A) (F0 m 25 ls []) := by
    intro fu_25
    induction fu_25 with
    | zero => intro x3_25 V_25 H locs ls _ _ _ _ h; exact (no_l h).elim
    | succ fu_25 ih_25 =>
      intro x3_25 V_25 H locs ls hP hD hS hl h
      rw [f_X1_scaledAfter_25] at h
      refine lv_iload_n hx hb dX1_scaledAfter_25 rfl (lv_at hl 3 rfl) ?_
      refine lv_sipush (v := 200) hx hb dX1_scaledAfter_26 (by decide) ?_
      refine lv_icmp_gt (tgt := 62) hx hb dX1_scaledAfter_29 (by decide) (fun c_1 => ?_) (fun c_1 => ?_)
      · have h := it_l c_1 h
        refine lv_bipush (v := (-9)) hx hb dX1_scaledAfter_62 (by decide) ?_
        cases h
        exact Cx_iret hO ⟨rfl, rfl⟩ (Nat.le_of_ble_eq_true rfl) (Nat.le_of_ble_eq_true rfl) hx hb hr hP hD hS dX1_scaledAfter_64 hlocks
      · have h := it_r c_1 h
        refine lv_aload_n hx hb dX1_scaledAfter_32 rfl (lv_at hl 0 rfl) ?_
        refine va_get (D := D) (ci := 1) (v := .ref (tA 0)) (C := RX1) (T := TX1) (N := 11) hx hb hts w_1 hown hK hP 0 rfl rfl 4 (by decide) w_0 (fun _ h9 => h9) rfl dX1_scaledAfter_33 ?_
        refine va_getN (D := D) (ci := 0) (v := .ref (tA 8)) (C := RX0) (T := TX0) (N := 12) hx hb hts w_3 hown hK hP 15 rfl rfl 9 (by decide) w_2 (fun _ h9 => h9) rfl dX1_scaledAfter_36 ?_
        refine lv_iload_n hx hb dX1_scaledAfter_39 rfl (lv_at hl 1 rfl) ?_
        have g_2 := inb_vp (gb_l h)
        have h := gb_r h
        refine va_iald hx hb hK hP 23 0 rfl rfl g_2 dX1_scaledAfter_40 ?_
        refine lv_iload_n hx hb dX1_scaledAfter_41 rfl (lv_at hl 2 rfl) ?_
        refine lv_icmp_lt (tgt := 47) hx hb dX1_scaledAfter_42 (by decide) (fun c_3 => ?_) (fun c_3 => ?_)
        · have h := it_l c_3 h
          refine lv_aload_n hx hb dX1_scaledAfter_47 rfl (lv_at hl 0 rfl) ?_
          refine va_get (D := D) (ci := 1) (v := .ref (tA 0)) (C := RX1) (T := TX1) (N := 11) hx hb hts w_1 hown hK hP 0 rfl rfl 4 (by decide) w_0 (fun _ h9 => h9) rfl dX1_scaledAfter_48 ?_
          refine lv_iconst (v := 1) hx hb dX1_scaledAfter_51 (by decide) ?_
          obtain ⟨⟨v_4, q_5⟩, hv_6, h⟩ := bd_l h
          refine Ck_VN (As := [.int 1]) (rest := []) (wc := stW k tA V_25) (wc' := stW k tA q_5) (w0' := trW k cA nA tA T ++ stW k nA N ++ stW k tA q_5) ⟨hx, hb, hml, hown, hts⟩ (c_X0_pass l D k tA V_25 1 v_4 q_5 hv_6) ⟨va_cnB 1 hts gX1_scaledAfter_X0_pass_n132 rfl rfl rfl w_4 w_5 (by decide +kernel) ⟨Nat.le_of_ble_eq_true rfl, Nat.le_of_ble_eq_true rfl⟩, w_6, w_7⟩ hK hP hD hS hA (q0 := 15) (ci := 0) rfl rfl ([15, 16, 17, 18, 19, 20, 21, 22, 23, 24, 25]) (hi_R rfl st_hi) (by decide) rfl (vs_R rfl st_all) rfl hl.1 rfl (Nat.le_of_ble_eq_true rfl) dX1_scaledAfter_52 ⟨Nat.le_of_ble_eq_true rfl, Nat.le_of_ble_eq_true rfl⟩ (fun H locs hP hD hS => ?_)
          refine W.eq (g2 := F0 m 55 ls [.int v_4]) rfl ?_
          refine lv_pop hx hb dX1_scaledAfter_55 rfl ?_
          refine lv_iinc (v := (x3_25 + 1)) (lv' := [(3, .int (x3_25 + 1)), (0, .ref (cA 0)), (1, .int p1), (2, .int p2)]) hx hb dX1_scaledAfter_56 hl (k := 3) rfl rfl (by decide) rfl (fun ls hl => ?_)
          refine lv_goto (tgt := 25) hx hb dX1_scaledAfter_59 (by decide) ?_
          refine W.widen (k := 6) (n := 36) (Nat.le_of_ble_eq_true rfl) (Nat.le_of_ble_eq_true rfl) ?_
          exact ih_25 (x3_25 + 1) q_5 _ _ _ hP hD hS (lv_sub hl [1, 2, 3, 0] rfl) h
        · have h := it_r c_3 h
          refine lv_iload_n hx hb dX1_scaledAfter_45 rfl (lv_at hl 3 rfl) ?_
          cases h
          exact Cx_iret hO ⟨rfl, rfl⟩ (Nat.le_of_ble_eq_true rfl) (Nat.le_of_ble_eq_true rfl) hx hb hr hP hD hS dX1_scaledAfter_46 hlocks
  refine lv_aload_n hx hb dX1_scaledAfter_0 rfl (lv_at hl 0 rfl) ?_
  refine lv_iload_n hx hb dX1_scaledAfter_1 rfl (lv_at hl 1 rfl) ?_
  rcases bx_l h with ⟨E_8, hv_7, ho_9⟩ | ⟨⟨⟩, hv_7, h⟩
  · subst ho_9
    exact Cx_thru (w0 := trW k cA nA tA T ++ stW k nA N ++ stW k tA V) hO rfl (vx_runV (As := [.int p1]) (rest := []) ⟨hx, hb, hml, hown, hts⟩ (c_X1_checkEffect l hst D k cA nA tA T N p1 (.inl E_8) hv_7 _) (cwV 1 hts gX1_scaledAfter_X1_checkEffect rfl rfl rfl (by decide +kernel) ⟨Nat.le_of_ble_eq_true rfl, Nat.le_of_ble_eq_true rfl⟩) ⟨Px_blind, va_recv (q0 := 0) (ci := 1) hK hP rfl rfl, Px_at (wc := trW k cA nA tA T ++ stW k nA N) hK hG hP hD hS hA ([0, 1, 2, 3] ++ [4, 5, 6, 7, 8, 9, 10, 11, 12, 13, 14]) (hi_2 (hi_L rfl (hi_L rfl tr_hi)) (hi_L rfl (hi_R rfl st_hi))) (by decide)⟩ rfl rfl hl.1 rfl (Nat.le_of_ble_eq_true rfl) dX1_scaledAfter_2 ⟨Nat.le_of_ble_eq_true rfl, Nat.le_of_ble_eq_true rfl⟩) hP hD hS hA ([0, 1, 2, 3] ++ [4, 5, 6, 7, 8, 9, 10, 11, 12, 13, 14]) (hi_2 (hi_L rfl (hi_L rfl tr_hi)) (hi_L rfl (hi_R rfl st_hi))) htab hlocks (Nat.le_of_ble_eq_true rfl) (Nat.le_of_ble_eq_true rfl)
  refine Cx_in (w0' := trW k cA nA tA T ++ stW k nA N ++ stW k tA V) (wc' := trW k cA nA tA T ++ stW k nA N) rfl (vx_runV (As := [.int p1]) (rest := []) ⟨hx, hb, hml, hown, hts⟩ (c_X1_checkEffect l hst D k cA nA tA T N p1 (.inr ()) hv_7 _) (cwV 1 hts gX1_scaledAfter_X1_checkEffect rfl rfl rfl (by decide +kernel) ⟨Nat.le_of_ble_eq_true rfl, Nat.le_of_ble_eq_true rfl⟩) ⟨Px_blind, va_recv (q0 := 0) (ci := 1) hK hP rfl rfl, Px_at (wc := trW k cA nA tA T ++ stW k nA N) hK hG hP hD hS hA ([0, 1, 2, 3] ++ [4, 5, 6, 7, 8, 9, 10, 11, 12, 13, 14]) (hi_2 (hi_L rfl (hi_L rfl tr_hi)) (hi_L rfl (hi_R rfl st_hi))) (by decide)⟩ rfl rfl hl.1 rfl (Nat.le_of_ble_eq_true rfl) dX1_scaledAfter_2 ⟨Nat.le_of_ble_eq_true rfl, Nat.le_of_ble_eq_true rfl⟩) hP hD hS hA ([0, 1, 2, 3] ++ [4, 5, 6, 7, 8, 9, 10, 11, 12, 13, 14]) (hi_2 (hi_L rfl (hi_L rfl tr_hi)) (hi_L rfl (hi_R rfl st_hi))) rfl (vs_2 rfl (vs_L rfl (vs_L rfl tr_all)) (vs_L rfl (vs_R rfl st_all))) (fun H locs hP hD hS => ?_)
  refine W.eq (g2 := F0 m 5 ls []) rfl ?_
  refine lv_iload_n hx hb dX1_scaledAfter_5 rfl (lv_at hl 2 rfl) ?_
  refine lv_iconst (v := 1) hx hb dX1_scaledAfter_6 (by decide) ?_
  refine lv_bipush (v := 99) hx hb dX1_scaledAfter_7 (by decide) ?_
  rcases bx_l h with ⟨E_11, hv_10, ho_12⟩ | ⟨⟨⟩, hv_10, h⟩
  · subst ho_12
    exact Cx_thru (w0 := trW k cA nA tA T ++ stW k nA N ++ stW k tA V) hO rfl (vx_runS (As := [.int p2, .int 1, .int 99]) (rest := []) ⟨hx, hb, hml, hown, hts⟩ (c_X1_checkRange l hst D k  p2 1 99 (.inl E_11) hv_10 _) (va_cwS 3 hts gX1_scaledAfter_X1_checkRange rfl rfl rfl (by decide +kernel) ⟨Nat.le_of_ble_eq_true rfl, Nat.le_of_ble_eq_true rfl⟩) ⟨Px_blind, Px_at (wc := ([] : va_W)) hK hG hP hD hS hA [] rfl (by decide)⟩ rfl rfl hl.1 rfl (Nat.le_of_ble_eq_true rfl) dX1_scaledAfter_9 ⟨Nat.le_of_ble_eq_true rfl, Nat.le_of_ble_eq_true rfl⟩) hP hD hS hA [] rfl htab hlocks (Nat.le_of_ble_eq_true rfl) (Nat.le_of_ble_eq_true rfl)
  refine Cx_in (w0' := trW k cA nA tA T ++ stW k nA N ++ stW k tA V) (wc' := ([] : va_W)) rfl (vx_runS (As := [.int p2, .int 1, .int 99]) (rest := []) ⟨hx, hb, hml, hown, hts⟩ (c_X1_checkRange l hst D k  p2 1 99 (.inr ()) hv_10 _) (va_cwS 3 hts gX1_scaledAfter_X1_checkRange rfl rfl rfl (by decide +kernel) ⟨Nat.le_of_ble_eq_true rfl, Nat.le_of_ble_eq_true rfl⟩) ⟨Px_blind, Px_at (wc := ([] : va_W)) hK hG hP hD hS hA [] rfl (by decide)⟩ rfl rfl hl.1 rfl (Nat.le_of_ble_eq_true rfl) dX1_scaledAfter_9 ⟨Nat.le_of_ble_eq_true rfl, Nat.le_of_ble_eq_true rfl⟩) hP hD hS hA [] rfl rfl rfl (fun H locs hP hD hS => ?_)
  refine W.eq (g2 := F0 m 12 ls []) rfl ?_
  refine lv_aload_n hx hb dX1_scaledAfter_12 rfl (lv_at hl 0 rfl) ?_
  refine va_get (D := D) (ci := 1) (v := .ref (tA 0)) (C := RX1) (T := TX1) (N := 11) hx hb hts w_1 hown hK hP 0 rfl rfl 4 (by decide) w_0 (fun _ h9 => h9) rfl dX1_scaledAfter_13 ?_
  refine lv_aload_n hx hb dX1_scaledAfter_16 rfl (lv_at hl 0 rfl) ?_
  refine va_get (D := D) (ci := 1) (v := .ref (nA 0)) (C := RX1) (T := TX1) (N := 11) hx hb hts w_1 hown hK hP 0 rfl rfl 3 (by decide) w_8 (fun _ h9 => h9) rfl dX1_scaledAfter_17 ?_
  obtain ⟨q_13, hv_14, h⟩ := bd_l h
  refine Ck_VN (As := [.ref (nA 0)]) (rest := []) (wc := stW k tA V ++ stW k nA N) (wc' := stW k tA q_13 ++ stW k nA N) (w0' := trW k cA nA tA T ++ stW k nA N ++ stW k tA q_13) ⟨hx, hb, hml, hown, hts⟩ (c_X0_copyFrom l D k tA nA V N q_13 hv_14) ⟨va_cnB 1 hts gX1_scaledAfter_X0_copyFrom_n155 rfl rfl rfl w_9 w_5 (by decide +kernel) ⟨Nat.le_of_ble_eq_true rfl, Nat.le_of_ble_eq_true rfl⟩, w_10, w_11⟩ hK hP hD hS hA (q0 := 15) (ci := 0) rfl rfl ([15, 16, 17, 18, 19, 20, 21, 22, 23, 24, 25] ++ [4, 5, 6, 7, 8, 9, 10, 11, 12, 13, 14]) (hi_2 (hi_R rfl st_hi) (hi_L rfl (hi_R rfl st_hi))) (by decide) rfl (vs_2 rfl (vs_R rfl st_all) (vs_L rfl (vs_R rfl st_all))) rfl hl.1 rfl (Nat.le_of_ble_eq_true rfl) dX1_scaledAfter_20 ⟨Nat.le_of_ble_eq_true rfl, Nat.le_of_ble_eq_true rfl⟩ (fun H locs hP hD hS => ?_)
  refine W.eq (g2 := F0 m 23 ls []) rfl ?_
  refine lv_iconst (v := 0) hx hb dX1_scaledAfter_23 (by decide) ?_
  refine lv_istore_n (lv' := [(3, .int 0), (0, .ref (cA 0)), (1, .int p1), (2, .int p2)]) hx hb dX1_scaledAfter_24 rfl hl (by decide) rfl (fun ls hl => ?_)
  refine W.widen (k := 6) (n := 36) (Nat.le_of_ble_eq_true rfl) (Nat.le_of_ble_eq_true rfl) ?_
  exact hC_25 2000 0 q_13 _ _ _ hP hD hS (lv_sub hl [1, 2, 3, 0] rfl) h
def f_X1_steamFor_17 (N : StV) (p1 : Int32) (p2 : Int32) : Nat → Int32 → StV → Option (String ⊕ (Int32 × StV))
  | 0, _, _ => none
  | fu + 1, x3_17, V_17 => if 90 < x3_17 then (some (.inr ((-9), V_17))) else (bd (f_X0_copyFrom V_17 N) fun q_2 => nm (su_set q_2 (upd (s_set q_2) 0 x3_17)) fun q_4 => bd (f_X0_pass q_4 p2) fun ⟨v_5, q_6⟩ => if v_5 < p1 then ((f_X1_steamFor_17 N p1 p2 fu) (x3_17 + 1) q_6) else (some (.inr (x3_17, q_6))))
def f_X1_steamFor (T : TrV) (N : StV) (V : StV) (p1 : Int32) (p2 : Int32) : Option (String ⊕ (Int32 × StV)) := bx (f_X1_checkRange p1 0 9999) fun ⟨⟩ => bx (f_X1_checkRange p2 1 20) fun ⟨⟩ => f_X1_steamFor_17 N p1 p2 2000 0 V
set_option maxRecDepth 100000 in
set_option maxHeartbeats 4000000 in
theorem c_X1_steamFor (l : Launch) (hst : l.stackTraces = false) (D : va_G) (k : Nat → ClassId) (cA : Nat → Nat) (nA : Nat → Nat) (tA : Nat → Nat) (T : TrV) (N : StV) (V : StV) (p1 : Int32) (p2 : Int32) (o : String ⊕ (Int32 × StV)) (h : f_X1_steamFor T N V p1 p2 = some o) : Cx l D (tyK k) yX1_steamFor wsX1_steamFor ({ frames := 7, cells := 7, slots := 42, locals := 104 } : Room) [.ref (cA 0), .int p1, .int p2] (trW k cA nA tA T ++ stW k nA N ++ stW k tA V) (trW k cA nA tA T ++ stW k nA N ++ stW k tA V) (Sum.map id (fun r : Int32 × StV => fun (ov : Option Value) (w : va_W) => ov = (some (.int r.1) : Option Value) ∧ w = trW k cA nA tA T ++ stW k nA N ++ stW k tA r.2) o) := by
  obtain ⟨O, hO⟩ : ∃ O : Oc, O = Sum.map id (fun r : Int32 × StV => fun (ov : Option Value) (w : va_W) => ov = (some (.int r.1) : Option Value) ∧ w = trW k cA nA tA T ++ stW k nA N ++ stW k tA r.2) o := ⟨_, rfl⟩
  rw [← hO]
  refine Cx_of (cc := cX1_steamFor) (maxL := 4) (ret := (some .int)) (by decide) rfl (Nat.le_of_ble_eq_true rfl) ?_
  intro p e s m args below meth c A ls hx hb hr hml hts hown hlocks hnm htab hK hG hA hP hD hS hl
  have hl : lv_has ls 4 [(0, .ref (cA 0)), (1, .int p1), (2, .int p2)] := hl
  have hP : va_P D vwCl (trW k cA nA tA T ++ stW k nA N ++ stW k tA V) s.heap := hP
  have w_0 := hts (.fieldLink RX1 28 "EffectTrain" "trial" "LEffectTrain$State;") (by decide +kernel)
  have w_1 : ∀ w ∈ wsX10, w ∈ wsX1_steamFor := by decide +kernel
  have w_2 := hts (.fieldLink RX1 24 "EffectTrain" "now" "LEffectTrain$State;") (by decide +kernel)
  have w_3 : va_Nw (.methodLinkNest RX1 155 yX0_copyFrom "EffectTrain") s := hG.2.2.2.2.2 (155, yX0_copyFrom, "EffectTrain") (by decide +kernel)
  have w_4 := hts (.initialized RX0) (by decide +kernel)
  have w_5 := hts (.instanceMethod yX0_copyFrom) (by decide +kernel)
  have w_6 := hts (.selects RX0 yX0_copyFrom yX0_copyFrom) (by decide +kernel)
  have w_7 : (Cond.fieldLinkNest RX1 103 "EffectTrain$State" "settings" "[I" "EffectTrain").before args s = true := va_Nw.use rfl (hG.2.2.2.2.1 (103, "EffectTrain$State", "settings", "[I", "EffectTrain") (by decide +kernel))
  have w_8 : ∀ w ∈ wsX00, w ∈ wsX1_steamFor := by decide +kernel
  have w_9 : va_Nw (.methodLinkNest RX1 132 yX0_pass "EffectTrain") s := hG.2.2.2.2.2 (132, yX0_pass, "EffectTrain") (by decide +kernel)
  have w_10 := hts (.instanceMethod yX0_pass) (by decide +kernel)
  have w_11 := hts (.selects RX0 yX0_pass yX0_pass) (by decide +kernel)
  unfold f_X1_steamFor at h
  have hC_17 : ∀ (fu_17 : Nat) (x3_17 : Int32) (V_17 : StV) (H : Heap) (locs : List Loc) (ls : Array Slot), va_P D vwCl (trW k cA nA tA T ++ stW k nA N ++ stW k tA V_17) H → va_D A (trW k cA nA tA T ++ stW k nA N ++ stW k tA V_17) → va_S A s.heap H locs → lv_has ls 4 [(0, .ref (cA 0)), (1, .int p1), (2, .int p2), (3, .int x3_17)] → f_X1_steamFor_17 N p1 p2 fu_17 x3_17 V_17 = some o → W p l e ({ frames := 7, cells := 7, slots := 42, locals := 104 } : Room) s m args below meth c H locs 6 36 (vx_MQ below (Qx D A O) (Xx D A (trW k cA nA tA T ++ stW k nA N ++ stW k tA V) O) args s 7 42 A) (F0 m 17 ls []) := by
    intro fu_17
    induction fu_17 with
    | zero => intro x3_17 V_17 H locs ls _ _ _ _ h; exact (no_l h).elim
    | succ fu_17 ih_17 =>
      intro x3_17 V_17 H locs ls hP hD hS hl h
      rw [f_X1_steamFor_17] at h
      refine lv_iload_n hx hb dX1_steamFor_17 rfl (lv_at hl 3 rfl) ?_
      refine lv_bipush (v := 90) hx hb dX1_steamFor_18 (by decide) ?_
      refine lv_icmp_gt (tgt := 64) hx hb dX1_steamFor_20 (by decide) (fun c_1 => ?_) (fun c_1 => ?_)
      · have h := it_l c_1 h
        refine lv_bipush (v := (-9)) hx hb dX1_steamFor_64 (by decide) ?_
        cases h
        exact Cx_iret hO ⟨rfl, rfl⟩ (Nat.le_of_ble_eq_true rfl) (Nat.le_of_ble_eq_true rfl) hx hb hr hP hD hS dX1_steamFor_66 hlocks
      · have h := it_r c_1 h
        refine lv_aload_n hx hb dX1_steamFor_23 rfl (lv_at hl 0 rfl) ?_
        refine va_get (D := D) (ci := 1) (v := .ref (tA 0)) (C := RX1) (T := TX1) (N := 11) hx hb hts w_1 hown hK hP 0 rfl rfl 4 (by decide) w_0 (fun _ h9 => h9) rfl dX1_steamFor_24 ?_
        refine lv_aload_n hx hb dX1_steamFor_27 rfl (lv_at hl 0 rfl) ?_
        refine va_get (D := D) (ci := 1) (v := .ref (nA 0)) (C := RX1) (T := TX1) (N := 11) hx hb hts w_1 hown hK hP 0 rfl rfl 3 (by decide) w_2 (fun _ h9 => h9) rfl dX1_steamFor_28 ?_
        obtain ⟨q_2, hv_3, h⟩ := bd_l h
        refine Ck_VN (As := [.ref (nA 0)]) (rest := []) (wc := stW k tA V_17 ++ stW k nA N) (wc' := stW k tA q_2 ++ stW k nA N) (w0' := trW k cA nA tA T ++ stW k nA N ++ stW k tA q_2) ⟨hx, hb, hml, hown, hts⟩ (c_X0_copyFrom l D k tA nA V_17 N q_2 hv_3) ⟨va_cnB 1 hts gX1_steamFor_X0_copyFrom_n155 rfl rfl rfl w_3 w_4 (by decide +kernel) ⟨Nat.le_of_ble_eq_true rfl, Nat.le_of_ble_eq_true rfl⟩, w_5, w_6⟩ hK hP hD hS hA (q0 := 15) (ci := 0) rfl rfl ([15, 16, 17, 18, 19, 20, 21, 22, 23, 24, 25] ++ [4, 5, 6, 7, 8, 9, 10, 11, 12, 13, 14]) (hi_2 (hi_R rfl st_hi) (hi_L rfl (hi_R rfl st_hi))) (by decide) rfl (vs_2 rfl (vs_R rfl st_all) (vs_L rfl (vs_R rfl st_all))) rfl hl.1 rfl (Nat.le_of_ble_eq_true rfl) dX1_steamFor_31 ⟨Nat.le_of_ble_eq_true rfl, Nat.le_of_ble_eq_true rfl⟩ (fun H locs hP hD hS => ?_)
        refine W.eq (g2 := F0 m 34 ls []) rfl ?_
        refine lv_aload_n hx hb dX1_steamFor_34 rfl (lv_at hl 0 rfl) ?_
        refine va_get (D := D) (ci := 1) (v := .ref (tA 0)) (C := RX1) (T := TX1) (N := 11) hx hb hts w_1 hown hK hP 0 rfl rfl 4 (by decide) w_0 (fun _ h9 => h9) rfl dX1_steamFor_35 ?_
        refine va_getN (D := D) (ci := 0) (v := .ref (tA 1)) (C := RX0) (T := TX0) (N := 12) hx hb hts w_8 hown hK hP 15 rfl rfl 1 (by decide) w_7 (fun _ h9 => h9) rfl dX1_steamFor_38 ?_
        refine lv_iconst (v := 0) hx hb dX1_steamFor_41 (by decide) ?_
        refine lv_iload_n hx hb dX1_steamFor_42 rfl (lv_at hl 3 rfl) ?_
        refine va_iast hx hb hK hP hD hS 16 0 rfl rfl (inb_vp (by decide)) dX1_steamFor_43 (fun H locs hP hD hS => ?_)
        obtain ⟨q_4, eq_4⟩ : ∃ y : StV, y = su_set q_2 (upd (s_set q_2) 0 x3_17) := ⟨_, rfl⟩
        have hP : va_P D vwCl (trW k cA nA tA T ++ stW k nA N ++ stW k tA q_4) H := by rw [eq_4, ← st_set_set k tA q_2 _, ← set_appR3 (A := trW k cA nA tA T ++ stW k nA N) (q := 16) (q' := 1) rfl]; exact hP
        have hD : va_D A (trW k cA nA tA T ++ stW k nA N ++ stW k tA q_4) := by rw [eq_4, ← st_set_set k tA q_2 _, ← set_appR3 (A := trW k cA nA tA T ++ stW k nA N) (q := 16) (q' := 1) rfl]; exact hD
        have h := nm_l h eq_4
        refine lv_aload_n hx hb dX1_steamFor_44 rfl (lv_at hl 0 rfl) ?_
        refine va_get (D := D) (ci := 1) (v := .ref (tA 0)) (C := RX1) (T := TX1) (N := 11) hx hb hts w_1 hown hK hP 0 rfl rfl 4 (by decide) w_0 (fun _ h9 => h9) rfl dX1_steamFor_45 ?_
        refine lv_iload_n hx hb dX1_steamFor_48 rfl (lv_at hl 2 rfl) ?_
        obtain ⟨⟨v_5, q_6⟩, hv_7, h⟩ := bd_l h
        refine Ck_VN (As := [.int p2]) (rest := []) (wc := stW k tA q_4) (wc' := stW k tA q_6) (w0' := trW k cA nA tA T ++ stW k nA N ++ stW k tA q_6) ⟨hx, hb, hml, hown, hts⟩ (c_X0_pass l D k tA q_4 p2 v_5 q_6 hv_7) ⟨va_cnB 1 hts gX1_steamFor_X0_pass_n132 rfl rfl rfl w_9 w_4 (by decide +kernel) ⟨Nat.le_of_ble_eq_true rfl, Nat.le_of_ble_eq_true rfl⟩, w_10, w_11⟩ hK hP hD hS hA (q0 := 15) (ci := 0) rfl rfl ([15, 16, 17, 18, 19, 20, 21, 22, 23, 24, 25]) (hi_R rfl st_hi) (by decide) rfl (vs_R rfl st_all) rfl hl.1 rfl (Nat.le_of_ble_eq_true rfl) dX1_steamFor_49 ⟨Nat.le_of_ble_eq_true rfl, Nat.le_of_ble_eq_true rfl⟩ (fun H locs hP hD hS => ?_)
        refine W.eq (g2 := F0 m 52 ls [.int v_5]) rfl ?_
        refine lv_iload_n hx hb dX1_steamFor_52 rfl (lv_at hl 1 rfl) ?_
        refine lv_icmp_lt (tgt := 58) hx hb dX1_steamFor_53 (by decide) (fun c_8 => ?_) (fun c_8 => ?_)
        · have h := it_l c_8 h
          refine lv_iinc (v := (x3_17 + 1)) (lv' := [(3, .int (x3_17 + 1)), (0, .ref (cA 0)), (1, .int p1), (2, .int p2)]) hx hb dX1_steamFor_58 hl (k := 3) rfl rfl (by decide) rfl (fun ls hl => ?_)
          refine lv_goto (tgt := 17) hx hb dX1_steamFor_61 (by decide) ?_
          refine W.widen (k := 6) (n := 36) (Nat.le_of_ble_eq_true rfl) (Nat.le_of_ble_eq_true rfl) ?_
          exact ih_17 (x3_17 + 1) q_6 _ _ _ hP hD hS (lv_sub hl [1, 2, 3, 0] rfl) h
        · have h := it_r c_8 h
          refine lv_iload_n hx hb dX1_steamFor_56 rfl (lv_at hl 3 rfl) ?_
          cases h
          exact Cx_iret hO ⟨rfl, rfl⟩ (Nat.le_of_ble_eq_true rfl) (Nat.le_of_ble_eq_true rfl) hx hb hr hP hD hS dX1_steamFor_57 hlocks
  refine lv_iload_n hx hb dX1_steamFor_0 rfl (lv_at hl 1 rfl) ?_
  refine lv_iconst (v := 0) hx hb dX1_steamFor_1 (by decide) ?_
  refine lv_sipush (v := 9999) hx hb dX1_steamFor_2 (by decide) ?_
  rcases bx_l h with ⟨E_10, hv_9, ho_11⟩ | ⟨⟨⟩, hv_9, h⟩
  · subst ho_11
    exact Cx_thru (w0 := trW k cA nA tA T ++ stW k nA N ++ stW k tA V) hO rfl (vx_runS (As := [.int p1, .int 0, .int 9999]) (rest := []) ⟨hx, hb, hml, hown, hts⟩ (c_X1_checkRange l hst D k  p1 0 9999 (.inl E_10) hv_9 _) (va_cwS 3 hts gX1_steamFor_X1_checkRange rfl rfl rfl (by decide +kernel) ⟨Nat.le_of_ble_eq_true rfl, Nat.le_of_ble_eq_true rfl⟩) ⟨Px_blind, Px_at (wc := ([] : va_W)) hK hG hP hD hS hA [] rfl (by decide)⟩ rfl rfl hl.1 rfl (Nat.le_of_ble_eq_true rfl) dX1_steamFor_5 ⟨Nat.le_of_ble_eq_true rfl, Nat.le_of_ble_eq_true rfl⟩) hP hD hS hA [] rfl htab hlocks (Nat.le_of_ble_eq_true rfl) (Nat.le_of_ble_eq_true rfl)
  refine Cx_in (w0' := trW k cA nA tA T ++ stW k nA N ++ stW k tA V) (wc' := ([] : va_W)) rfl (vx_runS (As := [.int p1, .int 0, .int 9999]) (rest := []) ⟨hx, hb, hml, hown, hts⟩ (c_X1_checkRange l hst D k  p1 0 9999 (.inr ()) hv_9 _) (va_cwS 3 hts gX1_steamFor_X1_checkRange rfl rfl rfl (by decide +kernel) ⟨Nat.le_of_ble_eq_true rfl, Nat.le_of_ble_eq_true rfl⟩) ⟨Px_blind, Px_at (wc := ([] : va_W)) hK hG hP hD hS hA [] rfl (by decide)⟩ rfl rfl hl.1 rfl (Nat.le_of_ble_eq_true rfl) dX1_steamFor_5 ⟨Nat.le_of_ble_eq_true rfl, Nat.le_of_ble_eq_true rfl⟩) hP hD hS hA [] rfl rfl rfl (fun H locs hP hD hS => ?_)
  refine W.eq (g2 := F0 m 8 ls []) rfl ?_
  refine lv_iload_n hx hb dX1_steamFor_8 rfl (lv_at hl 2 rfl) ?_
  refine lv_iconst (v := 1) hx hb dX1_steamFor_9 (by decide) ?_
  refine lv_bipush (v := 20) hx hb dX1_steamFor_10 (by decide) ?_
  rcases bx_l h with ⟨E_13, hv_12, ho_14⟩ | ⟨⟨⟩, hv_12, h⟩
  · subst ho_14
    exact Cx_thru (w0 := trW k cA nA tA T ++ stW k nA N ++ stW k tA V) hO rfl (vx_runS (As := [.int p2, .int 1, .int 20]) (rest := []) ⟨hx, hb, hml, hown, hts⟩ (c_X1_checkRange l hst D k  p2 1 20 (.inl E_13) hv_12 _) (va_cwS 3 hts gX1_steamFor_X1_checkRange rfl rfl rfl (by decide +kernel) ⟨Nat.le_of_ble_eq_true rfl, Nat.le_of_ble_eq_true rfl⟩) ⟨Px_blind, Px_at (wc := ([] : va_W)) hK hG hP hD hS hA [] rfl (by decide)⟩ rfl rfl hl.1 rfl (Nat.le_of_ble_eq_true rfl) dX1_steamFor_12 ⟨Nat.le_of_ble_eq_true rfl, Nat.le_of_ble_eq_true rfl⟩) hP hD hS hA [] rfl htab hlocks (Nat.le_of_ble_eq_true rfl) (Nat.le_of_ble_eq_true rfl)
  refine Cx_in (w0' := trW k cA nA tA T ++ stW k nA N ++ stW k tA V) (wc' := ([] : va_W)) rfl (vx_runS (As := [.int p2, .int 1, .int 20]) (rest := []) ⟨hx, hb, hml, hown, hts⟩ (c_X1_checkRange l hst D k  p2 1 20 (.inr ()) hv_12 _) (va_cwS 3 hts gX1_steamFor_X1_checkRange rfl rfl rfl (by decide +kernel) ⟨Nat.le_of_ble_eq_true rfl, Nat.le_of_ble_eq_true rfl⟩) ⟨Px_blind, Px_at (wc := ([] : va_W)) hK hG hP hD hS hA [] rfl (by decide)⟩ rfl rfl hl.1 rfl (Nat.le_of_ble_eq_true rfl) dX1_steamFor_12 ⟨Nat.le_of_ble_eq_true rfl, Nat.le_of_ble_eq_true rfl⟩) hP hD hS hA [] rfl rfl rfl (fun H locs hP hD hS => ?_)
  refine W.eq (g2 := F0 m 15 ls []) rfl ?_
  refine lv_iconst (v := 0) hx hb dX1_steamFor_15 (by decide) ?_
  refine lv_istore_n (lv' := [(3, .int 0), (0, .ref (cA 0)), (1, .int p1), (2, .int p2)]) hx hb dX1_steamFor_16 rfl hl (by decide) rfl (fun ls hl => ?_)
  refine W.widen (k := 6) (n := 36) (Nat.le_of_ble_eq_true rfl) (Nat.le_of_ble_eq_true rfl) ?_
  exact hC_17 2000 0 V _ _ _ hP hD hS (lv_sub hl [1, 2, 3, 0] rfl) h
def f_X1_runEffectCommand (T : TrV) (V : StV) (p1 : Int32) (p2 : Int32) (p3 : Int32) : Option (String ⊕ (Int32 × StV)) := if p2 < (s_n V) then (if p1 = 3 then (gb (inb p2 6) <| nm (su_val V (upd (s_val V) p2.toNatClampNeg p3)) fun q_18 => some (.inr (1, q_18))) else (if p3 ≤ 99 then (if p1 = 5 then (bd (f_X0_thickness V p2) fun v_14 => if v_14 < p3 then (some (.inr (0, V))) else (some (.inr (1, V)))) else (if p1 = 6 then (gb (inb p2 6) <| if p3 < ((s_sca V) p2.toNatClampNeg) then (some (.inr (0, V))) else (some (.inr (1, V)))) else (if p3 < 1 then (some (.inr (0, V))) else (if 20 < p3 then (some (.inr (0, V))) else (gb (inb p2 6) <| if ((s_lef V) p2.toNatClampNeg) ≤ 0 then (gb (inb p2 6) <| nm (su_lef V (upd (s_lef V) p2.toNatClampNeg p3)) fun q_11 => some (.inr (1, q_11))) else (some (.inr (0, V)))))))) else (some (.inr (0, V))))) else (some (.inr (0, V)))
set_option maxRecDepth 100000 in
set_option maxHeartbeats 4000000 in
theorem c_X1_runEffectCommand (l : Launch) (hst : l.stackTraces = false) (D : va_G) (k : Nat → ClassId) (cA : Nat → Nat) (nA : Nat → Nat) (tA : Nat → Nat) (T : TrV) (V : StV) (p1 : Int32) (p2 : Int32) (p3 : Int32) (o : String ⊕ (Int32 × StV)) (h : f_X1_runEffectCommand T V p1 p2 p3 = some o) : Cx l D (tyK k) yX1_runEffectCommand wsX1_runEffectCommand ({ frames := 1, cells := 0, slots := 0, locals := 22 } : Room) [.ref (cA 0), .int p1, .int p2, .int p3] (trW k cA nA tA T ++ stW k tA V) (trW k cA nA tA T ++ stW k tA V) (Sum.map id (fun r : Int32 × StV => fun (ov : Option Value) (w : va_W) => ov = (some (.int r.1) : Option Value) ∧ w = trW k cA nA tA T ++ stW k tA r.2) o) := by
  obtain ⟨O, hO⟩ : ∃ O : Oc, O = Sum.map id (fun r : Int32 × StV => fun (ov : Option Value) (w : va_W) => ov = (some (.int r.1) : Option Value) ∧ w = trW k cA nA tA T ++ stW k tA r.2) o := ⟨_, rfl⟩
  rw [← hO]
  refine Cx_of (cc := cX1_runEffectCommand) (maxL := 4) (ret := (some .boolean)) (by decide) rfl (Nat.le_of_ble_eq_true rfl) ?_
  intro p e s m args below meth c A ls hx hb hr hml hts hown hlocks hnm htab hK hG hA hP hD hS hl
  have hl : lv_has ls 4 [(0, .ref (cA 0)), (1, .int p1), (2, .int p2), (3, .int p3)] := hl
  have hP : va_P D vwCl (trW k cA nA tA T ++ stW k tA V) s.heap := hP
  have w_0 := hts (.fieldLink RX1 28 "EffectTrain" "trial" "LEffectTrain$State;") (by decide +kernel)
  have w_1 : ∀ w ∈ wsX10, w ∈ wsX1_runEffectCommand := by decide +kernel
  have w_2 : (Cond.fieldLinkNest RX1 94 "EffectTrain$State" "n" "I" "EffectTrain").before args s = true := va_Nw.use rfl (hG.2.2.2.2.1 (94, "EffectTrain$State", "n", "I", "EffectTrain") (by decide +kernel))
  have w_3 : ∀ w ∈ wsX00, w ∈ wsX1_runEffectCommand := by decide +kernel
  have w_4 : (Cond.fieldLinkNest RX1 144 "EffectTrain$State" "left" "[I" "EffectTrain").before args s = true := va_Nw.use rfl (hG.2.2.2.2.1 (144, "EffectTrain$State", "left", "[I", "EffectTrain") (by decide +kernel))
  have w_5 : (Cond.fieldLinkNest RX1 172 "EffectTrain$State" "scale" "[I" "EffectTrain").before args s = true := va_Nw.use rfl (hG.2.2.2.2.1 (172, "EffectTrain$State", "scale", "[I", "EffectTrain") (by decide +kernel))
  have w_6 : va_Nw (.methodLinkNest RX1 194 yX0_thickness "EffectTrain") s := hG.2.2.2.2.2 (194, yX0_thickness, "EffectTrain") (by decide +kernel)
  have w_7 := hts (.initialized RX0) (by decide +kernel)
  have w_8 := hts (.instanceMethod yX0_thickness) (by decide +kernel)
  have w_9 := hts (.selects RX0 yX0_thickness yX0_thickness) (by decide +kernel)
  have w_10 : (Cond.fieldLinkNest RX1 135 "EffectTrain$State" "valve" "[I" "EffectTrain").before args s = true := va_Nw.use rfl (hG.2.2.2.2.1 (135, "EffectTrain$State", "valve", "[I", "EffectTrain") (by decide +kernel))
  unfold f_X1_runEffectCommand at h
  refine lv_iload_n hx hb dX1_runEffectCommand_0 rfl (lv_at hl 2 rfl) ?_
  refine lv_aload_n hx hb dX1_runEffectCommand_1 rfl (lv_at hl 0 rfl) ?_
  refine va_get (D := D) (ci := 1) (v := .ref (tA 0)) (C := RX1) (T := TX1) (N := 11) hx hb hts w_1 hown hK hP 0 rfl rfl 4 (by decide) w_0 (fun _ h9 => h9) rfl dX1_runEffectCommand_2 ?_
  refine va_getN (D := D) (ci := 0) (v := .int (s_n V)) (C := RX0) (T := TX0) (N := 12) hx hb hts w_3 hown hK hP 4 rfl rfl 0 (by decide) w_2 (fun _ h9 => h9) rfl dX1_runEffectCommand_5 ?_
  refine lv_icmp_lt (tgt := 13) hx hb dX1_runEffectCommand_8 (by decide) (fun c_1 => ?_) (fun c_1 => ?_)
  · have h := it_l c_1 h
    refine lv_iload_n hx hb dX1_runEffectCommand_13 rfl (lv_at hl 1 rfl) ?_
    refine lv_iconst (v := 3) hx hb dX1_runEffectCommand_14 (by decide) ?_
    refine lv_icmp_ne (tgt := 30) hx hb dX1_runEffectCommand_15 (by decide) (fun c_2 => ?_) (fun c_2 => ?_)
    · have h := it_r c_2 h
      refine lv_iload_n hx hb dX1_runEffectCommand_30 rfl (lv_at hl 3 rfl) ?_
      refine lv_bipush (v := 99) hx hb dX1_runEffectCommand_31 (by decide) ?_
      refine lv_icmp_le (tgt := 38) hx hb dX1_runEffectCommand_33 (by decide) (fun c_3 => ?_) (fun c_3 => ?_)
      · have h := it_l c_3 h
        refine lv_iload_n hx hb dX1_runEffectCommand_38 rfl (lv_at hl 1 rfl) ?_
        refine lv_iconst (v := 5) hx hb dX1_runEffectCommand_39 (by decide) ?_
        refine lv_icmp_ne (tgt := 61) hx hb dX1_runEffectCommand_40 (by decide) (fun c_4 => ?_) (fun c_4 => ?_)
        · have h := it_r c_4 h
          refine lv_iload_n hx hb dX1_runEffectCommand_61 rfl (lv_at hl 1 rfl) ?_
          refine lv_bipush (v := 6) hx hb dX1_runEffectCommand_62 (by decide) ?_
          refine lv_icmp_ne (tgt := 86) hx hb dX1_runEffectCommand_64 (by decide) (fun c_5 => ?_) (fun c_5 => ?_)
          · have h := it_r c_5 h
            refine lv_iload_n hx hb dX1_runEffectCommand_86 rfl (lv_at hl 3 rfl) ?_
            refine lv_iconst (v := 1) hx hb dX1_runEffectCommand_87 (by decide) ?_
            refine lv_icmp_lt (tgt := 109) hx hb dX1_runEffectCommand_88 (by decide) (fun c_6 => ?_) (fun c_6 => ?_)
            · have h := it_l c_6 h
              refine lv_iconst (v := 0) hx hb dX1_runEffectCommand_109 (by decide) ?_
              cases h
              exact Cx_zret hO ⟨rfl, rfl⟩ (Nat.le_of_ble_eq_true rfl) (Nat.le_of_ble_eq_true rfl) hx hb hr (by decide) hP hD hS dX1_runEffectCommand_110 hlocks
            · have h := it_r c_6 h
              refine lv_iload_n hx hb dX1_runEffectCommand_91 rfl (lv_at hl 3 rfl) ?_
              refine lv_bipush (v := 20) hx hb dX1_runEffectCommand_92 (by decide) ?_
              refine lv_icmp_gt (tgt := 109) hx hb dX1_runEffectCommand_94 (by decide) (fun c_7 => ?_) (fun c_7 => ?_)
              · have h := it_l c_7 h
                refine lv_iconst (v := 0) hx hb dX1_runEffectCommand_109 (by decide) ?_
                cases h
                exact Cx_zret hO ⟨rfl, rfl⟩ (Nat.le_of_ble_eq_true rfl) (Nat.le_of_ble_eq_true rfl) hx hb hr (by decide) hP hD hS dX1_runEffectCommand_110 hlocks
              · have h := it_r c_7 h
                refine lv_aload_n hx hb dX1_runEffectCommand_97 rfl (lv_at hl 0 rfl) ?_
                refine va_get (D := D) (ci := 1) (v := .ref (tA 0)) (C := RX1) (T := TX1) (N := 11) hx hb hts w_1 hown hK hP 0 rfl rfl 4 (by decide) w_0 (fun _ h9 => h9) rfl dX1_runEffectCommand_98 ?_
                refine va_getN (D := D) (ci := 0) (v := .ref (tA 10)) (C := RX0) (T := TX0) (N := 12) hx hb hts w_3 hown hK hP 4 rfl rfl 11 (by decide) w_4 (fun _ h9 => h9) rfl dX1_runEffectCommand_101 ?_
                refine lv_iload_n hx hb dX1_runEffectCommand_104 rfl (lv_at hl 2 rfl) ?_
                have g_8 := inb_vp (gb_l h)
                have h := gb_r h
                refine va_iald hx hb hK hP 14 0 rfl rfl g_8 dX1_runEffectCommand_105 ?_
                refine lv_if_le (tgt := 111) hx hb dX1_runEffectCommand_106 (by decide) (fun c_9 => ?_) (fun c_9 => ?_)
                · have h := it_l c_9 h
                  refine lv_aload_n hx hb dX1_runEffectCommand_111 rfl (lv_at hl 0 rfl) ?_
                  refine va_get (D := D) (ci := 1) (v := .ref (tA 0)) (C := RX1) (T := TX1) (N := 11) hx hb hts w_1 hown hK hP 0 rfl rfl 4 (by decide) w_0 (fun _ h9 => h9) rfl dX1_runEffectCommand_112 ?_
                  refine va_getN (D := D) (ci := 0) (v := .ref (tA 10)) (C := RX0) (T := TX0) (N := 12) hx hb hts w_3 hown hK hP 4 rfl rfl 11 (by decide) w_4 (fun _ h9 => h9) rfl dX1_runEffectCommand_115 ?_
                  refine lv_iload_n hx hb dX1_runEffectCommand_118 rfl (lv_at hl 2 rfl) ?_
                  refine lv_iload_n hx hb dX1_runEffectCommand_119 rfl (lv_at hl 3 rfl) ?_
                  have g_10 := inb_vp (gb_l h)
                  have h := gb_r h
                  refine va_iast hx hb hK hP hD hS 14 0 rfl rfl g_10 dX1_runEffectCommand_120 (fun H locs hP hD hS => ?_)
                  obtain ⟨q_11, eq_11⟩ : ∃ y : StV, y = su_lef V (upd (s_lef V) p2.toNatClampNeg p3) := ⟨_, rfl⟩
                  have hP : va_P D vwCl (trW k cA nA tA T ++ stW k tA q_11) H := by rw [eq_11, ← st_set_lef k tA V _, ← set_appR3 (A := trW k cA nA tA T) (q := 14) (q' := 10) rfl]; exact hP
                  have hD : va_D A (trW k cA nA tA T ++ stW k tA q_11) := by rw [eq_11, ← st_set_lef k tA V _, ← set_appR3 (A := trW k cA nA tA T) (q := 14) (q' := 10) rfl]; exact hD
                  have h := nm_l h eq_11
                  refine lv_iconst (v := 1) hx hb dX1_runEffectCommand_121 (by decide) ?_
                  cases h
                  exact Cx_zret hO ⟨rfl, rfl⟩ (Nat.le_of_ble_eq_true rfl) (Nat.le_of_ble_eq_true rfl) hx hb hr (by decide) hP hD hS dX1_runEffectCommand_122 hlocks
                · have h := it_r c_9 h
                  refine lv_iconst (v := 0) hx hb dX1_runEffectCommand_109 (by decide) ?_
                  cases h
                  exact Cx_zret hO ⟨rfl, rfl⟩ (Nat.le_of_ble_eq_true rfl) (Nat.le_of_ble_eq_true rfl) hx hb hr (by decide) hP hD hS dX1_runEffectCommand_110 hlocks
          · have h := it_l c_5 h
            refine lv_aload_n hx hb dX1_runEffectCommand_67 rfl (lv_at hl 0 rfl) ?_
            refine va_get (D := D) (ci := 1) (v := .ref (tA 0)) (C := RX1) (T := TX1) (N := 11) hx hb hts w_1 hown hK hP 0 rfl rfl 4 (by decide) w_0 (fun _ h9 => h9) rfl dX1_runEffectCommand_68 ?_
            refine va_getN (D := D) (ci := 0) (v := .ref (tA 8)) (C := RX0) (T := TX0) (N := 12) hx hb hts w_3 hown hK hP 4 rfl rfl 9 (by decide) w_5 (fun _ h9 => h9) rfl dX1_runEffectCommand_71 ?_
            refine lv_iload_n hx hb dX1_runEffectCommand_74 rfl (lv_at hl 2 rfl) ?_
            have g_12 := inb_vp (gb_l h)
            have h := gb_r h
            refine va_iald hx hb hK hP 12 0 rfl rfl g_12 dX1_runEffectCommand_75 ?_
            refine lv_iload_n hx hb dX1_runEffectCommand_76 rfl (lv_at hl 3 rfl) ?_
            refine lv_icmp_gt (tgt := 84) hx hb dX1_runEffectCommand_77 (by decide) (fun c_13 => ?_) (fun c_13 => ?_)
            · have h := it_l c_13 h
              refine lv_iconst (v := 0) hx hb dX1_runEffectCommand_84 (by decide) ?_
              cases h
              exact Cx_zret hO ⟨rfl, rfl⟩ (Nat.le_of_ble_eq_true rfl) (Nat.le_of_ble_eq_true rfl) hx hb hr (by decide) hP hD hS dX1_runEffectCommand_85 hlocks
            · have h := it_r c_13 h
              refine lv_iconst (v := 1) hx hb dX1_runEffectCommand_80 (by decide) ?_
              refine lv_goto (tgt := 85) hx hb dX1_runEffectCommand_81 (by decide) ?_
              cases h
              exact Cx_zret hO ⟨rfl, rfl⟩ (Nat.le_of_ble_eq_true rfl) (Nat.le_of_ble_eq_true rfl) hx hb hr (by decide) hP hD hS dX1_runEffectCommand_85 hlocks
        · have h := it_l c_4 h
          refine lv_aload_n hx hb dX1_runEffectCommand_43 rfl (lv_at hl 0 rfl) ?_
          refine va_get (D := D) (ci := 1) (v := .ref (tA 0)) (C := RX1) (T := TX1) (N := 11) hx hb hts w_1 hown hK hP 0 rfl rfl 4 (by decide) w_0 (fun _ h9 => h9) rfl dX1_runEffectCommand_44 ?_
          refine lv_iload_n hx hb dX1_runEffectCommand_47 rfl (lv_at hl 2 rfl) ?_
          obtain ⟨v_14, hv_15, h⟩ := bd_l h
          refine Ck_VN (As := [.int p2]) (rest := []) (wc := stW k tA V) (wc' := stW k tA V) (w0' := trW k cA nA tA T ++ stW k tA V) ⟨hx, hb, hml, hown, hts⟩ (c_X0_thickness l D k tA V p2 v_14 hv_15) ⟨va_cnB 1 hts gX1_runEffectCommand_X0_thickness_n194 rfl rfl rfl w_6 w_7 (by decide +kernel) ⟨Nat.le_of_ble_eq_true rfl, Nat.le_of_ble_eq_true rfl⟩, w_8, w_9⟩ hK hP hD hS hA (q0 := 4) (ci := 0) rfl rfl ([4, 5, 6, 7, 8, 9, 10, 11, 12, 13, 14]) (hi_R rfl st_hi) (by decide) rfl (vs_R rfl st_all) rfl hl.1 rfl (Nat.le_of_ble_eq_true rfl) dX1_runEffectCommand_48 ⟨Nat.le_of_ble_eq_true rfl, Nat.le_of_ble_eq_true rfl⟩ (fun H locs hP hD hS => ?_)
          refine W.eq (g2 := F0 m 51 ls [.int v_14]) rfl ?_
          refine lv_iload_n hx hb dX1_runEffectCommand_51 rfl (lv_at hl 3 rfl) ?_
          refine lv_icmp_lt (tgt := 59) hx hb dX1_runEffectCommand_52 (by decide) (fun c_16 => ?_) (fun c_16 => ?_)
          · have h := it_l c_16 h
            refine lv_iconst (v := 0) hx hb dX1_runEffectCommand_59 (by decide) ?_
            cases h
            exact Cx_zret hO ⟨rfl, rfl⟩ (Nat.le_of_ble_eq_true rfl) (Nat.le_of_ble_eq_true rfl) hx hb hr (by decide) hP hD hS dX1_runEffectCommand_60 hlocks
          · have h := it_r c_16 h
            refine lv_iconst (v := 1) hx hb dX1_runEffectCommand_55 (by decide) ?_
            refine lv_goto (tgt := 60) hx hb dX1_runEffectCommand_56 (by decide) ?_
            cases h
            exact Cx_zret hO ⟨rfl, rfl⟩ (Nat.le_of_ble_eq_true rfl) (Nat.le_of_ble_eq_true rfl) hx hb hr (by decide) hP hD hS dX1_runEffectCommand_60 hlocks
      · have h := it_r c_3 h
        refine lv_iconst (v := 0) hx hb dX1_runEffectCommand_36 (by decide) ?_
        cases h
        exact Cx_zret hO ⟨rfl, rfl⟩ (Nat.le_of_ble_eq_true rfl) (Nat.le_of_ble_eq_true rfl) hx hb hr (by decide) hP hD hS dX1_runEffectCommand_37 hlocks
    · have h := it_l c_2 h
      refine lv_aload_n hx hb dX1_runEffectCommand_18 rfl (lv_at hl 0 rfl) ?_
      refine va_get (D := D) (ci := 1) (v := .ref (tA 0)) (C := RX1) (T := TX1) (N := 11) hx hb hts w_1 hown hK hP 0 rfl rfl 4 (by decide) w_0 (fun _ h9 => h9) rfl dX1_runEffectCommand_19 ?_
      refine va_getN (D := D) (ci := 0) (v := .ref (tA 6)) (C := RX0) (T := TX0) (N := 12) hx hb hts w_3 hown hK hP 4 rfl rfl 7 (by decide) w_10 (fun _ h9 => h9) rfl dX1_runEffectCommand_22 ?_
      refine lv_iload_n hx hb dX1_runEffectCommand_25 rfl (lv_at hl 2 rfl) ?_
      refine lv_iload_n hx hb dX1_runEffectCommand_26 rfl (lv_at hl 3 rfl) ?_
      have g_17 := inb_vp (gb_l h)
      have h := gb_r h
      refine va_iast hx hb hK hP hD hS 10 0 rfl rfl g_17 dX1_runEffectCommand_27 (fun H locs hP hD hS => ?_)
      obtain ⟨q_18, eq_18⟩ : ∃ y : StV, y = su_val V (upd (s_val V) p2.toNatClampNeg p3) := ⟨_, rfl⟩
      have hP : va_P D vwCl (trW k cA nA tA T ++ stW k tA q_18) H := by rw [eq_18, ← st_set_val k tA V _, ← set_appR3 (A := trW k cA nA tA T) (q := 10) (q' := 6) rfl]; exact hP
      have hD : va_D A (trW k cA nA tA T ++ stW k tA q_18) := by rw [eq_18, ← st_set_val k tA V _, ← set_appR3 (A := trW k cA nA tA T) (q := 10) (q' := 6) rfl]; exact hD
      have h := nm_l h eq_18
      refine lv_iconst (v := 1) hx hb dX1_runEffectCommand_28 (by decide) ?_
      cases h
      exact Cx_zret hO ⟨rfl, rfl⟩ (Nat.le_of_ble_eq_true rfl) (Nat.le_of_ble_eq_true rfl) hx hb hr (by decide) hP hD hS dX1_runEffectCommand_29 hlocks
  · have h := it_r c_1 h
    refine lv_iconst (v := 0) hx hb dX1_runEffectCommand_11 (by decide) ?_
    cases h
    exact Cx_zret hO ⟨rfl, rfl⟩ (Nat.le_of_ble_eq_true rfl) (Nat.le_of_ble_eq_true rfl) hx hb hr (by decide) hP hD hS dX1_runEffectCommand_12 hlocks
def f_X1_runCommand (T : TrV) (V : StV) (p1 : Int32) : Option (String ⊕ (Int32 × StV)) := nm (p1 / 10000) fun v_1 => nm (p1 - p1 / 10000 * 10000) fun v_2 => if v_1 = 1 then (if v_2 < 1 then (some (.inr (0, V))) else (if v_2 ≤ 99 then (bd (f_X0_pass V v_2) fun ⟨v_6, q_7⟩ => some (.inr (1, q_7))) else (some (.inr (0, V))))) else (if v_1 = 2 then (if v_2 ≤ (tG 1) then (nm (su_set V (upd (s_set V) 0 v_2)) fun q_11 => some (.inr (1, q_11))) else (some (.inr (0, V)))) else (if v_1 = 3 then (bn (f_X1_runEffectCommand T V v_1 (v_2 / 1000) (v_2 - v_2 / 1000 * 1000)) fun ⟨v_13, q_14⟩ => gb (isb v_13) <| some (.inr (v_13, q_14))) else (if v_1 = 4 then (bn (f_X1_runEffectCommand T V v_1 (v_2 / 1000) (v_2 - v_2 / 1000 * 1000)) fun ⟨v_20, q_21⟩ => gb (isb v_20) <| some (.inr (v_20, q_21))) else (if v_1 = 5 then (bn (f_X1_runEffectCommand T V v_1 (v_2 / 1000) (v_2 - v_2 / 1000 * 1000)) fun ⟨v_27, q_28⟩ => gb (isb v_27) <| some (.inr (v_27, q_28))) else (if v_1 = 6 then (bn (f_X1_runEffectCommand T V v_1 (v_2 / 1000) (v_2 - v_2 / 1000 * 1000)) fun ⟨v_34, q_35⟩ => gb (isb v_34) <| some (.inr (v_34, q_35))) else (if v_1 = 7 then (if 9 < v_2 then (some (.inr (0, V))) else (bd (f_X0_washedEffects V) fun v_42 => if v_42 = v_2 then (some (.inr (1, V))) else (some (.inr (0, V))))) else (if v_1 = 8 then (if 999 < v_2 then (some (.inr (0, V))) else (if v_2 < ((s_cou V) 0) then (some (.inr (0, V))) else (some (.inr (1, V))))) else (some (.inr (0, V))))))))))
set_option maxRecDepth 100000 in
set_option maxHeartbeats 4000000 in
theorem c_X1_runCommand (l : Launch) (hst : l.stackTraces = false) (D : va_G) (k : Nat → ClassId) (cA : Nat → Nat) (nA : Nat → Nat) (tA : Nat → Nat) (T : TrV) (V : StV) (p1 : Int32) (o : String ⊕ (Int32 × StV)) (h : f_X1_runCommand T V p1 = some o) : Cx l D (tyK k) yX1_runCommand wsX1_runCommand ({ frames := 4, cells := 0, slots := 0, locals := 96 } : Room) [.ref (cA 0), .int p1] (trW k cA nA tA T ++ stW k tA V) (trW k cA nA tA T ++ stW k tA V) (Sum.map id (fun r : Int32 × StV => fun (ov : Option Value) (w : va_W) => ov = (some (.int r.1) : Option Value) ∧ w = trW k cA nA tA T ++ stW k tA r.2) o) := by
  obtain ⟨O, hO⟩ : ∃ O : Oc, O = Sum.map id (fun r : Int32 × StV => fun (ov : Option Value) (w : va_W) => ov = (some (.int r.1) : Option Value) ∧ w = trW k cA nA tA T ++ stW k tA r.2) o := ⟨_, rfl⟩
  rw [← hO]
  refine Cx_of (cc := cX1_runCommand) (maxL := 4) (ret := (some .boolean)) (by decide) rfl (Nat.le_of_ble_eq_true rfl) ?_
  intro p e s m args below meth c A ls hx hb hr hml hts hown hlocks hnm htab hK hG hA hP hD hS hl
  obtain ⟨t1, t2, t3, ⟨z1, b1⟩, ⟨z2, b2⟩, z3, b3⟩ := id hG.1
  have hl : lv_has ls 4 [(0, .ref (cA 0)), (1, .int p1)] := hl
  have hP : va_P D vwCl (trW k cA nA tA T ++ stW k tA V) s.heap := hP
  have w_0 := hts (.fieldLink RX1 28 "EffectTrain" "trial" "LEffectTrain$State;") (by decide +kernel)
  have w_1 : ∀ w ∈ wsX10, w ∈ wsX1_runCommand := by decide +kernel
  have w_2 : va_Nw (.methodLinkNest RX1 132 yX0_pass "EffectTrain") s := hG.2.2.2.2.2 (132, yX0_pass, "EffectTrain") (by decide +kernel)
  have w_3 := hts (.initialized RX0) (by decide +kernel)
  have w_4 := hts (.instanceMethod yX0_pass) (by decide +kernel)
  have w_5 := hts (.selects RX0 yX0_pass yX0_pass) (by decide +kernel)
  have w_6 := hts (.fieldLink RX1 88 "EffectTrain" "GREATEST" "[I") (by decide +kernel)
  have w_7 : (Cond.fieldLinkNest RX1 103 "EffectTrain$State" "settings" "[I" "EffectTrain").before args s = true := va_Nw.use rfl (hG.2.2.2.2.1 (103, "EffectTrain$State", "settings", "[I", "EffectTrain") (by decide +kernel))
  have w_8 : ∀ w ∈ wsX00, w ∈ wsX1_runCommand := by decide +kernel
  have w_9 : va_Nw (.methodLinkNest RX1 100 yX0_washedEffects "EffectTrain") s := hG.2.2.2.2.2 (100, yX0_washedEffects, "EffectTrain") (by decide +kernel)
  have w_10 := hts (.instanceMethod yX0_washedEffects) (by decide +kernel)
  have w_11 := hts (.selects RX0 yX0_washedEffects yX0_washedEffects) (by decide +kernel)
  have w_12 : (Cond.fieldLinkNest RX1 106 "EffectTrain$State" "counts" "[I" "EffectTrain").before args s = true := va_Nw.use rfl (hG.2.2.2.2.1 (106, "EffectTrain$State", "counts", "[I", "EffectTrain") (by decide +kernel))
  unfold f_X1_runCommand at h
  refine lv_iload_n hx hb dX1_runCommand_0 rfl (lv_at hl 1 rfl) ?_
  refine lv_sipush (v := 10000) hx hb dX1_runCommand_1 (by decide) ?_
  refine lv_idiv hx hb dX1_runCommand_4 (by decide) ?_
  refine lv_topi (fun v_1 ev_1 => ?_)
  have h := nm_l h ev_1
  refine lv_istore_n (lv' := [(2, .int v_1), (0, .ref (cA 0)), (1, .int p1)]) hx hb dX1_runCommand_5 rfl hl (by decide) rfl (fun ls hl => ?_)
  refine lv_iload_n hx hb dX1_runCommand_6 rfl (lv_at hl 2 rfl) ?_
  refine lv_sipush (v := 10000) hx hb dX1_runCommand_7 (by decide) ?_
  refine lv_irem hx hb dX1_runCommand_10 (by decide) ?_
  refine lv_topi (fun v_2 ev_2 => ?_)
  have h := nm_l h ev_2
  refine lv_istore_n (lv' := [(3, .int v_2), (2, .int v_1), (0, .ref (cA 0)), (1, .int p1)]) hx hb dX1_runCommand_11 rfl hl (by decide) rfl (fun ls hl => ?_)
  refine lv_iload_n hx hb dX1_runCommand_12 rfl (lv_at hl 1 rfl) ?_
  by_cases c_3 : v_1 = 1
  · have h := it_l c_3 h
    refine lv_tableIn (tgt := 60) hx hb dX1_runCommand_13 (by rw [c_3]; decide) (by rw [c_3]; decide) (by rw [c_3]; rfl) (by decide) ?_
    refine lv_iload_n hx hb dX1_runCommand_60 rfl (lv_at hl 0 rfl) ?_
    refine lv_iconst (v := 1) hx hb dX1_runCommand_61 (by decide) ?_
    refine lv_icmp_lt (tgt := 71) hx hb dX1_runCommand_62 (by decide) (fun c_4 => ?_) (fun c_4 => ?_)
    · have h := it_l c_4 h
      refine lv_iconst (v := 0) hx hb dX1_runCommand_71 (by decide) ?_
      cases h
      exact Cx_zret hO ⟨rfl, rfl⟩ (Nat.le_of_ble_eq_true rfl) (Nat.le_of_ble_eq_true rfl) hx hb hr (by decide) hP hD hS dX1_runCommand_72 hlocks
    · have h := it_r c_4 h
      refine lv_iload_n hx hb dX1_runCommand_65 rfl (lv_at hl 0 rfl) ?_
      refine lv_bipush (v := 99) hx hb dX1_runCommand_66 (by decide) ?_
      refine lv_icmp_le (tgt := 73) hx hb dX1_runCommand_68 (by decide) (fun c_5 => ?_) (fun c_5 => ?_)
      · have h := it_l c_5 h
        refine lv_aload_n hx hb dX1_runCommand_73 rfl (lv_at hl 2 rfl) ?_
        refine va_get (D := D) (ci := 1) (v := .ref (tA 0)) (C := RX1) (T := TX1) (N := 11) hx hb hts w_1 hown hK hP 0 rfl rfl 4 (by decide) w_0 (fun _ h9 => h9) rfl dX1_runCommand_74 ?_
        refine lv_iload_n hx hb dX1_runCommand_77 rfl (lv_at hl 0 rfl) ?_
        obtain ⟨⟨v_6, q_7⟩, hv_8, h⟩ := bd_l h
        refine Ck_VN (As := [.int v_2]) (rest := []) (wc := stW k tA V) (wc' := stW k tA q_7) (w0' := trW k cA nA tA T ++ stW k tA q_7) ⟨hx, hb, hml, hown, hts⟩ (c_X0_pass l D k tA V v_2 v_6 q_7 hv_8) ⟨va_cnB 1 hts gX1_runCommand_X0_pass_n132 rfl rfl rfl w_2 w_3 (by decide +kernel) ⟨Nat.le_of_ble_eq_true rfl, Nat.le_of_ble_eq_true rfl⟩, w_4, w_5⟩ hK hP hD hS hA (q0 := 4) (ci := 0) rfl rfl ([4, 5, 6, 7, 8, 9, 10, 11, 12, 13, 14]) (hi_R rfl st_hi) (by decide) rfl (vs_R rfl st_all) rfl hl.1 rfl (Nat.le_of_ble_eq_true rfl) dX1_runCommand_78 ⟨Nat.le_of_ble_eq_true rfl, Nat.le_of_ble_eq_true rfl⟩ (fun H locs hP hD hS => ?_)
        refine W.eq (g2 := F0 m 81 ls [.int v_6]) rfl ?_
        refine lv_pop hx hb dX1_runCommand_81 rfl ?_
        refine lv_iconst (v := 1) hx hb dX1_runCommand_82 (by decide) ?_
        cases h
        exact Cx_zret hO ⟨rfl, rfl⟩ (Nat.le_of_ble_eq_true rfl) (Nat.le_of_ble_eq_true rfl) hx hb hr (by decide) hP hD hS dX1_runCommand_83 hlocks
      · have h := it_r c_5 h
        refine lv_iconst (v := 0) hx hb dX1_runCommand_71 (by decide) ?_
        cases h
        exact Cx_zret hO ⟨rfl, rfl⟩ (Nat.le_of_ble_eq_true rfl) (Nat.le_of_ble_eq_true rfl) hx hb hr (by decide) hP hD hS dX1_runCommand_72 hlocks
  · have h := it_r c_3 h
    by_cases c_9 : v_1 = 2
    · have h := it_l c_9 h
      refine lv_tableIn (tgt := 84) hx hb dX1_runCommand_13 (by rw [c_9]; decide) (by rw [c_9]; decide) (by rw [c_9]; rfl) (by decide) ?_
      refine lv_iload_n hx hb dX1_runCommand_84 rfl (lv_at hl 0 rfl) ?_
      refine va_gets hx hb z3 hS hown w_6 (fun _ h9 => h9) dX1_runCommand_85 ?_
      refine lv_iconst (v := 1) hx hb dX1_runCommand_88 (by decide) ?_
      refine va_ti hx hb b3 hS (inb_vp (by decide)) rfl dX1_runCommand_89 ?_
      refine W.eq (g2 := F0 m 90 ls [.int (tG 1), .int v_2]) rfl ?_
      refine lv_icmp_le (tgt := 95) hx hb dX1_runCommand_90 (by decide) (fun c_10 => ?_) (fun c_10 => ?_)
      · have h := it_l c_10 h
        refine lv_aload_n hx hb dX1_runCommand_95 rfl (lv_at hl 2 rfl) ?_
        refine va_get (D := D) (ci := 1) (v := .ref (tA 0)) (C := RX1) (T := TX1) (N := 11) hx hb hts w_1 hown hK hP 0 rfl rfl 4 (by decide) w_0 (fun _ h9 => h9) rfl dX1_runCommand_96 ?_
        refine va_getN (D := D) (ci := 0) (v := .ref (tA 1)) (C := RX0) (T := TX0) (N := 12) hx hb hts w_8 hown hK hP 4 rfl rfl 1 (by decide) w_7 (fun _ h9 => h9) rfl dX1_runCommand_99 ?_
        refine lv_iconst (v := 0) hx hb dX1_runCommand_102 (by decide) ?_
        refine lv_iload_n hx hb dX1_runCommand_103 rfl (lv_at hl 0 rfl) ?_
        refine va_iast hx hb hK hP hD hS 5 0 rfl rfl (inb_vp (by decide)) dX1_runCommand_104 (fun H locs hP hD hS => ?_)
        obtain ⟨q_11, eq_11⟩ : ∃ y : StV, y = su_set V (upd (s_set V) 0 v_2) := ⟨_, rfl⟩
        have hP : va_P D vwCl (trW k cA nA tA T ++ stW k tA q_11) H := by rw [eq_11, ← st_set_set k tA V _, ← set_appR3 (A := trW k cA nA tA T) (q := 5) (q' := 1) rfl]; exact hP
        have hD : va_D A (trW k cA nA tA T ++ stW k tA q_11) := by rw [eq_11, ← st_set_set k tA V _, ← set_appR3 (A := trW k cA nA tA T) (q := 5) (q' := 1) rfl]; exact hD
        have h := nm_l h eq_11
        refine lv_iconst (v := 1) hx hb dX1_runCommand_105 (by decide) ?_
        cases h
        exact Cx_zret hO ⟨rfl, rfl⟩ (Nat.le_of_ble_eq_true rfl) (Nat.le_of_ble_eq_true rfl) hx hb hr (by decide) hP hD hS dX1_runCommand_106 hlocks
      · have h := it_r c_10 h
        refine lv_iconst (v := 0) hx hb dX1_runCommand_93 (by decide) ?_
        cases h
        exact Cx_zret hO ⟨rfl, rfl⟩ (Nat.le_of_ble_eq_true rfl) (Nat.le_of_ble_eq_true rfl) hx hb hr (by decide) hP hD hS dX1_runCommand_94 hlocks
    · have h := it_r c_9 h
      by_cases c_12 : v_1 = 3
      · have h := it_l c_12 h
        refine lv_tableIn (tgt := 107) hx hb dX1_runCommand_13 (by rw [c_12]; decide) (by rw [c_12]; decide) (by rw [c_12]; rfl) (by decide) ?_
        refine lv_aload_n hx hb dX1_runCommand_107 rfl (lv_at hl 2 rfl) ?_
        refine lv_iload_n hx hb dX1_runCommand_108 rfl (lv_at hl 1 rfl) ?_
        refine lv_iload_n hx hb dX1_runCommand_109 rfl (lv_at hl 0 rfl) ?_
        refine lv_sipush (v := 1000) hx hb dX1_runCommand_110 (by decide) ?_
        refine lv_idiv hx hb dX1_runCommand_113 (by decide) ?_
        refine lv_iload_n hx hb dX1_runCommand_114 rfl (lv_at hl 0 rfl) ?_
        refine lv_sipush (v := 1000) hx hb dX1_runCommand_115 (by decide) ?_
        refine lv_irem hx hb dX1_runCommand_118 (by decide) ?_
        obtain ⟨⟨v_13, q_14⟩, hv_15, h⟩ := bn_l h
        refine Cx_in (w0' := trW k cA nA tA T ++ stW k tA q_14) (wc' := trW k cA nA tA T ++ stW k tA q_14) rfl (vx_runV (As := [.int v_1, .int (v_2 / 1000), .int (v_2 - v_2 / 1000 * 1000)]) (rest := []) ⟨hx, hb, hml, hown, hts⟩ (c_X1_runEffectCommand l hst D k cA nA tA T V v_1 (v_2 / 1000) (v_2 - v_2 / 1000 * 1000) (.inr (v_13, q_14)) hv_15 _) (cwV 3 hts gX1_runCommand_X1_runEffectCommand rfl rfl rfl (by decide +kernel) ⟨Nat.le_of_ble_eq_true rfl, Nat.le_of_ble_eq_true rfl⟩) ⟨Px_blind, va_recv (q0 := 0) (ci := 1) hK hP rfl rfl, Px_at (wc := trW k cA nA tA T ++ stW k tA V) hK hG hP hD hS hA ([0, 1, 2, 3] ++ [4, 5, 6, 7, 8, 9, 10, 11, 12, 13, 14]) (hi_2 (hi_L rfl tr_hi) (hi_R rfl st_hi)) (by decide)⟩ rfl rfl hl.1 rfl (Nat.le_of_ble_eq_true rfl) dX1_runCommand_119 ⟨Nat.le_of_ble_eq_true rfl, Nat.le_of_ble_eq_true rfl⟩) hP hD hS hA ([0, 1, 2, 3] ++ [4, 5, 6, 7, 8, 9, 10, 11, 12, 13, 14]) (hi_2 (hi_L rfl tr_hi) (hi_R rfl st_hi)) rfl (vs_2 rfl (vs_L rfl tr_all) (vs_R rfl st_all)) (fun H locs hP hD hS => ?_)
        refine W.eq (g2 := F0 m 122 ls [.int v_13]) rfl ?_
        have g_18 := gb_l h
        have h := gb_r h
        cases h
        exact Cx_zret hO ⟨rfl, rfl⟩ (Nat.le_of_ble_eq_true rfl) (Nat.le_of_ble_eq_true rfl) hx hb hr (isb_l g_18) hP hD hS dX1_runCommand_122 hlocks
      · have h := it_r c_12 h
        by_cases c_19 : v_1 = 4
        · have h := it_l c_19 h
          refine lv_tableIn (tgt := 107) hx hb dX1_runCommand_13 (by rw [c_19]; decide) (by rw [c_19]; decide) (by rw [c_19]; rfl) (by decide) ?_
          refine lv_aload_n hx hb dX1_runCommand_107 rfl (lv_at hl 2 rfl) ?_
          refine lv_iload_n hx hb dX1_runCommand_108 rfl (lv_at hl 1 rfl) ?_
          refine lv_iload_n hx hb dX1_runCommand_109 rfl (lv_at hl 0 rfl) ?_
          refine lv_sipush (v := 1000) hx hb dX1_runCommand_110 (by decide) ?_
          refine lv_idiv hx hb dX1_runCommand_113 (by decide) ?_
          refine lv_iload_n hx hb dX1_runCommand_114 rfl (lv_at hl 0 rfl) ?_
          refine lv_sipush (v := 1000) hx hb dX1_runCommand_115 (by decide) ?_
          refine lv_irem hx hb dX1_runCommand_118 (by decide) ?_
          obtain ⟨⟨v_20, q_21⟩, hv_22, h⟩ := bn_l h
          refine Cx_in (w0' := trW k cA nA tA T ++ stW k tA q_21) (wc' := trW k cA nA tA T ++ stW k tA q_21) rfl (vx_runV (As := [.int v_1, .int (v_2 / 1000), .int (v_2 - v_2 / 1000 * 1000)]) (rest := []) ⟨hx, hb, hml, hown, hts⟩ (c_X1_runEffectCommand l hst D k cA nA tA T V v_1 (v_2 / 1000) (v_2 - v_2 / 1000 * 1000) (.inr (v_20, q_21)) hv_22 _) (cwV 3 hts gX1_runCommand_X1_runEffectCommand rfl rfl rfl (by decide +kernel) ⟨Nat.le_of_ble_eq_true rfl, Nat.le_of_ble_eq_true rfl⟩) ⟨Px_blind, va_recv (q0 := 0) (ci := 1) hK hP rfl rfl, Px_at (wc := trW k cA nA tA T ++ stW k tA V) hK hG hP hD hS hA ([0, 1, 2, 3] ++ [4, 5, 6, 7, 8, 9, 10, 11, 12, 13, 14]) (hi_2 (hi_L rfl tr_hi) (hi_R rfl st_hi)) (by decide)⟩ rfl rfl hl.1 rfl (Nat.le_of_ble_eq_true rfl) dX1_runCommand_119 ⟨Nat.le_of_ble_eq_true rfl, Nat.le_of_ble_eq_true rfl⟩) hP hD hS hA ([0, 1, 2, 3] ++ [4, 5, 6, 7, 8, 9, 10, 11, 12, 13, 14]) (hi_2 (hi_L rfl tr_hi) (hi_R rfl st_hi)) rfl (vs_2 rfl (vs_L rfl tr_all) (vs_R rfl st_all)) (fun H locs hP hD hS => ?_)
          refine W.eq (g2 := F0 m 122 ls [.int v_20]) rfl ?_
          have g_25 := gb_l h
          have h := gb_r h
          cases h
          exact Cx_zret hO ⟨rfl, rfl⟩ (Nat.le_of_ble_eq_true rfl) (Nat.le_of_ble_eq_true rfl) hx hb hr (isb_l g_25) hP hD hS dX1_runCommand_122 hlocks
        · have h := it_r c_19 h
          by_cases c_26 : v_1 = 5
          · have h := it_l c_26 h
            refine lv_tableIn (tgt := 107) hx hb dX1_runCommand_13 (by rw [c_26]; decide) (by rw [c_26]; decide) (by rw [c_26]; rfl) (by decide) ?_
            refine lv_aload_n hx hb dX1_runCommand_107 rfl (lv_at hl 2 rfl) ?_
            refine lv_iload_n hx hb dX1_runCommand_108 rfl (lv_at hl 1 rfl) ?_
            refine lv_iload_n hx hb dX1_runCommand_109 rfl (lv_at hl 0 rfl) ?_
            refine lv_sipush (v := 1000) hx hb dX1_runCommand_110 (by decide) ?_
            refine lv_idiv hx hb dX1_runCommand_113 (by decide) ?_
            refine lv_iload_n hx hb dX1_runCommand_114 rfl (lv_at hl 0 rfl) ?_
            refine lv_sipush (v := 1000) hx hb dX1_runCommand_115 (by decide) ?_
            refine lv_irem hx hb dX1_runCommand_118 (by decide) ?_
            obtain ⟨⟨v_27, q_28⟩, hv_29, h⟩ := bn_l h
            refine Cx_in (w0' := trW k cA nA tA T ++ stW k tA q_28) (wc' := trW k cA nA tA T ++ stW k tA q_28) rfl (vx_runV (As := [.int v_1, .int (v_2 / 1000), .int (v_2 - v_2 / 1000 * 1000)]) (rest := []) ⟨hx, hb, hml, hown, hts⟩ (c_X1_runEffectCommand l hst D k cA nA tA T V v_1 (v_2 / 1000) (v_2 - v_2 / 1000 * 1000) (.inr (v_27, q_28)) hv_29 _) (cwV 3 hts gX1_runCommand_X1_runEffectCommand rfl rfl rfl (by decide +kernel) ⟨Nat.le_of_ble_eq_true rfl, Nat.le_of_ble_eq_true rfl⟩) ⟨Px_blind, va_recv (q0 := 0) (ci := 1) hK hP rfl rfl, Px_at (wc := trW k cA nA tA T ++ stW k tA V) hK hG hP hD hS hA ([0, 1, 2, 3] ++ [4, 5, 6, 7, 8, 9, 10, 11, 12, 13, 14]) (hi_2 (hi_L rfl tr_hi) (hi_R rfl st_hi)) (by decide)⟩ rfl rfl hl.1 rfl (Nat.le_of_ble_eq_true rfl) dX1_runCommand_119 ⟨Nat.le_of_ble_eq_true rfl, Nat.le_of_ble_eq_true rfl⟩) hP hD hS hA ([0, 1, 2, 3] ++ [4, 5, 6, 7, 8, 9, 10, 11, 12, 13, 14]) (hi_2 (hi_L rfl tr_hi) (hi_R rfl st_hi)) rfl (vs_2 rfl (vs_L rfl tr_all) (vs_R rfl st_all)) (fun H locs hP hD hS => ?_)
            refine W.eq (g2 := F0 m 122 ls [.int v_27]) rfl ?_
            have g_32 := gb_l h
            have h := gb_r h
            cases h
            exact Cx_zret hO ⟨rfl, rfl⟩ (Nat.le_of_ble_eq_true rfl) (Nat.le_of_ble_eq_true rfl) hx hb hr (isb_l g_32) hP hD hS dX1_runCommand_122 hlocks
          · have h := it_r c_26 h
            by_cases c_33 : v_1 = 6
            · have h := it_l c_33 h
              refine lv_tableIn (tgt := 107) hx hb dX1_runCommand_13 (by rw [c_33]; decide) (by rw [c_33]; decide) (by rw [c_33]; rfl) (by decide) ?_
              refine lv_aload_n hx hb dX1_runCommand_107 rfl (lv_at hl 2 rfl) ?_
              refine lv_iload_n hx hb dX1_runCommand_108 rfl (lv_at hl 1 rfl) ?_
              refine lv_iload_n hx hb dX1_runCommand_109 rfl (lv_at hl 0 rfl) ?_
              refine lv_sipush (v := 1000) hx hb dX1_runCommand_110 (by decide) ?_
              refine lv_idiv hx hb dX1_runCommand_113 (by decide) ?_
              refine lv_iload_n hx hb dX1_runCommand_114 rfl (lv_at hl 0 rfl) ?_
              refine lv_sipush (v := 1000) hx hb dX1_runCommand_115 (by decide) ?_
              refine lv_irem hx hb dX1_runCommand_118 (by decide) ?_
              obtain ⟨⟨v_34, q_35⟩, hv_36, h⟩ := bn_l h
              refine Cx_in (w0' := trW k cA nA tA T ++ stW k tA q_35) (wc' := trW k cA nA tA T ++ stW k tA q_35) rfl (vx_runV (As := [.int v_1, .int (v_2 / 1000), .int (v_2 - v_2 / 1000 * 1000)]) (rest := []) ⟨hx, hb, hml, hown, hts⟩ (c_X1_runEffectCommand l hst D k cA nA tA T V v_1 (v_2 / 1000) (v_2 - v_2 / 1000 * 1000) (.inr (v_34, q_35)) hv_36 _) (cwV 3 hts gX1_runCommand_X1_runEffectCommand rfl rfl rfl (by decide +kernel) ⟨Nat.le_of_ble_eq_true rfl, Nat.le_of_ble_eq_true rfl⟩) ⟨Px_blind, va_recv (q0 := 0) (ci := 1) hK hP rfl rfl, Px_at (wc := trW k cA nA tA T ++ stW k tA V) hK hG hP hD hS hA ([0, 1, 2, 3] ++ [4, 5, 6, 7, 8, 9, 10, 11, 12, 13, 14]) (hi_2 (hi_L rfl tr_hi) (hi_R rfl st_hi)) (by decide)⟩ rfl rfl hl.1 rfl (Nat.le_of_ble_eq_true rfl) dX1_runCommand_119 ⟨Nat.le_of_ble_eq_true rfl, Nat.le_of_ble_eq_true rfl⟩) hP hD hS hA ([0, 1, 2, 3] ++ [4, 5, 6, 7, 8, 9, 10, 11, 12, 13, 14]) (hi_2 (hi_L rfl tr_hi) (hi_R rfl st_hi)) rfl (vs_2 rfl (vs_L rfl tr_all) (vs_R rfl st_all)) (fun H locs hP hD hS => ?_)
              refine W.eq (g2 := F0 m 122 ls [.int v_34]) rfl ?_
              have g_39 := gb_l h
              have h := gb_r h
              cases h
              exact Cx_zret hO ⟨rfl, rfl⟩ (Nat.le_of_ble_eq_true rfl) (Nat.le_of_ble_eq_true rfl) hx hb hr (isb_l g_39) hP hD hS dX1_runCommand_122 hlocks
            · have h := it_r c_33 h
              by_cases c_40 : v_1 = 7
              · have h := it_l c_40 h
                refine lv_tableIn (tgt := 123) hx hb dX1_runCommand_13 (by rw [c_40]; decide) (by rw [c_40]; decide) (by rw [c_40]; rfl) (by decide) ?_
                refine lv_iload_n hx hb dX1_runCommand_123 rfl (lv_at hl 0 rfl) ?_
                refine lv_bipush (v := 9) hx hb dX1_runCommand_124 (by decide) ?_
                refine lv_icmp_gt (tgt := 144) hx hb dX1_runCommand_126 (by decide) (fun c_41 => ?_) (fun c_41 => ?_)
                · have h := it_l c_41 h
                  refine lv_iconst (v := 0) hx hb dX1_runCommand_144 (by decide) ?_
                  cases h
                  exact Cx_zret hO ⟨rfl, rfl⟩ (Nat.le_of_ble_eq_true rfl) (Nat.le_of_ble_eq_true rfl) hx hb hr (by decide) hP hD hS dX1_runCommand_145 hlocks
                · have h := it_r c_41 h
                  refine lv_aload_n hx hb dX1_runCommand_129 rfl (lv_at hl 2 rfl) ?_
                  refine va_get (D := D) (ci := 1) (v := .ref (tA 0)) (C := RX1) (T := TX1) (N := 11) hx hb hts w_1 hown hK hP 0 rfl rfl 4 (by decide) w_0 (fun _ h9 => h9) rfl dX1_runCommand_130 ?_
                  obtain ⟨v_42, hv_43, h⟩ := bd_l h
                  refine Ck_VN (As := []) (rest := []) (wc := stW k tA V) (wc' := stW k tA V) (w0' := trW k cA nA tA T ++ stW k tA V) ⟨hx, hb, hml, hown, hts⟩ (c_X0_washedEffects l D k tA V v_42 hv_43) ⟨va_cnB 0 hts gX1_runCommand_X0_washedEffects_n100 rfl rfl rfl w_9 w_3 (by decide +kernel) ⟨Nat.le_of_ble_eq_true rfl, Nat.le_of_ble_eq_true rfl⟩, w_10, w_11⟩ hK hP hD hS hA (q0 := 4) (ci := 0) rfl rfl ([4, 5, 6, 7, 8, 9, 10, 11, 12, 13, 14]) (hi_R rfl st_hi) (by decide) rfl (vs_R rfl st_all) rfl hl.1 rfl (Nat.le_of_ble_eq_true rfl) dX1_runCommand_133 ⟨Nat.le_of_ble_eq_true rfl, Nat.le_of_ble_eq_true rfl⟩ (fun H locs hP hD hS => ?_)
                  refine W.eq (g2 := F0 m 136 ls [.int v_42]) rfl ?_
                  refine lv_iload_n hx hb dX1_runCommand_136 rfl (lv_at hl 0 rfl) ?_
                  refine lv_icmp_ne (tgt := 144) hx hb dX1_runCommand_137 (by decide) (fun c_44 => ?_) (fun c_44 => ?_)
                  · have h := it_r c_44 h
                    refine lv_iconst (v := 0) hx hb dX1_runCommand_144 (by decide) ?_
                    cases h
                    exact Cx_zret hO ⟨rfl, rfl⟩ (Nat.le_of_ble_eq_true rfl) (Nat.le_of_ble_eq_true rfl) hx hb hr (by decide) hP hD hS dX1_runCommand_145 hlocks
                  · have h := it_l c_44 h
                    refine lv_iconst (v := 1) hx hb dX1_runCommand_140 (by decide) ?_
                    refine lv_goto (tgt := 145) hx hb dX1_runCommand_141 (by decide) ?_
                    cases h
                    exact Cx_zret hO ⟨rfl, rfl⟩ (Nat.le_of_ble_eq_true rfl) (Nat.le_of_ble_eq_true rfl) hx hb hr (by decide) hP hD hS dX1_runCommand_145 hlocks
              · have h := it_r c_40 h
                by_cases c_45 : v_1 = 8
                · have h := it_l c_45 h
                  refine lv_tableIn (tgt := 146) hx hb dX1_runCommand_13 (by rw [c_45]; decide) (by rw [c_45]; decide) (by rw [c_45]; rfl) (by decide) ?_
                  refine lv_iload_n hx hb dX1_runCommand_146 rfl (lv_at hl 0 rfl) ?_
                  refine lv_sipush (v := 999) hx hb dX1_runCommand_147 (by decide) ?_
                  refine lv_icmp_gt (tgt := 170) hx hb dX1_runCommand_150 (by decide) (fun c_46 => ?_) (fun c_46 => ?_)
                  · have h := it_l c_46 h
                    refine lv_iconst (v := 0) hx hb dX1_runCommand_170 (by decide) ?_
                    cases h
                    exact Cx_zret hO ⟨rfl, rfl⟩ (Nat.le_of_ble_eq_true rfl) (Nat.le_of_ble_eq_true rfl) hx hb hr (by decide) hP hD hS dX1_runCommand_171 hlocks
                  · have h := it_r c_46 h
                    refine lv_aload_n hx hb dX1_runCommand_153 rfl (lv_at hl 2 rfl) ?_
                    refine va_get (D := D) (ci := 1) (v := .ref (tA 0)) (C := RX1) (T := TX1) (N := 11) hx hb hts w_1 hown hK hP 0 rfl rfl 4 (by decide) w_0 (fun _ h9 => h9) rfl dX1_runCommand_154 ?_
                    refine va_getN (D := D) (ci := 0) (v := .ref (tA 2)) (C := RX0) (T := TX0) (N := 12) hx hb hts w_8 hown hK hP 4 rfl rfl 3 (by decide) w_12 (fun _ h9 => h9) rfl dX1_runCommand_157 ?_
                    refine lv_iconst (v := 0) hx hb dX1_runCommand_160 (by decide) ?_
                    refine va_iald hx hb hK hP 6 0 rfl rfl (inb_vp (by decide)) dX1_runCommand_161 ?_
                    refine W.eq (g2 := F0 m 162 ls [.int ((s_cou V) 0)]) rfl ?_
                    refine lv_iload_n hx hb dX1_runCommand_162 rfl (lv_at hl 0 rfl) ?_
                    refine lv_icmp_gt (tgt := 170) hx hb dX1_runCommand_163 (by decide) (fun c_47 => ?_) (fun c_47 => ?_)
                    · have h := it_l c_47 h
                      refine lv_iconst (v := 0) hx hb dX1_runCommand_170 (by decide) ?_
                      cases h
                      exact Cx_zret hO ⟨rfl, rfl⟩ (Nat.le_of_ble_eq_true rfl) (Nat.le_of_ble_eq_true rfl) hx hb hr (by decide) hP hD hS dX1_runCommand_171 hlocks
                    · have h := it_r c_47 h
                      refine lv_iconst (v := 1) hx hb dX1_runCommand_166 (by decide) ?_
                      refine lv_goto (tgt := 171) hx hb dX1_runCommand_167 (by decide) ?_
                      cases h
                      exact Cx_zret hO ⟨rfl, rfl⟩ (Nat.le_of_ble_eq_true rfl) (Nat.le_of_ble_eq_true rfl) hx hb hr (by decide) hP hD hS dX1_runCommand_171 hlocks
                · have h := it_r c_45 h
                  have n_c_3 : ¬ v_1.toInt = 1 := fun z9 => c_3 (Int32.toInt_inj.mp (z9.trans (by decide)))
                  have n_c_9 : ¬ v_1.toInt = 2 := fun z9 => c_9 (Int32.toInt_inj.mp (z9.trans (by decide)))
                  have n_c_12 : ¬ v_1.toInt = 3 := fun z9 => c_12 (Int32.toInt_inj.mp (z9.trans (by decide)))
                  have n_c_19 : ¬ v_1.toInt = 4 := fun z9 => c_19 (Int32.toInt_inj.mp (z9.trans (by decide)))
                  have n_c_26 : ¬ v_1.toInt = 5 := fun z9 => c_26 (Int32.toInt_inj.mp (z9.trans (by decide)))
                  have n_c_33 : ¬ v_1.toInt = 6 := fun z9 => c_33 (Int32.toInt_inj.mp (z9.trans (by decide)))
                  have n_c_40 : ¬ v_1.toInt = 7 := fun z9 => c_40 (Int32.toInt_inj.mp (z9.trans (by decide)))
                  have n_c_45 : ¬ v_1.toInt = 8 := fun z9 => c_45 (Int32.toInt_inj.mp (z9.trans (by decide)))
                  refine lv_tableOut (tgt := 172) hx hb dX1_runCommand_13 (by omega) (by decide) ?_
                  refine lv_iconst (v := 0) hx hb dX1_runCommand_172 (by decide) ?_
                  cases h
                  exact Cx_zret hO ⟨rfl, rfl⟩ (Nat.le_of_ble_eq_true rfl) (Nat.le_of_ble_eq_true rfl) hx hb hr (by decide) hP hD hS dX1_runCommand_173 hlocks
def f_X1_runScript_46 (T : TrV) (p1 : Int32) (p2 : Int64) : Nat → Int32 → StV → Option (String ⊕ (Int32 × StV))
  | 0, _, _ => none
  | fu + 1, x4_46, V_46 => if p1 ≤ x4_46 then (some (.inr ((-9), V_46))) else (bn (f_X1_withoutLastGroups p2 ((p1 - 1) - x4_46)) fun v_2 => nm ((v_2 - v_2 / 100000 * 100000).toInt32) fun v_6 => bn (f_X1_runCommand T V_46 v_6) fun ⟨v_7, q_8⟩ => if v_7 = 0 then (some (.inr (x4_46, q_8))) else ((f_X1_runScript_46 T p1 p2 fu) (x4_46 + 1) q_8))
def f_X1_runScript (T : TrV) (N : StV) (V : StV) (p1 : Int32) (p2 : Int64) : Option (String ⊕ (Int32 × StV)) := bx (f_X1_checkRange p1 1 3) fun ⟨⟩ => if (lg_cmp p2 0) < 0 then (some (.inl "java/lang/IllegalArgumentException")) else (bn (f_X1_withoutLastGroups p2 p1) fun v_17 => if (lg_cmp v_17 0) ≤ 0 then (bd (f_X0_copyFrom V N) fun q_22 => f_X1_runScript_46 T p1 p2 2000 0 q_22) else (some (.inl "java/lang/IllegalArgumentException")))
set_option maxRecDepth 100000 in
set_option maxHeartbeats 4000000 in
theorem c_X1_runScript (l : Launch) (hst : l.stackTraces = false) (D : va_G) (k : Nat → ClassId) (cA : Nat → Nat) (nA : Nat → Nat) (tA : Nat → Nat) (T : TrV) (N : StV) (V : StV) (p1 : Int32) (p2 : Int64) (o : String ⊕ (Int32 × StV)) (h : f_X1_runScript T N V p1 p2 = some o) : Cx l D (tyK k) yX1_runScript wsX1_runScript ({ frames := 7, cells := 7, slots := 42, locals := 119 } : Room) [.ref (cA 0), .int p1, .long p2] (trW k cA nA tA T ++ stW k nA N ++ stW k tA V) (trW k cA nA tA T ++ stW k nA N ++ stW k tA V) (Sum.map id (fun r : Int32 × StV => fun (ov : Option Value) (w : va_W) => ov = (some (.int r.1) : Option Value) ∧ w = trW k cA nA tA T ++ stW k nA N ++ stW k tA r.2) o) := by
  obtain ⟨O, hO⟩ : ∃ O : Oc, O = Sum.map id (fun r : Int32 × StV => fun (ov : Option Value) (w : va_W) => ov = (some (.int r.1) : Option Value) ∧ w = trW k cA nA tA T ++ stW k nA N ++ stW k tA r.2) o := ⟨_, rfl⟩
  rw [← hO]
  refine Cx_of (cc := cX1_runScript) (maxL := 6) (ret := (some .int)) (by decide) rfl (Nat.le_of_ble_eq_true rfl) ?_
  intro p e s m args below meth c A ls hx hb hr hml hts hown hlocks hnm htab hK hG hA hP hD hS hl
  have hl : lv_has ls 6 [(0, .ref (cA 0)), (1, .int p1), (2, .long p2)] := hl
  have hP : va_P D vwCl (trW k cA nA tA T ++ stW k nA N ++ stW k tA V) s.heap := hP
  have w_0 := hts (.constantLong RX1 184 (100000)) (by decide +kernel)
  have w_1 := hts (.classLink RX1 179 "java/lang/IllegalArgumentException") (by decide +kernel)
  have w_2 := hts (.initialized "java/lang/IllegalArgumentException") (by decide +kernel)
  have w_3 : ∃ sa : Nat, vk_R RX1 181 "the script has another length" sa s := hG.2.2.2.1 (181, "the script has another length") (by decide +kernel)
  have w_4 := vx_hat (L := vx_atS RX1 183 "java/lang/IllegalArgumentException" ["java/lang/RuntimeException", "java/lang/Exception"]) (fun w hw => hts w (by revert w; decide +kernel)) (B := [Cond.castable "java/lang/IllegalArgumentException" "java/lang/IllegalArgumentException", Cond.declares (Bundle.initS "java/lang/RuntimeException"), Cond.declares (Bundle.initS "java/lang/Exception"), Cond.declares (Bundle.initS "java/lang/Throwable")]) (by decide +kernel) (vx_c (va_Nw.use rfl (hG.2.2.1.2.1 "java/lang/IllegalArgumentException" (by decide +kernel))) <| vx_c (va_Nw.use rfl (hG.2.2.1.2.2 "java/lang/RuntimeException" (by decide +kernel))) <| vx_c (va_Nw.use rfl (hG.2.2.1.2.2 "java/lang/Exception" (by decide +kernel))) <| vx_c (va_Nw.use rfl (hG.2.2.1.2.2 "java/lang/Throwable" (by decide +kernel))) vx_n)
  have w_5 := hts (.fieldLink RX1 28 "EffectTrain" "trial" "LEffectTrain$State;") (by decide +kernel)
  have w_6 : ∀ w ∈ wsX10, w ∈ wsX1_runScript := by decide +kernel
  have w_7 := hts (.fieldLink RX1 24 "EffectTrain" "now" "LEffectTrain$State;") (by decide +kernel)
  have w_8 : va_Nw (.methodLinkNest RX1 155 yX0_copyFrom "EffectTrain") s := hG.2.2.2.2.2 (155, yX0_copyFrom, "EffectTrain") (by decide +kernel)
  have w_9 := hts (.initialized RX0) (by decide +kernel)
  have w_10 := hts (.instanceMethod yX0_copyFrom) (by decide +kernel)
  have w_11 := hts (.selects RX0 yX0_copyFrom yX0_copyFrom) (by decide +kernel)
  unfold f_X1_runScript at h
  have hC_46 : ∀ (fu_46 : Nat) (x4_46 : Int32) (V_46 : StV) (H : Heap) (locs : List Loc) (ls : Array Slot), va_P D vwCl (trW k cA nA tA T ++ stW k nA N ++ stW k tA V_46) H → va_D A (trW k cA nA tA T ++ stW k nA N ++ stW k tA V_46) → va_S A s.heap H locs → lv_has ls 6 [(0, .ref (cA 0)), (1, .int p1), (2, .long p2), (4, .int x4_46)] → f_X1_runScript_46 T p1 p2 fu_46 x4_46 V_46 = some o → W p l e ({ frames := 7, cells := 7, slots := 42, locals := 119 } : Room) s m args below meth c H locs 6 36 (vx_MQ below (Qx D A O) (Xx D A (trW k cA nA tA T ++ stW k nA N ++ stW k tA V) O) args s 7 42 A) (F0 m 46 ls []) := by
    intro fu_46
    induction fu_46 with
    | zero => intro x4_46 V_46 H locs ls _ _ _ _ h; exact (no_l h).elim
    | succ fu_46 ih_46 =>
      intro x4_46 V_46 H locs ls hP hD hS hl h
      rw [f_X1_runScript_46] at h
      refine lv_iload hx hb dX1_runScript_46 (lv_at hl 3 rfl) ?_
      refine lv_iload_n hx hb dX1_runScript_48 rfl (lv_at hl 1 rfl) ?_
      refine lv_icmp_ge (tgt := 87) hx hb dX1_runScript_49 (by decide) (fun c_1 => ?_) (fun c_1 => ?_)
      · have h := it_l c_1 h
        refine lv_bipush (v := (-9)) hx hb dX1_runScript_87 (by decide) ?_
        cases h
        exact Cx_iret hO ⟨rfl, rfl⟩ (Nat.le_of_ble_eq_true rfl) (Nat.le_of_ble_eq_true rfl) hx hb hr hP hD hS dX1_runScript_89 hlocks
      · have h := it_r c_1 h
        refine lv_lload_n hx hb dX1_runScript_52 rfl (lv_at hl 2 rfl) ?_
        refine lv_iload_n hx hb dX1_runScript_53 rfl (lv_at hl 1 rfl) ?_
        refine lv_iconst (v := 1) hx hb dX1_runScript_54 (by decide) ?_
        refine lv_isub hx hb dX1_runScript_55 ?_
        refine lv_iload hx hb dX1_runScript_56 (lv_at hl 3 rfl) ?_
        refine lv_isub hx hb dX1_runScript_58 ?_
        obtain ⟨v_2, hv_3, h⟩ := bn_l h
        refine Cx_in (w0' := trW k cA nA tA T ++ stW k nA N ++ stW k tA V_46) (wc' := ([] : va_W)) rfl (vx_runS (As := [.long p2, .int ((p1 - 1) - x4_46)]) (rest := []) ⟨hx, hb, hml, hown, hts⟩ (c_X1_withoutLastGroups l hst D k  p2 ((p1 - 1) - x4_46) (.inr (v_2)) hv_3 _) (va_cwS 2 hts gX1_runScript_X1_withoutLastGroups rfl rfl rfl (by decide +kernel) ⟨Nat.le_of_ble_eq_true rfl, Nat.le_of_ble_eq_true rfl⟩) ⟨Px_blind, Px_at (wc := ([] : va_W)) hK hG hP hD hS hA [] rfl (by decide)⟩ rfl rfl hl.1 rfl (Nat.le_of_ble_eq_true rfl) dX1_runScript_59 ⟨Nat.le_of_ble_eq_true rfl, Nat.le_of_ble_eq_true rfl⟩) hP hD hS hA [] rfl rfl rfl (fun H locs hP hD hS => ?_)
        refine W.eq (g2 := F0 m 62 ls [.long v_2]) rfl ?_
        refine lv_ldc2 (v := 100000) hx hb hown w_0 dX1_runScript_62 ?_
        refine lv_lrem hx hb dX1_runScript_65 (by decide) ?_
        refine lv_l2i hx hb dX1_runScript_66 rfl ?_
        refine lv_topi (fun v_6 ev_6 => ?_)
        have h := nm_l h ev_6
        refine lv_istore (lv' := [(5, .int v_6), (0, .ref (cA 0)), (1, .int p1), (2, .long p2), (4, .int x4_46)]) hx hb dX1_runScript_67 hl (by decide) rfl (fun ls hl => ?_)
        refine lv_aload_n hx hb dX1_runScript_69 rfl (lv_at hl 1 rfl) ?_
        refine lv_iload hx hb dX1_runScript_70 (lv_at hl 0 rfl) ?_
        obtain ⟨⟨v_7, q_8⟩, hv_9, h⟩ := bn_l h
        refine Cx_in (w0' := trW k cA nA tA T ++ stW k nA N ++ stW k tA q_8) (wc' := trW k cA nA tA T ++ stW k tA q_8) rfl (vx_runV (As := [.int v_6]) (rest := []) ⟨hx, hb, hml, hown, hts⟩ (c_X1_runCommand l hst D k cA nA tA T V_46 v_6 (.inr (v_7, q_8)) hv_9 _) (cwV 1 hts gX1_runScript_X1_runCommand rfl rfl rfl (by decide +kernel) ⟨Nat.le_of_ble_eq_true rfl, Nat.le_of_ble_eq_true rfl⟩) ⟨Px_blind, va_recv (q0 := 0) (ci := 1) hK hP rfl rfl, Px_at (wc := trW k cA nA tA T ++ stW k tA V_46) hK hG hP hD hS hA ([0, 1, 2, 3] ++ [15, 16, 17, 18, 19, 20, 21, 22, 23, 24, 25]) (hi_2 (hi_L rfl (hi_L rfl tr_hi)) (hi_R rfl st_hi)) (by decide)⟩ rfl rfl hl.1 rfl (Nat.le_of_ble_eq_true rfl) dX1_runScript_72 ⟨Nat.le_of_ble_eq_true rfl, Nat.le_of_ble_eq_true rfl⟩) hP hD hS hA ([0, 1, 2, 3] ++ [15, 16, 17, 18, 19, 20, 21, 22, 23, 24, 25]) (hi_2 (hi_L rfl (hi_L rfl tr_hi)) (hi_R rfl st_hi)) rfl (vs_2 rfl (vs_L rfl (vs_L rfl tr_all)) (vs_R rfl st_all)) (fun H locs hP hD hS => ?_)
        refine W.eq (g2 := F0 m 75 ls [.int v_7]) rfl ?_
        refine lv_if_ne (tgt := 81) hx hb dX1_runScript_75 (by decide) (fun c_12 => ?_) (fun c_12 => ?_)
        · have h := it_r c_12 h
          refine lv_iinc (v := (x4_46 + 1)) (lv' := [(4, .int (x4_46 + 1)), (5, .int v_6), (0, .ref (cA 0)), (1, .int p1), (2, .long p2)]) hx hb dX1_runScript_81 hl (k := 4) rfl rfl (by decide) rfl (fun ls hl => ?_)
          refine lv_goto (tgt := 46) hx hb dX1_runScript_84 (by decide) ?_
          refine W.widen (k := 6) (n := 36) (Nat.le_of_ble_eq_true rfl) (Nat.le_of_ble_eq_true rfl) ?_
          exact ih_46 (x4_46 + 1) q_8 _ _ _ hP hD hS (lv_sub hl [2, 3, 4, 0] rfl) h
        · have h := it_l c_12 h
          refine lv_iload hx hb dX1_runScript_78 (lv_at hl 4 rfl) ?_
          cases h
          exact Cx_iret hO ⟨rfl, rfl⟩ (Nat.le_of_ble_eq_true rfl) (Nat.le_of_ble_eq_true rfl) hx hb hr hP hD hS dX1_runScript_80 hlocks
  refine lv_iload_n hx hb dX1_runScript_0 rfl (lv_at hl 1 rfl) ?_
  refine lv_iconst (v := 1) hx hb dX1_runScript_1 (by decide) ?_
  refine lv_iconst (v := 3) hx hb dX1_runScript_2 (by decide) ?_
  rcases bx_l h with ⟨E_14, hv_13, ho_15⟩ | ⟨⟨⟩, hv_13, h⟩
  · subst ho_15
    exact Cx_thru (w0 := trW k cA nA tA T ++ stW k nA N ++ stW k tA V) hO rfl (vx_runS (As := [.int p1, .int 1, .int 3]) (rest := []) ⟨hx, hb, hml, hown, hts⟩ (c_X1_checkRange l hst D k  p1 1 3 (.inl E_14) hv_13 _) (va_cwS 3 hts gX1_runScript_X1_checkRange rfl rfl rfl (by decide +kernel) ⟨Nat.le_of_ble_eq_true rfl, Nat.le_of_ble_eq_true rfl⟩) ⟨Px_blind, Px_at (wc := ([] : va_W)) hK hG hP hD hS hA [] rfl (by decide)⟩ rfl rfl hl.1 rfl (Nat.le_of_ble_eq_true rfl) dX1_runScript_3 ⟨Nat.le_of_ble_eq_true rfl, Nat.le_of_ble_eq_true rfl⟩) hP hD hS hA [] rfl htab hlocks (Nat.le_of_ble_eq_true rfl) (Nat.le_of_ble_eq_true rfl)
  refine Cx_in (w0' := trW k cA nA tA T ++ stW k nA N ++ stW k tA V) (wc' := ([] : va_W)) rfl (vx_runS (As := [.int p1, .int 1, .int 3]) (rest := []) ⟨hx, hb, hml, hown, hts⟩ (c_X1_checkRange l hst D k  p1 1 3 (.inr ()) hv_13 _) (va_cwS 3 hts gX1_runScript_X1_checkRange rfl rfl rfl (by decide +kernel) ⟨Nat.le_of_ble_eq_true rfl, Nat.le_of_ble_eq_true rfl⟩) ⟨Px_blind, Px_at (wc := ([] : va_W)) hK hG hP hD hS hA [] rfl (by decide)⟩ rfl rfl hl.1 rfl (Nat.le_of_ble_eq_true rfl) dX1_runScript_3 ⟨Nat.le_of_ble_eq_true rfl, Nat.le_of_ble_eq_true rfl⟩) hP hD hS hA [] rfl rfl rfl (fun H locs hP hD hS => ?_)
  refine W.eq (g2 := F0 m 6 ls []) rfl ?_
  refine lv_lload_n hx hb dX1_runScript_6 rfl (lv_at hl 2 rfl) ?_
  refine lv_lconst (v := 0) hx hb dX1_runScript_7 (by decide) ?_
  refine W.lcmp hx hb dX1_runScript_8 ?_
  refine lv_if_lt (tgt := 22) hx hb dX1_runScript_9 (by decide) (fun c_16 => ?_) (fun c_16 => ?_)
  · have h := it_l c_16 h
    cases h
    exact Cx_throw (names := ["java/lang/RuntimeException", "java/lang/Exception"]) (show O = Sum.inl "java/lang/IllegalArgumentException" from hO) hx hb hst hown rfl (by decide) w_1 w_2 w_3 w_4 (by decide +kernel) hG hP hS (hl.1.trans hml.symm) dX1_runScript_22 dX1_runScript_25 dX1_runScript_26 dX1_runScript_28 dX1_runScript_31 htab (Nat.le_of_ble_eq_true rfl) (Nat.le_of_ble_eq_true rfl) (Nat.le_of_ble_eq_true rfl) (Nat.le_of_ble_eq_true rfl) hlocks (Nat.le_of_ble_eq_true rfl) (Nat.le_of_ble_eq_true rfl)
  · have h := it_r c_16 h
    refine lv_lload_n hx hb dX1_runScript_12 rfl (lv_at hl 2 rfl) ?_
    refine lv_iload_n hx hb dX1_runScript_13 rfl (lv_at hl 1 rfl) ?_
    obtain ⟨v_17, hv_18, h⟩ := bn_l h
    refine Cx_in (w0' := trW k cA nA tA T ++ stW k nA N ++ stW k tA V) (wc' := ([] : va_W)) rfl (vx_runS (As := [.long p2, .int p1]) (rest := []) ⟨hx, hb, hml, hown, hts⟩ (c_X1_withoutLastGroups l hst D k  p2 p1 (.inr (v_17)) hv_18 _) (va_cwS 2 hts gX1_runScript_X1_withoutLastGroups rfl rfl rfl (by decide +kernel) ⟨Nat.le_of_ble_eq_true rfl, Nat.le_of_ble_eq_true rfl⟩) ⟨Px_blind, Px_at (wc := ([] : va_W)) hK hG hP hD hS hA [] rfl (by decide)⟩ rfl rfl hl.1 rfl (Nat.le_of_ble_eq_true rfl) dX1_runScript_14 ⟨Nat.le_of_ble_eq_true rfl, Nat.le_of_ble_eq_true rfl⟩) hP hD hS hA [] rfl rfl rfl (fun H locs hP hD hS => ?_)
    refine W.eq (g2 := F0 m 17 ls [.long v_17]) rfl ?_
    refine lv_lconst (v := 0) hx hb dX1_runScript_17 (by decide) ?_
    refine W.lcmp hx hb dX1_runScript_18 ?_
    refine lv_if_le (tgt := 32) hx hb dX1_runScript_19 (by decide) (fun c_21 => ?_) (fun c_21 => ?_)
    · have h := it_l c_21 h
      refine lv_aload_n hx hb dX1_runScript_32 rfl (lv_at hl 0 rfl) ?_
      refine va_get (D := D) (ci := 1) (v := .ref (tA 0)) (C := RX1) (T := TX1) (N := 11) hx hb hts w_6 hown hK hP 0 rfl rfl 4 (by decide) w_5 (fun _ h9 => h9) rfl dX1_runScript_33 ?_
      refine lv_aload_n hx hb dX1_runScript_36 rfl (lv_at hl 0 rfl) ?_
      refine va_get (D := D) (ci := 1) (v := .ref (nA 0)) (C := RX1) (T := TX1) (N := 11) hx hb hts w_6 hown hK hP 0 rfl rfl 3 (by decide) w_7 (fun _ h9 => h9) rfl dX1_runScript_37 ?_
      obtain ⟨q_22, hv_23, h⟩ := bd_l h
      refine Ck_VN (As := [.ref (nA 0)]) (rest := []) (wc := stW k tA V ++ stW k nA N) (wc' := stW k tA q_22 ++ stW k nA N) (w0' := trW k cA nA tA T ++ stW k nA N ++ stW k tA q_22) ⟨hx, hb, hml, hown, hts⟩ (c_X0_copyFrom l D k tA nA V N q_22 hv_23) ⟨va_cnB 1 hts gX1_runScript_X0_copyFrom_n155 rfl rfl rfl w_8 w_9 (by decide +kernel) ⟨Nat.le_of_ble_eq_true rfl, Nat.le_of_ble_eq_true rfl⟩, w_10, w_11⟩ hK hP hD hS hA (q0 := 15) (ci := 0) rfl rfl ([15, 16, 17, 18, 19, 20, 21, 22, 23, 24, 25] ++ [4, 5, 6, 7, 8, 9, 10, 11, 12, 13, 14]) (hi_2 (hi_R rfl st_hi) (hi_L rfl (hi_R rfl st_hi))) (by decide) rfl (vs_2 rfl (vs_R rfl st_all) (vs_L rfl (vs_R rfl st_all))) rfl hl.1 rfl (Nat.le_of_ble_eq_true rfl) dX1_runScript_40 ⟨Nat.le_of_ble_eq_true rfl, Nat.le_of_ble_eq_true rfl⟩ (fun H locs hP hD hS => ?_)
      refine W.eq (g2 := F0 m 43 ls []) rfl ?_
      refine lv_iconst (v := 0) hx hb dX1_runScript_43 (by decide) ?_
      refine lv_istore (lv' := [(4, .int 0), (0, .ref (cA 0)), (1, .int p1), (2, .long p2)]) hx hb dX1_runScript_44 hl (by decide) rfl (fun ls hl => ?_)
      refine W.widen (k := 6) (n := 36) (Nat.le_of_ble_eq_true rfl) (Nat.le_of_ble_eq_true rfl) ?_
      exact hC_46 2000 0 q_22 _ _ _ hP hD hS (lv_sub hl [1, 2, 3, 0] rfl) h
    · have h := it_r c_21 h
      cases h
      exact Cx_throw (names := ["java/lang/RuntimeException", "java/lang/Exception"]) (show O = Sum.inl "java/lang/IllegalArgumentException" from hO) hx hb hst hown rfl (by decide) w_1 w_2 w_3 w_4 (by decide +kernel) hG hP hS (hl.1.trans hml.symm) dX1_runScript_22 dX1_runScript_25 dX1_runScript_26 dX1_runScript_28 dX1_runScript_31 htab (Nat.le_of_ble_eq_true rfl) (Nat.le_of_ble_eq_true rfl) (Nat.le_of_ble_eq_true rfl) (Nat.le_of_ble_eq_true rfl) hlocks (Nat.le_of_ble_eq_true rfl) (Nat.le_of_ble_eq_true rfl)
def f_X1_disturb (T : TrV) (V : StV) (p1 : Int32) : Option (String ⊕ (StV)) := if 1 ≤ (s_n V) then (gb (nz (s_n V)) <| nm ((p1 / 4) - (p1 / 4) / (s_n V) * (s_n V)) fun v_3 => nm (p1 / 64) fun v_4 => if (p1 - p1 / 4 * 4) = 0 then (gb (inb v_3 6) <| nm (su_val V (upd (s_val V) v_3.toNatClampNeg (v_4 - v_4 / 200 * 200))) fun q_7 => some (.inr (q_7))) else (if (p1 - p1 / 4 * 4) = 1 then (nm (su_set V (upd (s_set V) 0 (v_4 - v_4 / 400 * 400))) fun q_9 => some (.inr (q_9))) else (if (p1 - p1 / 4 * 4) = 2 then (gb (inb v_3 6) <| if ((s_lef V) v_3.toNatClampNeg) = 0 then (gb (inb v_3 6) <| nm (su_lef V (upd (s_lef V) v_3.toNatClampNeg 5)) fun q_14 => some (.inr (q_14))) else (some (.inr (V)))) else (some (.inr (V)))))) else (some (.inr (V)))
set_option maxRecDepth 100000 in
set_option maxHeartbeats 4000000 in
theorem c_X1_disturb (l : Launch) (hst : l.stackTraces = false) (D : va_G) (k : Nat → ClassId) (cA : Nat → Nat) (nA : Nat → Nat) (tA : Nat → Nat) (T : TrV) (V : StV) (p1 : Int32) (o : String ⊕ (StV)) (h : f_X1_disturb T V p1 = some o) : Cx l D (tyK k) yX1_disturb wsX1_disturb ({ frames := 0, cells := 0, slots := 0, locals := 0 } : Room) [.ref (cA 0), .int p1] (trW k cA nA tA T ++ stW k tA V) (trW k cA nA tA T ++ stW k tA V) (Sum.map id (fun r : StV => fun (ov : Option Value) (w : va_W) => ov = (none : Option Value) ∧ w = trW k cA nA tA T ++ stW k tA r) o) := by
  obtain ⟨O, hO⟩ : ∃ O : Oc, O = Sum.map id (fun r : StV => fun (ov : Option Value) (w : va_W) => ov = (none : Option Value) ∧ w = trW k cA nA tA T ++ stW k tA r) o := ⟨_, rfl⟩
  rw [← hO]
  refine Cx_of (cc := cX1_disturb) (maxL := 4) (ret := none) (by decide) rfl (Nat.le_of_ble_eq_true rfl) ?_
  intro p e s m args below meth c A ls hx hb hr hml hts hown hlocks hnm htab hK hG hA hP hD hS hl
  have hl : lv_has ls 4 [(0, .ref (cA 0)), (1, .int p1)] := hl
  have hP : va_P D vwCl (trW k cA nA tA T ++ stW k tA V) s.heap := hP
  have w_0 := hts (.fieldLink RX1 28 "EffectTrain" "trial" "LEffectTrain$State;") (by decide +kernel)
  have w_1 : ∀ w ∈ wsX10, w ∈ wsX1_disturb := by decide +kernel
  have w_2 : (Cond.fieldLinkNest RX1 94 "EffectTrain$State" "n" "I" "EffectTrain").before args s = true := va_Nw.use rfl (hG.2.2.2.2.1 (94, "EffectTrain$State", "n", "I", "EffectTrain") (by decide +kernel))
  have w_3 : ∀ w ∈ wsX00, w ∈ wsX1_disturb := by decide +kernel
  have w_4 : (Cond.fieldLinkNest RX1 135 "EffectTrain$State" "valve" "[I" "EffectTrain").before args s = true := va_Nw.use rfl (hG.2.2.2.2.1 (135, "EffectTrain$State", "valve", "[I", "EffectTrain") (by decide +kernel))
  have w_5 : (Cond.fieldLinkNest RX1 103 "EffectTrain$State" "settings" "[I" "EffectTrain").before args s = true := va_Nw.use rfl (hG.2.2.2.2.1 (103, "EffectTrain$State", "settings", "[I", "EffectTrain") (by decide +kernel))
  have w_6 : (Cond.fieldLinkNest RX1 144 "EffectTrain$State" "left" "[I" "EffectTrain").before args s = true := va_Nw.use rfl (hG.2.2.2.2.1 (144, "EffectTrain$State", "left", "[I", "EffectTrain") (by decide +kernel))
  unfold f_X1_disturb at h
  refine lv_aload_n hx hb dX1_disturb_0 rfl (lv_at hl 0 rfl) ?_
  refine va_get (D := D) (ci := 1) (v := .ref (tA 0)) (C := RX1) (T := TX1) (N := 11) hx hb hts w_1 hown hK hP 0 rfl rfl 4 (by decide) w_0 (fun _ h9 => h9) rfl dX1_disturb_1 ?_
  refine va_getN (D := D) (ci := 0) (v := .int (s_n V)) (C := RX0) (T := TX0) (N := 12) hx hb hts w_3 hown hK hP 4 rfl rfl 0 (by decide) w_2 (fun _ h9 => h9) rfl dX1_disturb_4 ?_
  refine lv_iconst (v := 1) hx hb dX1_disturb_7 (by decide) ?_
  refine lv_icmp_ge (tgt := 12) hx hb dX1_disturb_8 (by decide) (fun c_1 => ?_) (fun c_1 => ?_)
  · have h := it_l c_1 h
    refine lv_iload_n hx hb dX1_disturb_12 rfl (lv_at hl 1 rfl) ?_
    refine lv_iconst (v := 4) hx hb dX1_disturb_13 (by decide) ?_
    refine lv_idiv hx hb dX1_disturb_14 (by decide) ?_
    refine lv_aload_n hx hb dX1_disturb_15 rfl (lv_at hl 0 rfl) ?_
    refine va_get (D := D) (ci := 1) (v := .ref (tA 0)) (C := RX1) (T := TX1) (N := 11) hx hb hts w_1 hown hK hP 0 rfl rfl 4 (by decide) w_0 (fun _ h9 => h9) rfl dX1_disturb_16 ?_
    refine va_getN (D := D) (ci := 0) (v := .int (s_n V)) (C := RX0) (T := TX0) (N := 12) hx hb hts w_3 hown hK hP 4 rfl rfl 0 (by decide) w_2 (fun _ h9 => h9) rfl dX1_disturb_19 ?_
    have g_2 := nz_l (gb_l h)
    have h := gb_r h
    refine lv_irem hx hb dX1_disturb_22 g_2 ?_
    refine lv_topi (fun v_3 ev_3 => ?_)
    have h := nm_l h ev_3
    refine lv_istore_n (lv' := [(2, .int v_3), (0, .ref (cA 0)), (1, .int p1)]) hx hb dX1_disturb_23 rfl hl (by decide) rfl (fun ls hl => ?_)
    refine lv_iload_n hx hb dX1_disturb_24 rfl (lv_at hl 2 rfl) ?_
    refine lv_bipush (v := 64) hx hb dX1_disturb_25 (by decide) ?_
    refine lv_idiv hx hb dX1_disturb_27 (by decide) ?_
    refine lv_topi (fun v_4 ev_4 => ?_)
    have h := nm_l h ev_4
    refine lv_istore_n (lv' := [(3, .int v_4), (2, .int v_3), (0, .ref (cA 0)), (1, .int p1)]) hx hb dX1_disturb_28 rfl hl (by decide) rfl (fun ls hl => ?_)
    refine lv_iload_n hx hb dX1_disturb_29 rfl (lv_at hl 3 rfl) ?_
    refine lv_iconst (v := 4) hx hb dX1_disturb_30 (by decide) ?_
    refine lv_irem hx hb dX1_disturb_31 (by decide) ?_
    by_cases c_5 : (p1 - p1 / 4 * 4) = 0
    · have h := it_l c_5 h
      refine lv_tableIn (tgt := 60) hx hb dX1_disturb_32 (by rw [c_5]; decide) (by rw [c_5]; decide) (by rw [c_5]; rfl) (by decide) ?_
      refine lv_aload_n hx hb dX1_disturb_60 rfl (lv_at hl 2 rfl) ?_
      refine va_get (D := D) (ci := 1) (v := .ref (tA 0)) (C := RX1) (T := TX1) (N := 11) hx hb hts w_1 hown hK hP 0 rfl rfl 4 (by decide) w_0 (fun _ h9 => h9) rfl dX1_disturb_61 ?_
      refine va_getN (D := D) (ci := 0) (v := .ref (tA 6)) (C := RX0) (T := TX0) (N := 12) hx hb hts w_3 hown hK hP 4 rfl rfl 7 (by decide) w_4 (fun _ h9 => h9) rfl dX1_disturb_64 ?_
      refine lv_iload_n hx hb dX1_disturb_67 rfl (lv_at hl 1 rfl) ?_
      refine lv_iload_n hx hb dX1_disturb_68 rfl (lv_at hl 0 rfl) ?_
      refine lv_sipush (v := 200) hx hb dX1_disturb_69 (by decide) ?_
      refine lv_irem hx hb dX1_disturb_72 (by decide) ?_
      have g_6 := inb_vp (gb_l h)
      have h := gb_r h
      refine va_iast hx hb hK hP hD hS 10 0 rfl rfl g_6 dX1_disturb_73 (fun H locs hP hD hS => ?_)
      obtain ⟨q_7, eq_7⟩ : ∃ y : StV, y = su_val V (upd (s_val V) v_3.toNatClampNeg (v_4 - v_4 / 200 * 200)) := ⟨_, rfl⟩
      have hP : va_P D vwCl (trW k cA nA tA T ++ stW k tA q_7) H := by rw [eq_7, ← st_set_val k tA V _, ← set_appR3 (A := trW k cA nA tA T) (q := 10) (q' := 6) rfl]; exact hP
      have hD : va_D A (trW k cA nA tA T ++ stW k tA q_7) := by rw [eq_7, ← st_set_val k tA V _, ← set_appR3 (A := trW k cA nA tA T) (q := 10) (q' := 6) rfl]; exact hD
      have h := nm_l h eq_7
      refine lv_goto (tgt := 119) hx hb dX1_disturb_74 (by decide) ?_
      cases h
      exact Cx_vret hO ⟨rfl, rfl⟩ (Nat.le_of_ble_eq_true rfl) (Nat.le_of_ble_eq_true rfl) hx hb hr hP hD hS dX1_disturb_119 hlocks
    · have h := it_r c_5 h
      by_cases c_8 : (p1 - p1 / 4 * 4) = 1
      · have h := it_l c_8 h
        refine lv_tableIn (tgt := 77) hx hb dX1_disturb_32 (by rw [c_8]; decide) (by rw [c_8]; decide) (by rw [c_8]; rfl) (by decide) ?_
        refine lv_aload_n hx hb dX1_disturb_77 rfl (lv_at hl 2 rfl) ?_
        refine va_get (D := D) (ci := 1) (v := .ref (tA 0)) (C := RX1) (T := TX1) (N := 11) hx hb hts w_1 hown hK hP 0 rfl rfl 4 (by decide) w_0 (fun _ h9 => h9) rfl dX1_disturb_78 ?_
        refine va_getN (D := D) (ci := 0) (v := .ref (tA 1)) (C := RX0) (T := TX0) (N := 12) hx hb hts w_3 hown hK hP 4 rfl rfl 1 (by decide) w_5 (fun _ h9 => h9) rfl dX1_disturb_81 ?_
        refine lv_iconst (v := 0) hx hb dX1_disturb_84 (by decide) ?_
        refine lv_iload_n hx hb dX1_disturb_85 rfl (lv_at hl 0 rfl) ?_
        refine lv_sipush (v := 400) hx hb dX1_disturb_86 (by decide) ?_
        refine lv_irem hx hb dX1_disturb_89 (by decide) ?_
        refine va_iast hx hb hK hP hD hS 5 0 rfl rfl (inb_vp (by decide)) dX1_disturb_90 (fun H locs hP hD hS => ?_)
        obtain ⟨q_9, eq_9⟩ : ∃ y : StV, y = su_set V (upd (s_set V) 0 (v_4 - v_4 / 400 * 400)) := ⟨_, rfl⟩
        have hP : va_P D vwCl (trW k cA nA tA T ++ stW k tA q_9) H := by rw [eq_9, ← st_set_set k tA V _, ← set_appR3 (A := trW k cA nA tA T) (q := 5) (q' := 1) rfl]; exact hP
        have hD : va_D A (trW k cA nA tA T ++ stW k tA q_9) := by rw [eq_9, ← st_set_set k tA V _, ← set_appR3 (A := trW k cA nA tA T) (q := 5) (q' := 1) rfl]; exact hD
        have h := nm_l h eq_9
        refine lv_goto (tgt := 119) hx hb dX1_disturb_91 (by decide) ?_
        cases h
        exact Cx_vret hO ⟨rfl, rfl⟩ (Nat.le_of_ble_eq_true rfl) (Nat.le_of_ble_eq_true rfl) hx hb hr hP hD hS dX1_disturb_119 hlocks
      · have h := it_r c_8 h
        by_cases c_10 : (p1 - p1 / 4 * 4) = 2
        · have h := it_l c_10 h
          refine lv_tableIn (tgt := 94) hx hb dX1_disturb_32 (by rw [c_10]; decide) (by rw [c_10]; decide) (by rw [c_10]; rfl) (by decide) ?_
          refine lv_aload_n hx hb dX1_disturb_94 rfl (lv_at hl 2 rfl) ?_
          refine va_get (D := D) (ci := 1) (v := .ref (tA 0)) (C := RX1) (T := TX1) (N := 11) hx hb hts w_1 hown hK hP 0 rfl rfl 4 (by decide) w_0 (fun _ h9 => h9) rfl dX1_disturb_95 ?_
          refine va_getN (D := D) (ci := 0) (v := .ref (tA 10)) (C := RX0) (T := TX0) (N := 12) hx hb hts w_3 hown hK hP 4 rfl rfl 11 (by decide) w_6 (fun _ h9 => h9) rfl dX1_disturb_98 ?_
          refine lv_iload_n hx hb dX1_disturb_101 rfl (lv_at hl 1 rfl) ?_
          have g_11 := inb_vp (gb_l h)
          have h := gb_r h
          refine va_iald hx hb hK hP 14 0 rfl rfl g_11 dX1_disturb_102 ?_
          refine lv_if_ne (tgt := 119) hx hb dX1_disturb_103 (by decide) (fun c_12 => ?_) (fun c_12 => ?_)
          · have h := it_r c_12 h
            cases h
            exact Cx_vret hO ⟨rfl, rfl⟩ (Nat.le_of_ble_eq_true rfl) (Nat.le_of_ble_eq_true rfl) hx hb hr hP hD hS dX1_disturb_119 hlocks
          · have h := it_l c_12 h
            refine lv_aload_n hx hb dX1_disturb_106 rfl (lv_at hl 2 rfl) ?_
            refine va_get (D := D) (ci := 1) (v := .ref (tA 0)) (C := RX1) (T := TX1) (N := 11) hx hb hts w_1 hown hK hP 0 rfl rfl 4 (by decide) w_0 (fun _ h9 => h9) rfl dX1_disturb_107 ?_
            refine va_getN (D := D) (ci := 0) (v := .ref (tA 10)) (C := RX0) (T := TX0) (N := 12) hx hb hts w_3 hown hK hP 4 rfl rfl 11 (by decide) w_6 (fun _ h9 => h9) rfl dX1_disturb_110 ?_
            refine lv_iload_n hx hb dX1_disturb_113 rfl (lv_at hl 1 rfl) ?_
            refine lv_iconst (v := 5) hx hb dX1_disturb_114 (by decide) ?_
            have g_13 := inb_vp (gb_l h)
            have h := gb_r h
            refine va_iast hx hb hK hP hD hS 14 0 rfl rfl g_13 dX1_disturb_115 (fun H locs hP hD hS => ?_)
            obtain ⟨q_14, eq_14⟩ : ∃ y : StV, y = su_lef V (upd (s_lef V) v_3.toNatClampNeg 5) := ⟨_, rfl⟩
            have hP : va_P D vwCl (trW k cA nA tA T ++ stW k tA q_14) H := by rw [eq_14, ← st_set_lef k tA V _, ← set_appR3 (A := trW k cA nA tA T) (q := 14) (q' := 10) rfl]; exact hP
            have hD : va_D A (trW k cA nA tA T ++ stW k tA q_14) := by rw [eq_14, ← st_set_lef k tA V _, ← set_appR3 (A := trW k cA nA tA T) (q := 14) (q' := 10) rfl]; exact hD
            have h := nm_l h eq_14
            refine lv_goto (tgt := 119) hx hb dX1_disturb_116 (by decide) ?_
            cases h
            exact Cx_vret hO ⟨rfl, rfl⟩ (Nat.le_of_ble_eq_true rfl) (Nat.le_of_ble_eq_true rfl) hx hb hr hP hD hS dX1_disturb_119 hlocks
        · have h := it_r c_10 h
          have n_c_5 : ¬ (p1 - p1 / 4 * 4).toInt = 0 := fun z9 => c_5 (Int32.toInt_inj.mp (z9.trans (by decide)))
          have n_c_8 : ¬ (p1 - p1 / 4 * 4).toInt = 1 := fun z9 => c_8 (Int32.toInt_inj.mp (z9.trans (by decide)))
          have n_c_10 : ¬ (p1 - p1 / 4 * 4).toInt = 2 := fun z9 => c_10 (Int32.toInt_inj.mp (z9.trans (by decide)))
          refine lv_tableOut (tgt := 119) hx hb dX1_disturb_32 (by omega) (by decide) ?_
          cases h
          exact Cx_vret hO ⟨rfl, rfl⟩ (Nat.le_of_ble_eq_true rfl) (Nat.le_of_ble_eq_true rfl) hx hb hr hP hD hS dX1_disturb_119 hlocks
  · have h := it_r c_1 h
    cases h
    exact Cx_vret hO ⟨rfl, rfl⟩ (Nat.le_of_ble_eq_true rfl) (Nat.le_of_ble_eq_true rfl) hx hb hr hP hD hS dX1_disturb_11 hlocks
def f_X1_simulate_27 (T : TrV) (p2 : Int32) : Nat → Int32 → Int64 → Int32 → StV → Option (String ⊕ (Int32 × StV))
  | 0, _, _, _, _ => none
  | fu + 1, x4_27, x5_27, x7_27, V_27 => if p2 ≤ x7_27 then (some (.inr (x4_27, V_27))) else (nm ((x5_27 * 6364136223846793005) + 1442695040888963407) fun v_2 => bn (f_X1_disturb T V_27 (((v_2.toUInt64 >>> ((33 : Int32).toInt64.toUInt64 &&& Int64.toUInt64 63)).toInt64).toInt32)) fun q_3 => bd (f_X0_pass q_3 1) fun ⟨v_7, q_8⟩ => nm (x4_27 + v_7) fun v_10 => (f_X1_simulate_27 T p2 fu) v_10 v_2 (x7_27 + 1) q_8)
def f_X1_simulate (T : TrV) (N : StV) (V : StV) (p1 : Int64) (p2 : Int32) : Option (String ⊕ (Int32 × StV)) := bx (f_X1_checkRange p2 1 99) fun ⟨⟩ => bd (f_X0_copyFrom V N) fun q_14 => f_X1_simulate_27 T p2 2000 0 p1 0 q_14
set_option maxRecDepth 100000 in
set_option maxHeartbeats 4000000 in
theorem c_X1_simulate (l : Launch) (hst : l.stackTraces = false) (D : va_G) (k : Nat → ClassId) (cA : Nat → Nat) (nA : Nat → Nat) (tA : Nat → Nat) (T : TrV) (N : StV) (V : StV) (p1 : Int64) (p2 : Int32) (o : String ⊕ (Int32 × StV)) (h : f_X1_simulate T N V p1 p2 = some o) : Cx l D (tyK k) yX1_simulate wsX1_simulate ({ frames := 7, cells := 7, slots := 42, locals := 104 } : Room) [.ref (cA 0), .long p1, .int p2] (trW k cA nA tA T ++ stW k nA N ++ stW k tA V) (trW k cA nA tA T ++ stW k nA N ++ stW k tA V) (Sum.map id (fun r : Int32 × StV => fun (ov : Option Value) (w : va_W) => ov = (some (.int r.1) : Option Value) ∧ w = trW k cA nA tA T ++ stW k nA N ++ stW k tA r.2) o) := by
  obtain ⟨O, hO⟩ : ∃ O : Oc, O = Sum.map id (fun r : Int32 × StV => fun (ov : Option Value) (w : va_W) => ov = (some (.int r.1) : Option Value) ∧ w = trW k cA nA tA T ++ stW k nA N ++ stW k tA r.2) o := ⟨_, rfl⟩
  rw [← hO]
  refine Cx_of (cc := cX1_simulate) (maxL := 8) (ret := (some .int)) (by decide) rfl (Nat.le_of_ble_eq_true rfl) ?_
  intro p e s m args below meth c A ls hx hb hr hml hts hown hlocks hnm htab hK hG hA hP hD hS hl
  have hl : lv_has ls 8 [(0, .ref (cA 0)), (1, .long p1), (3, .int p2)] := hl
  have hP : va_P D vwCl (trW k cA nA tA T ++ stW k nA N ++ stW k tA V) s.heap := hP
  have w_0 := hts (.constantLong RX1 197 (6364136223846793005)) (by decide +kernel)
  have w_1 := hts (.constantLong RX1 199 (1442695040888963407)) (by decide +kernel)
  have w_2 := hts (.fieldLink RX1 28 "EffectTrain" "trial" "LEffectTrain$State;") (by decide +kernel)
  have w_3 : ∀ w ∈ wsX10, w ∈ wsX1_simulate := by decide +kernel
  have w_4 : va_Nw (.methodLinkNest RX1 132 yX0_pass "EffectTrain") s := hG.2.2.2.2.2 (132, yX0_pass, "EffectTrain") (by decide +kernel)
  have w_5 := hts (.initialized RX0) (by decide +kernel)
  have w_6 := hts (.instanceMethod yX0_pass) (by decide +kernel)
  have w_7 := hts (.selects RX0 yX0_pass yX0_pass) (by decide +kernel)
  have w_8 := hts (.fieldLink RX1 24 "EffectTrain" "now" "LEffectTrain$State;") (by decide +kernel)
  have w_9 : va_Nw (.methodLinkNest RX1 155 yX0_copyFrom "EffectTrain") s := hG.2.2.2.2.2 (155, yX0_copyFrom, "EffectTrain") (by decide +kernel)
  have w_10 := hts (.instanceMethod yX0_copyFrom) (by decide +kernel)
  have w_11 := hts (.selects RX0 yX0_copyFrom yX0_copyFrom) (by decide +kernel)
  unfold f_X1_simulate at h
  have hC_27 : ∀ (fu_27 : Nat) (x4_27 : Int32) (x5_27 : Int64) (x7_27 : Int32) (V_27 : StV) (H : Heap) (locs : List Loc) (ls : Array Slot), va_P D vwCl (trW k cA nA tA T ++ stW k nA N ++ stW k tA V_27) H → va_D A (trW k cA nA tA T ++ stW k nA N ++ stW k tA V_27) → va_S A s.heap H locs → lv_has ls 8 [(0, .ref (cA 0)), (3, .int p2), (4, .int x4_27), (5, .long x5_27), (7, .int x7_27)] → f_X1_simulate_27 T p2 fu_27 x4_27 x5_27 x7_27 V_27 = some o → W p l e ({ frames := 7, cells := 7, slots := 42, locals := 104 } : Room) s m args below meth c H locs 6 36 (vx_MQ below (Qx D A O) (Xx D A (trW k cA nA tA T ++ stW k nA N ++ stW k tA V) O) args s 7 42 A) (F0 m 27 ls []) := by
    intro fu_27
    induction fu_27 with
    | zero => intro x4_27 x5_27 x7_27 V_27 H locs ls _ _ _ _ h; exact (no_l h).elim
    | succ fu_27 ih_27 =>
      intro x4_27 x5_27 x7_27 V_27 H locs ls hP hD hS hl h
      rw [f_X1_simulate_27] at h
      refine lv_iload hx hb dX1_simulate_27 (lv_at hl 4 rfl) ?_
      refine lv_iload_n hx hb dX1_simulate_29 rfl (lv_at hl 1 rfl) ?_
      refine lv_icmp_ge (tgt := 74) hx hb dX1_simulate_30 (by decide) (fun c_1 => ?_) (fun c_1 => ?_)
      · have h := it_l c_1 h
        refine lv_iload hx hb dX1_simulate_74 (lv_at hl 2 rfl) ?_
        cases h
        exact Cx_iret hO ⟨rfl, rfl⟩ (Nat.le_of_ble_eq_true rfl) (Nat.le_of_ble_eq_true rfl) hx hb hr hP hD hS dX1_simulate_76 hlocks
      · have h := it_r c_1 h
        refine lv_lload hx hb dX1_simulate_33 (lv_at hl 3 rfl) ?_
        refine lv_ldc2 (v := 6364136223846793005) hx hb hown w_0 dX1_simulate_35 ?_
        refine lv_lmul hx hb dX1_simulate_38 ?_
        refine lv_ldc2 (v := 1442695040888963407) hx hb hown w_1 dX1_simulate_39 ?_
        refine lv_ladd hx hb dX1_simulate_42 ?_
        refine lv_topl (fun v_2 ev_2 => ?_)
        have h := nm_l h ev_2
        refine lv_lstore (lv' := [(5, .long v_2), (0, .ref (cA 0)), (3, .int p2), (4, .int x4_27), (7, .int x7_27)]) hx hb dX1_simulate_43 hl (by decide) rfl (fun ls hl => ?_)
        refine lv_aload_n hx hb dX1_simulate_45 rfl (lv_at hl 1 rfl) ?_
        refine lv_lload hx hb dX1_simulate_46 (lv_at hl 0 rfl) ?_
        refine lv_bipush (v := 33) hx hb dX1_simulate_48 (by decide) ?_
        refine lv_lushr (v := ((v_2.toUInt64 >>> ((33 : Int32).toInt64.toUInt64 &&& Int64.toUInt64 63)).toInt64)) hx hb dX1_simulate_50 rfl ?_
        refine lv_l2i hx hb dX1_simulate_51 rfl ?_
        obtain ⟨q_3, hv_4, h⟩ := bn_l h
        refine Cx_in (w0' := trW k cA nA tA T ++ stW k nA N ++ stW k tA q_3) (wc' := trW k cA nA tA T ++ stW k tA q_3) rfl (vx_runV (As := [.int (((v_2.toUInt64 >>> ((33 : Int32).toInt64.toUInt64 &&& Int64.toUInt64 63)).toInt64).toInt32)]) (rest := []) ⟨hx, hb, hml, hown, hts⟩ (c_X1_disturb l hst D k cA nA tA T V_27 (((v_2.toUInt64 >>> ((33 : Int32).toInt64.toUInt64 &&& Int64.toUInt64 63)).toInt64).toInt32) (.inr (q_3)) hv_4 _) (cwV 1 hts gX1_simulate_X1_disturb rfl rfl rfl (by decide +kernel) ⟨Nat.le_of_ble_eq_true rfl, Nat.le_of_ble_eq_true rfl⟩) ⟨Px_blind, va_recv (q0 := 0) (ci := 1) hK hP rfl rfl, Px_at (wc := trW k cA nA tA T ++ stW k tA V_27) hK hG hP hD hS hA ([0, 1, 2, 3] ++ [15, 16, 17, 18, 19, 20, 21, 22, 23, 24, 25]) (hi_2 (hi_L rfl (hi_L rfl tr_hi)) (hi_R rfl st_hi)) (by decide)⟩ rfl rfl hl.1 rfl (Nat.le_of_ble_eq_true rfl) dX1_simulate_52 ⟨Nat.le_of_ble_eq_true rfl, Nat.le_of_ble_eq_true rfl⟩) hP hD hS hA ([0, 1, 2, 3] ++ [15, 16, 17, 18, 19, 20, 21, 22, 23, 24, 25]) (hi_2 (hi_L rfl (hi_L rfl tr_hi)) (hi_R rfl st_hi)) rfl (vs_2 rfl (vs_L rfl (vs_L rfl tr_all)) (vs_R rfl st_all)) (fun H locs hP hD hS => ?_)
        refine W.eq (g2 := F0 m 55 ls []) rfl ?_
        refine lv_iload hx hb dX1_simulate_55 (lv_at hl 3 rfl) ?_
        refine lv_aload_n hx hb dX1_simulate_57 rfl (lv_at hl 1 rfl) ?_
        refine va_get (D := D) (ci := 1) (v := .ref (tA 0)) (C := RX1) (T := TX1) (N := 11) hx hb hts w_3 hown hK hP 0 rfl rfl 4 (by decide) w_2 (fun _ h9 => h9) rfl dX1_simulate_58 ?_
        refine lv_iconst (v := 1) hx hb dX1_simulate_61 (by decide) ?_
        obtain ⟨⟨v_7, q_8⟩, hv_9, h⟩ := bd_l h
        refine Ck_VN (As := [.int 1]) (rest := [.int x4_27]) (wc := stW k tA q_3) (wc' := stW k tA q_8) (w0' := trW k cA nA tA T ++ stW k nA N ++ stW k tA q_8) ⟨hx, hb, hml, hown, hts⟩ (c_X0_pass l D k tA q_3 1 v_7 q_8 hv_9) ⟨va_cnB 1 hts gX1_simulate_X0_pass_n132 rfl rfl rfl w_4 w_5 (by decide +kernel) ⟨Nat.le_of_ble_eq_true rfl, Nat.le_of_ble_eq_true rfl⟩, w_6, w_7⟩ hK hP hD hS hA (q0 := 15) (ci := 0) rfl rfl ([15, 16, 17, 18, 19, 20, 21, 22, 23, 24, 25]) (hi_R rfl st_hi) (by decide) rfl (vs_R rfl st_all) rfl hl.1 rfl (Nat.le_of_ble_eq_true rfl) dX1_simulate_62 ⟨Nat.le_of_ble_eq_true rfl, Nat.le_of_ble_eq_true rfl⟩ (fun H locs hP hD hS => ?_)
        refine W.eq (g2 := F0 m 65 ls [.int v_7, .int x4_27]) rfl ?_
        refine lv_iadd hx hb dX1_simulate_65 ?_
        refine lv_topi (fun v_10 ev_10 => ?_)
        have h := nm_l h ev_10
        refine lv_istore (lv' := [(4, .int v_10), (5, .long v_2), (0, .ref (cA 0)), (3, .int p2), (7, .int x7_27)]) hx hb dX1_simulate_66 hl (by decide) rfl (fun ls hl => ?_)
        refine lv_iinc (v := (x7_27 + 1)) (lv' := [(7, .int (x7_27 + 1)), (4, .int v_10), (5, .long v_2), (0, .ref (cA 0)), (3, .int p2)]) hx hb dX1_simulate_68 hl (k := 4) rfl rfl (by decide) rfl (fun ls hl => ?_)
        refine lv_goto (tgt := 27) hx hb dX1_simulate_71 (by decide) ?_
        refine W.widen (k := 6) (n := 36) (Nat.le_of_ble_eq_true rfl) (Nat.le_of_ble_eq_true rfl) ?_
        exact ih_27 v_10 v_2 (x7_27 + 1) q_8 _ _ _ hP hD hS (lv_sub hl [3, 4, 1, 2, 0] rfl) h
  refine lv_iload_n hx hb dX1_simulate_0 rfl (lv_at hl 2 rfl) ?_
  refine lv_iconst (v := 1) hx hb dX1_simulate_1 (by decide) ?_
  refine lv_bipush (v := 99) hx hb dX1_simulate_2 (by decide) ?_
  rcases bx_l h with ⟨E_12, hv_11, ho_13⟩ | ⟨⟨⟩, hv_11, h⟩
  · subst ho_13
    exact Cx_thru (w0 := trW k cA nA tA T ++ stW k nA N ++ stW k tA V) hO rfl (vx_runS (As := [.int p2, .int 1, .int 99]) (rest := []) ⟨hx, hb, hml, hown, hts⟩ (c_X1_checkRange l hst D k  p2 1 99 (.inl E_12) hv_11 _) (va_cwS 3 hts gX1_simulate_X1_checkRange rfl rfl rfl (by decide +kernel) ⟨Nat.le_of_ble_eq_true rfl, Nat.le_of_ble_eq_true rfl⟩) ⟨Px_blind, Px_at (wc := ([] : va_W)) hK hG hP hD hS hA [] rfl (by decide)⟩ rfl rfl hl.1 rfl (Nat.le_of_ble_eq_true rfl) dX1_simulate_4 ⟨Nat.le_of_ble_eq_true rfl, Nat.le_of_ble_eq_true rfl⟩) hP hD hS hA [] rfl htab hlocks (Nat.le_of_ble_eq_true rfl) (Nat.le_of_ble_eq_true rfl)
  refine Cx_in (w0' := trW k cA nA tA T ++ stW k nA N ++ stW k tA V) (wc' := ([] : va_W)) rfl (vx_runS (As := [.int p2, .int 1, .int 99]) (rest := []) ⟨hx, hb, hml, hown, hts⟩ (c_X1_checkRange l hst D k  p2 1 99 (.inr ()) hv_11 _) (va_cwS 3 hts gX1_simulate_X1_checkRange rfl rfl rfl (by decide +kernel) ⟨Nat.le_of_ble_eq_true rfl, Nat.le_of_ble_eq_true rfl⟩) ⟨Px_blind, Px_at (wc := ([] : va_W)) hK hG hP hD hS hA [] rfl (by decide)⟩ rfl rfl hl.1 rfl (Nat.le_of_ble_eq_true rfl) dX1_simulate_4 ⟨Nat.le_of_ble_eq_true rfl, Nat.le_of_ble_eq_true rfl⟩) hP hD hS hA [] rfl rfl rfl (fun H locs hP hD hS => ?_)
  refine W.eq (g2 := F0 m 7 ls []) rfl ?_
  refine lv_aload_n hx hb dX1_simulate_7 rfl (lv_at hl 0 rfl) ?_
  refine va_get (D := D) (ci := 1) (v := .ref (tA 0)) (C := RX1) (T := TX1) (N := 11) hx hb hts w_3 hown hK hP 0 rfl rfl 4 (by decide) w_2 (fun _ h9 => h9) rfl dX1_simulate_8 ?_
  refine lv_aload_n hx hb dX1_simulate_11 rfl (lv_at hl 0 rfl) ?_
  refine va_get (D := D) (ci := 1) (v := .ref (nA 0)) (C := RX1) (T := TX1) (N := 11) hx hb hts w_3 hown hK hP 0 rfl rfl 3 (by decide) w_8 (fun _ h9 => h9) rfl dX1_simulate_12 ?_
  obtain ⟨q_14, hv_15, h⟩ := bd_l h
  refine Ck_VN (As := [.ref (nA 0)]) (rest := []) (wc := stW k tA V ++ stW k nA N) (wc' := stW k tA q_14 ++ stW k nA N) (w0' := trW k cA nA tA T ++ stW k nA N ++ stW k tA q_14) ⟨hx, hb, hml, hown, hts⟩ (c_X0_copyFrom l D k tA nA V N q_14 hv_15) ⟨va_cnB 1 hts gX1_simulate_X0_copyFrom_n155 rfl rfl rfl w_9 w_5 (by decide +kernel) ⟨Nat.le_of_ble_eq_true rfl, Nat.le_of_ble_eq_true rfl⟩, w_10, w_11⟩ hK hP hD hS hA (q0 := 15) (ci := 0) rfl rfl ([15, 16, 17, 18, 19, 20, 21, 22, 23, 24, 25] ++ [4, 5, 6, 7, 8, 9, 10, 11, 12, 13, 14]) (hi_2 (hi_R rfl st_hi) (hi_L rfl (hi_R rfl st_hi))) (by decide) rfl (vs_2 rfl (vs_R rfl st_all) (vs_L rfl (vs_R rfl st_all))) rfl hl.1 rfl (Nat.le_of_ble_eq_true rfl) dX1_simulate_15 ⟨Nat.le_of_ble_eq_true rfl, Nat.le_of_ble_eq_true rfl⟩ (fun H locs hP hD hS => ?_)
  refine W.eq (g2 := F0 m 18 ls []) rfl ?_
  refine lv_iconst (v := 0) hx hb dX1_simulate_18 (by decide) ?_
  refine lv_istore (lv' := [(4, .int 0), (0, .ref (cA 0)), (1, .long p1), (3, .int p2)]) hx hb dX1_simulate_19 hl (by decide) rfl (fun ls hl => ?_)
  refine lv_lload_n hx hb dX1_simulate_21 rfl (lv_at hl 2 rfl) ?_
  refine lv_lstore (lv' := [(5, .long p1), (4, .int 0), (0, .ref (cA 0)), (1, .long p1), (3, .int p2)]) hx hb dX1_simulate_22 hl (by decide) rfl (fun ls hl => ?_)
  refine lv_iconst (v := 0) hx hb dX1_simulate_24 (by decide) ?_
  refine lv_istore (lv' := [(7, .int 0), (5, .long p1), (4, .int 0), (0, .ref (cA 0)), (1, .long p1), (3, .int p2)]) hx hb dX1_simulate_25 hl (by decide) rfl (fun ls hl => ?_)
  refine W.widen (k := 6) (n := 36) (Nat.le_of_ble_eq_true rfl) (Nat.le_of_ble_eq_true rfl) ?_
  exact hC_27 2000 0 p1 0 q_14 _ _ _ hP hD hS (lv_sub hl [3, 5, 2, 1, 0] rfl) h
