def f_J7_fill_53178_5 (N : Nat) (p1 : Int32) : Nat → Int32 → Int32 → (Nat → Int32) → Option ((Nat → Int32))
  | 0, _, _, _ => none
  | fu + 1, x2_5, x3_5, af_5 => if x3_5 ≤ x2_5 then (some (af_5)) else (gb (inb x2_5 N) <| nm (upd af_5 x2_5.toNatClampNeg p1) fun q_3 => (f_J7_fill_53178_5 N p1 fu) (x2_5 + 1) x3_5 q_3)
def f_J7_fill_53178 (N : Nat) (af : Nat → Int32) (p1 : Int32) : Option ((Nat → Int32)) := nm (Int32.ofNat N) fun v_4 => f_J7_fill_53178_5 N p1 2000 0 v_4 af
set_option maxRecDepth 100000 in
set_option maxHeartbeats 4000000 in
theorem c_J7_fill_53178 (l : Launch) (D : va_G) (k : Nat → ClassId) (ar : Nat) (N : Nat) (af : Nat → Int32) (p1 : Int32) (o0 : Nat → Int32) (h : f_J7_fill_53178 N af p1 = some (o0)) : Ck l D (tyK k) yJ7_fill_53178 wsJ7_fill_53178 ({ frames := 0, cells := 0, slots := 0, locals := 0 } : Room) [.ref ar, .int p1] ([(ar, .inl (k 0, N, .inl af))]) none ([(ar, .inl (k 0, N, .inl o0))]) := by
  refine Ck_of (cc := cJ7_fill_53178) (maxL := 4) (ret := none) (by decide) rfl (Nat.le_of_ble_eq_true rfl) ?_
  intro p e s m args below meth c A ls hx hb hr hml hts hown hlocks hK hA hP hD hS hl
  have hl : lv_has ls 4 [(0, .ref ar), (1, .int p1)] := hl
  have hP : va_P D vwCl ([(ar, .inl (k 0, N, .inl af))]) s.heap := hP
  unfold f_J7_fill_53178 at h
  have hC_5 : ∀ (fu_5 : Nat) (x2_5 : Int32) (x3_5 : Int32) (af_5 : Nat → Int32) (H : Heap) (locs : List Loc) (ls : Array Slot), va_P D vwCl ([(ar, .inl (k 0, N, .inl af_5))]) H → va_D A ([(ar, .inl (k 0, N, .inl af_5))]) → va_S A s.heap H locs → lv_has ls 4 [(0, .ref ar), (1, .int p1), (2, .int x2_5), (3, .int x3_5)] → f_J7_fill_53178_5 N p1 fu_5 x2_5 x3_5 af_5 = some (o0) → W p l e ({ frames := 0, cells := 0, slots := 0, locals := 0 } : Room) s m args below meth c H locs 0 0 (MQ below (Qk D A none ([(ar, .inl (k 0, N, .inl o0))])) args s 0 0 A) (F0 m 5 ls []) := by
    intro fu_5
    induction fu_5 with
    | zero => intro x2_5 x3_5 af_5 H locs ls _ _ _ _ h; exact (no_l h).elim
    | succ fu_5 ih_5 =>
      intro x2_5 x3_5 af_5 H locs ls hP hD hS hl h
      rw [f_J7_fill_53178_5] at h
      refine lv_iload_n hx hb dJ7_fill_53178_5 rfl (lv_at hl 2 rfl) ?_
      refine lv_iload_n hx hb dJ7_fill_53178_6 rfl (lv_at hl 3 rfl) ?_
      refine lv_icmp_ge (tgt := 20) hx hb dJ7_fill_53178_7 (by decide) (fun c_1 => ?_) (fun c_1 => ?_)
      · have h := it_l c_1 h
        cases h
        exact Ck_vret hx hb hr hP hD hS dJ7_fill_53178_20 hlocks
      · have h := it_r c_1 h
        refine lv_aload_n hx hb dJ7_fill_53178_10 rfl (lv_at hl 0 rfl) ?_
        refine lv_iload_n hx hb dJ7_fill_53178_11 rfl (lv_at hl 2 rfl) ?_
        refine lv_iload_n hx hb dJ7_fill_53178_12 rfl (lv_at hl 1 rfl) ?_
        have g_2 := inb_vp (gb_l h)
        have h := gb_r h
        refine va_iast hx hb hK hP hD hS 0 0 rfl rfl g_2 dJ7_fill_53178_13 (fun H locs hP hD hS => ?_)
        obtain ⟨q_3, eq_3⟩ : ∃ y : Nat → Int32, y = upd af_5 x2_5.toNatClampNeg p1 := ⟨_, rfl⟩
        have hP : va_P D vwCl ([(ar, .inl (k 0, N, .inl q_3))]) H := by rw [eq_3]; exact hP
        have hD : va_D A ([(ar, .inl (k 0, N, .inl q_3))]) := by rw [eq_3]; exact hD
        have h := nm_l h eq_3
        refine lv_iinc (v := (x2_5 + 1)) (lv' := [(2, .int (x2_5 + 1)), (0, .ref ar), (1, .int p1), (3, .int x3_5)]) hx hb dJ7_fill_53178_14 hl (k := 2) rfl rfl (by decide) rfl (fun ls hl => ?_)
        refine lv_goto (tgt := 5) hx hb dJ7_fill_53178_17 (by decide) ?_
        exact ih_5 (x2_5 + 1) x3_5 q_3 _ _ _ hP hD hS (lv_sub hl [1, 2, 0, 3] rfl) h
  refine lv_iconst (v := 0) hx hb dJ7_fill_53178_0 (by decide) ?_
  refine lv_istore_n (lv' := [(2, .int 0), (0, .ref ar), (1, .int p1)]) hx hb dJ7_fill_53178_1 rfl hl (by decide) rfl (fun ls hl => ?_)
  refine lv_aload_n hx hb dJ7_fill_53178_2 rfl (lv_at hl 1 rfl) ?_
  refine va_alen hx hb hK hP 0 0 rfl rfl rfl dJ7_fill_53178_3 ?_
  refine lv_topi (fun v_4 ev_4 => ?_)
  have h := nm_l h ev_4
  refine lv_istore_n (lv' := [(3, .int v_4), (2, .int 0), (0, .ref ar), (1, .int p1)]) hx hb dJ7_fill_53178_4 rfl hl (by decide) rfl (fun ls hl => ?_)
  exact hC_5 2000 0 v_4 af _ _ _ hP hD hS (lv_sub hl [2, 3, 1, 0] rfl) h
def f_X0_amount (S : StV) (p1 : Int32) : Option (Int32) := gb (inb p1 6) <| gb (inb p1 6) <| some ((((s_wat S) p1.toNatClampNeg) + ((s_sol S) p1.toNatClampNeg)))
set_option maxRecDepth 100000 in
set_option maxHeartbeats 4000000 in
theorem c_X0_amount (l : Launch) (D : va_G) (k : Nat → ClassId) (a : Nat → Nat) (S : StV) (p1 : Int32) (o0 : Int32) (h : f_X0_amount S p1 = some (o0)) : Ck l D (tyK k) yX0_amount wsX0_amount ({ frames := 0, cells := 0, slots := 0, locals := 0 } : Room) [.ref (a 0), .int p1] (stW k a S) (some (.int o0)) (stW k a S) := by
  refine Ck_of (cc := cX0_amount) (maxL := 2) (ret := (some .int)) (by decide) rfl (Nat.le_of_ble_eq_true rfl) ?_
  intro p e s m args below meth c A ls hx hb hr hml hts hown hlocks hK hA hP hD hS hl
  have hl : lv_has ls 2 [(0, .ref (a 0)), (1, .int p1)] := hl
  have hP : va_P D vwCl (stW k a S) s.heap := hP
  have w_0 := hts (.fieldLink RX0 28 "EffectTrain$State" "water" "[I") (by decide +kernel)
  have w_1 : ∀ w ∈ wsX00, w ∈ wsX0_amount := by decide +kernel
  have w_2 := hts (.fieldLink RX0 31 "EffectTrain$State" "solids" "[I") (by decide +kernel)
  unfold f_X0_amount at h
  refine lv_aload_n hx hb dX0_amount_0 rfl (lv_at hl 0 rfl) ?_
  refine va_get (D := D) (ci := 0) (v := .ref (a 4)) (C := RX0) (T := TX0) (N := 12) hx hb hts w_1 hown hK hP 0 rfl rfl 5 (by decide) w_0 (fun _ h9 => h9) rfl dX0_amount_1 ?_
  refine lv_iload_n hx hb dX0_amount_4 rfl (lv_at hl 1 rfl) ?_
  have g_1 := inb_vp (gb_l h)
  have h := gb_r h
  refine va_iald hx hb hK hP 4 0 rfl rfl g_1 dX0_amount_5 ?_
  refine lv_aload_n hx hb dX0_amount_6 rfl (lv_at hl 0 rfl) ?_
  refine va_get (D := D) (ci := 0) (v := .ref (a 5)) (C := RX0) (T := TX0) (N := 12) hx hb hts w_1 hown hK hP 0 rfl rfl 6 (by decide) w_2 (fun _ h9 => h9) rfl dX0_amount_7 ?_
  refine lv_iload_n hx hb dX0_amount_10 rfl (lv_at hl 1 rfl) ?_
  have g_2 := inb_vp (gb_l h)
  have h := gb_r h
  refine va_iald hx hb hK hP 5 0 rfl rfl g_2 dX0_amount_11 ?_
  refine lv_iadd hx hb dX0_amount_12 ?_
  cases h
  exact Ck_iret hx hb hr hP hD hS dX0_amount_13 hlocks
def f_X0_thickness (S : StV) (p1 : Int32) : Option (Int32) := gb (inb p1 6) <| gb (inb p1 6) <| nm (((s_wat S) p1.toNatClampNeg) + ((s_sol S) p1.toNatClampNeg)) fun v_3 => if v_3 ≤ 0 then (some (0)) else (gb (inb p1 6) <| gb (nz v_3) <| some (((100 * ((s_sol S) p1.toNatClampNeg)) / v_3)))
set_option maxRecDepth 100000 in
set_option maxHeartbeats 4000000 in
theorem c_X0_thickness (l : Launch) (D : va_G) (k : Nat → ClassId) (a : Nat → Nat) (S : StV) (p1 : Int32) (o0 : Int32) (h : f_X0_thickness S p1 = some (o0)) : Ck l D (tyK k) yX0_thickness wsX0_thickness ({ frames := 0, cells := 0, slots := 0, locals := 0 } : Room) [.ref (a 0), .int p1] (stW k a S) (some (.int o0)) (stW k a S) := by
  refine Ck_of (cc := cX0_thickness) (maxL := 3) (ret := (some .int)) (by decide) rfl (Nat.le_of_ble_eq_true rfl) ?_
  intro p e s m args below meth c A ls hx hb hr hml hts hown hlocks hK hA hP hD hS hl
  have hl : lv_has ls 3 [(0, .ref (a 0)), (1, .int p1)] := hl
  have hP : va_P D vwCl (stW k a S) s.heap := hP
  have w_0 := hts (.fieldLink RX0 28 "EffectTrain$State" "water" "[I") (by decide +kernel)
  have w_1 : ∀ w ∈ wsX00, w ∈ wsX0_thickness := by decide +kernel
  have w_2 := hts (.fieldLink RX0 31 "EffectTrain$State" "solids" "[I") (by decide +kernel)
  unfold f_X0_thickness at h
  refine lv_aload_n hx hb dX0_thickness_0 rfl (lv_at hl 0 rfl) ?_
  refine va_get (D := D) (ci := 0) (v := .ref (a 4)) (C := RX0) (T := TX0) (N := 12) hx hb hts w_1 hown hK hP 0 rfl rfl 5 (by decide) w_0 (fun _ h9 => h9) rfl dX0_thickness_1 ?_
  refine lv_iload_n hx hb dX0_thickness_4 rfl (lv_at hl 1 rfl) ?_
  have g_1 := inb_vp (gb_l h)
  have h := gb_r h
  refine va_iald hx hb hK hP 4 0 rfl rfl g_1 dX0_thickness_5 ?_
  refine lv_aload_n hx hb dX0_thickness_6 rfl (lv_at hl 0 rfl) ?_
  refine va_get (D := D) (ci := 0) (v := .ref (a 5)) (C := RX0) (T := TX0) (N := 12) hx hb hts w_1 hown hK hP 0 rfl rfl 6 (by decide) w_2 (fun _ h9 => h9) rfl dX0_thickness_7 ?_
  refine lv_iload_n hx hb dX0_thickness_10 rfl (lv_at hl 1 rfl) ?_
  have g_2 := inb_vp (gb_l h)
  have h := gb_r h
  refine va_iald hx hb hK hP 5 0 rfl rfl g_2 dX0_thickness_11 ?_
  refine lv_iadd hx hb dX0_thickness_12 ?_
  refine lv_topi (fun v_3 ev_3 => ?_)
  have h := nm_l h ev_3
  refine lv_istore_n (lv' := [(2, .int v_3), (0, .ref (a 0)), (1, .int p1)]) hx hb dX0_thickness_13 rfl hl (by decide) rfl (fun ls hl => ?_)
  refine lv_iload_n hx hb dX0_thickness_14 rfl (lv_at hl 0 rfl) ?_
  refine lv_if_le (tgt := 32) hx hb dX0_thickness_15 (by decide) (fun c_4 => ?_) (fun c_4 => ?_)
  · have h := it_l c_4 h
    refine lv_iconst (v := 0) hx hb dX0_thickness_32 (by decide) ?_
    cases h
    exact Ck_iret hx hb hr hP hD hS dX0_thickness_33 hlocks
  · have h := it_r c_4 h
    refine lv_bipush (v := 100) hx hb dX0_thickness_18 (by decide) ?_
    refine lv_aload_n hx hb dX0_thickness_20 rfl (lv_at hl 1 rfl) ?_
    refine va_get (D := D) (ci := 0) (v := .ref (a 5)) (C := RX0) (T := TX0) (N := 12) hx hb hts w_1 hown hK hP 0 rfl rfl 6 (by decide) w_2 (fun _ h9 => h9) rfl dX0_thickness_21 ?_
    refine lv_iload_n hx hb dX0_thickness_24 rfl (lv_at hl 2 rfl) ?_
    have g_5 := inb_vp (gb_l h)
    have h := gb_r h
    refine va_iald hx hb hK hP 5 0 rfl rfl g_5 dX0_thickness_25 ?_
    refine lv_imul hx hb dX0_thickness_26 ?_
    refine lv_iload_n hx hb dX0_thickness_27 rfl (lv_at hl 0 rfl) ?_
    have g_6 := nz_l (gb_l h)
    have h := gb_r h
    refine lv_idiv hx hb dX0_thickness_28 g_6 ?_
    refine lv_goto (tgt := 33) hx hb dX0_thickness_29 (by decide) ?_
    cases h
    exact Ck_iret hx hb hr hP hD hS dX0_thickness_33 hlocks
def f_X0_power (S : StV) (p1 : Int32) : Option (Int32) := gb (inb p1 6) <| nm (10 + ((s_sca S) p1.toNatClampNeg)) fun v_2 => if v_2 ≤ 0 then (some (0)) else (gb (inb p1 6) <| gb (nz v_2) <| some (((100 * ((s_are S) p1.toNatClampNeg)) / v_2)))
set_option maxRecDepth 100000 in
set_option maxHeartbeats 4000000 in
theorem c_X0_power (l : Launch) (D : va_G) (k : Nat → ClassId) (a : Nat → Nat) (S : StV) (p1 : Int32) (o0 : Int32) (h : f_X0_power S p1 = some (o0)) : Ck l D (tyK k) yX0_power wsX0_power ({ frames := 0, cells := 0, slots := 0, locals := 0 } : Room) [.ref (a 0), .int p1] (stW k a S) (some (.int o0)) (stW k a S) := by
  refine Ck_of (cc := cX0_power) (maxL := 3) (ret := (some .int)) (by decide) rfl (Nat.le_of_ble_eq_true rfl) ?_
  intro p e s m args below meth c A ls hx hb hr hml hts hown hlocks hK hA hP hD hS hl
  have hl : lv_has ls 3 [(0, .ref (a 0)), (1, .int p1)] := hl
  have hP : va_P D vwCl (stW k a S) s.heap := hP
  have w_0 := hts (.fieldLink RX0 40 "EffectTrain$State" "scale" "[I") (by decide +kernel)
  have w_1 : ∀ w ∈ wsX00, w ∈ wsX0_power := by decide +kernel
  have w_2 := hts (.fieldLink RX0 25 "EffectTrain$State" "area" "[I") (by decide +kernel)
  unfold f_X0_power at h
  refine lv_bipush (v := 10) hx hb dX0_power_0 (by decide) ?_
  refine lv_aload_n hx hb dX0_power_2 rfl (lv_at hl 0 rfl) ?_
  refine va_get (D := D) (ci := 0) (v := .ref (a 8)) (C := RX0) (T := TX0) (N := 12) hx hb hts w_1 hown hK hP 0 rfl rfl 9 (by decide) w_0 (fun _ h9 => h9) rfl dX0_power_3 ?_
  refine lv_iload_n hx hb dX0_power_6 rfl (lv_at hl 1 rfl) ?_
  have g_1 := inb_vp (gb_l h)
  have h := gb_r h
  refine va_iald hx hb hK hP 8 0 rfl rfl g_1 dX0_power_7 ?_
  refine lv_iadd hx hb dX0_power_8 ?_
  refine lv_topi (fun v_2 ev_2 => ?_)
  have h := nm_l h ev_2
  refine lv_istore_n (lv' := [(2, .int v_2), (0, .ref (a 0)), (1, .int p1)]) hx hb dX0_power_9 rfl hl (by decide) rfl (fun ls hl => ?_)
  refine lv_iload_n hx hb dX0_power_10 rfl (lv_at hl 0 rfl) ?_
  refine lv_if_le (tgt := 28) hx hb dX0_power_11 (by decide) (fun c_3 => ?_) (fun c_3 => ?_)
  · have h := it_l c_3 h
    refine lv_iconst (v := 0) hx hb dX0_power_28 (by decide) ?_
    cases h
    exact Ck_iret hx hb hr hP hD hS dX0_power_29 hlocks
  · have h := it_r c_3 h
    refine lv_bipush (v := 100) hx hb dX0_power_14 (by decide) ?_
    refine lv_aload_n hx hb dX0_power_16 rfl (lv_at hl 1 rfl) ?_
    refine va_get (D := D) (ci := 0) (v := .ref (a 3)) (C := RX0) (T := TX0) (N := 12) hx hb hts w_1 hown hK hP 0 rfl rfl 4 (by decide) w_2 (fun _ h9 => h9) rfl dX0_power_17 ?_
    refine lv_iload_n hx hb dX0_power_20 rfl (lv_at hl 2 rfl) ?_
    have g_4 := inb_vp (gb_l h)
    have h := gb_r h
    refine va_iald hx hb hK hP 3 0 rfl rfl g_4 dX0_power_21 ?_
    refine lv_imul hx hb dX0_power_22 ?_
    refine lv_iload_n hx hb dX0_power_23 rfl (lv_at hl 0 rfl) ?_
    have g_5 := nz_l (gb_l h)
    have h := gb_r h
    refine lv_idiv hx hb dX0_power_24 g_5 ?_
    refine lv_goto (tgt := 29) hx hb dX0_power_25 (by decide) ?_
    cases h
    exact Ck_iret hx hb hr hP hD hS dX0_power_29 hlocks
def f_X0_numberOf (S : StV) (p1 : Int32) (p2 : Int32) : Option (Int32) := if p2 = 0 then (gb (inb p1 6) <| some (((s_are S) p1.toNatClampNeg))) else (if p2 = 1 then (gb (inb p1 6) <| some (((s_wat S) p1.toNatClampNeg))) else (if p2 = 2 then (gb (inb p1 6) <| some (((s_sol S) p1.toNatClampNeg))) else (if p2 = 3 then (gb (inb p1 6) <| some (((s_val S) p1.toNatClampNeg))) else (if p2 = 4 then (gb (inb p1 6) <| some (((s_ble S) p1.toNatClampNeg))) else (if p2 = 5 then (gb (inb p1 6) <| some (((s_sca S) p1.toNatClampNeg))) else (if p2 = 6 then (gb (inb p1 6) <| some (((s_scl S) p1.toNatClampNeg))) else (if p2 = 7 then (gb (inb p1 6) <| some (((s_lef S) p1.toNatClampNeg))) else (if p2 = 8 then (bd (f_X0_thickness S p1) fun v_18 => some (v_18)) else (bd (f_X0_power S p1) fun v_20 => some (v_20))))))))))
set_option maxRecDepth 100000 in
set_option maxHeartbeats 4000000 in
theorem c_X0_numberOf (l : Launch) (D : va_G) (k : Nat → ClassId) (a : Nat → Nat) (S : StV) (p1 : Int32) (p2 : Int32) (o0 : Int32) (h : f_X0_numberOf S p1 p2 = some (o0)) : Ck l D (tyK k) yX0_numberOf wsX0_numberOf ({ frames := 1, cells := 0, slots := 0, locals := 22 } : Room) [.ref (a 0), .int p1, .int p2] (stW k a S) (some (.int o0)) (stW k a S) := by
  refine Ck_of (cc := cX0_numberOf) (maxL := 3) (ret := (some .int)) (by decide) rfl (Nat.le_of_ble_eq_true rfl) ?_
  intro p e s m args below meth c A ls hx hb hr hml hts hown hlocks hK hA hP hD hS hl
  have hl : lv_has ls 3 [(0, .ref (a 0)), (1, .int p1), (2, .int p2)] := hl
  have hP : va_P D vwCl (stW k a S) s.heap := hP
  have w_0 := hts (.fieldLink RX0 25 "EffectTrain$State" "area" "[I") (by decide +kernel)
  have w_1 : ∀ w ∈ wsX00, w ∈ wsX0_numberOf := by decide +kernel
  have w_2 := hts (.fieldLink RX0 28 "EffectTrain$State" "water" "[I") (by decide +kernel)
  have w_3 := hts (.fieldLink RX0 31 "EffectTrain$State" "solids" "[I") (by decide +kernel)
  have w_4 := hts (.fieldLink RX0 34 "EffectTrain$State" "valve" "[I") (by decide +kernel)
  have w_5 := hts (.fieldLink RX0 37 "EffectTrain$State" "bleed" "[I") (by decide +kernel)
  have w_6 := hts (.fieldLink RX0 40 "EffectTrain$State" "scale" "[I") (by decide +kernel)
  have w_7 := hts (.fieldLink RX0 43 "EffectTrain$State" "scaling" "[I") (by decide +kernel)
  have w_8 := hts (.fieldLink RX0 46 "EffectTrain$State" "left" "[I") (by decide +kernel)
  unfold f_X0_numberOf at h
  refine lv_iload_n hx hb dX0_numberOf_0 rfl (lv_at hl 2 rfl) ?_
  by_cases c_1 : p2 = 0
  · have h := it_l c_1 h
    refine lv_tableIn (tgt := 52) hx hb dX0_numberOf_1 (by rw [c_1]; decide) (by rw [c_1]; decide) (by rw [c_1]; rfl) (by decide) ?_
    refine lv_aload_n hx hb dX0_numberOf_52 rfl (lv_at hl 0 rfl) ?_
    refine va_get (D := D) (ci := 0) (v := .ref (a 3)) (C := RX0) (T := TX0) (N := 12) hx hb hts w_1 hown hK hP 0 rfl rfl 4 (by decide) w_0 (fun _ h9 => h9) rfl dX0_numberOf_53 ?_
    refine lv_iload_n hx hb dX0_numberOf_56 rfl (lv_at hl 1 rfl) ?_
    have g_2 := inb_vp (gb_l h)
    have h := gb_r h
    refine va_iald hx hb hK hP 3 0 rfl rfl g_2 dX0_numberOf_57 ?_
    cases h
    exact Ck_iret hx hb hr hP hD hS dX0_numberOf_58 hlocks
  · have h := it_r c_1 h
    by_cases c_3 : p2 = 1
    · have h := it_l c_3 h
      refine lv_tableIn (tgt := 59) hx hb dX0_numberOf_1 (by rw [c_3]; decide) (by rw [c_3]; decide) (by rw [c_3]; rfl) (by decide) ?_
      refine lv_aload_n hx hb dX0_numberOf_59 rfl (lv_at hl 0 rfl) ?_
      refine va_get (D := D) (ci := 0) (v := .ref (a 4)) (C := RX0) (T := TX0) (N := 12) hx hb hts w_1 hown hK hP 0 rfl rfl 5 (by decide) w_2 (fun _ h9 => h9) rfl dX0_numberOf_60 ?_
      refine lv_iload_n hx hb dX0_numberOf_63 rfl (lv_at hl 1 rfl) ?_
      have g_4 := inb_vp (gb_l h)
      have h := gb_r h
      refine va_iald hx hb hK hP 4 0 rfl rfl g_4 dX0_numberOf_64 ?_
      cases h
      exact Ck_iret hx hb hr hP hD hS dX0_numberOf_65 hlocks
    · have h := it_r c_3 h
      by_cases c_5 : p2 = 2
      · have h := it_l c_5 h
        refine lv_tableIn (tgt := 66) hx hb dX0_numberOf_1 (by rw [c_5]; decide) (by rw [c_5]; decide) (by rw [c_5]; rfl) (by decide) ?_
        refine lv_aload_n hx hb dX0_numberOf_66 rfl (lv_at hl 0 rfl) ?_
        refine va_get (D := D) (ci := 0) (v := .ref (a 5)) (C := RX0) (T := TX0) (N := 12) hx hb hts w_1 hown hK hP 0 rfl rfl 6 (by decide) w_3 (fun _ h9 => h9) rfl dX0_numberOf_67 ?_
        refine lv_iload_n hx hb dX0_numberOf_70 rfl (lv_at hl 1 rfl) ?_
        have g_6 := inb_vp (gb_l h)
        have h := gb_r h
        refine va_iald hx hb hK hP 5 0 rfl rfl g_6 dX0_numberOf_71 ?_
        cases h
        exact Ck_iret hx hb hr hP hD hS dX0_numberOf_72 hlocks
      · have h := it_r c_5 h
        by_cases c_7 : p2 = 3
        · have h := it_l c_7 h
          refine lv_tableIn (tgt := 73) hx hb dX0_numberOf_1 (by rw [c_7]; decide) (by rw [c_7]; decide) (by rw [c_7]; rfl) (by decide) ?_
          refine lv_aload_n hx hb dX0_numberOf_73 rfl (lv_at hl 0 rfl) ?_
          refine va_get (D := D) (ci := 0) (v := .ref (a 6)) (C := RX0) (T := TX0) (N := 12) hx hb hts w_1 hown hK hP 0 rfl rfl 7 (by decide) w_4 (fun _ h9 => h9) rfl dX0_numberOf_74 ?_
          refine lv_iload_n hx hb dX0_numberOf_77 rfl (lv_at hl 1 rfl) ?_
          have g_8 := inb_vp (gb_l h)
          have h := gb_r h
          refine va_iald hx hb hK hP 6 0 rfl rfl g_8 dX0_numberOf_78 ?_
          cases h
          exact Ck_iret hx hb hr hP hD hS dX0_numberOf_79 hlocks
        · have h := it_r c_7 h
          by_cases c_9 : p2 = 4
          · have h := it_l c_9 h
            refine lv_tableIn (tgt := 80) hx hb dX0_numberOf_1 (by rw [c_9]; decide) (by rw [c_9]; decide) (by rw [c_9]; rfl) (by decide) ?_
            refine lv_aload_n hx hb dX0_numberOf_80 rfl (lv_at hl 0 rfl) ?_
            refine va_get (D := D) (ci := 0) (v := .ref (a 7)) (C := RX0) (T := TX0) (N := 12) hx hb hts w_1 hown hK hP 0 rfl rfl 8 (by decide) w_5 (fun _ h9 => h9) rfl dX0_numberOf_81 ?_
            refine lv_iload_n hx hb dX0_numberOf_84 rfl (lv_at hl 1 rfl) ?_
            have g_10 := inb_vp (gb_l h)
            have h := gb_r h
            refine va_iald hx hb hK hP 7 0 rfl rfl g_10 dX0_numberOf_85 ?_
            cases h
            exact Ck_iret hx hb hr hP hD hS dX0_numberOf_86 hlocks
          · have h := it_r c_9 h
            by_cases c_11 : p2 = 5
            · have h := it_l c_11 h
              refine lv_tableIn (tgt := 87) hx hb dX0_numberOf_1 (by rw [c_11]; decide) (by rw [c_11]; decide) (by rw [c_11]; rfl) (by decide) ?_
              refine lv_aload_n hx hb dX0_numberOf_87 rfl (lv_at hl 0 rfl) ?_
              refine va_get (D := D) (ci := 0) (v := .ref (a 8)) (C := RX0) (T := TX0) (N := 12) hx hb hts w_1 hown hK hP 0 rfl rfl 9 (by decide) w_6 (fun _ h9 => h9) rfl dX0_numberOf_88 ?_
              refine lv_iload_n hx hb dX0_numberOf_91 rfl (lv_at hl 1 rfl) ?_
              have g_12 := inb_vp (gb_l h)
              have h := gb_r h
              refine va_iald hx hb hK hP 8 0 rfl rfl g_12 dX0_numberOf_92 ?_
              cases h
              exact Ck_iret hx hb hr hP hD hS dX0_numberOf_93 hlocks
            · have h := it_r c_11 h
              by_cases c_13 : p2 = 6
              · have h := it_l c_13 h
                refine lv_tableIn (tgt := 94) hx hb dX0_numberOf_1 (by rw [c_13]; decide) (by rw [c_13]; decide) (by rw [c_13]; rfl) (by decide) ?_
                refine lv_aload_n hx hb dX0_numberOf_94 rfl (lv_at hl 0 rfl) ?_
                refine va_get (D := D) (ci := 0) (v := .ref (a 9)) (C := RX0) (T := TX0) (N := 12) hx hb hts w_1 hown hK hP 0 rfl rfl 10 (by decide) w_7 (fun _ h9 => h9) rfl dX0_numberOf_95 ?_
                refine lv_iload_n hx hb dX0_numberOf_98 rfl (lv_at hl 1 rfl) ?_
                have g_14 := inb_vp (gb_l h)
                have h := gb_r h
                refine va_iald hx hb hK hP 9 0 rfl rfl g_14 dX0_numberOf_99 ?_
                cases h
                exact Ck_iret hx hb hr hP hD hS dX0_numberOf_100 hlocks
              · have h := it_r c_13 h
                by_cases c_15 : p2 = 7
                · have h := it_l c_15 h
                  refine lv_tableIn (tgt := 101) hx hb dX0_numberOf_1 (by rw [c_15]; decide) (by rw [c_15]; decide) (by rw [c_15]; rfl) (by decide) ?_
                  refine lv_aload_n hx hb dX0_numberOf_101 rfl (lv_at hl 0 rfl) ?_
                  refine va_get (D := D) (ci := 0) (v := .ref (a 10)) (C := RX0) (T := TX0) (N := 12) hx hb hts w_1 hown hK hP 0 rfl rfl 11 (by decide) w_8 (fun _ h9 => h9) rfl dX0_numberOf_102 ?_
                  refine lv_iload_n hx hb dX0_numberOf_105 rfl (lv_at hl 1 rfl) ?_
                  have g_16 := inb_vp (gb_l h)
                  have h := gb_r h
                  refine va_iald hx hb hK hP 10 0 rfl rfl g_16 dX0_numberOf_106 ?_
                  cases h
                  exact Ck_iret hx hb hr hP hD hS dX0_numberOf_107 hlocks
                · have h := it_r c_15 h
                  by_cases c_17 : p2 = 8
                  · have h := it_l c_17 h
                    refine lv_tableIn (tgt := 108) hx hb dX0_numberOf_1 (by rw [c_17]; decide) (by rw [c_17]; decide) (by rw [c_17]; rfl) (by decide) ?_
                    refine lv_aload_n hx hb dX0_numberOf_108 rfl (lv_at hl 0 rfl) ?_
                    refine lv_iload_n hx hb dX0_numberOf_109 rfl (lv_at hl 1 rfl) ?_
                    obtain ⟨v_18, hv_19, h⟩ := bd_l h
                    refine Ck_V (As := [.int p1]) (rest := []) (wc := stW k a S) (wc' := stW k a S) (w0' := stW k a S) ⟨hx, hb, hml, hown, hts⟩ (c_X0_thickness l D k a S p1 v_18 hv_19) (cwV 1 hts gX0_numberOf_X0_thickness rfl rfl rfl (by decide +kernel) ⟨Nat.le_of_ble_eq_true rfl, Nat.le_of_ble_eq_true rfl⟩) hK hP hD hS hA (q0 := 0) (ci := 0) rfl rfl [0, 1, 2, 3, 4, 5, 6, 7, 8, 9, 10] rfl (by decide) rfl rfl rfl hl.1 rfl (Nat.le_of_ble_eq_true rfl) dX0_numberOf_110 ⟨Nat.le_of_ble_eq_true rfl, Nat.le_of_ble_eq_true rfl⟩ (fun H locs hP hD hS => ?_)
                    refine W.eq (g2 := F0 m 113 ls [.int v_18]) rfl ?_
                    cases h
                    exact Ck_iret hx hb hr hP hD hS dX0_numberOf_113 hlocks
                  · have h := it_r c_17 h
                    have n_c_1 : ¬ p2.toInt = 0 := fun z9 => c_1 (Int32.toInt_inj.mp (z9.trans (by decide)))
                    have n_c_3 : ¬ p2.toInt = 1 := fun z9 => c_3 (Int32.toInt_inj.mp (z9.trans (by decide)))
                    have n_c_5 : ¬ p2.toInt = 2 := fun z9 => c_5 (Int32.toInt_inj.mp (z9.trans (by decide)))
                    have n_c_7 : ¬ p2.toInt = 3 := fun z9 => c_7 (Int32.toInt_inj.mp (z9.trans (by decide)))
                    have n_c_9 : ¬ p2.toInt = 4 := fun z9 => c_9 (Int32.toInt_inj.mp (z9.trans (by decide)))
                    have n_c_11 : ¬ p2.toInt = 5 := fun z9 => c_11 (Int32.toInt_inj.mp (z9.trans (by decide)))
                    have n_c_13 : ¬ p2.toInt = 6 := fun z9 => c_13 (Int32.toInt_inj.mp (z9.trans (by decide)))
                    have n_c_15 : ¬ p2.toInt = 7 := fun z9 => c_15 (Int32.toInt_inj.mp (z9.trans (by decide)))
                    have n_c_17 : ¬ p2.toInt = 8 := fun z9 => c_17 (Int32.toInt_inj.mp (z9.trans (by decide)))
                    refine lv_tableOut (tgt := 114) hx hb dX0_numberOf_1 (by omega) (by decide) ?_
                    refine lv_aload_n hx hb dX0_numberOf_114 rfl (lv_at hl 0 rfl) ?_
                    refine lv_iload_n hx hb dX0_numberOf_115 rfl (lv_at hl 1 rfl) ?_
                    obtain ⟨v_20, hv_21, h⟩ := bd_l h
                    refine Ck_V (As := [.int p1]) (rest := []) (wc := stW k a S) (wc' := stW k a S) (w0' := stW k a S) ⟨hx, hb, hml, hown, hts⟩ (c_X0_power l D k a S p1 v_20 hv_21) (cwV 1 hts gX0_numberOf_X0_power rfl rfl rfl (by decide +kernel) ⟨Nat.le_of_ble_eq_true rfl, Nat.le_of_ble_eq_true rfl⟩) hK hP hD hS hA (q0 := 0) (ci := 0) rfl rfl [0, 1, 2, 3, 4, 5, 6, 7, 8, 9, 10] rfl (by decide) rfl rfl rfl hl.1 rfl (Nat.le_of_ble_eq_true rfl) dX0_numberOf_116 ⟨Nat.le_of_ble_eq_true rfl, Nat.le_of_ble_eq_true rfl⟩ (fun H locs hP hD hS => ?_)
                    refine W.eq (g2 := F0 m 119 ls [.int v_20]) rfl ?_
                    cases h
                    exact Ck_iret hx hb hr hP hD hS dX0_numberOf_119 hlocks
def f_X0_allWater_4 (S : StV) : Nat → Int32 → Int32 → Option (Int32)
  | 0, _, _ => none
  | fu + 1, x1_4, x2_4 => if (s_n S) ≤ x2_4 then (some (x1_4)) else (gb (inb x2_4 6) <| nm (x1_4 + ((s_wat S) x2_4.toNatClampNeg)) fun v_3 => (f_X0_allWater_4 S fu) v_3 (x2_4 + 1))
def f_X0_allWater (S : StV) : Option (Int32) := f_X0_allWater_4 S 2000 0 0
set_option maxRecDepth 100000 in
set_option maxHeartbeats 4000000 in
theorem c_X0_allWater (l : Launch) (D : va_G) (k : Nat → ClassId) (a : Nat → Nat) (S : StV) (o0 : Int32) (h : f_X0_allWater S = some (o0)) : Ck l D (tyK k) yX0_allWater wsX0_allWater ({ frames := 0, cells := 0, slots := 0, locals := 0 } : Room) [.ref (a 0)] (stW k a S) (some (.int o0)) (stW k a S) := by
  refine Ck_of (cc := cX0_allWater) (maxL := 3) (ret := (some .int)) (by decide) rfl (Nat.le_of_ble_eq_true rfl) ?_
  intro p e s m args below meth c A ls hx hb hr hml hts hown hlocks hK hA hP hD hS hl
  have hl : lv_has ls 3 [(0, .ref (a 0))] := hl
  have hP : va_P D vwCl (stW k a S) s.heap := hP
  have w_0 := hts (.fieldLink RX0 9 "EffectTrain$State" "n" "I") (by decide +kernel)
  have w_1 : ∀ w ∈ wsX00, w ∈ wsX0_allWater := by decide +kernel
  have w_2 := hts (.fieldLink RX0 28 "EffectTrain$State" "water" "[I") (by decide +kernel)
  unfold f_X0_allWater at h
  have hC_4 : ∀ (fu_4 : Nat) (x1_4 : Int32) (x2_4 : Int32) (H : Heap) (locs : List Loc) (ls : Array Slot), va_P D vwCl (stW k a S) H → va_D A (stW k a S) → va_S A s.heap H locs → lv_has ls 3 [(0, .ref (a 0)), (1, .int x1_4), (2, .int x2_4)] → f_X0_allWater_4 S fu_4 x1_4 x2_4 = some (o0) → W p l e ({ frames := 0, cells := 0, slots := 0, locals := 0 } : Room) s m args below meth c H locs 0 0 (MQ below (Qk D A (some (.int o0)) (stW k a S)) args s 0 0 A) (F0 m 4 ls []) := by
    intro fu_4
    induction fu_4 with
    | zero => intro x1_4 x2_4 H locs ls _ _ _ _ h; exact (no_l h).elim
    | succ fu_4 ih_4 =>
      intro x1_4 x2_4 H locs ls hP hD hS hl h
      rw [f_X0_allWater_4] at h
      refine lv_iload_n hx hb dX0_allWater_4 rfl (lv_at hl 2 rfl) ?_
      refine lv_aload_n hx hb dX0_allWater_5 rfl (lv_at hl 0 rfl) ?_
      refine va_get (D := D) (ci := 0) (v := .int (s_n S)) (C := RX0) (T := TX0) (N := 12) hx hb hts w_1 hown hK hP 0 rfl rfl 0 (by decide) w_0 (fun _ h9 => h9) rfl dX0_allWater_6 ?_
      refine lv_icmp_ge (tgt := 27) hx hb dX0_allWater_9 (by decide) (fun c_1 => ?_) (fun c_1 => ?_)
      · have h := it_l c_1 h
        refine lv_iload_n hx hb dX0_allWater_27 rfl (lv_at hl 1 rfl) ?_
        cases h
        exact Ck_iret hx hb hr hP hD hS dX0_allWater_28 hlocks
      · have h := it_r c_1 h
        refine lv_iload_n hx hb dX0_allWater_12 rfl (lv_at hl 1 rfl) ?_
        refine lv_aload_n hx hb dX0_allWater_13 rfl (lv_at hl 0 rfl) ?_
        refine va_get (D := D) (ci := 0) (v := .ref (a 4)) (C := RX0) (T := TX0) (N := 12) hx hb hts w_1 hown hK hP 0 rfl rfl 5 (by decide) w_2 (fun _ h9 => h9) rfl dX0_allWater_14 ?_
        refine lv_iload_n hx hb dX0_allWater_17 rfl (lv_at hl 2 rfl) ?_
        have g_2 := inb_vp (gb_l h)
        have h := gb_r h
        refine va_iald hx hb hK hP 4 0 rfl rfl g_2 dX0_allWater_18 ?_
        refine lv_iadd hx hb dX0_allWater_19 ?_
        refine lv_topi (fun v_3 ev_3 => ?_)
        have h := nm_l h ev_3
        refine lv_istore_n (lv' := [(1, .int v_3), (0, .ref (a 0)), (2, .int x2_4)]) hx hb dX0_allWater_20 rfl hl (by decide) rfl (fun ls hl => ?_)
        refine lv_iinc (v := (x2_4 + 1)) (lv' := [(2, .int (x2_4 + 1)), (1, .int v_3), (0, .ref (a 0))]) hx hb dX0_allWater_21 hl (k := 2) rfl rfl (by decide) rfl (fun ls hl => ?_)
        refine lv_goto (tgt := 4) hx hb dX0_allWater_24 (by decide) ?_
        exact ih_4 v_3 (x2_4 + 1) _ _ _ hP hD hS (lv_sub hl [2, 1, 0] rfl) h
  refine lv_iconst (v := 0) hx hb dX0_allWater_0 (by decide) ?_
  refine lv_istore_n (lv' := [(1, .int 0), (0, .ref (a 0))]) hx hb dX0_allWater_1 rfl hl (by decide) rfl (fun ls hl => ?_)
  refine lv_iconst (v := 0) hx hb dX0_allWater_2 (by decide) ?_
  refine lv_istore_n (lv' := [(2, .int 0), (1, .int 0), (0, .ref (a 0))]) hx hb dX0_allWater_3 rfl hl (by decide) rfl (fun ls hl => ?_)
  exact hC_4 2000 0 0 _ _ _ hP hD hS (lv_sub hl [2, 1, 0] rfl) h
def f_X0_allSolids_4 (S : StV) : Nat → Int32 → Int32 → Option (Int32)
  | 0, _, _ => none
  | fu + 1, x1_4, x2_4 => if (s_n S) ≤ x2_4 then (some (x1_4)) else (gb (inb x2_4 6) <| nm (x1_4 + ((s_sol S) x2_4.toNatClampNeg)) fun v_3 => (f_X0_allSolids_4 S fu) v_3 (x2_4 + 1))
def f_X0_allSolids (S : StV) : Option (Int32) := f_X0_allSolids_4 S 2000 0 0
set_option maxRecDepth 100000 in
set_option maxHeartbeats 4000000 in
theorem c_X0_allSolids (l : Launch) (D : va_G) (k : Nat → ClassId) (a : Nat → Nat) (S : StV) (o0 : Int32) (h : f_X0_allSolids S = some (o0)) : Ck l D (tyK k) yX0_allSolids wsX0_allSolids ({ frames := 0, cells := 0, slots := 0, locals := 0 } : Room) [.ref (a 0)] (stW k a S) (some (.int o0)) (stW k a S) := by
  refine Ck_of (cc := cX0_allSolids) (maxL := 3) (ret := (some .int)) (by decide) rfl (Nat.le_of_ble_eq_true rfl) ?_
  intro p e s m args below meth c A ls hx hb hr hml hts hown hlocks hK hA hP hD hS hl
  have hl : lv_has ls 3 [(0, .ref (a 0))] := hl
  have hP : va_P D vwCl (stW k a S) s.heap := hP
  have w_0 := hts (.fieldLink RX0 9 "EffectTrain$State" "n" "I") (by decide +kernel)
  have w_1 : ∀ w ∈ wsX00, w ∈ wsX0_allSolids := by decide +kernel
  have w_2 := hts (.fieldLink RX0 31 "EffectTrain$State" "solids" "[I") (by decide +kernel)
  unfold f_X0_allSolids at h
  have hC_4 : ∀ (fu_4 : Nat) (x1_4 : Int32) (x2_4 : Int32) (H : Heap) (locs : List Loc) (ls : Array Slot), va_P D vwCl (stW k a S) H → va_D A (stW k a S) → va_S A s.heap H locs → lv_has ls 3 [(0, .ref (a 0)), (1, .int x1_4), (2, .int x2_4)] → f_X0_allSolids_4 S fu_4 x1_4 x2_4 = some (o0) → W p l e ({ frames := 0, cells := 0, slots := 0, locals := 0 } : Room) s m args below meth c H locs 0 0 (MQ below (Qk D A (some (.int o0)) (stW k a S)) args s 0 0 A) (F0 m 4 ls []) := by
    intro fu_4
    induction fu_4 with
    | zero => intro x1_4 x2_4 H locs ls _ _ _ _ h; exact (no_l h).elim
    | succ fu_4 ih_4 =>
      intro x1_4 x2_4 H locs ls hP hD hS hl h
      rw [f_X0_allSolids_4] at h
      refine lv_iload_n hx hb dX0_allSolids_4 rfl (lv_at hl 2 rfl) ?_
      refine lv_aload_n hx hb dX0_allSolids_5 rfl (lv_at hl 0 rfl) ?_
      refine va_get (D := D) (ci := 0) (v := .int (s_n S)) (C := RX0) (T := TX0) (N := 12) hx hb hts w_1 hown hK hP 0 rfl rfl 0 (by decide) w_0 (fun _ h9 => h9) rfl dX0_allSolids_6 ?_
      refine lv_icmp_ge (tgt := 27) hx hb dX0_allSolids_9 (by decide) (fun c_1 => ?_) (fun c_1 => ?_)
      · have h := it_l c_1 h
        refine lv_iload_n hx hb dX0_allSolids_27 rfl (lv_at hl 1 rfl) ?_
        cases h
        exact Ck_iret hx hb hr hP hD hS dX0_allSolids_28 hlocks
      · have h := it_r c_1 h
        refine lv_iload_n hx hb dX0_allSolids_12 rfl (lv_at hl 1 rfl) ?_
        refine lv_aload_n hx hb dX0_allSolids_13 rfl (lv_at hl 0 rfl) ?_
        refine va_get (D := D) (ci := 0) (v := .ref (a 5)) (C := RX0) (T := TX0) (N := 12) hx hb hts w_1 hown hK hP 0 rfl rfl 6 (by decide) w_2 (fun _ h9 => h9) rfl dX0_allSolids_14 ?_
        refine lv_iload_n hx hb dX0_allSolids_17 rfl (lv_at hl 2 rfl) ?_
        have g_2 := inb_vp (gb_l h)
        have h := gb_r h
        refine va_iald hx hb hK hP 5 0 rfl rfl g_2 dX0_allSolids_18 ?_
        refine lv_iadd hx hb dX0_allSolids_19 ?_
        refine lv_topi (fun v_3 ev_3 => ?_)
        have h := nm_l h ev_3
        refine lv_istore_n (lv' := [(1, .int v_3), (0, .ref (a 0)), (2, .int x2_4)]) hx hb dX0_allSolids_20 rfl hl (by decide) rfl (fun ls hl => ?_)
        refine lv_iinc (v := (x2_4 + 1)) (lv' := [(2, .int (x2_4 + 1)), (1, .int v_3), (0, .ref (a 0))]) hx hb dX0_allSolids_21 hl (k := 2) rfl rfl (by decide) rfl (fun ls hl => ?_)
        refine lv_goto (tgt := 4) hx hb dX0_allSolids_24 (by decide) ?_
        exact ih_4 v_3 (x2_4 + 1) _ _ _ hP hD hS (lv_sub hl [2, 1, 0] rfl) h
  refine lv_iconst (v := 0) hx hb dX0_allSolids_0 (by decide) ?_
  refine lv_istore_n (lv' := [(1, .int 0), (0, .ref (a 0))]) hx hb dX0_allSolids_1 rfl hl (by decide) rfl (fun ls hl => ?_)
  refine lv_iconst (v := 0) hx hb dX0_allSolids_2 (by decide) ?_
  refine lv_istore_n (lv' := [(2, .int 0), (1, .int 0), (0, .ref (a 0))]) hx hb dX0_allSolids_3 rfl hl (by decide) rfl (fun ls hl => ?_)
  exact hC_4 2000 0 0 _ _ _ hP hD hS (lv_sub hl [2, 1, 0] rfl) h
def f_X0_washedEffects_4 (S : StV) : Nat → Int32 → Int32 → Option (Int32)
  | 0, _, _ => none
  | fu + 1, x1_4, x2_4 => if (s_n S) ≤ x2_4 then (some (x1_4)) else (gb (inb x2_4 6) <| if ((s_lef S) x2_4.toNatClampNeg) ≤ 0 then ((f_X0_washedEffects_4 S fu) x1_4 (x2_4 + 1)) else ((f_X0_washedEffects_4 S fu) (x1_4 + 1) (x2_4 + 1)))
def f_X0_washedEffects (S : StV) : Option (Int32) := f_X0_washedEffects_4 S 2000 0 0
set_option maxRecDepth 100000 in
set_option maxHeartbeats 4000000 in
theorem c_X0_washedEffects (l : Launch) (D : va_G) (k : Nat → ClassId) (a : Nat → Nat) (S : StV) (o0 : Int32) (h : f_X0_washedEffects S = some (o0)) : Ck l D (tyK k) yX0_washedEffects wsX0_washedEffects ({ frames := 0, cells := 0, slots := 0, locals := 0 } : Room) [.ref (a 0)] (stW k a S) (some (.int o0)) (stW k a S) := by
  refine Ck_of (cc := cX0_washedEffects) (maxL := 3) (ret := (some .int)) (by decide) rfl (Nat.le_of_ble_eq_true rfl) ?_
  intro p e s m args below meth c A ls hx hb hr hml hts hown hlocks hK hA hP hD hS hl
  have hl : lv_has ls 3 [(0, .ref (a 0))] := hl
  have hP : va_P D vwCl (stW k a S) s.heap := hP
  have w_0 := hts (.fieldLink RX0 9 "EffectTrain$State" "n" "I") (by decide +kernel)
  have w_1 : ∀ w ∈ wsX00, w ∈ wsX0_washedEffects := by decide +kernel
  have w_2 := hts (.fieldLink RX0 46 "EffectTrain$State" "left" "[I") (by decide +kernel)
  unfold f_X0_washedEffects at h
  have hC_4 : ∀ (fu_4 : Nat) (x1_4 : Int32) (x2_4 : Int32) (H : Heap) (locs : List Loc) (ls : Array Slot), va_P D vwCl (stW k a S) H → va_D A (stW k a S) → va_S A s.heap H locs → lv_has ls 3 [(0, .ref (a 0)), (1, .int x1_4), (2, .int x2_4)] → f_X0_washedEffects_4 S fu_4 x1_4 x2_4 = some (o0) → W p l e ({ frames := 0, cells := 0, slots := 0, locals := 0 } : Room) s m args below meth c H locs 0 0 (MQ below (Qk D A (some (.int o0)) (stW k a S)) args s 0 0 A) (F0 m 4 ls []) := by
    intro fu_4
    induction fu_4 with
    | zero => intro x1_4 x2_4 H locs ls _ _ _ _ h; exact (no_l h).elim
    | succ fu_4 ih_4 =>
      intro x1_4 x2_4 H locs ls hP hD hS hl h
      rw [f_X0_washedEffects_4] at h
      refine lv_iload_n hx hb dX0_washedEffects_4 rfl (lv_at hl 2 rfl) ?_
      refine lv_aload_n hx hb dX0_washedEffects_5 rfl (lv_at hl 0 rfl) ?_
      refine va_get (D := D) (ci := 0) (v := .int (s_n S)) (C := RX0) (T := TX0) (N := 12) hx hb hts w_1 hown hK hP 0 rfl rfl 0 (by decide) w_0 (fun _ h9 => h9) rfl dX0_washedEffects_6 ?_
      refine lv_icmp_ge (tgt := 30) hx hb dX0_washedEffects_9 (by decide) (fun c_1 => ?_) (fun c_1 => ?_)
      · have h := it_l c_1 h
        refine lv_iload_n hx hb dX0_washedEffects_30 rfl (lv_at hl 1 rfl) ?_
        cases h
        exact Ck_iret hx hb hr hP hD hS dX0_washedEffects_31 hlocks
      · have h := it_r c_1 h
        refine lv_aload_n hx hb dX0_washedEffects_12 rfl (lv_at hl 0 rfl) ?_
        refine va_get (D := D) (ci := 0) (v := .ref (a 10)) (C := RX0) (T := TX0) (N := 12) hx hb hts w_1 hown hK hP 0 rfl rfl 11 (by decide) w_2 (fun _ h9 => h9) rfl dX0_washedEffects_13 ?_
        refine lv_iload_n hx hb dX0_washedEffects_16 rfl (lv_at hl 2 rfl) ?_
        have g_2 := inb_vp (gb_l h)
        have h := gb_r h
        refine va_iald hx hb hK hP 10 0 rfl rfl g_2 dX0_washedEffects_17 ?_
        refine lv_if_le (tgt := 24) hx hb dX0_washedEffects_18 (by decide) (fun c_3 => ?_) (fun c_3 => ?_)
        · have h := it_l c_3 h
          refine lv_iinc (v := (x2_4 + 1)) (lv' := [(2, .int (x2_4 + 1)), (0, .ref (a 0)), (1, .int x1_4)]) hx hb dX0_washedEffects_24 hl (k := 2) rfl rfl (by decide) rfl (fun ls hl => ?_)
          refine lv_goto (tgt := 4) hx hb dX0_washedEffects_27 (by decide) ?_
          exact ih_4 x1_4 (x2_4 + 1) _ _ _ hP hD hS (lv_sub hl [1, 2, 0] rfl) h
        · have h := it_r c_3 h
          refine lv_iinc (v := (x1_4 + 1)) (lv' := [(1, .int (x1_4 + 1)), (0, .ref (a 0)), (2, .int x2_4)]) hx hb dX0_washedEffects_21 hl (k := 1) rfl rfl (by decide) rfl (fun ls hl => ?_)
          refine lv_iinc (v := (x2_4 + 1)) (lv' := [(2, .int (x2_4 + 1)), (1, .int (x1_4 + 1)), (0, .ref (a 0))]) hx hb dX0_washedEffects_24 hl (k := 2) rfl rfl (by decide) rfl (fun ls hl => ?_)
          refine lv_goto (tgt := 4) hx hb dX0_washedEffects_27 (by decide) ?_
          exact ih_4 (x1_4 + 1) (x2_4 + 1) _ _ _ hP hD hS (lv_sub hl [2, 1, 0] rfl) h
  refine lv_iconst (v := 0) hx hb dX0_washedEffects_0 (by decide) ?_
  refine lv_istore_n (lv' := [(1, .int 0), (0, .ref (a 0))]) hx hb dX0_washedEffects_1 rfl hl (by decide) rfl (fun ls hl => ?_)
  refine lv_iconst (v := 0) hx hb dX0_washedEffects_2 (by decide) ?_
  refine lv_istore_n (lv' := [(2, .int 0), (1, .int 0), (0, .ref (a 0))]) hx hb dX0_washedEffects_3 rfl hl (by decide) rfl (fun ls hl => ?_)
  exact hC_4 2000 0 0 _ _ _ hP hD hS (lv_sub hl [2, 1, 0] rfl) h
def f_X0_effectBehind_4 (S : StV) : Nat → Int32 → Option (Int32)
  | 0, _ => none
  | fu + 1, x2_4 => if (s_n S) ≤ x2_4 then (some ((-9))) else (gb (inb x2_4 6) <| if ((s_lef S) x2_4.toNatClampNeg) = 0 then (some (x2_4)) else ((f_X0_effectBehind_4 S fu) (x2_4 + 1)))
def f_X0_effectBehind (S : StV) (p1 : Int32) : Option (Int32) := nm (p1 + 1) fun v_4 => f_X0_effectBehind_4 S 2000 v_4
set_option maxRecDepth 100000 in
set_option maxHeartbeats 4000000 in
theorem c_X0_effectBehind (l : Launch) (D : va_G) (k : Nat → ClassId) (a : Nat → Nat) (S : StV) (p1 : Int32) (o0 : Int32) (h : f_X0_effectBehind S p1 = some (o0)) : Ck l D (tyK k) yX0_effectBehind wsX0_effectBehind ({ frames := 0, cells := 0, slots := 0, locals := 0 } : Room) [.ref (a 0), .int p1] (stW k a S) (some (.int o0)) (stW k a S) := by
  refine Ck_of (cc := cX0_effectBehind) (maxL := 3) (ret := (some .int)) (by decide) rfl (Nat.le_of_ble_eq_true rfl) ?_
  intro p e s m args below meth c A ls hx hb hr hml hts hown hlocks hK hA hP hD hS hl
  have hl : lv_has ls 3 [(0, .ref (a 0)), (1, .int p1)] := hl
  have hP : va_P D vwCl (stW k a S) s.heap := hP
  have w_0 := hts (.fieldLink RX0 9 "EffectTrain$State" "n" "I") (by decide +kernel)
  have w_1 : ∀ w ∈ wsX00, w ∈ wsX0_effectBehind := by decide +kernel
  have w_2 := hts (.fieldLink RX0 46 "EffectTrain$State" "left" "[I") (by decide +kernel)
  unfold f_X0_effectBehind at h
  have hC_4 : ∀ (fu_4 : Nat) (x2_4 : Int32) (H : Heap) (locs : List Loc) (ls : Array Slot), va_P D vwCl (stW k a S) H → va_D A (stW k a S) → va_S A s.heap H locs → lv_has ls 3 [(0, .ref (a 0)), (2, .int x2_4)] → f_X0_effectBehind_4 S fu_4 x2_4 = some (o0) → W p l e ({ frames := 0, cells := 0, slots := 0, locals := 0 } : Room) s m args below meth c H locs 0 0 (MQ below (Qk D A (some (.int o0)) (stW k a S)) args s 0 0 A) (F0 m 4 ls []) := by
    intro fu_4
    induction fu_4 with
    | zero => intro x2_4 H locs ls _ _ _ _ h; exact (no_l h).elim
    | succ fu_4 ih_4 =>
      intro x2_4 H locs ls hP hD hS hl h
      rw [f_X0_effectBehind_4] at h
      refine lv_iload_n hx hb dX0_effectBehind_4 rfl (lv_at hl 1 rfl) ?_
      refine lv_aload_n hx hb dX0_effectBehind_5 rfl (lv_at hl 0 rfl) ?_
      refine va_get (D := D) (ci := 0) (v := .int (s_n S)) (C := RX0) (T := TX0) (N := 12) hx hb hts w_1 hown hK hP 0 rfl rfl 0 (by decide) w_0 (fun _ h9 => h9) rfl dX0_effectBehind_6 ?_
      refine lv_icmp_ge (tgt := 29) hx hb dX0_effectBehind_9 (by decide) (fun c_1 => ?_) (fun c_1 => ?_)
      · have h := it_l c_1 h
        refine lv_bipush (v := (-9)) hx hb dX0_effectBehind_29 (by decide) ?_
        cases h
        exact Ck_iret hx hb hr hP hD hS dX0_effectBehind_31 hlocks
      · have h := it_r c_1 h
        refine lv_aload_n hx hb dX0_effectBehind_12 rfl (lv_at hl 0 rfl) ?_
        refine va_get (D := D) (ci := 0) (v := .ref (a 10)) (C := RX0) (T := TX0) (N := 12) hx hb hts w_1 hown hK hP 0 rfl rfl 11 (by decide) w_2 (fun _ h9 => h9) rfl dX0_effectBehind_13 ?_
        refine lv_iload_n hx hb dX0_effectBehind_16 rfl (lv_at hl 1 rfl) ?_
        have g_2 := inb_vp (gb_l h)
        have h := gb_r h
        refine va_iald hx hb hK hP 10 0 rfl rfl g_2 dX0_effectBehind_17 ?_
        refine lv_if_ne (tgt := 23) hx hb dX0_effectBehind_18 (by decide) (fun c_3 => ?_) (fun c_3 => ?_)
        · have h := it_r c_3 h
          refine lv_iinc (v := (x2_4 + 1)) (lv' := [(2, .int (x2_4 + 1)), (0, .ref (a 0))]) hx hb dX0_effectBehind_23 hl (k := 1) rfl rfl (by decide) rfl (fun ls hl => ?_)
          refine lv_goto (tgt := 4) hx hb dX0_effectBehind_26 (by decide) ?_
          exact ih_4 (x2_4 + 1) _ _ _ hP hD hS (lv_sub hl [1, 0] rfl) h
        · have h := it_l c_3 h
          refine lv_iload_n hx hb dX0_effectBehind_21 rfl (lv_at hl 1 rfl) ?_
          cases h
          exact Ck_iret hx hb hr hP hD hS dX0_effectBehind_22 hlocks
  refine lv_iload_n hx hb dX0_effectBehind_0 rfl (lv_at hl 1 rfl) ?_
  refine lv_iconst (v := 1) hx hb dX0_effectBehind_1 (by decide) ?_
  refine lv_iadd hx hb dX0_effectBehind_2 ?_
  refine lv_topi (fun v_4 ev_4 => ?_)
  have h := nm_l h ev_4
  refine lv_istore_n (lv' := [(2, .int v_4), (0, .ref (a 0)), (1, .int p1)]) hx hb dX0_effectBehind_3 rfl hl (by decide) rfl (fun ls hl => ?_)
  exact hC_4 2000 v_4 _ _ _ hP hD hS (lv_sub hl [1, 0] rfl) h
def f_X0_effectBefore_4 (S : StV) : Nat → Int32 → Option (Int32)
  | 0, _ => none
  | fu + 1, x2_4 => if x2_4 < 0 then (some ((-9))) else (gb (inb x2_4 6) <| if ((s_lef S) x2_4.toNatClampNeg) = 0 then (some (x2_4)) else ((f_X0_effectBefore_4 S fu) (x2_4 + (-1))))
def f_X0_effectBefore (S : StV) (p1 : Int32) : Option (Int32) := nm (p1 - 1) fun v_4 => f_X0_effectBefore_4 S 2000 v_4
set_option maxRecDepth 100000 in
set_option maxHeartbeats 4000000 in
theorem c_X0_effectBefore (l : Launch) (D : va_G) (k : Nat → ClassId) (a : Nat → Nat) (S : StV) (p1 : Int32) (o0 : Int32) (h : f_X0_effectBefore S p1 = some (o0)) : Ck l D (tyK k) yX0_effectBefore wsX0_effectBefore ({ frames := 0, cells := 0, slots := 0, locals := 0 } : Room) [.ref (a 0), .int p1] (stW k a S) (some (.int o0)) (stW k a S) := by
  refine Ck_of (cc := cX0_effectBefore) (maxL := 3) (ret := (some .int)) (by decide) rfl (Nat.le_of_ble_eq_true rfl) ?_
  intro p e s m args below meth c A ls hx hb hr hml hts hown hlocks hK hA hP hD hS hl
  have hl : lv_has ls 3 [(0, .ref (a 0)), (1, .int p1)] := hl
  have hP : va_P D vwCl (stW k a S) s.heap := hP
  have w_0 := hts (.fieldLink RX0 46 "EffectTrain$State" "left" "[I") (by decide +kernel)
  have w_1 : ∀ w ∈ wsX00, w ∈ wsX0_effectBefore := by decide +kernel
  unfold f_X0_effectBefore at h
  have hC_4 : ∀ (fu_4 : Nat) (x2_4 : Int32) (H : Heap) (locs : List Loc) (ls : Array Slot), va_P D vwCl (stW k a S) H → va_D A (stW k a S) → va_S A s.heap H locs → lv_has ls 3 [(0, .ref (a 0)), (2, .int x2_4)] → f_X0_effectBefore_4 S fu_4 x2_4 = some (o0) → W p l e ({ frames := 0, cells := 0, slots := 0, locals := 0 } : Room) s m args below meth c H locs 0 0 (MQ below (Qk D A (some (.int o0)) (stW k a S)) args s 0 0 A) (F0 m 4 ls []) := by
    intro fu_4
    induction fu_4 with
    | zero => intro x2_4 H locs ls _ _ _ _ h; exact (no_l h).elim
    | succ fu_4 ih_4 =>
      intro x2_4 H locs ls hP hD hS hl h
      rw [f_X0_effectBefore_4] at h
      refine lv_iload_n hx hb dX0_effectBefore_4 rfl (lv_at hl 1 rfl) ?_
      refine lv_if_lt (tgt := 25) hx hb dX0_effectBefore_5 (by decide) (fun c_1 => ?_) (fun c_1 => ?_)
      · have h := it_l c_1 h
        refine lv_bipush (v := (-9)) hx hb dX0_effectBefore_25 (by decide) ?_
        cases h
        exact Ck_iret hx hb hr hP hD hS dX0_effectBefore_27 hlocks
      · have h := it_r c_1 h
        refine lv_aload_n hx hb dX0_effectBefore_8 rfl (lv_at hl 0 rfl) ?_
        refine va_get (D := D) (ci := 0) (v := .ref (a 10)) (C := RX0) (T := TX0) (N := 12) hx hb hts w_1 hown hK hP 0 rfl rfl 11 (by decide) w_0 (fun _ h9 => h9) rfl dX0_effectBefore_9 ?_
        refine lv_iload_n hx hb dX0_effectBefore_12 rfl (lv_at hl 1 rfl) ?_
        have g_2 := inb_vp (gb_l h)
        have h := gb_r h
        refine va_iald hx hb hK hP 10 0 rfl rfl g_2 dX0_effectBefore_13 ?_
        refine lv_if_ne (tgt := 19) hx hb dX0_effectBefore_14 (by decide) (fun c_3 => ?_) (fun c_3 => ?_)
        · have h := it_r c_3 h
          refine lv_iinc (v := (x2_4 + (-1))) (lv' := [(2, .int (x2_4 + (-1))), (0, .ref (a 0))]) hx hb dX0_effectBefore_19 hl (k := 1) rfl rfl (by decide) rfl (fun ls hl => ?_)
          refine lv_goto (tgt := 4) hx hb dX0_effectBefore_22 (by decide) ?_
          exact ih_4 (x2_4 + (-1)) _ _ _ hP hD hS (lv_sub hl [1, 0] rfl) h
        · have h := it_l c_3 h
          refine lv_iload_n hx hb dX0_effectBefore_17 rfl (lv_at hl 1 rfl) ?_
          cases h
          exact Ck_iret hx hb hr hP hD hS dX0_effectBefore_18 hlocks
  refine lv_iload_n hx hb dX0_effectBefore_0 rfl (lv_at hl 1 rfl) ?_
  refine lv_iconst (v := 1) hx hb dX0_effectBefore_1 (by decide) ?_
  refine lv_isub hx hb dX0_effectBefore_2 ?_
  refine lv_topi (fun v_4 ev_4 => ?_)
  have h := nm_l h ev_4
  refine lv_istore_n (lv' := [(2, .int v_4), (0, .ref (a 0)), (1, .int p1)]) hx hb dX0_effectBefore_3 rfl hl (by decide) rfl (fun ls hl => ?_)
  exact hC_4 2000 v_4 _ _ _ hP hD hS (lv_sub hl [1, 0] rfl) h
def f_X0_beginWashInTurn_32 (S : StV) : Nat → Int32 → Int32 → Option (StV)
  | 0, _, _ => none
  | fu + 1, x2_32, x3_32 => if (s_n S) ≤ x3_32 then (gb (inb x2_32 6) <| if ((s_sca S) x2_32.toNatClampNeg) ≤ 0 then (some (S)) else (gb (inb x2_32 6) <| nm (su_lef S (upd (s_lef S) x2_32.toNatClampNeg ((s_set S) 4))) fun q_5 => some (q_5))) else (gb (inb x3_32 6) <| gb (inb x2_32 6) <| if ((s_sca S) x3_32.toNatClampNeg) ≤ ((s_sca S) x2_32.toNatClampNeg) then ((f_X0_beginWashInTurn_32 S fu) x2_32 (x3_32 + 1)) else ((f_X0_beginWashInTurn_32 S fu) x3_32 (x3_32 + 1)))
def f_X0_beginWashInTurn (S : StV) : Option (StV) := nm ((s_set S) 3) fun v_9 => if v_9 = 0 then (some (S)) else (gb (nz v_9) <| if ((s_clk S) - (s_clk S) / v_9 * v_9) = 0 then (bd (f_X0_washedEffects S) fun v_13 => if v_13 ≤ 0 then (f_X0_beginWashInTurn_32 S 2000 0 1) else (some (S))) else (some (S)))
set_option maxRecDepth 100000 in
set_option maxHeartbeats 4000000 in
theorem c_X0_beginWashInTurn (l : Launch) (D : va_G) (k : Nat → ClassId) (a : Nat → Nat) (S : StV) (o0 : StV) (h : f_X0_beginWashInTurn S = some (o0)) : Ck l D (tyK k) yX0_beginWashInTurn wsX0_beginWashInTurn ({ frames := 1, cells := 0, slots := 0, locals := 22 } : Room) [.ref (a 0)] (stW k a S) none (stW k a o0) := by
  refine Ck_of (cc := cX0_beginWashInTurn) (maxL := 4) (ret := none) (by decide) rfl (Nat.le_of_ble_eq_true rfl) ?_
  intro p e s m args below meth c A ls hx hb hr hml hts hown hlocks hK hA hP hD hS hl
  have hl : lv_has ls 4 [(0, .ref (a 0))] := hl
  have hP : va_P D vwCl (stW k a S) s.heap := hP
  have w_0 := hts (.fieldLink RX0 9 "EffectTrain$State" "n" "I") (by decide +kernel)
  have w_1 : ∀ w ∈ wsX00, w ∈ wsX0_beginWashInTurn := by decide +kernel
  have w_2 := hts (.fieldLink RX0 40 "EffectTrain$State" "scale" "[I") (by decide +kernel)
  have w_3 := hts (.fieldLink RX0 46 "EffectTrain$State" "left" "[I") (by decide +kernel)
  have w_4 := hts (.fieldLink RX0 15 "EffectTrain$State" "settings" "[I") (by decide +kernel)
  have w_5 := hts (.fieldLink RX0 19 "EffectTrain$State" "clock" "I") (by decide +kernel)
  unfold f_X0_beginWashInTurn at h
  have hC_32 : ∀ (fu_32 : Nat) (x2_32 : Int32) (x3_32 : Int32) (H : Heap) (locs : List Loc) (ls : Array Slot), va_P D vwCl (stW k a S) H → va_D A (stW k a S) → va_S A s.heap H locs → lv_has ls 4 [(0, .ref (a 0)), (2, .int x2_32), (3, .int x3_32)] → f_X0_beginWashInTurn_32 S fu_32 x2_32 x3_32 = some (o0) → W p l e ({ frames := 1, cells := 0, slots := 0, locals := 22 } : Room) s m args below meth c H locs 0 0 (MQ below (Qk D A none (stW k a o0)) args s 0 0 A) (F0 m 32 ls []) := by
    intro fu_32
    induction fu_32 with
    | zero => intro x2_32 x3_32 H locs ls _ _ _ _ h; exact (no_l h).elim
    | succ fu_32 ih_32 =>
      intro x2_32 x3_32 H locs ls hP hD hS hl h
      rw [f_X0_beginWashInTurn_32] at h
      refine lv_iload_n hx hb dX0_beginWashInTurn_32 rfl (lv_at hl 2 rfl) ?_
      refine lv_aload_n hx hb dX0_beginWashInTurn_33 rfl (lv_at hl 0 rfl) ?_
      refine va_get (D := D) (ci := 0) (v := .int (s_n S)) (C := RX0) (T := TX0) (N := 12) hx hb hts w_1 hown hK hP 0 rfl rfl 0 (by decide) w_0 (fun _ h9 => h9) rfl dX0_beginWashInTurn_34 ?_
      refine lv_icmp_ge (tgt := 63) hx hb dX0_beginWashInTurn_37 (by decide) (fun c_1 => ?_) (fun c_1 => ?_)
      · have h := it_l c_1 h
        refine lv_aload_n hx hb dX0_beginWashInTurn_63 rfl (lv_at hl 0 rfl) ?_
        refine va_get (D := D) (ci := 0) (v := .ref (a 8)) (C := RX0) (T := TX0) (N := 12) hx hb hts w_1 hown hK hP 0 rfl rfl 9 (by decide) w_2 (fun _ h9 => h9) rfl dX0_beginWashInTurn_64 ?_
        refine lv_iload_n hx hb dX0_beginWashInTurn_67 rfl (lv_at hl 1 rfl) ?_
        have g_2 := inb_vp (gb_l h)
        have h := gb_r h
        refine va_iald hx hb hK hP 8 0 rfl rfl g_2 dX0_beginWashInTurn_68 ?_
        refine lv_if_le (tgt := 84) hx hb dX0_beginWashInTurn_69 (by decide) (fun c_3 => ?_) (fun c_3 => ?_)
        · have h := it_l c_3 h
          cases h
          exact Ck_vret hx hb hr hP hD hS dX0_beginWashInTurn_84 hlocks
        · have h := it_r c_3 h
          refine lv_aload_n hx hb dX0_beginWashInTurn_72 rfl (lv_at hl 0 rfl) ?_
          refine va_get (D := D) (ci := 0) (v := .ref (a 10)) (C := RX0) (T := TX0) (N := 12) hx hb hts w_1 hown hK hP 0 rfl rfl 11 (by decide) w_3 (fun _ h9 => h9) rfl dX0_beginWashInTurn_73 ?_
          refine lv_iload_n hx hb dX0_beginWashInTurn_76 rfl (lv_at hl 1 rfl) ?_
          refine lv_aload_n hx hb dX0_beginWashInTurn_77 rfl (lv_at hl 0 rfl) ?_
          refine va_get (D := D) (ci := 0) (v := .ref (a 1)) (C := RX0) (T := TX0) (N := 12) hx hb hts w_1 hown hK hP 0 rfl rfl 1 (by decide) w_4 (fun _ h9 => h9) rfl dX0_beginWashInTurn_78 ?_
          refine lv_iconst (v := 4) hx hb dX0_beginWashInTurn_81 (by decide) ?_
          refine va_iald hx hb hK hP 1 0 rfl rfl (inb_vp (by decide)) dX0_beginWashInTurn_82 ?_
          refine W.eq (g2 := F0 m 83 ls [.int ((s_set S) 4), .int x2_32, .ref (a 10)]) rfl ?_
          have g_4 := inb_vp (gb_l h)
          have h := gb_r h
          refine va_iast hx hb hK hP hD hS 10 0 rfl rfl g_4 dX0_beginWashInTurn_83 (fun H locs hP hD hS => ?_)
          obtain ⟨q_5, eq_5⟩ : ∃ y : StV, y = su_lef S (upd (s_lef S) x2_32.toNatClampNeg ((s_set S) 4)) := ⟨_, rfl⟩
          have hP : va_P D vwCl (stW k a q_5) H := by rw [eq_5, ← st_set_lef k a S _]; exact hP
          have hD : va_D A (stW k a q_5) := by rw [eq_5, ← st_set_lef k a S _]; exact hD
          have h := nm_l h eq_5
          cases h
          exact Ck_vret hx hb hr hP hD hS dX0_beginWashInTurn_84 hlocks
      · have h := it_r c_1 h
        refine lv_aload_n hx hb dX0_beginWashInTurn_40 rfl (lv_at hl 0 rfl) ?_
        refine va_get (D := D) (ci := 0) (v := .ref (a 8)) (C := RX0) (T := TX0) (N := 12) hx hb hts w_1 hown hK hP 0 rfl rfl 9 (by decide) w_2 (fun _ h9 => h9) rfl dX0_beginWashInTurn_41 ?_
        refine lv_iload_n hx hb dX0_beginWashInTurn_44 rfl (lv_at hl 2 rfl) ?_
        have g_6 := inb_vp (gb_l h)
        have h := gb_r h
        refine va_iald hx hb hK hP 8 0 rfl rfl g_6 dX0_beginWashInTurn_45 ?_
        refine lv_aload_n hx hb dX0_beginWashInTurn_46 rfl (lv_at hl 0 rfl) ?_
        refine va_get (D := D) (ci := 0) (v := .ref (a 8)) (C := RX0) (T := TX0) (N := 12) hx hb hts w_1 hown hK hP 0 rfl rfl 9 (by decide) w_2 (fun _ h9 => h9) rfl dX0_beginWashInTurn_47 ?_
        refine lv_iload_n hx hb dX0_beginWashInTurn_50 rfl (lv_at hl 1 rfl) ?_
        have g_7 := inb_vp (gb_l h)
        have h := gb_r h
        refine va_iald hx hb hK hP 8 0 rfl rfl g_7 dX0_beginWashInTurn_51 ?_
        refine lv_icmp_le (tgt := 57) hx hb dX0_beginWashInTurn_52 (by decide) (fun c_8 => ?_) (fun c_8 => ?_)
        · have h := it_l c_8 h
          refine lv_iinc (v := (x3_32 + 1)) (lv' := [(3, .int (x3_32 + 1)), (0, .ref (a 0)), (2, .int x2_32)]) hx hb dX0_beginWashInTurn_57 hl (k := 2) rfl rfl (by decide) rfl (fun ls hl => ?_)
          refine lv_goto (tgt := 32) hx hb dX0_beginWashInTurn_60 (by decide) ?_
          exact ih_32 x2_32 (x3_32 + 1) _ _ _ hP hD hS (lv_sub hl [1, 2, 0] rfl) h
        · have h := it_r c_8 h
          refine lv_iload_n hx hb dX0_beginWashInTurn_55 rfl (lv_at hl 2 rfl) ?_
          refine lv_istore_n (lv' := [(2, .int x3_32), (0, .ref (a 0)), (3, .int x3_32)]) hx hb dX0_beginWashInTurn_56 rfl hl (by decide) rfl (fun ls hl => ?_)
          refine lv_iinc (v := (x3_32 + 1)) (lv' := [(3, .int (x3_32 + 1)), (2, .int x3_32), (0, .ref (a 0))]) hx hb dX0_beginWashInTurn_57 hl (k := 2) rfl rfl (by decide) rfl (fun ls hl => ?_)
          refine lv_goto (tgt := 32) hx hb dX0_beginWashInTurn_60 (by decide) ?_
          exact ih_32 x3_32 (x3_32 + 1) _ _ _ hP hD hS (lv_sub hl [2, 1, 0] rfl) h
  refine lv_aload_n hx hb dX0_beginWashInTurn_0 rfl (lv_at hl 0 rfl) ?_
  refine va_get (D := D) (ci := 0) (v := .ref (a 1)) (C := RX0) (T := TX0) (N := 12) hx hb hts w_1 hown hK hP 0 rfl rfl 1 (by decide) w_4 (fun _ h9 => h9) rfl dX0_beginWashInTurn_1 ?_
  refine lv_iconst (v := 3) hx hb dX0_beginWashInTurn_4 (by decide) ?_
  refine va_iald hx hb hK hP 1 0 rfl rfl (inb_vp (by decide)) dX0_beginWashInTurn_5 ?_
  refine W.eq (g2 := F0 m 6 ls [.int ((s_set S) 3)]) rfl ?_
  refine lv_topi (fun v_9 ev_9 => ?_)
  have h := nm_l h ev_9
  refine lv_istore_n (lv' := [(1, .int v_9), (0, .ref (a 0))]) hx hb dX0_beginWashInTurn_6 rfl hl (by decide) rfl (fun ls hl => ?_)
  refine lv_iload_n hx hb dX0_beginWashInTurn_7 rfl (lv_at hl 0 rfl) ?_
  refine lv_if_eq (tgt := 27) hx hb dX0_beginWashInTurn_8 (by decide) (fun c_10 => ?_) (fun c_10 => ?_)
  · have h := it_l c_10 h
    cases h
    exact Ck_vret hx hb hr hP hD hS dX0_beginWashInTurn_27 hlocks
  · have h := it_r c_10 h
    refine lv_aload_n hx hb dX0_beginWashInTurn_11 rfl (lv_at hl 1 rfl) ?_
    refine va_get (D := D) (ci := 0) (v := .int (s_clk S)) (C := RX0) (T := TX0) (N := 12) hx hb hts w_1 hown hK hP 0 rfl rfl 2 (by decide) w_5 (fun _ h9 => h9) rfl dX0_beginWashInTurn_12 ?_
    refine lv_iload_n hx hb dX0_beginWashInTurn_15 rfl (lv_at hl 0 rfl) ?_
    have g_11 := nz_l (gb_l h)
    have h := gb_r h
    refine lv_irem hx hb dX0_beginWashInTurn_16 g_11 ?_
    refine lv_if_ne (tgt := 27) hx hb dX0_beginWashInTurn_17 (by decide) (fun c_12 => ?_) (fun c_12 => ?_)
    · have h := it_r c_12 h
      cases h
      exact Ck_vret hx hb hr hP hD hS dX0_beginWashInTurn_27 hlocks
    · have h := it_l c_12 h
      refine lv_aload_n hx hb dX0_beginWashInTurn_20 rfl (lv_at hl 1 rfl) ?_
      obtain ⟨v_13, hv_14, h⟩ := bd_l h
      refine Ck_V (As := []) (rest := []) (wc := stW k a S) (wc' := stW k a S) (w0' := stW k a S) ⟨hx, hb, hml, hown, hts⟩ (c_X0_washedEffects l D k a S v_13 hv_14) (cwV 0 hts gX0_beginWashInTurn_X0_washedEffects rfl rfl rfl (by decide +kernel) ⟨Nat.le_of_ble_eq_true rfl, Nat.le_of_ble_eq_true rfl⟩) hK hP hD hS hA (q0 := 0) (ci := 0) rfl rfl [0, 1, 2, 3, 4, 5, 6, 7, 8, 9, 10] rfl (by decide) rfl rfl rfl hl.1 rfl (Nat.le_of_ble_eq_true rfl) dX0_beginWashInTurn_21 ⟨Nat.le_of_ble_eq_true rfl, Nat.le_of_ble_eq_true rfl⟩ (fun H locs hP hD hS => ?_)
      refine W.eq (g2 := F0 m 24 ls [.int v_13]) rfl ?_
      refine lv_if_le (tgt := 28) hx hb dX0_beginWashInTurn_24 (by decide) (fun c_15 => ?_) (fun c_15 => ?_)
      · have h := it_l c_15 h
        refine lv_iconst (v := 0) hx hb dX0_beginWashInTurn_28 (by decide) ?_
        refine lv_istore_n (lv' := [(2, .int 0), (1, .int v_9), (0, .ref (a 0))]) hx hb dX0_beginWashInTurn_29 rfl hl (by decide) rfl (fun ls hl => ?_)
        refine lv_iconst (v := 1) hx hb dX0_beginWashInTurn_30 (by decide) ?_
        refine lv_istore_n (lv' := [(3, .int 1), (2, .int 0), (1, .int v_9), (0, .ref (a 0))]) hx hb dX0_beginWashInTurn_31 rfl hl (by decide) rfl (fun ls hl => ?_)
        exact hC_32 2000 0 1 _ _ _ hP hD hS (lv_sub hl [3, 1, 0] rfl) h
      · have h := it_r c_15 h
        cases h
        exact Ck_vret hx hb hr hP hD hS dX0_beginWashInTurn_27 hlocks
def f_X0_boil (S : StV) (p1 : Int32) (p2 : Int32) : Option (Int32 × StV) := bd (f_X0_thickness S p1) fun v_1 => bd (f_X0_power S p1) fun v_3 => nm (mn p2 v_3) fun v_5 => nm (v_5 - ((v_5 * v_1) / 200)) fun v_6 => gb (inb p1 6) <| nm (mn v_6 ((s_wat S) p1.toNatClampNeg)) fun v_8 => gb (inb p1 6) <| nm ((v_8 * ((s_ble S) p1.toNatClampNeg)) / 100) fun v_10 => gb (inb p1 6) <| gb (inb p1 6) <| nm (su_wat S (upd (s_wat S) p1.toNatClampNeg (((s_wat S) p1.toNatClampNeg) - v_8))) fun q_13 => nm (su_cou q_13 (upd (s_cou q_13) 1 (((s_cou q_13) 1) + v_8))) fun q_14 => nm (su_cou q_14 (upd (s_cou q_14) 2 (((s_cou q_14) 2) + v_10))) fun q_15 => nm (su_cou q_15 (upd (s_cou q_15) 4 (((s_cou q_15) 4) + (p2 - v_8)))) fun q_16 => gb (inb p1 6) <| nm (((s_scl q_16) p1.toNatClampNeg) + ((v_8 * v_1) / 10)) fun v_18 => gb (inb p1 6) <| nm (mn 99 (((s_sca q_16) p1.toNatClampNeg) + (v_18 / 1000))) fun v_20 => gb (inb p1 6) <| nm (su_sca q_16 (upd (s_sca q_16) p1.toNatClampNeg v_20)) fun q_22 => gb (inb p1 6) <| nm (su_scl q_22 (upd (s_scl q_22) p1.toNatClampNeg (v_18 - v_18 / 1000 * 1000))) fun q_24 => some ((v_8 - v_10), q_24)
set_option maxRecDepth 100000 in
set_option maxHeartbeats 4000000 in
theorem c_X0_boil (l : Launch) (D : va_G) (k : Nat → ClassId) (a : Nat → Nat) (S : StV) (p1 : Int32) (p2 : Int32) (o0 : Int32) (o1 : StV) (h : f_X0_boil S p1 p2 = some (o0, o1)) : Ck l D (tyK k) yX0_boil wsX0_boil ({ frames := 1, cells := 0, slots := 0, locals := 22 } : Room) [.ref (a 0), .int p1, .int p2] (stW k a S) (some (.int o0)) (stW k a o1) := by
  refine Ck_of (cc := cX0_boil) (maxL := 7) (ret := (some .int)) (by decide) rfl (Nat.le_of_ble_eq_true rfl) ?_
  intro p e s m args below meth c A ls hx hb hr hml hts hown hlocks hK hA hP hD hS hl
  have hl : lv_has ls 7 [(0, .ref (a 0)), (1, .int p1), (2, .int p2)] := hl
  have hP : va_P D vwCl (stW k a S) s.heap := hP
  have w_0 := hts (.methodLink RX0 88 Lib.Math.min.name) (by decide +kernel)
  have w_1 := hts (.static Lib.Math.min.name) (by decide +kernel)
  have w_2 := hts (.initialized "java/lang/Math") (by decide +kernel)
  have w_3 := hts (.code Lib.Math.min.name Lib.Math.min.code 2 (some .int)) (by decide +kernel)
  have w_4 := hts (.fieldLink RX0 28 "EffectTrain$State" "water" "[I") (by decide +kernel)
  have w_5 : ∀ w ∈ wsX00, w ∈ wsX0_boil := by decide +kernel
  have w_6 := hts (.fieldLink RX0 37 "EffectTrain$State" "bleed" "[I") (by decide +kernel)
  have w_7 := hts (.fieldLink RX0 22 "EffectTrain$State" "counts" "[I") (by decide +kernel)
  have w_8 := hts (.fieldLink RX0 43 "EffectTrain$State" "scaling" "[I") (by decide +kernel)
  have w_9 := hts (.fieldLink RX0 40 "EffectTrain$State" "scale" "[I") (by decide +kernel)
  unfold f_X0_boil at h
  refine lv_aload_n hx hb dX0_boil_0 rfl (lv_at hl 0 rfl) ?_
  refine lv_iload_n hx hb dX0_boil_1 rfl (lv_at hl 1 rfl) ?_
  obtain ⟨v_1, hv_2, h⟩ := bd_l h
  refine Ck_V (As := [.int p1]) (rest := []) (wc := stW k a S) (wc' := stW k a S) (w0' := stW k a S) ⟨hx, hb, hml, hown, hts⟩ (c_X0_thickness l D k a S p1 v_1 hv_2) (cwV 1 hts gX0_boil_X0_thickness rfl rfl rfl (by decide +kernel) ⟨Nat.le_of_ble_eq_true rfl, Nat.le_of_ble_eq_true rfl⟩) hK hP hD hS hA (q0 := 0) (ci := 0) rfl rfl [0, 1, 2, 3, 4, 5, 6, 7, 8, 9, 10] rfl (by decide) rfl rfl rfl hl.1 rfl (Nat.le_of_ble_eq_true rfl) dX0_boil_2 ⟨Nat.le_of_ble_eq_true rfl, Nat.le_of_ble_eq_true rfl⟩ (fun H locs hP hD hS => ?_)
  refine W.eq (g2 := F0 m 5 ls [.int v_1]) rfl ?_
  refine lv_istore_n (lv' := [(3, .int v_1), (0, .ref (a 0)), (1, .int p1), (2, .int p2)]) hx hb dX0_boil_5 rfl hl (by decide) rfl (fun ls hl => ?_)
  refine lv_iload_n hx hb dX0_boil_6 rfl (lv_at hl 3 rfl) ?_
  refine lv_aload_n hx hb dX0_boil_7 rfl (lv_at hl 1 rfl) ?_
  refine lv_iload_n hx hb dX0_boil_8 rfl (lv_at hl 2 rfl) ?_
  obtain ⟨v_3, hv_4, h⟩ := bd_l h
  refine Ck_V (As := [.int p1]) (rest := [.int p2]) (wc := stW k a S) (wc' := stW k a S) (w0' := stW k a S) ⟨hx, hb, hml, hown, hts⟩ (c_X0_power l D k a S p1 v_3 hv_4) (cwV 1 hts gX0_boil_X0_power rfl rfl rfl (by decide +kernel) ⟨Nat.le_of_ble_eq_true rfl, Nat.le_of_ble_eq_true rfl⟩) hK hP hD hS hA (q0 := 0) (ci := 0) rfl rfl [0, 1, 2, 3, 4, 5, 6, 7, 8, 9, 10] rfl (by decide) rfl rfl rfl hl.1 rfl (Nat.le_of_ble_eq_true rfl) dX0_boil_9 ⟨Nat.le_of_ble_eq_true rfl, Nat.le_of_ble_eq_true rfl⟩ (fun H locs hP hD hS => ?_)
  refine W.eq (g2 := F0 m 12 ls [.int v_3, .int p2]) rfl ?_
  refine va_mmin hx hb (hml.trans hl.1.symm) hown w_0 w_1 w_2 w_3 (Nat.le_of_ble_eq_true rfl) (Nat.le_of_ble_eq_true rfl) (Nat.le_of_ble_eq_true rfl) (Nat.le_of_ble_eq_true rfl) dX0_boil_12 ?_
  refine lv_topi (fun v_5 ev_5 => ?_)
  have h := nm_l h ev_5
  refine lv_istore (lv' := [(4, .int v_5), (3, .int v_1), (0, .ref (a 0)), (1, .int p1), (2, .int p2)]) hx hb dX0_boil_15 hl (by decide) rfl (fun ls hl => ?_)
  refine lv_iload hx hb dX0_boil_17 (lv_at hl 0 rfl) ?_
  refine lv_iload hx hb dX0_boil_19 (lv_at hl 0 rfl) ?_
  refine lv_iload_n hx hb dX0_boil_21 rfl (lv_at hl 1 rfl) ?_
  refine lv_imul hx hb dX0_boil_22 ?_
  refine lv_sipush (v := 200) hx hb dX0_boil_23 (by decide) ?_
  refine lv_idiv hx hb dX0_boil_26 (by decide) ?_
  refine lv_isub hx hb dX0_boil_27 ?_
  refine lv_topi (fun v_6 ev_6 => ?_)
  have h := nm_l h ev_6
  refine lv_istore (lv' := [(4, .int v_6), (3, .int v_1), (0, .ref (a 0)), (1, .int p1), (2, .int p2)]) hx hb dX0_boil_28 hl (by decide) rfl (fun ls hl => ?_)
  refine lv_iload hx hb dX0_boil_30 (lv_at hl 0 rfl) ?_
  refine lv_aload_n hx hb dX0_boil_32 rfl (lv_at hl 2 rfl) ?_
  refine va_get (D := D) (ci := 0) (v := .ref (a 4)) (C := RX0) (T := TX0) (N := 12) hx hb hts w_5 hown hK hP 0 rfl rfl 5 (by decide) w_4 (fun _ h9 => h9) rfl dX0_boil_33 ?_
  refine lv_iload_n hx hb dX0_boil_36 rfl (lv_at hl 3 rfl) ?_
  have g_7 := inb_vp (gb_l h)
  have h := gb_r h
  refine va_iald hx hb hK hP 4 0 rfl rfl g_7 dX0_boil_37 ?_
  refine va_mmin hx hb (hml.trans hl.1.symm) hown w_0 w_1 w_2 w_3 (Nat.le_of_ble_eq_true rfl) (Nat.le_of_ble_eq_true rfl) (Nat.le_of_ble_eq_true rfl) (Nat.le_of_ble_eq_true rfl) dX0_boil_38 ?_
  refine lv_topi (fun v_8 ev_8 => ?_)
  have h := nm_l h ev_8
  refine lv_istore (lv' := [(4, .int v_8), (3, .int v_1), (0, .ref (a 0)), (1, .int p1), (2, .int p2)]) hx hb dX0_boil_41 hl (by decide) rfl (fun ls hl => ?_)
  refine lv_iload hx hb dX0_boil_43 (lv_at hl 0 rfl) ?_
  refine lv_aload_n hx hb dX0_boil_45 rfl (lv_at hl 2 rfl) ?_
  refine va_get (D := D) (ci := 0) (v := .ref (a 7)) (C := RX0) (T := TX0) (N := 12) hx hb hts w_5 hown hK hP 0 rfl rfl 8 (by decide) w_6 (fun _ h9 => h9) rfl dX0_boil_46 ?_
  refine lv_iload_n hx hb dX0_boil_49 rfl (lv_at hl 3 rfl) ?_
  have g_9 := inb_vp (gb_l h)
  have h := gb_r h
  refine va_iald hx hb hK hP 7 0 rfl rfl g_9 dX0_boil_50 ?_
  refine lv_imul hx hb dX0_boil_51 ?_
  refine lv_bipush (v := 100) hx hb dX0_boil_52 (by decide) ?_
  refine lv_idiv hx hb dX0_boil_54 (by decide) ?_
  refine lv_topi (fun v_10 ev_10 => ?_)
  have h := nm_l h ev_10
  refine lv_istore (lv' := [(5, .int v_10), (4, .int v_8), (3, .int v_1), (0, .ref (a 0)), (1, .int p1), (2, .int p2)]) hx hb dX0_boil_55 hl (by decide) rfl (fun ls hl => ?_)
  refine lv_aload_n hx hb dX0_boil_57 rfl (lv_at hl 3 rfl) ?_
  refine va_get (D := D) (ci := 0) (v := .ref (a 4)) (C := RX0) (T := TX0) (N := 12) hx hb hts w_5 hown hK hP 0 rfl rfl 5 (by decide) w_4 (fun _ h9 => h9) rfl dX0_boil_58 ?_
  refine lv_iload_n hx hb dX0_boil_61 rfl (lv_at hl 4 rfl) ?_
  refine lv_dup2_11 hx hb dX0_boil_62 rfl rfl ?_
  have g_11 := inb_vp (gb_l h)
  have h := gb_r h
  refine va_iald hx hb hK hP 4 0 rfl rfl g_11 dX0_boil_63 ?_
  refine lv_iload hx hb dX0_boil_64 (lv_at hl 1 rfl) ?_
  refine lv_isub hx hb dX0_boil_66 ?_
  have g_12 := inb_vp (gb_l h)
  have h := gb_r h
  refine va_iast hx hb hK hP hD hS 4 0 rfl rfl g_12 dX0_boil_67 (fun H locs hP hD hS => ?_)
  obtain ⟨q_13, eq_13⟩ : ∃ y : StV, y = su_wat S (upd (s_wat S) p1.toNatClampNeg (((s_wat S) p1.toNatClampNeg) - v_8)) := ⟨_, rfl⟩
  have hP : va_P D vwCl (stW k a q_13) H := by rw [eq_13, ← st_set_wat k a S _]; exact hP
  have hD : va_D A (stW k a q_13) := by rw [eq_13, ← st_set_wat k a S _]; exact hD
  have h := nm_l h eq_13
  refine lv_aload_n hx hb dX0_boil_68 rfl (lv_at hl 3 rfl) ?_
  refine va_get (D := D) (ci := 0) (v := .ref (a 2)) (C := RX0) (T := TX0) (N := 12) hx hb hts w_5 hown hK hP 0 rfl rfl 3 (by decide) w_7 (fun _ h9 => h9) rfl dX0_boil_69 ?_
  refine lv_iconst (v := 1) hx hb dX0_boil_72 (by decide) ?_
  refine lv_dup2_11 hx hb dX0_boil_73 rfl rfl ?_
  refine va_iald hx hb hK hP 2 0 rfl rfl (inb_vp (by decide)) dX0_boil_74 ?_
  refine W.eq (g2 := F0 m 75 ls [.int ((s_cou q_13) 1), .int 1, .ref (a 2)]) rfl ?_
  refine lv_iload hx hb dX0_boil_75 (lv_at hl 1 rfl) ?_
  refine lv_iadd hx hb dX0_boil_77 ?_
  refine va_iast hx hb hK hP hD hS 2 0 rfl rfl (inb_vp (by decide)) dX0_boil_78 (fun H locs hP hD hS => ?_)
  obtain ⟨q_14, eq_14⟩ : ∃ y : StV, y = su_cou q_13 (upd (s_cou q_13) 1 (((s_cou q_13) 1) + v_8)) := ⟨_, rfl⟩
  have hP : va_P D vwCl (stW k a q_14) H := by rw [eq_14, ← st_set_cou k a q_13 _]; exact hP
  have hD : va_D A (stW k a q_14) := by rw [eq_14, ← st_set_cou k a q_13 _]; exact hD
  have h := nm_l h eq_14
  refine lv_aload_n hx hb dX0_boil_79 rfl (lv_at hl 3 rfl) ?_
  refine va_get (D := D) (ci := 0) (v := .ref (a 2)) (C := RX0) (T := TX0) (N := 12) hx hb hts w_5 hown hK hP 0 rfl rfl 3 (by decide) w_7 (fun _ h9 => h9) rfl dX0_boil_80 ?_
  refine lv_iconst (v := 2) hx hb dX0_boil_83 (by decide) ?_
  refine lv_dup2_11 hx hb dX0_boil_84 rfl rfl ?_
  refine va_iald hx hb hK hP 2 0 rfl rfl (inb_vp (by decide)) dX0_boil_85 ?_
  refine W.eq (g2 := F0 m 86 ls [.int ((s_cou q_14) 2), .int 2, .ref (a 2)]) rfl ?_
  refine lv_iload hx hb dX0_boil_86 (lv_at hl 0 rfl) ?_
  refine lv_iadd hx hb dX0_boil_88 ?_
  refine va_iast hx hb hK hP hD hS 2 0 rfl rfl (inb_vp (by decide)) dX0_boil_89 (fun H locs hP hD hS => ?_)
  obtain ⟨q_15, eq_15⟩ : ∃ y : StV, y = su_cou q_14 (upd (s_cou q_14) 2 (((s_cou q_14) 2) + v_10)) := ⟨_, rfl⟩
  have hP : va_P D vwCl (stW k a q_15) H := by rw [eq_15, ← st_set_cou k a q_14 _]; exact hP
  have hD : va_D A (stW k a q_15) := by rw [eq_15, ← st_set_cou k a q_14 _]; exact hD
  have h := nm_l h eq_15
  refine lv_aload_n hx hb dX0_boil_90 rfl (lv_at hl 3 rfl) ?_
  refine va_get (D := D) (ci := 0) (v := .ref (a 2)) (C := RX0) (T := TX0) (N := 12) hx hb hts w_5 hown hK hP 0 rfl rfl 3 (by decide) w_7 (fun _ h9 => h9) rfl dX0_boil_91 ?_
  refine lv_iconst (v := 4) hx hb dX0_boil_94 (by decide) ?_
  refine lv_dup2_11 hx hb dX0_boil_95 rfl rfl ?_
  refine va_iald hx hb hK hP 2 0 rfl rfl (inb_vp (by decide)) dX0_boil_96 ?_
  refine W.eq (g2 := F0 m 97 ls [.int ((s_cou q_15) 4), .int 4, .ref (a 2)]) rfl ?_
  refine lv_iload_n hx hb dX0_boil_97 rfl (lv_at hl 5 rfl) ?_
  refine lv_iload hx hb dX0_boil_98 (lv_at hl 1 rfl) ?_
  refine lv_isub hx hb dX0_boil_100 ?_
  refine lv_iadd hx hb dX0_boil_101 ?_
  refine va_iast hx hb hK hP hD hS 2 0 rfl rfl (inb_vp (by decide)) dX0_boil_102 (fun H locs hP hD hS => ?_)
  obtain ⟨q_16, eq_16⟩ : ∃ y : StV, y = su_cou q_15 (upd (s_cou q_15) 4 (((s_cou q_15) 4) + (p2 - v_8))) := ⟨_, rfl⟩
  have hP : va_P D vwCl (stW k a q_16) H := by rw [eq_16, ← st_set_cou k a q_15 _]; exact hP
  have hD : va_D A (stW k a q_16) := by rw [eq_16, ← st_set_cou k a q_15 _]; exact hD
  have h := nm_l h eq_16
  refine lv_aload_n hx hb dX0_boil_103 rfl (lv_at hl 3 rfl) ?_
  refine va_get (D := D) (ci := 0) (v := .ref (a 9)) (C := RX0) (T := TX0) (N := 12) hx hb hts w_5 hown hK hP 0 rfl rfl 10 (by decide) w_8 (fun _ h9 => h9) rfl dX0_boil_104 ?_
  refine lv_iload_n hx hb dX0_boil_107 rfl (lv_at hl 4 rfl) ?_
  have g_17 := inb_vp (gb_l h)
  have h := gb_r h
  refine va_iald hx hb hK hP 9 0 rfl rfl g_17 dX0_boil_108 ?_
  refine lv_iload hx hb dX0_boil_109 (lv_at hl 1 rfl) ?_
  refine lv_iload_n hx hb dX0_boil_111 rfl (lv_at hl 2 rfl) ?_
  refine lv_imul hx hb dX0_boil_112 ?_
  refine lv_bipush (v := 10) hx hb dX0_boil_113 (by decide) ?_
  refine lv_idiv hx hb dX0_boil_115 (by decide) ?_
  refine lv_iadd hx hb dX0_boil_116 ?_
  refine lv_topi (fun v_18 ev_18 => ?_)
  have h := nm_l h ev_18
  refine lv_istore (lv' := [(6, .int v_18), (5, .int v_10), (4, .int v_8), (3, .int v_1), (0, .ref (a 0)), (1, .int p1), (2, .int p2)]) hx hb dX0_boil_117 hl (by decide) rfl (fun ls hl => ?_)
  refine lv_aload_n hx hb dX0_boil_119 rfl (lv_at hl 4 rfl) ?_
  refine va_get (D := D) (ci := 0) (v := .ref (a 8)) (C := RX0) (T := TX0) (N := 12) hx hb hts w_5 hown hK hP 0 rfl rfl 9 (by decide) w_9 (fun _ h9 => h9) rfl dX0_boil_120 ?_
  refine lv_iload_n hx hb dX0_boil_123 rfl (lv_at hl 5 rfl) ?_
  refine lv_bipush (v := 99) hx hb dX0_boil_124 (by decide) ?_
  refine lv_aload_n hx hb dX0_boil_126 rfl (lv_at hl 4 rfl) ?_
  refine va_get (D := D) (ci := 0) (v := .ref (a 8)) (C := RX0) (T := TX0) (N := 12) hx hb hts w_5 hown hK hP 0 rfl rfl 9 (by decide) w_9 (fun _ h9 => h9) rfl dX0_boil_127 ?_
  refine lv_iload_n hx hb dX0_boil_130 rfl (lv_at hl 5 rfl) ?_
  have g_19 := inb_vp (gb_l h)
  have h := gb_r h
  refine va_iald hx hb hK hP 8 0 rfl rfl g_19 dX0_boil_131 ?_
  refine lv_iload hx hb dX0_boil_132 (lv_at hl 0 rfl) ?_
  refine lv_sipush (v := 1000) hx hb dX0_boil_134 (by decide) ?_
  refine lv_idiv hx hb dX0_boil_137 (by decide) ?_
  refine lv_iadd hx hb dX0_boil_138 ?_
  refine va_mmin hx hb (hml.trans hl.1.symm) hown w_0 w_1 w_2 w_3 (Nat.le_of_ble_eq_true rfl) (Nat.le_of_ble_eq_true rfl) (Nat.le_of_ble_eq_true rfl) (Nat.le_of_ble_eq_true rfl) dX0_boil_139 ?_
  refine lv_topi (fun v_20 ev_20 => ?_)
  have h := nm_l h ev_20
  have g_21 := inb_vp (gb_l h)
  have h := gb_r h
  refine va_iast hx hb hK hP hD hS 8 0 rfl rfl g_21 dX0_boil_142 (fun H locs hP hD hS => ?_)
  obtain ⟨q_22, eq_22⟩ : ∃ y : StV, y = su_sca q_16 (upd (s_sca q_16) p1.toNatClampNeg v_20) := ⟨_, rfl⟩
  have hP : va_P D vwCl (stW k a q_22) H := by rw [eq_22, ← st_set_sca k a q_16 _]; exact hP
  have hD : va_D A (stW k a q_22) := by rw [eq_22, ← st_set_sca k a q_16 _]; exact hD
  have h := nm_l h eq_22
  refine lv_aload_n hx hb dX0_boil_143 rfl (lv_at hl 4 rfl) ?_
  refine va_get (D := D) (ci := 0) (v := .ref (a 9)) (C := RX0) (T := TX0) (N := 12) hx hb hts w_5 hown hK hP 0 rfl rfl 10 (by decide) w_8 (fun _ h9 => h9) rfl dX0_boil_144 ?_
  refine lv_iload_n hx hb dX0_boil_147 rfl (lv_at hl 5 rfl) ?_
  refine lv_iload hx hb dX0_boil_148 (lv_at hl 0 rfl) ?_
  refine lv_sipush (v := 1000) hx hb dX0_boil_150 (by decide) ?_
  refine lv_irem hx hb dX0_boil_153 (by decide) ?_
  have g_23 := inb_vp (gb_l h)
  have h := gb_r h
  refine va_iast hx hb hK hP hD hS 9 0 rfl rfl g_23 dX0_boil_154 (fun H locs hP hD hS => ?_)
  obtain ⟨q_24, eq_24⟩ : ∃ y : StV, y = su_scl q_22 (upd (s_scl q_22) p1.toNatClampNeg (v_18 - v_18 / 1000 * 1000)) := ⟨_, rfl⟩
  have hP : va_P D vwCl (stW k a q_24) H := by rw [eq_24, ← st_set_scl k a q_22 _]; exact hP
  have hD : va_D A (stW k a q_24) := by rw [eq_24, ← st_set_scl k a q_22 _]; exact hD
  have h := nm_l h eq_24
  refine lv_iload hx hb dX0_boil_155 (lv_at hl 2 rfl) ?_
  refine lv_iload hx hb dX0_boil_157 (lv_at hl 1 rfl) ?_
  refine lv_isub hx hb dX0_boil_159 ?_
  cases h
  exact Ck_iret hx hb hr hP hD hS dX0_boil_160 hlocks
def f_X0_boilAll_11 : Nat → Int32 → Int32 → Int32 → StV → Option (StV)
  | 0, _, _, _, _ => none
  | fu + 1, x1_11, x2_11, x3_11, S_11 => if (s_n S_11) ≤ x3_11 then (if x2_11 = 0 then (some (S_11)) else (nm (su_cou S_11 (upd (s_cou S_11) 0 (((s_cou S_11) 0) + ((s_set S_11) 0)))) fun q_3 => nm (su_cou q_3 (upd (s_cou q_3) 3 (((s_cou q_3) 3) + x1_11))) fun q_4 => some (q_4))) else (gb (inb x3_11 6) <| if ((s_lef S_11) x3_11.toNatClampNeg) = 0 then (bd (f_X0_boil S_11 x3_11 x1_11) fun ⟨v_7, q_8⟩ => (f_X0_boilAll_11 fu) v_7 1 (x3_11 + 1) q_8) else ((f_X0_boilAll_11 fu) x1_11 x2_11 (x3_11 + 1) S_11))
def f_X0_boilAll (S : StV) : Option (StV) := nm ((s_set S) 0) fun v_10 => f_X0_boilAll_11 2000 v_10 0 0 S
set_option maxRecDepth 100000 in
set_option maxHeartbeats 4000000 in
theorem c_X0_boilAll (l : Launch) (D : va_G) (k : Nat → ClassId) (a : Nat → Nat) (S : StV) (o0 : StV) (h : f_X0_boilAll S = some (o0)) : Ck l D (tyK k) yX0_boilAll wsX0_boilAll ({ frames := 2, cells := 0, slots := 0, locals := 48 } : Room) [.ref (a 0)] (stW k a S) none (stW k a o0) := by
  refine Ck_of (cc := cX0_boilAll) (maxL := 4) (ret := none) (by decide) rfl (Nat.le_of_ble_eq_true rfl) ?_
  intro p e s m args below meth c A ls hx hb hr hml hts hown hlocks hK hA hP hD hS hl
  have hl : lv_has ls 4 [(0, .ref (a 0))] := hl
  have hP : va_P D vwCl (stW k a S) s.heap := hP
  have w_0 := hts (.fieldLink RX0 9 "EffectTrain$State" "n" "I") (by decide +kernel)
  have w_1 : ∀ w ∈ wsX00, w ∈ wsX0_boilAll := by decide +kernel
  have w_2 := hts (.fieldLink RX0 22 "EffectTrain$State" "counts" "[I") (by decide +kernel)
  have w_3 := hts (.fieldLink RX0 15 "EffectTrain$State" "settings" "[I") (by decide +kernel)
  have w_4 := hts (.fieldLink RX0 46 "EffectTrain$State" "left" "[I") (by decide +kernel)
  unfold f_X0_boilAll at h
  have hC_11 : ∀ (fu_11 : Nat) (x1_11 : Int32) (x2_11 : Int32) (x3_11 : Int32) (S_11 : StV) (H : Heap) (locs : List Loc) (ls : Array Slot), va_P D vwCl (stW k a S_11) H → va_D A (stW k a S_11) → va_S A s.heap H locs → lv_has ls 4 [(0, .ref (a 0)), (1, .int x1_11), (2, .int x2_11), (3, .int x3_11)] → f_X0_boilAll_11 fu_11 x1_11 x2_11 x3_11 S_11 = some (o0) → W p l e ({ frames := 2, cells := 0, slots := 0, locals := 48 } : Room) s m args below meth c H locs 0 0 (MQ below (Qk D A none (stW k a o0)) args s 0 0 A) (F0 m 11 ls []) := by
    intro fu_11
    induction fu_11 with
    | zero => intro x1_11 x2_11 x3_11 S_11 H locs ls _ _ _ _ h; exact (no_l h).elim
    | succ fu_11 ih_11 =>
      intro x1_11 x2_11 x3_11 S_11 H locs ls hP hD hS hl h
      rw [f_X0_boilAll_11] at h
      refine lv_iload_n hx hb dX0_boilAll_11 rfl (lv_at hl 3 rfl) ?_
      refine lv_aload_n hx hb dX0_boilAll_12 rfl (lv_at hl 0 rfl) ?_
      refine va_get (D := D) (ci := 0) (v := .int (s_n S_11)) (C := RX0) (T := TX0) (N := 12) hx hb hts w_1 hown hK hP 0 rfl rfl 0 (by decide) w_0 (fun _ h9 => h9) rfl dX0_boilAll_13 ?_
      refine lv_icmp_ge (tgt := 43) hx hb dX0_boilAll_16 (by decide) (fun c_1 => ?_) (fun c_1 => ?_)
      · have h := it_l c_1 h
        refine lv_iload_n hx hb dX0_boilAll_43 rfl (lv_at hl 2 rfl) ?_
        refine lv_if_eq (tgt := 72) hx hb dX0_boilAll_44 (by decide) (fun c_2 => ?_) (fun c_2 => ?_)
        · have h := it_l c_2 h
          cases h
          exact Ck_vret hx hb hr hP hD hS dX0_boilAll_72 hlocks
        · have h := it_r c_2 h
          refine lv_aload_n hx hb dX0_boilAll_47 rfl (lv_at hl 0 rfl) ?_
          refine va_get (D := D) (ci := 0) (v := .ref (a 2)) (C := RX0) (T := TX0) (N := 12) hx hb hts w_1 hown hK hP 0 rfl rfl 3 (by decide) w_2 (fun _ h9 => h9) rfl dX0_boilAll_48 ?_
          refine lv_iconst (v := 0) hx hb dX0_boilAll_51 (by decide) ?_
          refine lv_dup2_11 hx hb dX0_boilAll_52 rfl rfl ?_
          refine va_iald hx hb hK hP 2 0 rfl rfl (inb_vp (by decide)) dX0_boilAll_53 ?_
          refine W.eq (g2 := F0 m 54 ls [.int ((s_cou S_11) 0), .int 0, .ref (a 2)]) rfl ?_
          refine lv_aload_n hx hb dX0_boilAll_54 rfl (lv_at hl 0 rfl) ?_
          refine va_get (D := D) (ci := 0) (v := .ref (a 1)) (C := RX0) (T := TX0) (N := 12) hx hb hts w_1 hown hK hP 0 rfl rfl 1 (by decide) w_3 (fun _ h9 => h9) rfl dX0_boilAll_55 ?_
          refine lv_iconst (v := 0) hx hb dX0_boilAll_58 (by decide) ?_
          refine va_iald hx hb hK hP 1 0 rfl rfl (inb_vp (by decide)) dX0_boilAll_59 ?_
          refine W.eq (g2 := F0 m 60 ls [.int ((s_set S_11) 0), .int ((s_cou S_11) 0), .int 0, .ref (a 2)]) rfl ?_
          refine lv_iadd hx hb dX0_boilAll_60 ?_
          refine va_iast hx hb hK hP hD hS 2 0 rfl rfl (inb_vp (by decide)) dX0_boilAll_61 (fun H locs hP hD hS => ?_)
          obtain ⟨q_3, eq_3⟩ : ∃ y : StV, y = su_cou S_11 (upd (s_cou S_11) 0 (((s_cou S_11) 0) + ((s_set S_11) 0))) := ⟨_, rfl⟩
          have hP : va_P D vwCl (stW k a q_3) H := by rw [eq_3, ← st_set_cou k a S_11 _]; exact hP
          have hD : va_D A (stW k a q_3) := by rw [eq_3, ← st_set_cou k a S_11 _]; exact hD
          have h := nm_l h eq_3
          refine lv_aload_n hx hb dX0_boilAll_62 rfl (lv_at hl 0 rfl) ?_
          refine va_get (D := D) (ci := 0) (v := .ref (a 2)) (C := RX0) (T := TX0) (N := 12) hx hb hts w_1 hown hK hP 0 rfl rfl 3 (by decide) w_2 (fun _ h9 => h9) rfl dX0_boilAll_63 ?_
          refine lv_iconst (v := 3) hx hb dX0_boilAll_66 (by decide) ?_
          refine lv_dup2_11 hx hb dX0_boilAll_67 rfl rfl ?_
          refine va_iald hx hb hK hP 2 0 rfl rfl (inb_vp (by decide)) dX0_boilAll_68 ?_
          refine W.eq (g2 := F0 m 69 ls [.int ((s_cou q_3) 3), .int 3, .ref (a 2)]) rfl ?_
          refine lv_iload_n hx hb dX0_boilAll_69 rfl (lv_at hl 1 rfl) ?_
          refine lv_iadd hx hb dX0_boilAll_70 ?_
          refine va_iast hx hb hK hP hD hS 2 0 rfl rfl (inb_vp (by decide)) dX0_boilAll_71 (fun H locs hP hD hS => ?_)
          obtain ⟨q_4, eq_4⟩ : ∃ y : StV, y = su_cou q_3 (upd (s_cou q_3) 3 (((s_cou q_3) 3) + x1_11)) := ⟨_, rfl⟩
          have hP : va_P D vwCl (stW k a q_4) H := by rw [eq_4, ← st_set_cou k a q_3 _]; exact hP
          have hD : va_D A (stW k a q_4) := by rw [eq_4, ← st_set_cou k a q_3 _]; exact hD
          have h := nm_l h eq_4
          cases h
          exact Ck_vret hx hb hr hP hD hS dX0_boilAll_72 hlocks
      · have h := it_r c_1 h
        refine lv_aload_n hx hb dX0_boilAll_19 rfl (lv_at hl 0 rfl) ?_
        refine va_get (D := D) (ci := 0) (v := .ref (a 10)) (C := RX0) (T := TX0) (N := 12) hx hb hts w_1 hown hK hP 0 rfl rfl 11 (by decide) w_4 (fun _ h9 => h9) rfl dX0_boilAll_20 ?_
        refine lv_iload_n hx hb dX0_boilAll_23 rfl (lv_at hl 3 rfl) ?_
        have g_5 := inb_vp (gb_l h)
        have h := gb_r h
        refine va_iald hx hb hK hP 10 0 rfl rfl g_5 dX0_boilAll_24 ?_
        refine lv_if_ne (tgt := 37) hx hb dX0_boilAll_25 (by decide) (fun c_6 => ?_) (fun c_6 => ?_)
        · have h := it_r c_6 h
          refine lv_iinc (v := (x3_11 + 1)) (lv' := [(3, .int (x3_11 + 1)), (0, .ref (a 0)), (1, .int x1_11), (2, .int x2_11)]) hx hb dX0_boilAll_37 hl (k := 3) rfl rfl (by decide) rfl (fun ls hl => ?_)
          refine lv_goto (tgt := 11) hx hb dX0_boilAll_40 (by decide) ?_
          exact ih_11 x1_11 x2_11 (x3_11 + 1) S_11 _ _ _ hP hD hS (lv_sub hl [1, 2, 3, 0] rfl) h
        · have h := it_l c_6 h
          refine lv_iconst (v := 1) hx hb dX0_boilAll_28 (by decide) ?_
          refine lv_istore_n (lv' := [(2, .int 1), (0, .ref (a 0)), (1, .int x1_11), (3, .int x3_11)]) hx hb dX0_boilAll_29 rfl hl (by decide) rfl (fun ls hl => ?_)
          refine lv_aload_n hx hb dX0_boilAll_30 rfl (lv_at hl 1 rfl) ?_
          refine lv_iload_n hx hb dX0_boilAll_31 rfl (lv_at hl 3 rfl) ?_
          refine lv_iload_n hx hb dX0_boilAll_32 rfl (lv_at hl 2 rfl) ?_
          obtain ⟨⟨v_7, q_8⟩, hv_9, h⟩ := bd_l h
          refine Ck_V (As := [.int x3_11, .int x1_11]) (rest := []) (wc := stW k a S_11) (wc' := stW k a q_8) (w0' := stW k a q_8) ⟨hx, hb, hml, hown, hts⟩ (c_X0_boil l D k a S_11 x3_11 x1_11 v_7 q_8 hv_9) (cwV 2 hts gX0_boilAll_X0_boil rfl rfl rfl (by decide +kernel) ⟨Nat.le_of_ble_eq_true rfl, Nat.le_of_ble_eq_true rfl⟩) hK hP hD hS hA (q0 := 0) (ci := 0) rfl rfl [0, 1, 2, 3, 4, 5, 6, 7, 8, 9, 10] rfl (by decide) rfl rfl rfl hl.1 rfl (Nat.le_of_ble_eq_true rfl) dX0_boilAll_33 ⟨Nat.le_of_ble_eq_true rfl, Nat.le_of_ble_eq_true rfl⟩ (fun H locs hP hD hS => ?_)
          refine W.eq (g2 := F0 m 36 ls [.int v_7]) rfl ?_
          refine lv_istore_n (lv' := [(1, .int v_7), (2, .int 1), (0, .ref (a 0)), (3, .int x3_11)]) hx hb dX0_boilAll_36 rfl hl (by decide) rfl (fun ls hl => ?_)
          refine lv_iinc (v := (x3_11 + 1)) (lv' := [(3, .int (x3_11 + 1)), (1, .int v_7), (2, .int 1), (0, .ref (a 0))]) hx hb dX0_boilAll_37 hl (k := 3) rfl rfl (by decide) rfl (fun ls hl => ?_)
          refine lv_goto (tgt := 11) hx hb dX0_boilAll_40 (by decide) ?_
          exact ih_11 v_7 1 (x3_11 + 1) q_8 _ _ _ hP hD hS (lv_sub hl [3, 1, 2, 0] rfl) h
  refine lv_aload_n hx hb dX0_boilAll_0 rfl (lv_at hl 0 rfl) ?_
  refine va_get (D := D) (ci := 0) (v := .ref (a 1)) (C := RX0) (T := TX0) (N := 12) hx hb hts w_1 hown hK hP 0 rfl rfl 1 (by decide) w_3 (fun _ h9 => h9) rfl dX0_boilAll_1 ?_
  refine lv_iconst (v := 0) hx hb dX0_boilAll_4 (by decide) ?_
  refine va_iald hx hb hK hP 1 0 rfl rfl (inb_vp (by decide)) dX0_boilAll_5 ?_
  refine W.eq (g2 := F0 m 6 ls [.int ((s_set S) 0)]) rfl ?_
  refine lv_topi (fun v_10 ev_10 => ?_)
  have h := nm_l h ev_10
  refine lv_istore_n (lv' := [(1, .int v_10), (0, .ref (a 0))]) hx hb dX0_boilAll_6 rfl hl (by decide) rfl (fun ls hl => ?_)
  refine lv_iconst (v := 0) hx hb dX0_boilAll_7 (by decide) ?_
  refine lv_istore_n (lv' := [(2, .int 0), (1, .int v_10), (0, .ref (a 0))]) hx hb dX0_boilAll_8 rfl hl (by decide) rfl (fun ls hl => ?_)
  refine lv_iconst (v := 0) hx hb dX0_boilAll_9 (by decide) ?_
  refine lv_istore_n (lv' := [(3, .int 0), (2, .int 0), (1, .int v_10), (0, .ref (a 0))]) hx hb dX0_boilAll_10 rfl hl (by decide) rfl (fun ls hl => ?_)
  exact hC_11 2000 v_10 0 0 S _ _ _ hP hD hS (lv_sub hl [3, 2, 1, 0] rfl) h
def f_X0_flowFrom (S : StV) (p1 : Int32) : Option (Int32) := gb (inb p1 6) <| bd (f_X0_amount S p1) fun v_2 => nm (mn ((s_val S) p1.toNatClampNeg) v_2) fun v_4 => bd (f_X0_effectBehind S p1) fun v_5 => if v_5 = (-9) then (some (v_4)) else (bd (f_X0_amount S v_5) fun v_8 => nm (mn v_4 (5000 - v_8)) fun v_10 => some (v_10))
set_option maxRecDepth 100000 in
set_option maxHeartbeats 4000000 in
theorem c_X0_flowFrom (l : Launch) (D : va_G) (k : Nat → ClassId) (a : Nat → Nat) (S : StV) (p1 : Int32) (o0 : Int32) (h : f_X0_flowFrom S p1 = some (o0)) : Ck l D (tyK k) yX0_flowFrom wsX0_flowFrom ({ frames := 1, cells := 0, slots := 0, locals := 22 } : Room) [.ref (a 0), .int p1] (stW k a S) (some (.int o0)) (stW k a S) := by
  refine Ck_of (cc := cX0_flowFrom) (maxL := 4) (ret := (some .int)) (by decide) rfl (Nat.le_of_ble_eq_true rfl) ?_
  intro p e s m args below meth c A ls hx hb hr hml hts hown hlocks hK hA hP hD hS hl
  have hl : lv_has ls 4 [(0, .ref (a 0)), (1, .int p1)] := hl
  have hP : va_P D vwCl (stW k a S) s.heap := hP
  have w_0 := hts (.fieldLink RX0 34 "EffectTrain$State" "valve" "[I") (by decide +kernel)
  have w_1 : ∀ w ∈ wsX00, w ∈ wsX0_flowFrom := by decide +kernel
  have w_2 := hts (.methodLink RX0 88 Lib.Math.min.name) (by decide +kernel)
  have w_3 := hts (.static Lib.Math.min.name) (by decide +kernel)
  have w_4 := hts (.initialized "java/lang/Math") (by decide +kernel)
  have w_5 := hts (.code Lib.Math.min.name Lib.Math.min.code 2 (some .int)) (by decide +kernel)
  unfold f_X0_flowFrom at h
  refine lv_aload_n hx hb dX0_flowFrom_0 rfl (lv_at hl 0 rfl) ?_
  refine va_get (D := D) (ci := 0) (v := .ref (a 6)) (C := RX0) (T := TX0) (N := 12) hx hb hts w_1 hown hK hP 0 rfl rfl 7 (by decide) w_0 (fun _ h9 => h9) rfl dX0_flowFrom_1 ?_
  refine lv_iload_n hx hb dX0_flowFrom_4 rfl (lv_at hl 1 rfl) ?_
  have g_1 := inb_vp (gb_l h)
  have h := gb_r h
  refine va_iald hx hb hK hP 6 0 rfl rfl g_1 dX0_flowFrom_5 ?_
  refine lv_aload_n hx hb dX0_flowFrom_6 rfl (lv_at hl 0 rfl) ?_
  refine lv_iload_n hx hb dX0_flowFrom_7 rfl (lv_at hl 1 rfl) ?_
  obtain ⟨v_2, hv_3, h⟩ := bd_l h
  refine Ck_V (As := [.int p1]) (rest := [.int ((s_val S) p1.toNatClampNeg)]) (wc := stW k a S) (wc' := stW k a S) (w0' := stW k a S) ⟨hx, hb, hml, hown, hts⟩ (c_X0_amount l D k a S p1 v_2 hv_3) (cwV 1 hts gX0_flowFrom_X0_amount rfl rfl rfl (by decide +kernel) ⟨Nat.le_of_ble_eq_true rfl, Nat.le_of_ble_eq_true rfl⟩) hK hP hD hS hA (q0 := 0) (ci := 0) rfl rfl [0, 1, 2, 3, 4, 5, 6, 7, 8, 9, 10] rfl (by decide) rfl rfl rfl hl.1 rfl (Nat.le_of_ble_eq_true rfl) dX0_flowFrom_8 ⟨Nat.le_of_ble_eq_true rfl, Nat.le_of_ble_eq_true rfl⟩ (fun H locs hP hD hS => ?_)
  refine W.eq (g2 := F0 m 11 ls [.int v_2, .int ((s_val S) p1.toNatClampNeg)]) rfl ?_
  refine va_mmin hx hb (hml.trans hl.1.symm) hown w_2 w_3 w_4 w_5 (Nat.le_of_ble_eq_true rfl) (Nat.le_of_ble_eq_true rfl) (Nat.le_of_ble_eq_true rfl) (Nat.le_of_ble_eq_true rfl) dX0_flowFrom_11 ?_
  refine lv_topi (fun v_4 ev_4 => ?_)
  have h := nm_l h ev_4
  refine lv_istore_n (lv' := [(2, .int v_4), (0, .ref (a 0)), (1, .int p1)]) hx hb dX0_flowFrom_14 rfl hl (by decide) rfl (fun ls hl => ?_)
  refine lv_aload_n hx hb dX0_flowFrom_15 rfl (lv_at hl 1 rfl) ?_
  refine lv_iload_n hx hb dX0_flowFrom_16 rfl (lv_at hl 2 rfl) ?_
  obtain ⟨v_5, hv_6, h⟩ := bd_l h
  refine Ck_V (As := [.int p1]) (rest := []) (wc := stW k a S) (wc' := stW k a S) (w0' := stW k a S) ⟨hx, hb, hml, hown, hts⟩ (c_X0_effectBehind l D k a S p1 v_5 hv_6) (cwV 1 hts gX0_flowFrom_X0_effectBehind rfl rfl rfl (by decide +kernel) ⟨Nat.le_of_ble_eq_true rfl, Nat.le_of_ble_eq_true rfl⟩) hK hP hD hS hA (q0 := 0) (ci := 0) rfl rfl [0, 1, 2, 3, 4, 5, 6, 7, 8, 9, 10] rfl (by decide) rfl rfl rfl hl.1 rfl (Nat.le_of_ble_eq_true rfl) dX0_flowFrom_17 ⟨Nat.le_of_ble_eq_true rfl, Nat.le_of_ble_eq_true rfl⟩ (fun H locs hP hD hS => ?_)
  refine W.eq (g2 := F0 m 20 ls [.int v_5]) rfl ?_
  refine lv_istore_n (lv' := [(3, .int v_5), (2, .int v_4), (0, .ref (a 0)), (1, .int p1)]) hx hb dX0_flowFrom_20 rfl hl (by decide) rfl (fun ls hl => ?_)
  refine lv_iload_n hx hb dX0_flowFrom_21 rfl (lv_at hl 0 rfl) ?_
  refine lv_bipush (v := (-9)) hx hb dX0_flowFrom_22 (by decide) ?_
  refine lv_icmp_ne (tgt := 31) hx hb dX0_flowFrom_24 (by decide) (fun c_7 => ?_) (fun c_7 => ?_)
  · have h := it_r c_7 h
    refine lv_iload_n hx hb dX0_flowFrom_31 rfl (lv_at hl 1 rfl) ?_
    refine lv_sipush (v := 5000) hx hb dX0_flowFrom_32 (by decide) ?_
    refine lv_aload_n hx hb dX0_flowFrom_35 rfl (lv_at hl 2 rfl) ?_
    refine lv_iload_n hx hb dX0_flowFrom_36 rfl (lv_at hl 0 rfl) ?_
    obtain ⟨v_8, hv_9, h⟩ := bd_l h
    refine Ck_V (As := [.int v_5]) (rest := [.int 5000, .int v_4]) (wc := stW k a S) (wc' := stW k a S) (w0' := stW k a S) ⟨hx, hb, hml, hown, hts⟩ (c_X0_amount l D k a S v_5 v_8 hv_9) (cwV 1 hts gX0_flowFrom_X0_amount rfl rfl rfl (by decide +kernel) ⟨Nat.le_of_ble_eq_true rfl, Nat.le_of_ble_eq_true rfl⟩) hK hP hD hS hA (q0 := 0) (ci := 0) rfl rfl [0, 1, 2, 3, 4, 5, 6, 7, 8, 9, 10] rfl (by decide) rfl rfl rfl hl.1 rfl (Nat.le_of_ble_eq_true rfl) dX0_flowFrom_37 ⟨Nat.le_of_ble_eq_true rfl, Nat.le_of_ble_eq_true rfl⟩ (fun H locs hP hD hS => ?_)
    refine W.eq (g2 := F0 m 40 ls [.int v_8, .int 5000, .int v_4]) rfl ?_
    refine lv_isub hx hb dX0_flowFrom_40 ?_
    refine va_mmin hx hb (hml.trans hl.1.symm) hown w_2 w_3 w_4 w_5 (Nat.le_of_ble_eq_true rfl) (Nat.le_of_ble_eq_true rfl) (Nat.le_of_ble_eq_true rfl) (Nat.le_of_ble_eq_true rfl) dX0_flowFrom_41 ?_
    refine lv_topi (fun v_10 ev_10 => ?_)
    have h := nm_l h ev_10
    cases h
    exact Ck_iret hx hb hr hP hD hS dX0_flowFrom_44 hlocks
  · have h := it_l c_7 h
    refine lv_iload_n hx hb dX0_flowFrom_27 rfl (lv_at hl 1 rfl) ?_
    refine lv_goto (tgt := 44) hx hb dX0_flowFrom_28 (by decide) ?_
    cases h
    exact Ck_iret hx hb hr hP hD hS dX0_flowFrom_44 hlocks
def f_X0_flowOn_150 (k_93 : Int32 → Int32 → Int32 → StV → Option (StV)) (x1_150 : Int32) (x2_150 : Int32) (x4_150 : Int32) (x5_150 : Int32) (t0_150 : Int32) (S_150 : StV) : Option (StV) := nm (x5_150 - t0_150) fun v_1 => gb (inb x4_150 6) <| gb (inb x4_150 6) <| nm (su_wat S_150 (upd (s_wat S_150) x4_150.toNatClampNeg (((s_wat S_150) x4_150.toNatClampNeg) + (x1_150 - v_1)))) fun q_4 => gb (inb x4_150 6) <| gb (inb x4_150 6) <| nm (su_sol q_4 (upd (s_sol q_4) x4_150.toNatClampNeg (((s_sol q_4) x4_150.toNatClampNeg) + (x2_150 - t0_150)))) fun q_7 => k_93 v_1 t0_150 (x4_150 + 1) q_7
def f_X0_flowOn_93 : Nat → Int32 → Int32 → Int32 → StV → Option (StV)
  | 0, _, _, _, _ => none
  | fu + 1, x1_93, x2_93, x4_93, S_93 => if (s_n S_93) ≤ x4_93 then (nm (su_cou S_93 (upd (s_cou S_93) 7 (((s_cou S_93) 7) + x1_93))) fun q_9 => nm (su_cou q_9 (upd (s_cou q_9) 8 (((s_cou q_9) 8) + x2_93))) fun q_10 => some (q_10)) else (gb (inb x4_93 6) <| if ((s_lef S_93) x4_93.toNatClampNeg) = 0 then (bd (f_X0_flowFrom S_93 x4_93) fun v_13 => bd (f_X0_amount S_93 x4_93) fun v_15 => if v_15 ≤ 0 then (f_X0_flowOn_150 (f_X0_flowOn_93 fu) x1_93 x2_93 x4_93 v_13 0 S_93) else (gb (inb x4_93 6) <| gb (nz v_15) <| f_X0_flowOn_150 (f_X0_flowOn_93 fu) x1_93 x2_93 x4_93 v_13 ((((s_sol S_93) x4_93.toNatClampNeg) * v_13) / v_15) S_93)) else ((f_X0_flowOn_93 fu) x1_93 x2_93 (x4_93 + 1) S_93))
def f_X0_flowOn_41 (S : StV) (x1_41 : Int32) (x2_41 : Int32) : Option (StV) := nm (su_cou S (upd (s_cou S) 9 (((s_cou S) 9) + 1))) fun q_20 => f_X0_flowOn_93 2000 x1_41 x2_41 0 q_20
def f_X0_flowOn (S : StV) : Option (StV) := bd (f_X0_effectBehind S (-1)) fun v_21 => if v_21 = (-9) then (f_X0_flowOn_41 S 0 0) else (bd (f_X0_amount S v_21) fun v_24 => if (((s_set S) 1) + ((s_set S) 2)) ≤ (5000 - v_24) then (nm ((s_set S) 1) fun v_27 => nm ((s_set S) 2) fun v_28 => nm (su_cou S (upd (s_cou S) 5 (((s_cou S) 5) + v_27))) fun q_29 => nm (su_cou q_29 (upd (s_cou q_29) 6 (((s_cou q_29) 6) + v_28))) fun q_30 => f_X0_flowOn_93 2000 v_27 v_28 0 q_30) else (f_X0_flowOn_41 S 0 0))
set_option maxRecDepth 100000 in
set_option maxHeartbeats 4000000 in
theorem c_X0_flowOn (l : Launch) (D : va_G) (k : Nat → ClassId) (a : Nat → Nat) (S : StV) (o0 : StV) (h : f_X0_flowOn S = some (o0)) : Ck l D (tyK k) yX0_flowOn wsX0_flowOn ({ frames := 2, cells := 0, slots := 0, locals := 45 } : Room) [.ref (a 0)] (stW k a S) none (stW k a o0) := by
  refine Ck_of (cc := cX0_flowOn) (maxL := 9) (ret := none) (by decide) rfl (Nat.le_of_ble_eq_true rfl) ?_
  intro p e s m args below meth c A ls hx hb hr hml hts hown hlocks hK hA hP hD hS hl
  have hl : lv_has ls 9 [(0, .ref (a 0))] := hl
  have hP : va_P D vwCl (stW k a S) s.heap := hP
  have w_0 := hts (.fieldLink RX0 28 "EffectTrain$State" "water" "[I") (by decide +kernel)
  have w_1 : ∀ w ∈ wsX00, w ∈ wsX0_flowOn := by decide +kernel
  have w_2 := hts (.fieldLink RX0 31 "EffectTrain$State" "solids" "[I") (by decide +kernel)
  have w_3 := hts (.fieldLink RX0 9 "EffectTrain$State" "n" "I") (by decide +kernel)
  have w_4 := hts (.fieldLink RX0 22 "EffectTrain$State" "counts" "[I") (by decide +kernel)
  have w_5 := hts (.fieldLink RX0 46 "EffectTrain$State" "left" "[I") (by decide +kernel)
  have w_6 := hts (.fieldLink RX0 15 "EffectTrain$State" "settings" "[I") (by decide +kernel)
  unfold f_X0_flowOn at h
  have hC_93 : ∀ (fu_93 : Nat) (x1_93 : Int32) (x2_93 : Int32) (x4_93 : Int32) (S_93 : StV) (H : Heap) (locs : List Loc) (ls : Array Slot), va_P D vwCl (stW k a S_93) H → va_D A (stW k a S_93) → va_S A s.heap H locs → lv_has ls 9 [(0, .ref (a 0)), (1, .int x1_93), (2, .int x2_93), (4, .int x4_93)] → f_X0_flowOn_93 fu_93 x1_93 x2_93 x4_93 S_93 = some (o0) → W p l e ({ frames := 2, cells := 0, slots := 0, locals := 45 } : Room) s m args below meth c H locs 0 0 (MQ below (Qk D A none (stW k a o0)) args s 0 0 A) (F0 m 93 ls []) := by
    intro fu_93
    induction fu_93 with
    | zero => intro x1_93 x2_93 x4_93 S_93 H locs ls _ _ _ _ h; exact (no_l h).elim
    | succ fu_93 ih_93 =>
      intro x1_93 x2_93 x4_93 S_93 H locs ls hP hD hS hl h
      rw [f_X0_flowOn_93] at h
      have hC_150 : ∀ (x1_150 : Int32) (x2_150 : Int32) (x4_150 : Int32) (x5_150 : Int32) (t0_150 : Int32) (S_150 : StV) (H : Heap) (locs : List Loc) (ls : Array Slot), va_P D vwCl (stW k a S_150) H → va_D A (stW k a S_150) → va_S A s.heap H locs → lv_has ls 9 [(0, .ref (a 0)), (1, .int x1_150), (2, .int x2_150), (4, .int x4_150), (5, .int x5_150)] → f_X0_flowOn_150 (f_X0_flowOn_93 fu_93) x1_150 x2_150 x4_150 x5_150 t0_150 S_150 = some (o0) → W p l e ({ frames := 2, cells := 0, slots := 0, locals := 45 } : Room) s m args below meth c H locs 0 0 (MQ below (Qk D A none (stW k a o0)) args s 0 0 A) (F0 m 150 ls [.int t0_150]) := by
        intro x1_150 x2_150 x4_150 x5_150 t0_150 S_150 H locs ls hP hD hS hl h
        unfold f_X0_flowOn_150 at h
        refine lv_istore (lv' := [(7, .int t0_150), (0, .ref (a 0)), (1, .int x1_150), (2, .int x2_150), (4, .int x4_150), (5, .int x5_150)]) hx hb dX0_flowOn_150 hl (by decide) rfl (fun ls hl => ?_)
        refine lv_iload hx hb dX0_flowOn_152 (lv_at hl 5 rfl) ?_
        refine lv_iload hx hb dX0_flowOn_154 (lv_at hl 0 rfl) ?_
        refine lv_isub hx hb dX0_flowOn_156 ?_
        refine lv_topi (fun v_1 ev_1 => ?_)
        have h := nm_l h ev_1
        refine lv_istore (lv' := [(8, .int v_1), (7, .int t0_150), (0, .ref (a 0)), (1, .int x1_150), (2, .int x2_150), (4, .int x4_150), (5, .int x5_150)]) hx hb dX0_flowOn_157 hl (by decide) rfl (fun ls hl => ?_)
        refine lv_aload_n hx hb dX0_flowOn_159 rfl (lv_at hl 2 rfl) ?_
        refine va_get (D := D) (ci := 0) (v := .ref (a 4)) (C := RX0) (T := TX0) (N := 12) hx hb hts w_1 hown hK hP 0 rfl rfl 5 (by decide) w_0 (fun _ h9 => h9) rfl dX0_flowOn_160 ?_
        refine lv_iload hx hb dX0_flowOn_163 (lv_at hl 5 rfl) ?_
        refine lv_dup2_11 hx hb dX0_flowOn_165 rfl rfl ?_
        have g_2 := inb_vp (gb_l h)
        have h := gb_r h
        refine va_iald hx hb hK hP 4 0 rfl rfl g_2 dX0_flowOn_166 ?_
        refine lv_iload_n hx hb dX0_flowOn_167 rfl (lv_at hl 3 rfl) ?_
        refine lv_iload hx hb dX0_flowOn_168 (lv_at hl 0 rfl) ?_
        refine lv_isub hx hb dX0_flowOn_170 ?_
        refine lv_iadd hx hb dX0_flowOn_171 ?_
        have g_3 := inb_vp (gb_l h)
        have h := gb_r h
        refine va_iast hx hb hK hP hD hS 4 0 rfl rfl g_3 dX0_flowOn_172 (fun H locs hP hD hS => ?_)
        obtain ⟨q_4, eq_4⟩ : ∃ y : StV, y = su_wat S_150 (upd (s_wat S_150) x4_150.toNatClampNeg (((s_wat S_150) x4_150.toNatClampNeg) + (x1_150 - v_1))) := ⟨_, rfl⟩
        have hP : va_P D vwCl (stW k a q_4) H := by rw [eq_4, ← st_set_wat k a S_150 _]; exact hP
        have hD : va_D A (stW k a q_4) := by rw [eq_4, ← st_set_wat k a S_150 _]; exact hD
        have h := nm_l h eq_4
        refine lv_aload_n hx hb dX0_flowOn_173 rfl (lv_at hl 2 rfl) ?_
        refine va_get (D := D) (ci := 0) (v := .ref (a 5)) (C := RX0) (T := TX0) (N := 12) hx hb hts w_1 hown hK hP 0 rfl rfl 6 (by decide) w_2 (fun _ h9 => h9) rfl dX0_flowOn_174 ?_
        refine lv_iload hx hb dX0_flowOn_177 (lv_at hl 5 rfl) ?_
        refine lv_dup2_11 hx hb dX0_flowOn_179 rfl rfl ?_
        have g_5 := inb_vp (gb_l h)
        have h := gb_r h
        refine va_iald hx hb hK hP 5 0 rfl rfl g_5 dX0_flowOn_180 ?_
        refine lv_iload_n hx hb dX0_flowOn_181 rfl (lv_at hl 4 rfl) ?_
        refine lv_iload hx hb dX0_flowOn_182 (lv_at hl 1 rfl) ?_
        refine lv_isub hx hb dX0_flowOn_184 ?_
        refine lv_iadd hx hb dX0_flowOn_185 ?_
        have g_6 := inb_vp (gb_l h)
        have h := gb_r h
        refine va_iast hx hb hK hP hD hS 5 0 rfl rfl g_6 dX0_flowOn_186 (fun H locs hP hD hS => ?_)
        obtain ⟨q_7, eq_7⟩ : ∃ y : StV, y = su_sol q_4 (upd (s_sol q_4) x4_150.toNatClampNeg (((s_sol q_4) x4_150.toNatClampNeg) + (x2_150 - t0_150))) := ⟨_, rfl⟩
        have hP : va_P D vwCl (stW k a q_7) H := by rw [eq_7, ← st_set_sol k a q_4 _]; exact hP
        have hD : va_D A (stW k a q_7) := by rw [eq_7, ← st_set_sol k a q_4 _]; exact hD
        have h := nm_l h eq_7
        refine lv_iload hx hb dX0_flowOn_187 (lv_at hl 0 rfl) ?_
        refine lv_istore_n (lv' := [(1, .int v_1), (8, .int v_1), (7, .int t0_150), (0, .ref (a 0)), (2, .int x2_150), (4, .int x4_150), (5, .int x5_150)]) hx hb dX0_flowOn_189 rfl hl (by decide) rfl (fun ls hl => ?_)
        refine lv_iload hx hb dX0_flowOn_190 (lv_at hl 2 rfl) ?_
        refine lv_istore_n (lv' := [(2, .int t0_150), (1, .int v_1), (8, .int v_1), (7, .int t0_150), (0, .ref (a 0)), (4, .int x4_150), (5, .int x5_150)]) hx hb dX0_flowOn_192 rfl hl (by decide) rfl (fun ls hl => ?_)
        refine lv_iinc (v := (x4_150 + 1)) (lv' := [(4, .int (x4_150 + 1)), (2, .int t0_150), (1, .int v_1), (8, .int v_1), (7, .int t0_150), (0, .ref (a 0)), (5, .int x5_150)]) hx hb dX0_flowOn_193 hl (k := 5) rfl rfl (by decide) rfl (fun ls hl => ?_)
        refine lv_goto (tgt := 93) hx hb dX0_flowOn_196 (by decide) ?_
        exact ih_93 v_1 t0_150 (x4_150 + 1) q_7 _ _ _ hP hD hS (lv_sub hl [5, 2, 1, 0] rfl) h
      refine lv_iload hx hb dX0_flowOn_93 (lv_at hl 3 rfl) ?_
      refine lv_aload_n hx hb dX0_flowOn_95 rfl (lv_at hl 0 rfl) ?_
      refine va_get (D := D) (ci := 0) (v := .int (s_n S_93)) (C := RX0) (T := TX0) (N := 12) hx hb hts w_1 hown hK hP 0 rfl rfl 0 (by decide) w_3 (fun _ h9 => h9) rfl dX0_flowOn_96 ?_
      refine lv_icmp_ge (tgt := 199) hx hb dX0_flowOn_99 (by decide) (fun c_8 => ?_) (fun c_8 => ?_)
      · have h := it_l c_8 h
        refine lv_aload_n hx hb dX0_flowOn_199 rfl (lv_at hl 0 rfl) ?_
        refine va_get (D := D) (ci := 0) (v := .ref (a 2)) (C := RX0) (T := TX0) (N := 12) hx hb hts w_1 hown hK hP 0 rfl rfl 3 (by decide) w_4 (fun _ h9 => h9) rfl dX0_flowOn_200 ?_
        refine lv_bipush (v := 7) hx hb dX0_flowOn_203 (by decide) ?_
        refine lv_dup2_11 hx hb dX0_flowOn_205 rfl rfl ?_
        refine va_iald hx hb hK hP 2 0 rfl rfl (inb_vp (by decide)) dX0_flowOn_206 ?_
        refine W.eq (g2 := F0 m 207 ls [.int ((s_cou S_93) 7), .int 7, .ref (a 2)]) rfl ?_
        refine lv_iload_n hx hb dX0_flowOn_207 rfl (lv_at hl 1 rfl) ?_
        refine lv_iadd hx hb dX0_flowOn_208 ?_
        refine va_iast hx hb hK hP hD hS 2 0 rfl rfl (inb_vp (by decide)) dX0_flowOn_209 (fun H locs hP hD hS => ?_)
        obtain ⟨q_9, eq_9⟩ : ∃ y : StV, y = su_cou S_93 (upd (s_cou S_93) 7 (((s_cou S_93) 7) + x1_93)) := ⟨_, rfl⟩
        have hP : va_P D vwCl (stW k a q_9) H := by rw [eq_9, ← st_set_cou k a S_93 _]; exact hP
        have hD : va_D A (stW k a q_9) := by rw [eq_9, ← st_set_cou k a S_93 _]; exact hD
        have h := nm_l h eq_9
        refine lv_aload_n hx hb dX0_flowOn_210 rfl (lv_at hl 0 rfl) ?_
        refine va_get (D := D) (ci := 0) (v := .ref (a 2)) (C := RX0) (T := TX0) (N := 12) hx hb hts w_1 hown hK hP 0 rfl rfl 3 (by decide) w_4 (fun _ h9 => h9) rfl dX0_flowOn_211 ?_
        refine lv_bipush (v := 8) hx hb dX0_flowOn_214 (by decide) ?_
        refine lv_dup2_11 hx hb dX0_flowOn_216 rfl rfl ?_
        refine va_iald hx hb hK hP 2 0 rfl rfl (inb_vp (by decide)) dX0_flowOn_217 ?_
        refine W.eq (g2 := F0 m 218 ls [.int ((s_cou q_9) 8), .int 8, .ref (a 2)]) rfl ?_
        refine lv_iload_n hx hb dX0_flowOn_218 rfl (lv_at hl 2 rfl) ?_
        refine lv_iadd hx hb dX0_flowOn_219 ?_
        refine va_iast hx hb hK hP hD hS 2 0 rfl rfl (inb_vp (by decide)) dX0_flowOn_220 (fun H locs hP hD hS => ?_)
        obtain ⟨q_10, eq_10⟩ : ∃ y : StV, y = su_cou q_9 (upd (s_cou q_9) 8 (((s_cou q_9) 8) + x2_93)) := ⟨_, rfl⟩
        have hP : va_P D vwCl (stW k a q_10) H := by rw [eq_10, ← st_set_cou k a q_9 _]; exact hP
        have hD : va_D A (stW k a q_10) := by rw [eq_10, ← st_set_cou k a q_9 _]; exact hD
        have h := nm_l h eq_10
        cases h
        exact Ck_vret hx hb hr hP hD hS dX0_flowOn_221 hlocks
      · have h := it_r c_8 h
        refine lv_aload_n hx hb dX0_flowOn_102 rfl (lv_at hl 0 rfl) ?_
        refine va_get (D := D) (ci := 0) (v := .ref (a 10)) (C := RX0) (T := TX0) (N := 12) hx hb hts w_1 hown hK hP 0 rfl rfl 11 (by decide) w_5 (fun _ h9 => h9) rfl dX0_flowOn_103 ?_
        refine lv_iload hx hb dX0_flowOn_106 (lv_at hl 3 rfl) ?_
        have g_11 := inb_vp (gb_l h)
        have h := gb_r h
        refine va_iald hx hb hK hP 10 0 rfl rfl g_11 dX0_flowOn_108 ?_
        refine lv_if_ne (tgt := 193) hx hb dX0_flowOn_109 (by decide) (fun c_12 => ?_) (fun c_12 => ?_)
        · have h := it_r c_12 h
          refine lv_iinc (v := (x4_93 + 1)) (lv' := [(4, .int (x4_93 + 1)), (0, .ref (a 0)), (1, .int x1_93), (2, .int x2_93)]) hx hb dX0_flowOn_193 hl (k := 3) rfl rfl (by decide) rfl (fun ls hl => ?_)
          refine lv_goto (tgt := 93) hx hb dX0_flowOn_196 (by decide) ?_
          exact ih_93 x1_93 x2_93 (x4_93 + 1) S_93 _ _ _ hP hD hS (lv_sub hl [1, 2, 3, 0] rfl) h
        · have h := it_l c_12 h
          refine lv_aload_n hx hb dX0_flowOn_112 rfl (lv_at hl 0 rfl) ?_
          refine lv_iload hx hb dX0_flowOn_113 (lv_at hl 3 rfl) ?_
          obtain ⟨v_13, hv_14, h⟩ := bd_l h
          refine Ck_V (As := [.int x4_93]) (rest := []) (wc := stW k a S_93) (wc' := stW k a S_93) (w0' := stW k a S_93) ⟨hx, hb, hml, hown, hts⟩ (c_X0_flowFrom l D k a S_93 x4_93 v_13 hv_14) (cwV 1 hts gX0_flowOn_X0_flowFrom rfl rfl rfl (by decide +kernel) ⟨Nat.le_of_ble_eq_true rfl, Nat.le_of_ble_eq_true rfl⟩) hK hP hD hS hA (q0 := 0) (ci := 0) rfl rfl [0, 1, 2, 3, 4, 5, 6, 7, 8, 9, 10] rfl (by decide) rfl rfl rfl hl.1 rfl (Nat.le_of_ble_eq_true rfl) dX0_flowOn_115 ⟨Nat.le_of_ble_eq_true rfl, Nat.le_of_ble_eq_true rfl⟩ (fun H locs hP hD hS => ?_)
          refine W.eq (g2 := F0 m 118 ls [.int v_13]) rfl ?_
          refine lv_istore (lv' := [(5, .int v_13), (0, .ref (a 0)), (1, .int x1_93), (2, .int x2_93), (4, .int x4_93)]) hx hb dX0_flowOn_118 hl (by decide) rfl (fun ls hl => ?_)
          refine lv_aload_n hx hb dX0_flowOn_120 rfl (lv_at hl 1 rfl) ?_
          refine lv_iload hx hb dX0_flowOn_121 (lv_at hl 4 rfl) ?_
          obtain ⟨v_15, hv_16, h⟩ := bd_l h
          refine Ck_V (As := [.int x4_93]) (rest := []) (wc := stW k a S_93) (wc' := stW k a S_93) (w0' := stW k a S_93) ⟨hx, hb, hml, hown, hts⟩ (c_X0_amount l D k a S_93 x4_93 v_15 hv_16) (cwV 1 hts gX0_flowOn_X0_amount rfl rfl rfl (by decide +kernel) ⟨Nat.le_of_ble_eq_true rfl, Nat.le_of_ble_eq_true rfl⟩) hK hP hD hS hA (q0 := 0) (ci := 0) rfl rfl [0, 1, 2, 3, 4, 5, 6, 7, 8, 9, 10] rfl (by decide) rfl rfl rfl hl.1 rfl (Nat.le_of_ble_eq_true rfl) dX0_flowOn_123 ⟨Nat.le_of_ble_eq_true rfl, Nat.le_of_ble_eq_true rfl⟩ (fun H locs hP hD hS => ?_)
          refine W.eq (g2 := F0 m 126 ls [.int v_15]) rfl ?_
          refine lv_istore (lv' := [(6, .int v_15), (5, .int v_13), (0, .ref (a 0)), (1, .int x1_93), (2, .int x2_93), (4, .int x4_93)]) hx hb dX0_flowOn_126 hl (by decide) rfl (fun ls hl => ?_)
          refine lv_iload hx hb dX0_flowOn_128 (lv_at hl 0 rfl) ?_
          refine lv_if_le (tgt := 149) hx hb dX0_flowOn_130 (by decide) (fun c_17 => ?_) (fun c_17 => ?_)
          · have h := it_l c_17 h
            refine lv_iconst (v := 0) hx hb dX0_flowOn_149 (by decide) ?_
            exact hC_150 x1_93 x2_93 x4_93 v_13 0 S_93 _ _ _ hP hD hS (lv_sub hl [2, 3, 4, 5, 1] rfl) h
          · have h := it_r c_17 h
            refine lv_aload_n hx hb dX0_flowOn_133 rfl (lv_at hl 2 rfl) ?_
            refine va_get (D := D) (ci := 0) (v := .ref (a 5)) (C := RX0) (T := TX0) (N := 12) hx hb hts w_1 hown hK hP 0 rfl rfl 6 (by decide) w_2 (fun _ h9 => h9) rfl dX0_flowOn_134 ?_
            refine lv_iload hx hb dX0_flowOn_137 (lv_at hl 5 rfl) ?_
            have g_18 := inb_vp (gb_l h)
            have h := gb_r h
            refine va_iald hx hb hK hP 5 0 rfl rfl g_18 dX0_flowOn_139 ?_
            refine lv_iload hx hb dX0_flowOn_140 (lv_at hl 1 rfl) ?_
            refine lv_imul hx hb dX0_flowOn_142 ?_
            refine lv_iload hx hb dX0_flowOn_143 (lv_at hl 0 rfl) ?_
            have g_19 := nz_l (gb_l h)
            have h := gb_r h
            refine lv_idiv hx hb dX0_flowOn_145 g_19 ?_
            refine lv_goto (tgt := 150) hx hb dX0_flowOn_146 (by decide) ?_
            exact hC_150 x1_93 x2_93 x4_93 v_13 ((((s_sol S_93) x4_93.toNatClampNeg) * v_13) / v_15) S_93 _ _ _ hP hD hS (lv_sub hl [2, 3, 4, 5, 1] rfl) h
  have hC_41 : ∀ (x1_41 : Int32) (x2_41 : Int32) (H : Heap) (locs : List Loc) (ls : Array Slot), va_P D vwCl (stW k a S) H → va_D A (stW k a S) → va_S A s.heap H locs → lv_has ls 9 [(0, .ref (a 0)), (1, .int x1_41), (2, .int x2_41)] → f_X0_flowOn_41 S x1_41 x2_41 = some (o0) → W p l e ({ frames := 2, cells := 0, slots := 0, locals := 45 } : Room) s m args below meth c H locs 0 0 (MQ below (Qk D A none (stW k a o0)) args s 0 0 A) (F0 m 41 ls []) := by
    intro x1_41 x2_41 H locs ls hP hD hS hl h
    unfold f_X0_flowOn_41 at h
    refine lv_aload_n hx hb dX0_flowOn_41 rfl (lv_at hl 0 rfl) ?_
    refine va_get (D := D) (ci := 0) (v := .ref (a 2)) (C := RX0) (T := TX0) (N := 12) hx hb hts w_1 hown hK hP 0 rfl rfl 3 (by decide) w_4 (fun _ h9 => h9) rfl dX0_flowOn_42 ?_
    refine lv_bipush (v := 9) hx hb dX0_flowOn_45 (by decide) ?_
    refine lv_dup2_11 hx hb dX0_flowOn_47 rfl rfl ?_
    refine va_iald hx hb hK hP 2 0 rfl rfl (inb_vp (by decide)) dX0_flowOn_48 ?_
    refine W.eq (g2 := F0 m 49 ls [.int ((s_cou S) 9), .int 9, .ref (a 2)]) rfl ?_
    refine lv_iconst (v := 1) hx hb dX0_flowOn_49 (by decide) ?_
    refine lv_iadd hx hb dX0_flowOn_50 ?_
    refine va_iast hx hb hK hP hD hS 2 0 rfl rfl (inb_vp (by decide)) dX0_flowOn_51 (fun H locs hP hD hS => ?_)
    obtain ⟨q_20, eq_20⟩ : ∃ y : StV, y = su_cou S (upd (s_cou S) 9 (((s_cou S) 9) + 1)) := ⟨_, rfl⟩
    have hP : va_P D vwCl (stW k a q_20) H := by rw [eq_20, ← st_set_cou k a S _]; exact hP
    have hD : va_D A (stW k a q_20) := by rw [eq_20, ← st_set_cou k a S _]; exact hD
    have h := nm_l h eq_20
    refine lv_goto (tgt := 90) hx hb dX0_flowOn_52 (by decide) ?_
    refine lv_iconst (v := 0) hx hb dX0_flowOn_90 (by decide) ?_
    refine lv_istore (lv' := [(4, .int 0), (0, .ref (a 0)), (1, .int x1_41), (2, .int x2_41)]) hx hb dX0_flowOn_91 hl (by decide) rfl (fun ls hl => ?_)
    exact hC_93 2000 x1_41 x2_41 0 q_20 _ _ _ hP hD hS (lv_sub hl [1, 2, 3, 0] rfl) h
  refine lv_iconst (v := 0) hx hb dX0_flowOn_0 (by decide) ?_
  refine lv_istore_n (lv' := [(1, .int 0), (0, .ref (a 0))]) hx hb dX0_flowOn_1 rfl hl (by decide) rfl (fun ls hl => ?_)
  refine lv_iconst (v := 0) hx hb dX0_flowOn_2 (by decide) ?_
  refine lv_istore_n (lv' := [(2, .int 0), (1, .int 0), (0, .ref (a 0))]) hx hb dX0_flowOn_3 rfl hl (by decide) rfl (fun ls hl => ?_)
  refine lv_aload_n hx hb dX0_flowOn_4 rfl (lv_at hl 2 rfl) ?_
  refine lv_iconst (v := (-1)) hx hb dX0_flowOn_5 (by decide) ?_
  obtain ⟨v_21, hv_22, h⟩ := bd_l h
  refine Ck_V (As := [.int (-1)]) (rest := []) (wc := stW k a S) (wc' := stW k a S) (w0' := stW k a S) ⟨hx, hb, hml, hown, hts⟩ (c_X0_effectBehind l D k a S (-1) v_21 hv_22) (cwV 1 hts gX0_flowOn_X0_effectBehind rfl rfl rfl (by decide +kernel) ⟨Nat.le_of_ble_eq_true rfl, Nat.le_of_ble_eq_true rfl⟩) hK hP hD hS hA (q0 := 0) (ci := 0) rfl rfl [0, 1, 2, 3, 4, 5, 6, 7, 8, 9, 10] rfl (by decide) rfl rfl rfl hl.1 rfl (Nat.le_of_ble_eq_true rfl) dX0_flowOn_6 ⟨Nat.le_of_ble_eq_true rfl, Nat.le_of_ble_eq_true rfl⟩ (fun H locs hP hD hS => ?_)
  refine W.eq (g2 := F0 m 9 ls [.int v_21]) rfl ?_
  refine lv_istore_n (lv' := [(3, .int v_21), (2, .int 0), (1, .int 0), (0, .ref (a 0))]) hx hb dX0_flowOn_9 rfl hl (by decide) rfl (fun ls hl => ?_)
  refine lv_iload_n hx hb dX0_flowOn_10 rfl (lv_at hl 0 rfl) ?_
  refine lv_bipush (v := (-9)) hx hb dX0_flowOn_11 (by decide) ?_
  refine lv_icmp_eq (tgt := 41) hx hb dX0_flowOn_13 (by decide) (fun c_23 => ?_) (fun c_23 => ?_)
  · have h := it_l c_23 h
    exact hC_41 0 0 _ _ _ hP hD hS (lv_sub hl [3, 2, 1] rfl) h
  · have h := it_r c_23 h
    refine lv_sipush (v := 5000) hx hb dX0_flowOn_16 (by decide) ?_
    refine lv_aload_n hx hb dX0_flowOn_19 rfl (lv_at hl 3 rfl) ?_
    refine lv_iload_n hx hb dX0_flowOn_20 rfl (lv_at hl 0 rfl) ?_
    obtain ⟨v_24, hv_25, h⟩ := bd_l h
    refine Ck_V (As := [.int v_21]) (rest := [.int 5000]) (wc := stW k a S) (wc' := stW k a S) (w0' := stW k a S) ⟨hx, hb, hml, hown, hts⟩ (c_X0_amount l D k a S v_21 v_24 hv_25) (cwV 1 hts gX0_flowOn_X0_amount rfl rfl rfl (by decide +kernel) ⟨Nat.le_of_ble_eq_true rfl, Nat.le_of_ble_eq_true rfl⟩) hK hP hD hS hA (q0 := 0) (ci := 0) rfl rfl [0, 1, 2, 3, 4, 5, 6, 7, 8, 9, 10] rfl (by decide) rfl rfl rfl hl.1 rfl (Nat.le_of_ble_eq_true rfl) dX0_flowOn_21 ⟨Nat.le_of_ble_eq_true rfl, Nat.le_of_ble_eq_true rfl⟩ (fun H locs hP hD hS => ?_)
    refine W.eq (g2 := F0 m 24 ls [.int v_24, .int 5000]) rfl ?_
    refine lv_isub hx hb dX0_flowOn_24 ?_
    refine lv_aload_n hx hb dX0_flowOn_25 rfl (lv_at hl 3 rfl) ?_
    refine va_get (D := D) (ci := 0) (v := .ref (a 1)) (C := RX0) (T := TX0) (N := 12) hx hb hts w_1 hown hK hP 0 rfl rfl 1 (by decide) w_6 (fun _ h9 => h9) rfl dX0_flowOn_26 ?_
    refine lv_iconst (v := 1) hx hb dX0_flowOn_29 (by decide) ?_
    refine va_iald hx hb hK hP 1 0 rfl rfl (inb_vp (by decide)) dX0_flowOn_30 ?_
    refine W.eq (g2 := F0 m 31 ls [.int ((s_set S) 1), .int (5000 - v_24)]) rfl ?_
    refine lv_aload_n hx hb dX0_flowOn_31 rfl (lv_at hl 3 rfl) ?_
    refine va_get (D := D) (ci := 0) (v := .ref (a 1)) (C := RX0) (T := TX0) (N := 12) hx hb hts w_1 hown hK hP 0 rfl rfl 1 (by decide) w_6 (fun _ h9 => h9) rfl dX0_flowOn_32 ?_
    refine lv_iconst (v := 2) hx hb dX0_flowOn_35 (by decide) ?_
    refine va_iald hx hb hK hP 1 0 rfl rfl (inb_vp (by decide)) dX0_flowOn_36 ?_
    refine W.eq (g2 := F0 m 37 ls [.int ((s_set S) 2), .int ((s_set S) 1), .int (5000 - v_24)]) rfl ?_
    refine lv_iadd hx hb dX0_flowOn_37 ?_
    refine lv_icmp_ge (tgt := 55) hx hb dX0_flowOn_38 (by decide) (fun c_26 => ?_) (fun c_26 => ?_)
    · have h := it_l c_26 h
      refine lv_aload_n hx hb dX0_flowOn_55 rfl (lv_at hl 3 rfl) ?_
      refine va_get (D := D) (ci := 0) (v := .ref (a 1)) (C := RX0) (T := TX0) (N := 12) hx hb hts w_1 hown hK hP 0 rfl rfl 1 (by decide) w_6 (fun _ h9 => h9) rfl dX0_flowOn_56 ?_
      refine lv_iconst (v := 1) hx hb dX0_flowOn_59 (by decide) ?_
      refine va_iald hx hb hK hP 1 0 rfl rfl (inb_vp (by decide)) dX0_flowOn_60 ?_
      refine W.eq (g2 := F0 m 61 ls [.int ((s_set S) 1)]) rfl ?_
      refine lv_topi (fun v_27 ev_27 => ?_)
      have h := nm_l h ev_27
      refine lv_istore_n (lv' := [(1, .int v_27), (3, .int v_21), (2, .int 0), (0, .ref (a 0))]) hx hb dX0_flowOn_61 rfl hl (by decide) rfl (fun ls hl => ?_)
      refine lv_aload_n hx hb dX0_flowOn_62 rfl (lv_at hl 3 rfl) ?_
      refine va_get (D := D) (ci := 0) (v := .ref (a 1)) (C := RX0) (T := TX0) (N := 12) hx hb hts w_1 hown hK hP 0 rfl rfl 1 (by decide) w_6 (fun _ h9 => h9) rfl dX0_flowOn_63 ?_
      refine lv_iconst (v := 2) hx hb dX0_flowOn_66 (by decide) ?_
      refine va_iald hx hb hK hP 1 0 rfl rfl (inb_vp (by decide)) dX0_flowOn_67 ?_
      refine W.eq (g2 := F0 m 68 ls [.int ((s_set S) 2)]) rfl ?_
      refine lv_topi (fun v_28 ev_28 => ?_)
      have h := nm_l h ev_28
      refine lv_istore_n (lv' := [(2, .int v_28), (1, .int v_27), (3, .int v_21), (0, .ref (a 0))]) hx hb dX0_flowOn_68 rfl hl (by decide) rfl (fun ls hl => ?_)
      refine lv_aload_n hx hb dX0_flowOn_69 rfl (lv_at hl 3 rfl) ?_
      refine va_get (D := D) (ci := 0) (v := .ref (a 2)) (C := RX0) (T := TX0) (N := 12) hx hb hts w_1 hown hK hP 0 rfl rfl 3 (by decide) w_4 (fun _ h9 => h9) rfl dX0_flowOn_70 ?_
      refine lv_iconst (v := 5) hx hb dX0_flowOn_73 (by decide) ?_
      refine lv_dup2_11 hx hb dX0_flowOn_74 rfl rfl ?_
      refine va_iald hx hb hK hP 2 0 rfl rfl (inb_vp (by decide)) dX0_flowOn_75 ?_
      refine W.eq (g2 := F0 m 76 ls [.int ((s_cou S) 5), .int 5, .ref (a 2)]) rfl ?_
      refine lv_iload_n hx hb dX0_flowOn_76 rfl (lv_at hl 1 rfl) ?_
      refine lv_iadd hx hb dX0_flowOn_77 ?_
      refine va_iast hx hb hK hP hD hS 2 0 rfl rfl (inb_vp (by decide)) dX0_flowOn_78 (fun H locs hP hD hS => ?_)
      obtain ⟨q_29, eq_29⟩ : ∃ y : StV, y = su_cou S (upd (s_cou S) 5 (((s_cou S) 5) + v_27)) := ⟨_, rfl⟩
      have hP : va_P D vwCl (stW k a q_29) H := by rw [eq_29, ← st_set_cou k a S _]; exact hP
      have hD : va_D A (stW k a q_29) := by rw [eq_29, ← st_set_cou k a S _]; exact hD
      have h := nm_l h eq_29
      refine lv_aload_n hx hb dX0_flowOn_79 rfl (lv_at hl 3 rfl) ?_
      refine va_get (D := D) (ci := 0) (v := .ref (a 2)) (C := RX0) (T := TX0) (N := 12) hx hb hts w_1 hown hK hP 0 rfl rfl 3 (by decide) w_4 (fun _ h9 => h9) rfl dX0_flowOn_80 ?_
      refine lv_bipush (v := 6) hx hb dX0_flowOn_83 (by decide) ?_
      refine lv_dup2_11 hx hb dX0_flowOn_85 rfl rfl ?_
      refine va_iald hx hb hK hP 2 0 rfl rfl (inb_vp (by decide)) dX0_flowOn_86 ?_
      refine W.eq (g2 := F0 m 87 ls [.int ((s_cou q_29) 6), .int 6, .ref (a 2)]) rfl ?_
      refine lv_iload_n hx hb dX0_flowOn_87 rfl (lv_at hl 0 rfl) ?_
      refine lv_iadd hx hb dX0_flowOn_88 ?_
      refine va_iast hx hb hK hP hD hS 2 0 rfl rfl (inb_vp (by decide)) dX0_flowOn_89 (fun H locs hP hD hS => ?_)
      obtain ⟨q_30, eq_30⟩ : ∃ y : StV, y = su_cou q_29 (upd (s_cou q_29) 6 (((s_cou q_29) 6) + v_28)) := ⟨_, rfl⟩
      have hP : va_P D vwCl (stW k a q_30) H := by rw [eq_30, ← st_set_cou k a q_29 _]; exact hP
      have hD : va_D A (stW k a q_30) := by rw [eq_30, ← st_set_cou k a q_29 _]; exact hD
      have h := nm_l h eq_30
      refine lv_iconst (v := 0) hx hb dX0_flowOn_90 (by decide) ?_
      refine lv_istore (lv' := [(4, .int 0), (2, .int v_28), (1, .int v_27), (3, .int v_21), (0, .ref (a 0))]) hx hb dX0_flowOn_91 hl (by decide) rfl (fun ls hl => ?_)
      exact hC_93 2000 v_27 v_28 0 q_30 _ _ _ hP hD hS (lv_sub hl [4, 2, 1, 0] rfl) h
    · have h := it_r c_26 h
      exact hC_41 0 0 _ _ _ hP hD hS (lv_sub hl [3, 2, 1] rfl) h
def f_X0_washOn_2 : Nat → Int32 → StV → Option (StV)
  | 0, _, _ => none
  | fu + 1, x1_2, S_2 => if (s_n S_2) ≤ x1_2 then (some (S_2)) else (gb (inb x1_2 6) <| if ((s_lef S_2) x1_2.toNatClampNeg) ≤ 0 then ((f_X0_washOn_2 fu) (x1_2 + 1) S_2) else (gb (inb x1_2 6) <| nm (mx 0 (((s_sca S_2) x1_2.toNatClampNeg) - 5)) fun v_5 => gb (inb x1_2 6) <| nm (su_sca S_2 (upd (s_sca S_2) x1_2.toNatClampNeg v_5)) fun q_7 => gb (inb x1_2 6) <| gb (inb x1_2 6) <| nm (su_lef q_7 (upd (s_lef q_7) x1_2.toNatClampNeg (((s_lef q_7) x1_2.toNatClampNeg) - 1))) fun q_10 => (f_X0_washOn_2 fu) (x1_2 + 1) q_10))
def f_X0_washOn (S : StV) : Option (StV) := f_X0_washOn_2 2000 0 S
set_option maxRecDepth 100000 in
set_option maxHeartbeats 4000000 in
theorem c_X0_washOn (l : Launch) (D : va_G) (k : Nat → ClassId) (a : Nat → Nat) (S : StV) (o0 : StV) (h : f_X0_washOn S = some (o0)) : Ck l D (tyK k) yX0_washOn wsX0_washOn ({ frames := 1, cells := 0, slots := 0, locals := 17 } : Room) [.ref (a 0)] (stW k a S) none (stW k a o0) := by
  refine Ck_of (cc := cX0_washOn) (maxL := 2) (ret := none) (by decide) rfl (Nat.le_of_ble_eq_true rfl) ?_
  intro p e s m args below meth c A ls hx hb hr hml hts hown hlocks hK hA hP hD hS hl
  have hl : lv_has ls 2 [(0, .ref (a 0))] := hl
  have hP : va_P D vwCl (stW k a S) s.heap := hP
  have w_0 := hts (.fieldLink RX0 9 "EffectTrain$State" "n" "I") (by decide +kernel)
  have w_1 : ∀ w ∈ wsX00, w ∈ wsX0_washOn := by decide +kernel
  have w_2 := hts (.fieldLink RX0 46 "EffectTrain$State" "left" "[I") (by decide +kernel)
  have w_3 := hts (.fieldLink RX0 40 "EffectTrain$State" "scale" "[I") (by decide +kernel)
  have w_4 := hts (.methodLink RX0 102 Lib.Math.max.name) (by decide +kernel)
  have w_5 := hts (.static Lib.Math.max.name) (by decide +kernel)
  have w_6 := hts (.initialized "java/lang/Math") (by decide +kernel)
  have w_7 := hts (.code Lib.Math.max.name Lib.Math.max.code 2 (some .int)) (by decide +kernel)
  unfold f_X0_washOn at h
  have hC_2 : ∀ (fu_2 : Nat) (x1_2 : Int32) (S_2 : StV) (H : Heap) (locs : List Loc) (ls : Array Slot), va_P D vwCl (stW k a S_2) H → va_D A (stW k a S_2) → va_S A s.heap H locs → lv_has ls 2 [(0, .ref (a 0)), (1, .int x1_2)] → f_X0_washOn_2 fu_2 x1_2 S_2 = some (o0) → W p l e ({ frames := 1, cells := 0, slots := 0, locals := 17 } : Room) s m args below meth c H locs 0 0 (MQ below (Qk D A none (stW k a o0)) args s 0 0 A) (F0 m 2 ls []) := by
    intro fu_2
    induction fu_2 with
    | zero => intro x1_2 S_2 H locs ls _ _ _ _ h; exact (no_l h).elim
    | succ fu_2 ih_2 =>
      intro x1_2 S_2 H locs ls hP hD hS hl h
      rw [f_X0_washOn_2] at h
      refine lv_iload_n hx hb dX0_washOn_2 rfl (lv_at hl 1 rfl) ?_
      refine lv_aload_n hx hb dX0_washOn_3 rfl (lv_at hl 0 rfl) ?_
      refine va_get (D := D) (ci := 0) (v := .int (s_n S_2)) (C := RX0) (T := TX0) (N := 12) hx hb hts w_1 hown hK hP 0 rfl rfl 0 (by decide) w_0 (fun _ h9 => h9) rfl dX0_washOn_4 ?_
      refine lv_icmp_ge (tgt := 53) hx hb dX0_washOn_7 (by decide) (fun c_1 => ?_) (fun c_1 => ?_)
      · have h := it_l c_1 h
        cases h
        exact Ck_vret hx hb hr hP hD hS dX0_washOn_53 hlocks
      · have h := it_r c_1 h
        refine lv_aload_n hx hb dX0_washOn_10 rfl (lv_at hl 0 rfl) ?_
        refine va_get (D := D) (ci := 0) (v := .ref (a 10)) (C := RX0) (T := TX0) (N := 12) hx hb hts w_1 hown hK hP 0 rfl rfl 11 (by decide) w_2 (fun _ h9 => h9) rfl dX0_washOn_11 ?_
        refine lv_iload_n hx hb dX0_washOn_14 rfl (lv_at hl 1 rfl) ?_
        have g_2 := inb_vp (gb_l h)
        have h := gb_r h
        refine va_iald hx hb hK hP 10 0 rfl rfl g_2 dX0_washOn_15 ?_
        refine lv_if_le (tgt := 47) hx hb dX0_washOn_16 (by decide) (fun c_3 => ?_) (fun c_3 => ?_)
        · have h := it_l c_3 h
          refine lv_iinc (v := (x1_2 + 1)) (lv' := [(1, .int (x1_2 + 1)), (0, .ref (a 0))]) hx hb dX0_washOn_47 hl (k := 1) rfl rfl (by decide) rfl (fun ls hl => ?_)
          refine lv_goto (tgt := 2) hx hb dX0_washOn_50 (by decide) ?_
          exact ih_2 (x1_2 + 1) S_2 _ _ _ hP hD hS (lv_sub hl [1, 0] rfl) h
        · have h := it_r c_3 h
          refine lv_aload_n hx hb dX0_washOn_19 rfl (lv_at hl 0 rfl) ?_
          refine va_get (D := D) (ci := 0) (v := .ref (a 8)) (C := RX0) (T := TX0) (N := 12) hx hb hts w_1 hown hK hP 0 rfl rfl 9 (by decide) w_3 (fun _ h9 => h9) rfl dX0_washOn_20 ?_
          refine lv_iload_n hx hb dX0_washOn_23 rfl (lv_at hl 1 rfl) ?_
          refine lv_iconst (v := 0) hx hb dX0_washOn_24 (by decide) ?_
          refine lv_aload_n hx hb dX0_washOn_25 rfl (lv_at hl 0 rfl) ?_
          refine va_get (D := D) (ci := 0) (v := .ref (a 8)) (C := RX0) (T := TX0) (N := 12) hx hb hts w_1 hown hK hP 0 rfl rfl 9 (by decide) w_3 (fun _ h9 => h9) rfl dX0_washOn_26 ?_
          refine lv_iload_n hx hb dX0_washOn_29 rfl (lv_at hl 1 rfl) ?_
          have g_4 := inb_vp (gb_l h)
          have h := gb_r h
          refine va_iald hx hb hK hP 8 0 rfl rfl g_4 dX0_washOn_30 ?_
          refine lv_iconst (v := 5) hx hb dX0_washOn_31 (by decide) ?_
          refine lv_isub hx hb dX0_washOn_32 ?_
          refine va_mmax hx hb (hml.trans hl.1.symm) hown w_4 w_5 w_6 w_7 (Nat.le_of_ble_eq_true rfl) (Nat.le_of_ble_eq_true rfl) (Nat.le_of_ble_eq_true rfl) (Nat.le_of_ble_eq_true rfl) dX0_washOn_33 ?_
          refine lv_topi (fun v_5 ev_5 => ?_)
          have h := nm_l h ev_5
          have g_6 := inb_vp (gb_l h)
          have h := gb_r h
          refine va_iast hx hb hK hP hD hS 8 0 rfl rfl g_6 dX0_washOn_36 (fun H locs hP hD hS => ?_)
          obtain ⟨q_7, eq_7⟩ : ∃ y : StV, y = su_sca S_2 (upd (s_sca S_2) x1_2.toNatClampNeg v_5) := ⟨_, rfl⟩
          have hP : va_P D vwCl (stW k a q_7) H := by rw [eq_7, ← st_set_sca k a S_2 _]; exact hP
          have hD : va_D A (stW k a q_7) := by rw [eq_7, ← st_set_sca k a S_2 _]; exact hD
          have h := nm_l h eq_7
          refine lv_aload_n hx hb dX0_washOn_37 rfl (lv_at hl 0 rfl) ?_
          refine va_get (D := D) (ci := 0) (v := .ref (a 10)) (C := RX0) (T := TX0) (N := 12) hx hb hts w_1 hown hK hP 0 rfl rfl 11 (by decide) w_2 (fun _ h9 => h9) rfl dX0_washOn_38 ?_
          refine lv_iload_n hx hb dX0_washOn_41 rfl (lv_at hl 1 rfl) ?_
          refine lv_dup2_11 hx hb dX0_washOn_42 rfl rfl ?_
          have g_8 := inb_vp (gb_l h)
          have h := gb_r h
          refine va_iald hx hb hK hP 10 0 rfl rfl g_8 dX0_washOn_43 ?_
          refine lv_iconst (v := 1) hx hb dX0_washOn_44 (by decide) ?_
          refine lv_isub hx hb dX0_washOn_45 ?_
          have g_9 := inb_vp (gb_l h)
          have h := gb_r h
          refine va_iast hx hb hK hP hD hS 10 0 rfl rfl g_9 dX0_washOn_46 (fun H locs hP hD hS => ?_)
          obtain ⟨q_10, eq_10⟩ : ∃ y : StV, y = su_lef q_7 (upd (s_lef q_7) x1_2.toNatClampNeg (((s_lef q_7) x1_2.toNatClampNeg) - 1)) := ⟨_, rfl⟩
          have hP : va_P D vwCl (stW k a q_10) H := by rw [eq_10, ← st_set_lef k a q_7 _]; exact hP
          have hD : va_D A (stW k a q_10) := by rw [eq_10, ← st_set_lef k a q_7 _]; exact hD
          have h := nm_l h eq_10
          refine lv_iinc (v := (x1_2 + 1)) (lv' := [(1, .int (x1_2 + 1)), (0, .ref (a 0))]) hx hb dX0_washOn_47 hl (k := 1) rfl rfl (by decide) rfl (fun ls hl => ?_)
          refine lv_goto (tgt := 2) hx hb dX0_washOn_50 (by decide) ?_
          exact ih_2 (x1_2 + 1) q_10 _ _ _ hP hD hS (lv_sub hl [1, 0] rfl) h
  refine lv_iconst (v := 0) hx hb dX0_washOn_0 (by decide) ?_
  refine lv_istore_n (lv' := [(1, .int 0), (0, .ref (a 0))]) hx hb dX0_washOn_1 rfl hl (by decide) rfl (fun ls hl => ?_)
  exact hC_2 2000 0 S _ _ _ hP hD hS (lv_sub hl [1, 0] rfl) h
def f_X0_pass_9 (p1 : Int32) : Nat → Int32 → Int32 → StV → Option (Int32 × StV)
  | 0, _, _, _ => none
  | fu + 1, x2_9, x3_9, S_9 => if p1 ≤ x3_9 then (some ((((s_cou S_9) 1) - x2_9), S_9)) else (bd (f_X0_beginWashInTurn S_9) fun q_2 => bd (f_X0_boilAll q_2) fun q_4 => bd (f_X0_flowOn q_4) fun q_6 => bd (f_X0_washOn q_6) fun q_8 => nm ((s_clk q_8) + 1) fun v_10 => nm (su_clk q_8 v_10) fun q_11 => (f_X0_pass_9 p1 fu) x2_9 (x3_9 + 1) q_11)
def f_X0_pass (S : StV) (p1 : Int32) : Option (Int32 × StV) := nm ((s_cou S) 1) fun v_12 => f_X0_pass_9 p1 2000 v_12 0 S
set_option maxRecDepth 100000 in
set_option maxHeartbeats 4000000 in
theorem c_X0_pass (l : Launch) (D : va_G) (k : Nat → ClassId) (a : Nat → Nat) (S : StV) (p1 : Int32) (o0 : Int32) (o1 : StV) (h : f_X0_pass S p1 = some (o0, o1)) : Ck l D (tyK k) yX0_pass wsX0_pass ({ frames := 3, cells := 0, slots := 0, locals := 73 } : Room) [.ref (a 0), .int p1] (stW k a S) (some (.int o0)) (stW k a o1) := by
  refine Ck_of (cc := cX0_pass) (maxL := 4) (ret := (some .int)) (by decide) rfl (Nat.le_of_ble_eq_true rfl) ?_
  intro p e s m args below meth c A ls hx hb hr hml hts hown hlocks hK hA hP hD hS hl
  have hl : lv_has ls 4 [(0, .ref (a 0)), (1, .int p1)] := hl
  have hP : va_P D vwCl (stW k a S) s.heap := hP
  have w_0 := hts (.fieldLink RX0 22 "EffectTrain$State" "counts" "[I") (by decide +kernel)
  have w_1 : ∀ w ∈ wsX00, w ∈ wsX0_pass := by decide +kernel
  have w_2 := hts (.fieldLink RX0 19 "EffectTrain$State" "clock" "I") (by decide +kernel)
  unfold f_X0_pass at h
  have hC_9 : ∀ (fu_9 : Nat) (x2_9 : Int32) (x3_9 : Int32) (S_9 : StV) (H : Heap) (locs : List Loc) (ls : Array Slot), va_P D vwCl (stW k a S_9) H → va_D A (stW k a S_9) → va_S A s.heap H locs → lv_has ls 4 [(0, .ref (a 0)), (1, .int p1), (2, .int x2_9), (3, .int x3_9)] → f_X0_pass_9 p1 fu_9 x2_9 x3_9 S_9 = some (o0, o1) → W p l e ({ frames := 3, cells := 0, slots := 0, locals := 73 } : Room) s m args below meth c H locs 0 0 (MQ below (Qk D A (some (.int o0)) (stW k a o1)) args s 0 0 A) (F0 m 9 ls []) := by
    intro fu_9
    induction fu_9 with
    | zero => intro x2_9 x3_9 S_9 H locs ls _ _ _ _ h; exact (no_l h).elim
    | succ fu_9 ih_9 =>
      intro x2_9 x3_9 S_9 H locs ls hP hD hS hl h
      rw [f_X0_pass_9] at h
      refine lv_iload_n hx hb dX0_pass_9 rfl (lv_at hl 3 rfl) ?_
      refine lv_iload_n hx hb dX0_pass_10 rfl (lv_at hl 1 rfl) ?_
      refine lv_icmp_ge (tgt := 46) hx hb dX0_pass_11 (by decide) (fun c_1 => ?_) (fun c_1 => ?_)
      · have h := it_l c_1 h
        refine lv_aload_n hx hb dX0_pass_46 rfl (lv_at hl 0 rfl) ?_
        refine va_get (D := D) (ci := 0) (v := .ref (a 2)) (C := RX0) (T := TX0) (N := 12) hx hb hts w_1 hown hK hP 0 rfl rfl 3 (by decide) w_0 (fun _ h9 => h9) rfl dX0_pass_47 ?_
        refine lv_iconst (v := 1) hx hb dX0_pass_50 (by decide) ?_
        refine va_iald hx hb hK hP 2 0 rfl rfl (inb_vp (by decide)) dX0_pass_51 ?_
        refine W.eq (g2 := F0 m 52 ls [.int ((s_cou S_9) 1)]) rfl ?_
        refine lv_iload_n hx hb dX0_pass_52 rfl (lv_at hl 2 rfl) ?_
        refine lv_isub hx hb dX0_pass_53 ?_
        cases h
        exact Ck_iret hx hb hr hP hD hS dX0_pass_54 hlocks
      · have h := it_r c_1 h
        refine lv_aload_n hx hb dX0_pass_14 rfl (lv_at hl 0 rfl) ?_
        obtain ⟨q_2, hv_3, h⟩ := bd_l h
        refine Ck_V (As := []) (rest := []) (wc := stW k a S_9) (wc' := stW k a q_2) (w0' := stW k a q_2) ⟨hx, hb, hml, hown, hts⟩ (c_X0_beginWashInTurn l D k a S_9 q_2 hv_3) (cwV 0 hts gX0_pass_X0_beginWashInTurn rfl rfl rfl (by decide +kernel) ⟨Nat.le_of_ble_eq_true rfl, Nat.le_of_ble_eq_true rfl⟩) hK hP hD hS hA (q0 := 0) (ci := 0) rfl rfl [0, 1, 2, 3, 4, 5, 6, 7, 8, 9, 10] rfl (by decide) rfl rfl rfl hl.1 rfl (Nat.le_of_ble_eq_true rfl) dX0_pass_15 ⟨Nat.le_of_ble_eq_true rfl, Nat.le_of_ble_eq_true rfl⟩ (fun H locs hP hD hS => ?_)
        refine W.eq (g2 := F0 m 18 ls []) rfl ?_
        refine lv_aload_n hx hb dX0_pass_18 rfl (lv_at hl 0 rfl) ?_
        obtain ⟨q_4, hv_5, h⟩ := bd_l h
        refine Ck_V (As := []) (rest := []) (wc := stW k a q_2) (wc' := stW k a q_4) (w0' := stW k a q_4) ⟨hx, hb, hml, hown, hts⟩ (c_X0_boilAll l D k a q_2 q_4 hv_5) (cwV 0 hts gX0_pass_X0_boilAll rfl rfl rfl (by decide +kernel) ⟨Nat.le_of_ble_eq_true rfl, Nat.le_of_ble_eq_true rfl⟩) hK hP hD hS hA (q0 := 0) (ci := 0) rfl rfl [0, 1, 2, 3, 4, 5, 6, 7, 8, 9, 10] rfl (by decide) rfl rfl rfl hl.1 rfl (Nat.le_of_ble_eq_true rfl) dX0_pass_19 ⟨Nat.le_of_ble_eq_true rfl, Nat.le_of_ble_eq_true rfl⟩ (fun H locs hP hD hS => ?_)
        refine W.eq (g2 := F0 m 22 ls []) rfl ?_
        refine lv_aload_n hx hb dX0_pass_22 rfl (lv_at hl 0 rfl) ?_
        obtain ⟨q_6, hv_7, h⟩ := bd_l h
        refine Ck_V (As := []) (rest := []) (wc := stW k a q_4) (wc' := stW k a q_6) (w0' := stW k a q_6) ⟨hx, hb, hml, hown, hts⟩ (c_X0_flowOn l D k a q_4 q_6 hv_7) (cwV 0 hts gX0_pass_X0_flowOn rfl rfl rfl (by decide +kernel) ⟨Nat.le_of_ble_eq_true rfl, Nat.le_of_ble_eq_true rfl⟩) hK hP hD hS hA (q0 := 0) (ci := 0) rfl rfl [0, 1, 2, 3, 4, 5, 6, 7, 8, 9, 10] rfl (by decide) rfl rfl rfl hl.1 rfl (Nat.le_of_ble_eq_true rfl) dX0_pass_23 ⟨Nat.le_of_ble_eq_true rfl, Nat.le_of_ble_eq_true rfl⟩ (fun H locs hP hD hS => ?_)
        refine W.eq (g2 := F0 m 26 ls []) rfl ?_
        refine lv_aload_n hx hb dX0_pass_26 rfl (lv_at hl 0 rfl) ?_
        obtain ⟨q_8, hv_9, h⟩ := bd_l h
        refine Ck_V (As := []) (rest := []) (wc := stW k a q_6) (wc' := stW k a q_8) (w0' := stW k a q_8) ⟨hx, hb, hml, hown, hts⟩ (c_X0_washOn l D k a q_6 q_8 hv_9) (cwV 0 hts gX0_pass_X0_washOn rfl rfl rfl (by decide +kernel) ⟨Nat.le_of_ble_eq_true rfl, Nat.le_of_ble_eq_true rfl⟩) hK hP hD hS hA (q0 := 0) (ci := 0) rfl rfl [0, 1, 2, 3, 4, 5, 6, 7, 8, 9, 10] rfl (by decide) rfl rfl rfl hl.1 rfl (Nat.le_of_ble_eq_true rfl) dX0_pass_27 ⟨Nat.le_of_ble_eq_true rfl, Nat.le_of_ble_eq_true rfl⟩ (fun H locs hP hD hS => ?_)
        refine W.eq (g2 := F0 m 30 ls []) rfl ?_
        refine lv_aload_n hx hb dX0_pass_30 rfl (lv_at hl 0 rfl) ?_
        refine lv_dup hx hb dX0_pass_31 rfl ?_
        refine va_get (D := D) (ci := 0) (v := .int (s_clk q_8)) (C := RX0) (T := TX0) (N := 12) hx hb hts w_1 hown hK hP 0 rfl rfl 2 (by decide) w_2 (fun _ h9 => h9) rfl dX0_pass_32 ?_
        refine lv_iconst (v := 1) hx hb dX0_pass_35 (by decide) ?_
        refine lv_iadd hx hb dX0_pass_36 ?_
        refine lv_topi (fun v_10 ev_10 => ?_)
        have h := nm_l h ev_10
        refine va_put (D := D) (ci := 0) (v := .int v_10) (ty := .int) (C := RX0) (T := TX0) (N := 12) hx hb hts w_1 tyX0 tyX0_ok nmX0 hown hK hP hD hS 0 rfl rfl 2 (by decide) w_2 (fun _ h9 => h9) rfl (by decide +kernel) rfl rfl (Nat.le_of_ble_eq_true rfl) dX0_pass_37 (fun H locs hP hD hS => ?_)
        obtain ⟨q_11, eq_11⟩ : ∃ y : StV, y = su_clk q_8 v_10 := ⟨_, rfl⟩
        have hP : va_P D vwCl (stW k a q_11) H := by rw [eq_11, ← st_set_clk k a q_8 _]; exact hP
        have hD : va_D A (stW k a q_11) := by rw [eq_11, ← st_set_clk k a q_8 _]; exact hD
        have h := nm_l h eq_11
        refine lv_iinc (v := (x3_9 + 1)) (lv' := [(3, .int (x3_9 + 1)), (0, .ref (a 0)), (1, .int p1), (2, .int x2_9)]) hx hb dX0_pass_40 hl (k := 3) rfl rfl (by decide) rfl (fun ls hl => ?_)
        refine lv_goto (tgt := 9) hx hb dX0_pass_43 (by decide) ?_
        exact ih_9 x2_9 (x3_9 + 1) q_11 _ _ _ hP hD hS (lv_sub hl [1, 2, 3, 0] rfl) h
  refine lv_aload_n hx hb dX0_pass_0 rfl (lv_at hl 0 rfl) ?_
  refine va_get (D := D) (ci := 0) (v := .ref (a 2)) (C := RX0) (T := TX0) (N := 12) hx hb hts w_1 hown hK hP 0 rfl rfl 3 (by decide) w_0 (fun _ h9 => h9) rfl dX0_pass_1 ?_
  refine lv_iconst (v := 1) hx hb dX0_pass_4 (by decide) ?_
  refine va_iald hx hb hK hP 2 0 rfl rfl (inb_vp (by decide)) dX0_pass_5 ?_
  refine W.eq (g2 := F0 m 6 ls [.int ((s_cou S) 1)]) rfl ?_
  refine lv_topi (fun v_12 ev_12 => ?_)
  have h := nm_l h ev_12
  refine lv_istore_n (lv' := [(2, .int v_12), (0, .ref (a 0)), (1, .int p1)]) hx hb dX0_pass_6 rfl hl (by decide) rfl (fun ls hl => ?_)
  refine lv_iconst (v := 0) hx hb dX0_pass_7 (by decide) ?_
  refine lv_istore_n (lv' := [(3, .int 0), (2, .int v_12), (0, .ref (a 0)), (1, .int p1)]) hx hb dX0_pass_8 rfl hl (by decide) rfl (fun ls hl => ?_)
  exact hC_9 2000 v_12 0 S _ _ _ hP hD hS (lv_sub hl [2, 3, 1, 0] rfl) h
def f_X0_copyFrom (S : StV) (O : StV) : Option (StV) := nm (s_n O) fun v_1 => nm (su_n S v_1) fun q_2 => nm (s_clk O) fun v_3 => nm (su_clk q_2 v_3) fun q_4 => nm (su_set q_4 (va_cpy (s_set O) (s_set q_4) 0 0 5)) fun q_5 => nm (su_cou q_5 (va_cpy (s_cou O) (s_cou q_5) 0 0 10)) fun q_6 => nm (su_are q_6 (va_cpy (s_are O) (s_are q_6) 0 0 6)) fun q_7 => nm (su_wat q_7 (va_cpy (s_wat O) (s_wat q_7) 0 0 6)) fun q_8 => nm (su_sol q_8 (va_cpy (s_sol O) (s_sol q_8) 0 0 6)) fun q_9 => nm (su_val q_9 (va_cpy (s_val O) (s_val q_9) 0 0 6)) fun q_10 => nm (su_ble q_10 (va_cpy (s_ble O) (s_ble q_10) 0 0 6)) fun q_11 => nm (su_sca q_11 (va_cpy (s_sca O) (s_sca q_11) 0 0 6)) fun q_12 => nm (su_scl q_12 (va_cpy (s_scl O) (s_scl q_12) 0 0 6)) fun q_13 => nm (su_lef q_13 (va_cpy (s_lef O) (s_lef q_13) 0 0 6)) fun q_14 => some (q_14)
set_option maxRecDepth 100000 in
set_option maxHeartbeats 4000000 in
theorem c_X0_copyFrom (l : Launch) (D : va_G) (k : Nat → ClassId) (a : Nat → Nat) (b : Nat → Nat) (S : StV) (O : StV) (o0 : StV) (h : f_X0_copyFrom S O = some (o0)) : Ck l D (tyK k) yX0_copyFrom wsX0_copyFrom ({ frames := 1, cells := 0, slots := 0, locals := 60 } : Room) [.ref (a 0), .ref (b 0)] (stW k a S ++ stW k b O) none (stW k a o0 ++ stW k b O) := by
  refine Ck_of (cc := cX0_copyFrom) (maxL := 2) (ret := none) (by decide) rfl (Nat.le_of_ble_eq_true rfl) ?_
  intro p e s m args below meth c A ls hx hb hr hml hts hown hlocks hK hA hP hD hS hl
  have hl : lv_has ls 2 [(0, .ref (a 0)), (1, .ref (b 0))] := hl
  have hP : va_P D vwCl (stW k a S ++ stW k b O) s.heap := hP
  have w_0 := hts (.fieldLink RX0 9 "EffectTrain$State" "n" "I") (by decide +kernel)
  have w_1 : ∀ w ∈ wsX00, w ∈ wsX0_copyFrom := by decide +kernel
  have w_2 := hts (.fieldLink RX0 19 "EffectTrain$State" "clock" "I") (by decide +kernel)
  have w_3 := hts (.fieldLink RX0 15 "EffectTrain$State" "settings" "[I") (by decide +kernel)
  have w_4 := hts (.methodLink RX0 55 arraycopyName) (by decide +kernel)
  have w_5 := hts (.native arraycopyName) (by decide +kernel)
  have w_6 := hts (.static arraycopyName) (by decide +kernel)
  have w_7 := hts (.initialized "java/lang/System") (by decide +kernel)
  have w_8 := hts (.fieldLink RX0 22 "EffectTrain$State" "counts" "[I") (by decide +kernel)
  have w_9 := hts (.fieldLink RX0 25 "EffectTrain$State" "area" "[I") (by decide +kernel)
  have w_10 := hts (.fieldLink RX0 28 "EffectTrain$State" "water" "[I") (by decide +kernel)
  have w_11 := hts (.fieldLink RX0 31 "EffectTrain$State" "solids" "[I") (by decide +kernel)
  have w_12 := hts (.fieldLink RX0 34 "EffectTrain$State" "valve" "[I") (by decide +kernel)
  have w_13 := hts (.fieldLink RX0 37 "EffectTrain$State" "bleed" "[I") (by decide +kernel)
  have w_14 := hts (.fieldLink RX0 40 "EffectTrain$State" "scale" "[I") (by decide +kernel)
  have w_15 := hts (.fieldLink RX0 43 "EffectTrain$State" "scaling" "[I") (by decide +kernel)
  have w_16 := hts (.fieldLink RX0 46 "EffectTrain$State" "left" "[I") (by decide +kernel)
  unfold f_X0_copyFrom at h
  refine lv_aload_n hx hb dX0_copyFrom_0 rfl (lv_at hl 0 rfl) ?_
  refine lv_aload_n hx hb dX0_copyFrom_1 rfl (lv_at hl 1 rfl) ?_
  refine va_get (D := D) (ci := 0) (v := .int (s_n O)) (C := RX0) (T := TX0) (N := 12) hx hb hts w_1 hown hK hP 11 rfl rfl 0 (by decide) w_0 (fun _ h9 => h9) rfl dX0_copyFrom_2 ?_
  refine lv_topi (fun v_1 ev_1 => ?_)
  have h := nm_l h ev_1
  refine va_put (D := D) (ci := 0) (v := .int v_1) (ty := .int) (C := RX0) (T := TX0) (N := 12) hx hb hts w_1 tyX0 tyX0_ok nmX0 hown hK hP hD hS 0 rfl rfl 0 (by decide) w_0 (fun _ h9 => h9) rfl (by decide +kernel) rfl rfl (Nat.le_of_ble_eq_true rfl) dX0_copyFrom_5 (fun H locs hP hD hS => ?_)
  obtain ⟨q_2, eq_2⟩ : ∃ y : StV, y = su_n S v_1 := ⟨_, rfl⟩
  have hP : va_P D vwCl (stW k a q_2 ++ stW k b O) H := by rw [eq_2, ← st_set_n k a S _, ← set_appL1 (Nat.le_of_ble_eq_true rfl)]; exact hP
  have hD : va_D A (stW k a q_2 ++ stW k b O) := by rw [eq_2, ← st_set_n k a S _, ← set_appL1 (Nat.le_of_ble_eq_true rfl)]; exact hD
  have h := nm_l h eq_2
  refine lv_aload_n hx hb dX0_copyFrom_8 rfl (lv_at hl 0 rfl) ?_
  refine lv_aload_n hx hb dX0_copyFrom_9 rfl (lv_at hl 1 rfl) ?_
  refine va_get (D := D) (ci := 0) (v := .int (s_clk O)) (C := RX0) (T := TX0) (N := 12) hx hb hts w_1 hown hK hP 11 rfl rfl 2 (by decide) w_2 (fun _ h9 => h9) rfl dX0_copyFrom_10 ?_
  refine lv_topi (fun v_3 ev_3 => ?_)
  have h := nm_l h ev_3
  refine va_put (D := D) (ci := 0) (v := .int v_3) (ty := .int) (C := RX0) (T := TX0) (N := 12) hx hb hts w_1 tyX0 tyX0_ok nmX0 hown hK hP hD hS 0 rfl rfl 2 (by decide) w_2 (fun _ h9 => h9) rfl (by decide +kernel) rfl rfl (Nat.le_of_ble_eq_true rfl) dX0_copyFrom_13 (fun H locs hP hD hS => ?_)
  obtain ⟨q_4, eq_4⟩ : ∃ y : StV, y = su_clk q_2 v_3 := ⟨_, rfl⟩
  have hP : va_P D vwCl (stW k a q_4 ++ stW k b O) H := by rw [eq_4, ← st_set_clk k a q_2 _, ← set_appL1 (Nat.le_of_ble_eq_true rfl)]; exact hP
  have hD : va_D A (stW k a q_4 ++ stW k b O) := by rw [eq_4, ← st_set_clk k a q_2 _, ← set_appL1 (Nat.le_of_ble_eq_true rfl)]; exact hD
  have h := nm_l h eq_4
  refine lv_aload_n hx hb dX0_copyFrom_16 rfl (lv_at hl 1 rfl) ?_
  refine va_get (D := D) (ci := 0) (v := .ref (b 1)) (C := RX0) (T := TX0) (N := 12) hx hb hts w_1 hown hK hP 11 rfl rfl 1 (by decide) w_3 (fun _ h9 => h9) rfl dX0_copyFrom_17 ?_
  refine lv_iconst (v := 0) hx hb dX0_copyFrom_20 (by decide) ?_
  refine lv_aload_n hx hb dX0_copyFrom_21 rfl (lv_at hl 0 rfl) ?_
  refine va_get (D := D) (ci := 0) (v := .ref (a 1)) (C := RX0) (T := TX0) (N := 12) hx hb hts w_1 hown hK hP 0 rfl rfl 1 (by decide) w_3 (fun _ h9 => h9) rfl dX0_copyFrom_22 ?_
  refine lv_iconst (v := 0) hx hb dX0_copyFrom_25 (by decide) ?_
  refine lv_iconst (v := 5) hx hb dX0_copyFrom_26 (by decide) ?_
  refine va_copyi (sp := 0) (dp := 0) (n := 5) (ty := .int) hx hb (hml.trans hl.1.symm) hown w_4 w_5 w_6 w_7 hK hP hD hS 12 1 0 0 rfl rfl rfl rfl rfl (by decide) (by decide) (by decide) (by decide) (by decide) (fun _ _ => rfl) (Nat.le_of_ble_eq_true rfl) (Nat.le_of_ble_eq_true rfl) dX0_copyFrom_27 (fun H locs hP hD hS => ?_)
  obtain ⟨q_5, eq_5⟩ : ∃ y : StV, y = su_set q_4 (va_cpy (s_set O) (s_set q_4) 0 0 5) := ⟨_, rfl⟩
  have hP : va_P D vwCl (stW k a q_5 ++ stW k b O) H := by rw [eq_5, ← st_set_set k a q_4 _, ← set_appL1 (Nat.le_of_ble_eq_true rfl)]; exact hP
  have hD : va_D A (stW k a q_5 ++ stW k b O) := by rw [eq_5, ← st_set_set k a q_4 _, ← set_appL1 (Nat.le_of_ble_eq_true rfl)]; exact hD
  have h := nm_l h eq_5
  refine lv_aload_n hx hb dX0_copyFrom_30 rfl (lv_at hl 1 rfl) ?_
  refine va_get (D := D) (ci := 0) (v := .ref (b 2)) (C := RX0) (T := TX0) (N := 12) hx hb hts w_1 hown hK hP 11 rfl rfl 3 (by decide) w_8 (fun _ h9 => h9) rfl dX0_copyFrom_31 ?_
  refine lv_iconst (v := 0) hx hb dX0_copyFrom_34 (by decide) ?_
  refine lv_aload_n hx hb dX0_copyFrom_35 rfl (lv_at hl 0 rfl) ?_
  refine va_get (D := D) (ci := 0) (v := .ref (a 2)) (C := RX0) (T := TX0) (N := 12) hx hb hts w_1 hown hK hP 0 rfl rfl 3 (by decide) w_8 (fun _ h9 => h9) rfl dX0_copyFrom_36 ?_
  refine lv_iconst (v := 0) hx hb dX0_copyFrom_39 (by decide) ?_
  refine lv_bipush (v := 10) hx hb dX0_copyFrom_40 (by decide) ?_
  refine va_copyi (sp := 0) (dp := 0) (n := 10) (ty := .int) hx hb (hml.trans hl.1.symm) hown w_4 w_5 w_6 w_7 hK hP hD hS 13 2 0 0 rfl rfl rfl rfl rfl (by decide) (by decide) (by decide) (by decide) (by decide) (fun _ _ => rfl) (Nat.le_of_ble_eq_true rfl) (Nat.le_of_ble_eq_true rfl) dX0_copyFrom_42 (fun H locs hP hD hS => ?_)
  obtain ⟨q_6, eq_6⟩ : ∃ y : StV, y = su_cou q_5 (va_cpy (s_cou O) (s_cou q_5) 0 0 10) := ⟨_, rfl⟩
  have hP : va_P D vwCl (stW k a q_6 ++ stW k b O) H := by rw [eq_6, ← st_set_cou k a q_5 _, ← set_appL1 (Nat.le_of_ble_eq_true rfl)]; exact hP
  have hD : va_D A (stW k a q_6 ++ stW k b O) := by rw [eq_6, ← st_set_cou k a q_5 _, ← set_appL1 (Nat.le_of_ble_eq_true rfl)]; exact hD
  have h := nm_l h eq_6
  refine lv_aload_n hx hb dX0_copyFrom_45 rfl (lv_at hl 1 rfl) ?_
  refine va_get (D := D) (ci := 0) (v := .ref (b 3)) (C := RX0) (T := TX0) (N := 12) hx hb hts w_1 hown hK hP 11 rfl rfl 4 (by decide) w_9 (fun _ h9 => h9) rfl dX0_copyFrom_46 ?_
  refine lv_iconst (v := 0) hx hb dX0_copyFrom_49 (by decide) ?_
  refine lv_aload_n hx hb dX0_copyFrom_50 rfl (lv_at hl 0 rfl) ?_
  refine va_get (D := D) (ci := 0) (v := .ref (a 3)) (C := RX0) (T := TX0) (N := 12) hx hb hts w_1 hown hK hP 0 rfl rfl 4 (by decide) w_9 (fun _ h9 => h9) rfl dX0_copyFrom_51 ?_
  refine lv_iconst (v := 0) hx hb dX0_copyFrom_54 (by decide) ?_
  refine lv_bipush (v := 6) hx hb dX0_copyFrom_55 (by decide) ?_
  refine va_copyi (sp := 0) (dp := 0) (n := 6) (ty := .int) hx hb (hml.trans hl.1.symm) hown w_4 w_5 w_6 w_7 hK hP hD hS 14 3 0 0 rfl rfl rfl rfl rfl (by decide) (by decide) (by decide) (by decide) (by decide) (fun _ _ => rfl) (Nat.le_of_ble_eq_true rfl) (Nat.le_of_ble_eq_true rfl) dX0_copyFrom_57 (fun H locs hP hD hS => ?_)
  obtain ⟨q_7, eq_7⟩ : ∃ y : StV, y = su_are q_6 (va_cpy (s_are O) (s_are q_6) 0 0 6) := ⟨_, rfl⟩
  have hP : va_P D vwCl (stW k a q_7 ++ stW k b O) H := by rw [eq_7, ← st_set_are k a q_6 _, ← set_appL1 (Nat.le_of_ble_eq_true rfl)]; exact hP
  have hD : va_D A (stW k a q_7 ++ stW k b O) := by rw [eq_7, ← st_set_are k a q_6 _, ← set_appL1 (Nat.le_of_ble_eq_true rfl)]; exact hD
  have h := nm_l h eq_7
  refine lv_aload_n hx hb dX0_copyFrom_60 rfl (lv_at hl 1 rfl) ?_
  refine va_get (D := D) (ci := 0) (v := .ref (b 4)) (C := RX0) (T := TX0) (N := 12) hx hb hts w_1 hown hK hP 11 rfl rfl 5 (by decide) w_10 (fun _ h9 => h9) rfl dX0_copyFrom_61 ?_
  refine lv_iconst (v := 0) hx hb dX0_copyFrom_64 (by decide) ?_
  refine lv_aload_n hx hb dX0_copyFrom_65 rfl (lv_at hl 0 rfl) ?_
  refine va_get (D := D) (ci := 0) (v := .ref (a 4)) (C := RX0) (T := TX0) (N := 12) hx hb hts w_1 hown hK hP 0 rfl rfl 5 (by decide) w_10 (fun _ h9 => h9) rfl dX0_copyFrom_66 ?_
  refine lv_iconst (v := 0) hx hb dX0_copyFrom_69 (by decide) ?_
  refine lv_bipush (v := 6) hx hb dX0_copyFrom_70 (by decide) ?_
  refine va_copyi (sp := 0) (dp := 0) (n := 6) (ty := .int) hx hb (hml.trans hl.1.symm) hown w_4 w_5 w_6 w_7 hK hP hD hS 15 4 0 0 rfl rfl rfl rfl rfl (by decide) (by decide) (by decide) (by decide) (by decide) (fun _ _ => rfl) (Nat.le_of_ble_eq_true rfl) (Nat.le_of_ble_eq_true rfl) dX0_copyFrom_72 (fun H locs hP hD hS => ?_)
  obtain ⟨q_8, eq_8⟩ : ∃ y : StV, y = su_wat q_7 (va_cpy (s_wat O) (s_wat q_7) 0 0 6) := ⟨_, rfl⟩
  have hP : va_P D vwCl (stW k a q_8 ++ stW k b O) H := by rw [eq_8, ← st_set_wat k a q_7 _, ← set_appL1 (Nat.le_of_ble_eq_true rfl)]; exact hP
  have hD : va_D A (stW k a q_8 ++ stW k b O) := by rw [eq_8, ← st_set_wat k a q_7 _, ← set_appL1 (Nat.le_of_ble_eq_true rfl)]; exact hD
  have h := nm_l h eq_8
  refine lv_aload_n hx hb dX0_copyFrom_75 rfl (lv_at hl 1 rfl) ?_
  refine va_get (D := D) (ci := 0) (v := .ref (b 5)) (C := RX0) (T := TX0) (N := 12) hx hb hts w_1 hown hK hP 11 rfl rfl 6 (by decide) w_11 (fun _ h9 => h9) rfl dX0_copyFrom_76 ?_
  refine lv_iconst (v := 0) hx hb dX0_copyFrom_79 (by decide) ?_
  refine lv_aload_n hx hb dX0_copyFrom_80 rfl (lv_at hl 0 rfl) ?_
  refine va_get (D := D) (ci := 0) (v := .ref (a 5)) (C := RX0) (T := TX0) (N := 12) hx hb hts w_1 hown hK hP 0 rfl rfl 6 (by decide) w_11 (fun _ h9 => h9) rfl dX0_copyFrom_81 ?_
  refine lv_iconst (v := 0) hx hb dX0_copyFrom_84 (by decide) ?_
  refine lv_bipush (v := 6) hx hb dX0_copyFrom_85 (by decide) ?_
  refine va_copyi (sp := 0) (dp := 0) (n := 6) (ty := .int) hx hb (hml.trans hl.1.symm) hown w_4 w_5 w_6 w_7 hK hP hD hS 16 5 0 0 rfl rfl rfl rfl rfl (by decide) (by decide) (by decide) (by decide) (by decide) (fun _ _ => rfl) (Nat.le_of_ble_eq_true rfl) (Nat.le_of_ble_eq_true rfl) dX0_copyFrom_87 (fun H locs hP hD hS => ?_)
  obtain ⟨q_9, eq_9⟩ : ∃ y : StV, y = su_sol q_8 (va_cpy (s_sol O) (s_sol q_8) 0 0 6) := ⟨_, rfl⟩
  have hP : va_P D vwCl (stW k a q_9 ++ stW k b O) H := by rw [eq_9, ← st_set_sol k a q_8 _, ← set_appL1 (Nat.le_of_ble_eq_true rfl)]; exact hP
  have hD : va_D A (stW k a q_9 ++ stW k b O) := by rw [eq_9, ← st_set_sol k a q_8 _, ← set_appL1 (Nat.le_of_ble_eq_true rfl)]; exact hD
  have h := nm_l h eq_9
  refine lv_aload_n hx hb dX0_copyFrom_90 rfl (lv_at hl 1 rfl) ?_
  refine va_get (D := D) (ci := 0) (v := .ref (b 6)) (C := RX0) (T := TX0) (N := 12) hx hb hts w_1 hown hK hP 11 rfl rfl 7 (by decide) w_12 (fun _ h9 => h9) rfl dX0_copyFrom_91 ?_
  refine lv_iconst (v := 0) hx hb dX0_copyFrom_94 (by decide) ?_
  refine lv_aload_n hx hb dX0_copyFrom_95 rfl (lv_at hl 0 rfl) ?_
  refine va_get (D := D) (ci := 0) (v := .ref (a 6)) (C := RX0) (T := TX0) (N := 12) hx hb hts w_1 hown hK hP 0 rfl rfl 7 (by decide) w_12 (fun _ h9 => h9) rfl dX0_copyFrom_96 ?_
  refine lv_iconst (v := 0) hx hb dX0_copyFrom_99 (by decide) ?_
  refine lv_bipush (v := 6) hx hb dX0_copyFrom_100 (by decide) ?_
  refine va_copyi (sp := 0) (dp := 0) (n := 6) (ty := .int) hx hb (hml.trans hl.1.symm) hown w_4 w_5 w_6 w_7 hK hP hD hS 17 6 0 0 rfl rfl rfl rfl rfl (by decide) (by decide) (by decide) (by decide) (by decide) (fun _ _ => rfl) (Nat.le_of_ble_eq_true rfl) (Nat.le_of_ble_eq_true rfl) dX0_copyFrom_102 (fun H locs hP hD hS => ?_)
  obtain ⟨q_10, eq_10⟩ : ∃ y : StV, y = su_val q_9 (va_cpy (s_val O) (s_val q_9) 0 0 6) := ⟨_, rfl⟩
  have hP : va_P D vwCl (stW k a q_10 ++ stW k b O) H := by rw [eq_10, ← st_set_val k a q_9 _, ← set_appL1 (Nat.le_of_ble_eq_true rfl)]; exact hP
  have hD : va_D A (stW k a q_10 ++ stW k b O) := by rw [eq_10, ← st_set_val k a q_9 _, ← set_appL1 (Nat.le_of_ble_eq_true rfl)]; exact hD
  have h := nm_l h eq_10
  refine lv_aload_n hx hb dX0_copyFrom_105 rfl (lv_at hl 1 rfl) ?_
  refine va_get (D := D) (ci := 0) (v := .ref (b 7)) (C := RX0) (T := TX0) (N := 12) hx hb hts w_1 hown hK hP 11 rfl rfl 8 (by decide) w_13 (fun _ h9 => h9) rfl dX0_copyFrom_106 ?_
  refine lv_iconst (v := 0) hx hb dX0_copyFrom_109 (by decide) ?_
  refine lv_aload_n hx hb dX0_copyFrom_110 rfl (lv_at hl 0 rfl) ?_
  refine va_get (D := D) (ci := 0) (v := .ref (a 7)) (C := RX0) (T := TX0) (N := 12) hx hb hts w_1 hown hK hP 0 rfl rfl 8 (by decide) w_13 (fun _ h9 => h9) rfl dX0_copyFrom_111 ?_
  refine lv_iconst (v := 0) hx hb dX0_copyFrom_114 (by decide) ?_
  refine lv_bipush (v := 6) hx hb dX0_copyFrom_115 (by decide) ?_
  refine va_copyi (sp := 0) (dp := 0) (n := 6) (ty := .int) hx hb (hml.trans hl.1.symm) hown w_4 w_5 w_6 w_7 hK hP hD hS 18 7 0 0 rfl rfl rfl rfl rfl (by decide) (by decide) (by decide) (by decide) (by decide) (fun _ _ => rfl) (Nat.le_of_ble_eq_true rfl) (Nat.le_of_ble_eq_true rfl) dX0_copyFrom_117 (fun H locs hP hD hS => ?_)
  obtain ⟨q_11, eq_11⟩ : ∃ y : StV, y = su_ble q_10 (va_cpy (s_ble O) (s_ble q_10) 0 0 6) := ⟨_, rfl⟩
  have hP : va_P D vwCl (stW k a q_11 ++ stW k b O) H := by rw [eq_11, ← st_set_ble k a q_10 _, ← set_appL1 (Nat.le_of_ble_eq_true rfl)]; exact hP
  have hD : va_D A (stW k a q_11 ++ stW k b O) := by rw [eq_11, ← st_set_ble k a q_10 _, ← set_appL1 (Nat.le_of_ble_eq_true rfl)]; exact hD
  have h := nm_l h eq_11
  refine lv_aload_n hx hb dX0_copyFrom_120 rfl (lv_at hl 1 rfl) ?_
  refine va_get (D := D) (ci := 0) (v := .ref (b 8)) (C := RX0) (T := TX0) (N := 12) hx hb hts w_1 hown hK hP 11 rfl rfl 9 (by decide) w_14 (fun _ h9 => h9) rfl dX0_copyFrom_121 ?_
  refine lv_iconst (v := 0) hx hb dX0_copyFrom_124 (by decide) ?_
  refine lv_aload_n hx hb dX0_copyFrom_125 rfl (lv_at hl 0 rfl) ?_
  refine va_get (D := D) (ci := 0) (v := .ref (a 8)) (C := RX0) (T := TX0) (N := 12) hx hb hts w_1 hown hK hP 0 rfl rfl 9 (by decide) w_14 (fun _ h9 => h9) rfl dX0_copyFrom_126 ?_
  refine lv_iconst (v := 0) hx hb dX0_copyFrom_129 (by decide) ?_
  refine lv_bipush (v := 6) hx hb dX0_copyFrom_130 (by decide) ?_
  refine va_copyi (sp := 0) (dp := 0) (n := 6) (ty := .int) hx hb (hml.trans hl.1.symm) hown w_4 w_5 w_6 w_7 hK hP hD hS 19 8 0 0 rfl rfl rfl rfl rfl (by decide) (by decide) (by decide) (by decide) (by decide) (fun _ _ => rfl) (Nat.le_of_ble_eq_true rfl) (Nat.le_of_ble_eq_true rfl) dX0_copyFrom_132 (fun H locs hP hD hS => ?_)
  obtain ⟨q_12, eq_12⟩ : ∃ y : StV, y = su_sca q_11 (va_cpy (s_sca O) (s_sca q_11) 0 0 6) := ⟨_, rfl⟩
  have hP : va_P D vwCl (stW k a q_12 ++ stW k b O) H := by rw [eq_12, ← st_set_sca k a q_11 _, ← set_appL1 (Nat.le_of_ble_eq_true rfl)]; exact hP
  have hD : va_D A (stW k a q_12 ++ stW k b O) := by rw [eq_12, ← st_set_sca k a q_11 _, ← set_appL1 (Nat.le_of_ble_eq_true rfl)]; exact hD
  have h := nm_l h eq_12
  refine lv_aload_n hx hb dX0_copyFrom_135 rfl (lv_at hl 1 rfl) ?_
  refine va_get (D := D) (ci := 0) (v := .ref (b 9)) (C := RX0) (T := TX0) (N := 12) hx hb hts w_1 hown hK hP 11 rfl rfl 10 (by decide) w_15 (fun _ h9 => h9) rfl dX0_copyFrom_136 ?_
  refine lv_iconst (v := 0) hx hb dX0_copyFrom_139 (by decide) ?_
  refine lv_aload_n hx hb dX0_copyFrom_140 rfl (lv_at hl 0 rfl) ?_
  refine va_get (D := D) (ci := 0) (v := .ref (a 9)) (C := RX0) (T := TX0) (N := 12) hx hb hts w_1 hown hK hP 0 rfl rfl 10 (by decide) w_15 (fun _ h9 => h9) rfl dX0_copyFrom_141 ?_
  refine lv_iconst (v := 0) hx hb dX0_copyFrom_144 (by decide) ?_
  refine lv_bipush (v := 6) hx hb dX0_copyFrom_145 (by decide) ?_
  refine va_copyi (sp := 0) (dp := 0) (n := 6) (ty := .int) hx hb (hml.trans hl.1.symm) hown w_4 w_5 w_6 w_7 hK hP hD hS 20 9 0 0 rfl rfl rfl rfl rfl (by decide) (by decide) (by decide) (by decide) (by decide) (fun _ _ => rfl) (Nat.le_of_ble_eq_true rfl) (Nat.le_of_ble_eq_true rfl) dX0_copyFrom_147 (fun H locs hP hD hS => ?_)
  obtain ⟨q_13, eq_13⟩ : ∃ y : StV, y = su_scl q_12 (va_cpy (s_scl O) (s_scl q_12) 0 0 6) := ⟨_, rfl⟩
  have hP : va_P D vwCl (stW k a q_13 ++ stW k b O) H := by rw [eq_13, ← st_set_scl k a q_12 _, ← set_appL1 (Nat.le_of_ble_eq_true rfl)]; exact hP
  have hD : va_D A (stW k a q_13 ++ stW k b O) := by rw [eq_13, ← st_set_scl k a q_12 _, ← set_appL1 (Nat.le_of_ble_eq_true rfl)]; exact hD
  have h := nm_l h eq_13
  refine lv_aload_n hx hb dX0_copyFrom_150 rfl (lv_at hl 1 rfl) ?_
  refine va_get (D := D) (ci := 0) (v := .ref (b 10)) (C := RX0) (T := TX0) (N := 12) hx hb hts w_1 hown hK hP 11 rfl rfl 11 (by decide) w_16 (fun _ h9 => h9) rfl dX0_copyFrom_151 ?_
  refine lv_iconst (v := 0) hx hb dX0_copyFrom_154 (by decide) ?_
  refine lv_aload_n hx hb dX0_copyFrom_155 rfl (lv_at hl 0 rfl) ?_
  refine va_get (D := D) (ci := 0) (v := .ref (a 10)) (C := RX0) (T := TX0) (N := 12) hx hb hts w_1 hown hK hP 0 rfl rfl 11 (by decide) w_16 (fun _ h9 => h9) rfl dX0_copyFrom_156 ?_
  refine lv_iconst (v := 0) hx hb dX0_copyFrom_159 (by decide) ?_
  refine lv_bipush (v := 6) hx hb dX0_copyFrom_160 (by decide) ?_
  refine va_copyi (sp := 0) (dp := 0) (n := 6) (ty := .int) hx hb (hml.trans hl.1.symm) hown w_4 w_5 w_6 w_7 hK hP hD hS 21 10 0 0 rfl rfl rfl rfl rfl (by decide) (by decide) (by decide) (by decide) (by decide) (fun _ _ => rfl) (Nat.le_of_ble_eq_true rfl) (Nat.le_of_ble_eq_true rfl) dX0_copyFrom_162 (fun H locs hP hD hS => ?_)
  obtain ⟨q_14, eq_14⟩ : ∃ y : StV, y = su_lef q_13 (va_cpy (s_lef O) (s_lef q_13) 0 0 6) := ⟨_, rfl⟩
  have hP : va_P D vwCl (stW k a q_14 ++ stW k b O) H := by rw [eq_14, ← st_set_lef k a q_13 _, ← set_appL1 (Nat.le_of_ble_eq_true rfl)]; exact hP
  have hD : va_D A (stW k a q_14 ++ stW k b O) := by rw [eq_14, ← st_set_lef k a q_13 _, ← set_appL1 (Nat.le_of_ble_eq_true rfl)]; exact hD
  have h := nm_l h eq_14
  cases h
  exact Ck_vret hx hb hr hP hD hS dX0_copyFrom_165 hlocks
def f_X0_takeNumbers_49 (nf : Nat → Int32) : Nat → Int32 → StV → Option (StV)
  | 0, _, _ => none
  | fu + 1, x2_49, S_49 => if (s_n S_49) ≤ x2_49 then (some (S_49)) else (if 6 ≤ x2_49 then (some (S_49)) else (nm (6 + (6 * x2_49)) fun v_3 => gb (inb v_3 42) <| gb (inb x2_49 6) <| nm (su_are S_49 (upd (s_are S_49) x2_49.toNatClampNeg (nf v_3.toNatClampNeg))) fun q_6 => gb (inb (v_3 + 1) 42) <| gb (inb x2_49 6) <| nm (su_wat q_6 (upd (s_wat q_6) x2_49.toNatClampNeg (nf (v_3 + 1).toNatClampNeg))) fun q_9 => gb (inb (v_3 + 2) 42) <| gb (inb x2_49 6) <| nm (su_sol q_9 (upd (s_sol q_9) x2_49.toNatClampNeg (nf (v_3 + 2).toNatClampNeg))) fun q_12 => gb (inb (v_3 + 3) 42) <| gb (inb x2_49 6) <| nm (su_val q_12 (upd (s_val q_12) x2_49.toNatClampNeg (nf (v_3 + 3).toNatClampNeg))) fun q_15 => gb (inb (v_3 + 4) 42) <| gb (inb x2_49 6) <| nm (su_ble q_15 (upd (s_ble q_15) x2_49.toNatClampNeg (nf (v_3 + 4).toNatClampNeg))) fun q_18 => gb (inb (v_3 + 5) 42) <| gb (inb x2_49 6) <| nm (su_sca q_18 (upd (s_sca q_18) x2_49.toNatClampNeg (nf (v_3 + 5).toNatClampNeg))) fun q_21 => (f_X0_takeNumbers_49 nf fu) (x2_49 + 1) q_21))
def f_X0_takeNumbers (S : StV) (nf : Nat → Int32) : Option (StV) := nm (nf 0) fun v_22 => nm (su_n S v_22) fun q_23 => nm (su_set q_23 (va_cpy nf (s_set q_23) 1 0 5)) fun q_24 => nm (su_clk q_24 0) fun q_25 => bd (f_J7_fill_53178 10 (s_cou q_25) 0) fun q_26 => nm (su_cou q_25 q_26) fun q_28 => bd (f_J7_fill_53178 6 (s_scl q_28) 0) fun q_29 => nm (su_scl q_28 q_29) fun q_31 => bd (f_J7_fill_53178 6 (s_lef q_31) 0) fun q_32 => nm (su_lef q_31 q_32) fun q_34 => f_X0_takeNumbers_49 nf 2000 0 q_34
set_option maxRecDepth 100000 in
set_option maxHeartbeats 4000000 in
theorem c_X0_takeNumbers (l : Launch) (D : va_G) (k : Nat → ClassId) (a : Nat → Nat) (nb : Nat) (S : StV) (nf : Nat → Int32) (o0 : StV) (h : f_X0_takeNumbers S nf = some (o0)) : Ck l D (tyK k) yX0_takeNumbers wsX0_takeNumbers ({ frames := 1, cells := 0, slots := 0, locals := 60 } : Room) [.ref (a 0), .ref nb] (stW k a S ++ [(nb, .inl (k 0, 42, .inl nf))]) none (stW k a o0 ++ [(nb, .inl (k 0, 42, .inl nf))]) := by
  refine Ck_of (cc := cX0_takeNumbers) (maxL := 4) (ret := none) (by decide) rfl (Nat.le_of_ble_eq_true rfl) ?_
  intro p e s m args below meth c A ls hx hb hr hml hts hown hlocks hK hA hP hD hS hl
  have hl : lv_has ls 4 [(0, .ref (a 0)), (1, .ref nb)] := hl
  have hP : va_P D vwCl (stW k a S ++ [(nb, .inl (k 0, 42, .inl nf))]) s.heap := hP
  have w_0 := hts (.fieldLink RX0 9 "EffectTrain$State" "n" "I") (by decide +kernel)
  have w_1 : ∀ w ∈ wsX00, w ∈ wsX0_takeNumbers := by decide +kernel
  have w_2 := hts (.fieldLink RX0 25 "EffectTrain$State" "area" "[I") (by decide +kernel)
  have w_3 := hts (.fieldLink RX0 28 "EffectTrain$State" "water" "[I") (by decide +kernel)
  have w_4 := hts (.fieldLink RX0 31 "EffectTrain$State" "solids" "[I") (by decide +kernel)
  have w_5 := hts (.fieldLink RX0 34 "EffectTrain$State" "valve" "[I") (by decide +kernel)
  have w_6 := hts (.fieldLink RX0 37 "EffectTrain$State" "bleed" "[I") (by decide +kernel)
  have w_7 := hts (.fieldLink RX0 40 "EffectTrain$State" "scale" "[I") (by decide +kernel)
  have w_8 := hts (.fieldLink RX0 15 "EffectTrain$State" "settings" "[I") (by decide +kernel)
  have w_9 := hts (.methodLink RX0 55 arraycopyName) (by decide +kernel)
  have w_10 := hts (.native arraycopyName) (by decide +kernel)
  have w_11 := hts (.static arraycopyName) (by decide +kernel)
  have w_12 := hts (.initialized "java/lang/System") (by decide +kernel)
  have w_13 := hts (.fieldLink RX0 19 "EffectTrain$State" "clock" "I") (by decide +kernel)
  have w_14 := hts (.fieldLink RX0 22 "EffectTrain$State" "counts" "[I") (by decide +kernel)
  have w_15 := hts (.fieldLink RX0 43 "EffectTrain$State" "scaling" "[I") (by decide +kernel)
  have w_16 := hts (.fieldLink RX0 46 "EffectTrain$State" "left" "[I") (by decide +kernel)
  unfold f_X0_takeNumbers at h
  have hC_49 : ∀ (fu_49 : Nat) (x2_49 : Int32) (S_49 : StV) (H : Heap) (locs : List Loc) (ls : Array Slot), va_P D vwCl (stW k a S_49 ++ [(nb, .inl (k 0, 42, .inl nf))]) H → va_D A (stW k a S_49 ++ [(nb, .inl (k 0, 42, .inl nf))]) → va_S A s.heap H locs → lv_has ls 4 [(0, .ref (a 0)), (1, .ref nb), (2, .int x2_49)] → f_X0_takeNumbers_49 nf fu_49 x2_49 S_49 = some (o0) → W p l e ({ frames := 1, cells := 0, slots := 0, locals := 60 } : Room) s m args below meth c H locs 0 0 (MQ below (Qk D A none (stW k a o0 ++ [(nb, .inl (k 0, 42, .inl nf))])) args s 0 0 A) (F0 m 49 ls []) := by
    intro fu_49
    induction fu_49 with
    | zero => intro x2_49 S_49 H locs ls _ _ _ _ h; exact (no_l h).elim
    | succ fu_49 ih_49 =>
      intro x2_49 S_49 H locs ls hP hD hS hl h
      rw [f_X0_takeNumbers_49] at h
      refine lv_iload_n hx hb dX0_takeNumbers_49 rfl (lv_at hl 2 rfl) ?_
      refine lv_aload_n hx hb dX0_takeNumbers_50 rfl (lv_at hl 0 rfl) ?_
      refine va_get (D := D) (ci := 0) (v := .int (s_n S_49)) (C := RX0) (T := TX0) (N := 12) hx hb hts w_1 hown hK hP 0 rfl rfl 0 (by decide) w_0 (fun _ h9 => h9) rfl dX0_takeNumbers_51 ?_
      refine lv_icmp_ge (tgt := 141) hx hb dX0_takeNumbers_54 (by decide) (fun c_1 => ?_) (fun c_1 => ?_)
      · have h := it_l c_1 h
        cases h
        exact Ck_vret hx hb hr hP hD hS dX0_takeNumbers_141 hlocks
      · have h := it_r c_1 h
        refine lv_iload_n hx hb dX0_takeNumbers_57 rfl (lv_at hl 2 rfl) ?_
        refine lv_bipush (v := 6) hx hb dX0_takeNumbers_58 (by decide) ?_
        refine lv_icmp_ge (tgt := 141) hx hb dX0_takeNumbers_60 (by decide) (fun c_2 => ?_) (fun c_2 => ?_)
        · have h := it_l c_2 h
          cases h
          exact Ck_vret hx hb hr hP hD hS dX0_takeNumbers_141 hlocks
        · have h := it_r c_2 h
          refine lv_bipush (v := 6) hx hb dX0_takeNumbers_63 (by decide) ?_
          refine lv_bipush (v := 6) hx hb dX0_takeNumbers_65 (by decide) ?_
          refine lv_iload_n hx hb dX0_takeNumbers_67 rfl (lv_at hl 2 rfl) ?_
          refine lv_imul hx hb dX0_takeNumbers_68 ?_
          refine lv_iadd hx hb dX0_takeNumbers_69 ?_
          refine lv_topi (fun v_3 ev_3 => ?_)
          have h := nm_l h ev_3
          refine lv_istore_n (lv' := [(3, .int v_3), (0, .ref (a 0)), (1, .ref nb), (2, .int x2_49)]) hx hb dX0_takeNumbers_70 rfl hl (by decide) rfl (fun ls hl => ?_)
          refine lv_aload_n hx hb dX0_takeNumbers_71 rfl (lv_at hl 1 rfl) ?_
          refine va_get (D := D) (ci := 0) (v := .ref (a 3)) (C := RX0) (T := TX0) (N := 12) hx hb hts w_1 hown hK hP 0 rfl rfl 4 (by decide) w_2 (fun _ h9 => h9) rfl dX0_takeNumbers_72 ?_
          refine lv_iload_n hx hb dX0_takeNumbers_75 rfl (lv_at hl 3 rfl) ?_
          refine lv_aload_n hx hb dX0_takeNumbers_76 rfl (lv_at hl 2 rfl) ?_
          refine lv_iload_n hx hb dX0_takeNumbers_77 rfl (lv_at hl 0 rfl) ?_
          have g_4 := inb_vp (gb_l h)
          have h := gb_r h
          refine va_iald hx hb hK hP 11 0 rfl rfl g_4 dX0_takeNumbers_78 ?_
          have g_5 := inb_vp (gb_l h)
          have h := gb_r h
          refine va_iast hx hb hK hP hD hS 3 0 rfl rfl g_5 dX0_takeNumbers_79 (fun H locs hP hD hS => ?_)
          obtain ⟨q_6, eq_6⟩ : ∃ y : StV, y = su_are S_49 (upd (s_are S_49) x2_49.toNatClampNeg (nf v_3.toNatClampNeg)) := ⟨_, rfl⟩
          have hP : va_P D vwCl (stW k a q_6 ++ [(nb, .inl (k 0, 42, .inl nf))]) H := by rw [eq_6, ← st_set_are k a S_49 _, ← set_appL1 (Nat.le_of_ble_eq_true rfl)]; exact hP
          have hD : va_D A (stW k a q_6 ++ [(nb, .inl (k 0, 42, .inl nf))]) := by rw [eq_6, ← st_set_are k a S_49 _, ← set_appL1 (Nat.le_of_ble_eq_true rfl)]; exact hD
          have h := nm_l h eq_6
          refine lv_aload_n hx hb dX0_takeNumbers_80 rfl (lv_at hl 1 rfl) ?_
          refine va_get (D := D) (ci := 0) (v := .ref (a 4)) (C := RX0) (T := TX0) (N := 12) hx hb hts w_1 hown hK hP 0 rfl rfl 5 (by decide) w_3 (fun _ h9 => h9) rfl dX0_takeNumbers_81 ?_
          refine lv_iload_n hx hb dX0_takeNumbers_84 rfl (lv_at hl 3 rfl) ?_
          refine lv_aload_n hx hb dX0_takeNumbers_85 rfl (lv_at hl 2 rfl) ?_
          refine lv_iload_n hx hb dX0_takeNumbers_86 rfl (lv_at hl 0 rfl) ?_
          refine lv_iconst (v := 1) hx hb dX0_takeNumbers_87 (by decide) ?_
          refine lv_iadd hx hb dX0_takeNumbers_88 ?_
          have g_7 := inb_vp (gb_l h)
          have h := gb_r h
          refine va_iald hx hb hK hP 11 0 rfl rfl g_7 dX0_takeNumbers_89 ?_
          have g_8 := inb_vp (gb_l h)
          have h := gb_r h
          refine va_iast hx hb hK hP hD hS 4 0 rfl rfl g_8 dX0_takeNumbers_90 (fun H locs hP hD hS => ?_)
          obtain ⟨q_9, eq_9⟩ : ∃ y : StV, y = su_wat q_6 (upd (s_wat q_6) x2_49.toNatClampNeg (nf (v_3 + 1).toNatClampNeg)) := ⟨_, rfl⟩
          have hP : va_P D vwCl (stW k a q_9 ++ [(nb, .inl (k 0, 42, .inl nf))]) H := by rw [eq_9, ← st_set_wat k a q_6 _, ← set_appL1 (Nat.le_of_ble_eq_true rfl)]; exact hP
          have hD : va_D A (stW k a q_9 ++ [(nb, .inl (k 0, 42, .inl nf))]) := by rw [eq_9, ← st_set_wat k a q_6 _, ← set_appL1 (Nat.le_of_ble_eq_true rfl)]; exact hD
          have h := nm_l h eq_9
          refine lv_aload_n hx hb dX0_takeNumbers_91 rfl (lv_at hl 1 rfl) ?_
          refine va_get (D := D) (ci := 0) (v := .ref (a 5)) (C := RX0) (T := TX0) (N := 12) hx hb hts w_1 hown hK hP 0 rfl rfl 6 (by decide) w_4 (fun _ h9 => h9) rfl dX0_takeNumbers_92 ?_
          refine lv_iload_n hx hb dX0_takeNumbers_95 rfl (lv_at hl 3 rfl) ?_
          refine lv_aload_n hx hb dX0_takeNumbers_96 rfl (lv_at hl 2 rfl) ?_
          refine lv_iload_n hx hb dX0_takeNumbers_97 rfl (lv_at hl 0 rfl) ?_
          refine lv_iconst (v := 2) hx hb dX0_takeNumbers_98 (by decide) ?_
          refine lv_iadd hx hb dX0_takeNumbers_99 ?_
          have g_10 := inb_vp (gb_l h)
          have h := gb_r h
          refine va_iald hx hb hK hP 11 0 rfl rfl g_10 dX0_takeNumbers_100 ?_
          have g_11 := inb_vp (gb_l h)
          have h := gb_r h
          refine va_iast hx hb hK hP hD hS 5 0 rfl rfl g_11 dX0_takeNumbers_101 (fun H locs hP hD hS => ?_)
          obtain ⟨q_12, eq_12⟩ : ∃ y : StV, y = su_sol q_9 (upd (s_sol q_9) x2_49.toNatClampNeg (nf (v_3 + 2).toNatClampNeg)) := ⟨_, rfl⟩
          have hP : va_P D vwCl (stW k a q_12 ++ [(nb, .inl (k 0, 42, .inl nf))]) H := by rw [eq_12, ← st_set_sol k a q_9 _, ← set_appL1 (Nat.le_of_ble_eq_true rfl)]; exact hP
          have hD : va_D A (stW k a q_12 ++ [(nb, .inl (k 0, 42, .inl nf))]) := by rw [eq_12, ← st_set_sol k a q_9 _, ← set_appL1 (Nat.le_of_ble_eq_true rfl)]; exact hD
          have h := nm_l h eq_12
          refine lv_aload_n hx hb dX0_takeNumbers_102 rfl (lv_at hl 1 rfl) ?_
          refine va_get (D := D) (ci := 0) (v := .ref (a 6)) (C := RX0) (T := TX0) (N := 12) hx hb hts w_1 hown hK hP 0 rfl rfl 7 (by decide) w_5 (fun _ h9 => h9) rfl dX0_takeNumbers_103 ?_
          refine lv_iload_n hx hb dX0_takeNumbers_106 rfl (lv_at hl 3 rfl) ?_
          refine lv_aload_n hx hb dX0_takeNumbers_107 rfl (lv_at hl 2 rfl) ?_
          refine lv_iload_n hx hb dX0_takeNumbers_108 rfl (lv_at hl 0 rfl) ?_
          refine lv_iconst (v := 3) hx hb dX0_takeNumbers_109 (by decide) ?_
          refine lv_iadd hx hb dX0_takeNumbers_110 ?_
          have g_13 := inb_vp (gb_l h)
          have h := gb_r h
          refine va_iald hx hb hK hP 11 0 rfl rfl g_13 dX0_takeNumbers_111 ?_
          have g_14 := inb_vp (gb_l h)
          have h := gb_r h
          refine va_iast hx hb hK hP hD hS 6 0 rfl rfl g_14 dX0_takeNumbers_112 (fun H locs hP hD hS => ?_)
          obtain ⟨q_15, eq_15⟩ : ∃ y : StV, y = su_val q_12 (upd (s_val q_12) x2_49.toNatClampNeg (nf (v_3 + 3).toNatClampNeg)) := ⟨_, rfl⟩
          have hP : va_P D vwCl (stW k a q_15 ++ [(nb, .inl (k 0, 42, .inl nf))]) H := by rw [eq_15, ← st_set_val k a q_12 _, ← set_appL1 (Nat.le_of_ble_eq_true rfl)]; exact hP
          have hD : va_D A (stW k a q_15 ++ [(nb, .inl (k 0, 42, .inl nf))]) := by rw [eq_15, ← st_set_val k a q_12 _, ← set_appL1 (Nat.le_of_ble_eq_true rfl)]; exact hD
          have h := nm_l h eq_15
          refine lv_aload_n hx hb dX0_takeNumbers_113 rfl (lv_at hl 1 rfl) ?_
          refine va_get (D := D) (ci := 0) (v := .ref (a 7)) (C := RX0) (T := TX0) (N := 12) hx hb hts w_1 hown hK hP 0 rfl rfl 8 (by decide) w_6 (fun _ h9 => h9) rfl dX0_takeNumbers_114 ?_
          refine lv_iload_n hx hb dX0_takeNumbers_117 rfl (lv_at hl 3 rfl) ?_
          refine lv_aload_n hx hb dX0_takeNumbers_118 rfl (lv_at hl 2 rfl) ?_
          refine lv_iload_n hx hb dX0_takeNumbers_119 rfl (lv_at hl 0 rfl) ?_
          refine lv_iconst (v := 4) hx hb dX0_takeNumbers_120 (by decide) ?_
          refine lv_iadd hx hb dX0_takeNumbers_121 ?_
          have g_16 := inb_vp (gb_l h)
          have h := gb_r h
          refine va_iald hx hb hK hP 11 0 rfl rfl g_16 dX0_takeNumbers_122 ?_
          have g_17 := inb_vp (gb_l h)
          have h := gb_r h
          refine va_iast hx hb hK hP hD hS 7 0 rfl rfl g_17 dX0_takeNumbers_123 (fun H locs hP hD hS => ?_)
          obtain ⟨q_18, eq_18⟩ : ∃ y : StV, y = su_ble q_15 (upd (s_ble q_15) x2_49.toNatClampNeg (nf (v_3 + 4).toNatClampNeg)) := ⟨_, rfl⟩
          have hP : va_P D vwCl (stW k a q_18 ++ [(nb, .inl (k 0, 42, .inl nf))]) H := by rw [eq_18, ← st_set_ble k a q_15 _, ← set_appL1 (Nat.le_of_ble_eq_true rfl)]; exact hP
          have hD : va_D A (stW k a q_18 ++ [(nb, .inl (k 0, 42, .inl nf))]) := by rw [eq_18, ← st_set_ble k a q_15 _, ← set_appL1 (Nat.le_of_ble_eq_true rfl)]; exact hD
          have h := nm_l h eq_18
          refine lv_aload_n hx hb dX0_takeNumbers_124 rfl (lv_at hl 1 rfl) ?_
          refine va_get (D := D) (ci := 0) (v := .ref (a 8)) (C := RX0) (T := TX0) (N := 12) hx hb hts w_1 hown hK hP 0 rfl rfl 9 (by decide) w_7 (fun _ h9 => h9) rfl dX0_takeNumbers_125 ?_
          refine lv_iload_n hx hb dX0_takeNumbers_128 rfl (lv_at hl 3 rfl) ?_
          refine lv_aload_n hx hb dX0_takeNumbers_129 rfl (lv_at hl 2 rfl) ?_
          refine lv_iload_n hx hb dX0_takeNumbers_130 rfl (lv_at hl 0 rfl) ?_
          refine lv_iconst (v := 5) hx hb dX0_takeNumbers_131 (by decide) ?_
          refine lv_iadd hx hb dX0_takeNumbers_132 ?_
          have g_19 := inb_vp (gb_l h)
          have h := gb_r h
          refine va_iald hx hb hK hP 11 0 rfl rfl g_19 dX0_takeNumbers_133 ?_
          have g_20 := inb_vp (gb_l h)
          have h := gb_r h
          refine va_iast hx hb hK hP hD hS 8 0 rfl rfl g_20 dX0_takeNumbers_134 (fun H locs hP hD hS => ?_)
          obtain ⟨q_21, eq_21⟩ : ∃ y : StV, y = su_sca q_18 (upd (s_sca q_18) x2_49.toNatClampNeg (nf (v_3 + 5).toNatClampNeg)) := ⟨_, rfl⟩
          have hP : va_P D vwCl (stW k a q_21 ++ [(nb, .inl (k 0, 42, .inl nf))]) H := by rw [eq_21, ← st_set_sca k a q_18 _, ← set_appL1 (Nat.le_of_ble_eq_true rfl)]; exact hP
          have hD : va_D A (stW k a q_21 ++ [(nb, .inl (k 0, 42, .inl nf))]) := by rw [eq_21, ← st_set_sca k a q_18 _, ← set_appL1 (Nat.le_of_ble_eq_true rfl)]; exact hD
          have h := nm_l h eq_21
          refine lv_iinc (v := (x2_49 + 1)) (lv' := [(2, .int (x2_49 + 1)), (3, .int v_3), (0, .ref (a 0)), (1, .ref nb)]) hx hb dX0_takeNumbers_135 hl (k := 3) rfl rfl (by decide) rfl (fun ls hl => ?_)
          refine lv_goto (tgt := 49) hx hb dX0_takeNumbers_138 (by decide) ?_
          exact ih_49 (x2_49 + 1) q_21 _ _ _ hP hD hS (lv_sub hl [2, 3, 0] rfl) h
  refine lv_aload_n hx hb dX0_takeNumbers_0 rfl (lv_at hl 0 rfl) ?_
  refine lv_aload_n hx hb dX0_takeNumbers_1 rfl (lv_at hl 1 rfl) ?_
  refine lv_iconst (v := 0) hx hb dX0_takeNumbers_2 (by decide) ?_
  refine va_iald hx hb hK hP 11 0 rfl rfl (inb_vp (by decide)) dX0_takeNumbers_3 ?_
  refine W.eq (g2 := F0 m 4 ls [.int (nf 0), .ref (a 0)]) rfl ?_
  refine lv_topi (fun v_22 ev_22 => ?_)
  have h := nm_l h ev_22
  refine va_put (D := D) (ci := 0) (v := .int v_22) (ty := .int) (C := RX0) (T := TX0) (N := 12) hx hb hts w_1 tyX0 tyX0_ok nmX0 hown hK hP hD hS 0 rfl rfl 0 (by decide) w_0 (fun _ h9 => h9) rfl (by decide +kernel) rfl rfl (Nat.le_of_ble_eq_true rfl) dX0_takeNumbers_4 (fun H locs hP hD hS => ?_)
  obtain ⟨q_23, eq_23⟩ : ∃ y : StV, y = su_n S v_22 := ⟨_, rfl⟩
  have hP : va_P D vwCl (stW k a q_23 ++ [(nb, .inl (k 0, 42, .inl nf))]) H := by rw [eq_23, ← st_set_n k a S _, ← set_appL1 (Nat.le_of_ble_eq_true rfl)]; exact hP
  have hD : va_D A (stW k a q_23 ++ [(nb, .inl (k 0, 42, .inl nf))]) := by rw [eq_23, ← st_set_n k a S _, ← set_appL1 (Nat.le_of_ble_eq_true rfl)]; exact hD
  have h := nm_l h eq_23
  refine lv_aload_n hx hb dX0_takeNumbers_7 rfl (lv_at hl 1 rfl) ?_
  refine lv_iconst (v := 1) hx hb dX0_takeNumbers_8 (by decide) ?_
  refine lv_aload_n hx hb dX0_takeNumbers_9 rfl (lv_at hl 0 rfl) ?_
  refine va_get (D := D) (ci := 0) (v := .ref (a 1)) (C := RX0) (T := TX0) (N := 12) hx hb hts w_1 hown hK hP 0 rfl rfl 1 (by decide) w_8 (fun _ h9 => h9) rfl dX0_takeNumbers_10 ?_
  refine lv_iconst (v := 0) hx hb dX0_takeNumbers_13 (by decide) ?_
  refine lv_iconst (v := 5) hx hb dX0_takeNumbers_14 (by decide) ?_
  refine va_copyi (sp := 1) (dp := 0) (n := 5) (ty := .int) hx hb (hml.trans hl.1.symm) hown w_9 w_10 w_11 w_12 hK hP hD hS 11 1 0 0 rfl rfl rfl rfl rfl (by decide) (by decide) (by decide) (by decide) (by decide) (fun _ _ => rfl) (Nat.le_of_ble_eq_true rfl) (Nat.le_of_ble_eq_true rfl) dX0_takeNumbers_15 (fun H locs hP hD hS => ?_)
  obtain ⟨q_24, eq_24⟩ : ∃ y : StV, y = su_set q_23 (va_cpy nf (s_set q_23) 1 0 5) := ⟨_, rfl⟩
  have hP : va_P D vwCl (stW k a q_24 ++ [(nb, .inl (k 0, 42, .inl nf))]) H := by rw [eq_24, ← st_set_set k a q_23 _, ← set_appL1 (Nat.le_of_ble_eq_true rfl)]; exact hP
  have hD : va_D A (stW k a q_24 ++ [(nb, .inl (k 0, 42, .inl nf))]) := by rw [eq_24, ← st_set_set k a q_23 _, ← set_appL1 (Nat.le_of_ble_eq_true rfl)]; exact hD
  have h := nm_l h eq_24
  refine lv_aload_n hx hb dX0_takeNumbers_18 rfl (lv_at hl 0 rfl) ?_
  refine lv_iconst (v := 0) hx hb dX0_takeNumbers_19 (by decide) ?_
  refine va_put (D := D) (ci := 0) (v := .int 0) (ty := .int) (C := RX0) (T := TX0) (N := 12) hx hb hts w_1 tyX0 tyX0_ok nmX0 hown hK hP hD hS 0 rfl rfl 2 (by decide) w_13 (fun _ h9 => h9) rfl (by decide +kernel) rfl rfl (Nat.le_of_ble_eq_true rfl) dX0_takeNumbers_20 (fun H locs hP hD hS => ?_)
  obtain ⟨q_25, eq_25⟩ : ∃ y : StV, y = su_clk q_24 0 := ⟨_, rfl⟩
  have hP : va_P D vwCl (stW k a q_25 ++ [(nb, .inl (k 0, 42, .inl nf))]) H := by rw [eq_25, ← st_set_clk k a q_24 _, ← set_appL1 (Nat.le_of_ble_eq_true rfl)]; exact hP
  have hD : va_D A (stW k a q_25 ++ [(nb, .inl (k 0, 42, .inl nf))]) := by rw [eq_25, ← st_set_clk k a q_24 _, ← set_appL1 (Nat.le_of_ble_eq_true rfl)]; exact hD
  have h := nm_l h eq_25
  refine lv_aload_n hx hb dX0_takeNumbers_23 rfl (lv_at hl 0 rfl) ?_
  refine va_get (D := D) (ci := 0) (v := .ref (a 2)) (C := RX0) (T := TX0) (N := 12) hx hb hts w_1 hown hK hP 0 rfl rfl 3 (by decide) w_14 (fun _ h9 => h9) rfl dX0_takeNumbers_24 ?_
  refine lv_iconst (v := 0) hx hb dX0_takeNumbers_27 (by decide) ?_
  obtain ⟨q_26, hv_27, h⟩ := bd_l h
  obtain ⟨q_28, eq_28⟩ : ∃ y : StV, y = su_cou q_25 q_26 := ⟨_, rfl⟩
  have h := nm_l h eq_28
  refine Ck_S (As := [.ref (a 2), .int 0]) (rest := []) (wc := [(a 2, .inl (k 0, 10, .inl (s_cou q_25)))]) (wc' := [(a 2, .inl (k 0, 10, .inl q_26))]) (w0' := stW k a q_28 ++ [(nb, .inl (k 0, 42, .inl nf))]) ⟨hx, hb, hml, hown, hts⟩ (c_J7_fill_53178 l D k (a 2) 10 (s_cou q_25) 0 q_26 hv_27) (va_cwS 2 hts gX0_takeNumbers_J7_fill_53178 rfl rfl rfl (by decide +kernel) ⟨Nat.le_of_ble_eq_true rfl, Nat.le_of_ble_eq_true rfl⟩) hK hP hD hS hA [2] rfl (by decide) rfl (by rw [eq_28]; simp only [va_sets]; rw [set_appL1 (Nat.le_of_ble_eq_true rfl), st_set_cou]) rfl hl.1 rfl (Nat.le_of_ble_eq_true rfl) dX0_takeNumbers_28 ⟨Nat.le_of_ble_eq_true rfl, Nat.le_of_ble_eq_true rfl⟩ (fun H locs hP hD hS => ?_)
  refine W.eq (g2 := F0 m 31 ls []) rfl ?_
  refine lv_aload_n hx hb dX0_takeNumbers_31 rfl (lv_at hl 0 rfl) ?_
  refine va_get (D := D) (ci := 0) (v := .ref (a 9)) (C := RX0) (T := TX0) (N := 12) hx hb hts w_1 hown hK hP 0 rfl rfl 10 (by decide) w_15 (fun _ h9 => h9) rfl dX0_takeNumbers_32 ?_
  refine lv_iconst (v := 0) hx hb dX0_takeNumbers_35 (by decide) ?_
  obtain ⟨q_29, hv_30, h⟩ := bd_l h
  obtain ⟨q_31, eq_31⟩ : ∃ y : StV, y = su_scl q_28 q_29 := ⟨_, rfl⟩
  have h := nm_l h eq_31
  refine Ck_S (As := [.ref (a 9), .int 0]) (rest := []) (wc := [(a 9, .inl (k 0, 6, .inl (s_scl q_28)))]) (wc' := [(a 9, .inl (k 0, 6, .inl q_29))]) (w0' := stW k a q_31 ++ [(nb, .inl (k 0, 42, .inl nf))]) ⟨hx, hb, hml, hown, hts⟩ (c_J7_fill_53178 l D k (a 9) 6 (s_scl q_28) 0 q_29 hv_30) (va_cwS 2 hts gX0_takeNumbers_J7_fill_53178 rfl rfl rfl (by decide +kernel) ⟨Nat.le_of_ble_eq_true rfl, Nat.le_of_ble_eq_true rfl⟩) hK hP hD hS hA [9] rfl (by decide) rfl (by rw [eq_31]; simp only [va_sets]; rw [set_appL1 (Nat.le_of_ble_eq_true rfl), st_set_scl]) rfl hl.1 rfl (Nat.le_of_ble_eq_true rfl) dX0_takeNumbers_36 ⟨Nat.le_of_ble_eq_true rfl, Nat.le_of_ble_eq_true rfl⟩ (fun H locs hP hD hS => ?_)
  refine W.eq (g2 := F0 m 39 ls []) rfl ?_
  refine lv_aload_n hx hb dX0_takeNumbers_39 rfl (lv_at hl 0 rfl) ?_
  refine va_get (D := D) (ci := 0) (v := .ref (a 10)) (C := RX0) (T := TX0) (N := 12) hx hb hts w_1 hown hK hP 0 rfl rfl 11 (by decide) w_16 (fun _ h9 => h9) rfl dX0_takeNumbers_40 ?_
  refine lv_iconst (v := 0) hx hb dX0_takeNumbers_43 (by decide) ?_
  obtain ⟨q_32, hv_33, h⟩ := bd_l h
  obtain ⟨q_34, eq_34⟩ : ∃ y : StV, y = su_lef q_31 q_32 := ⟨_, rfl⟩
  have h := nm_l h eq_34
  refine Ck_S (As := [.ref (a 10), .int 0]) (rest := []) (wc := [(a 10, .inl (k 0, 6, .inl (s_lef q_31)))]) (wc' := [(a 10, .inl (k 0, 6, .inl q_32))]) (w0' := stW k a q_34 ++ [(nb, .inl (k 0, 42, .inl nf))]) ⟨hx, hb, hml, hown, hts⟩ (c_J7_fill_53178 l D k (a 10) 6 (s_lef q_31) 0 q_32 hv_33) (va_cwS 2 hts gX0_takeNumbers_J7_fill_53178 rfl rfl rfl (by decide +kernel) ⟨Nat.le_of_ble_eq_true rfl, Nat.le_of_ble_eq_true rfl⟩) hK hP hD hS hA [10] rfl (by decide) rfl (by rw [eq_34]; simp only [va_sets]; rw [set_appL1 (Nat.le_of_ble_eq_true rfl), st_set_lef]) rfl hl.1 rfl (Nat.le_of_ble_eq_true rfl) dX0_takeNumbers_44 ⟨Nat.le_of_ble_eq_true rfl, Nat.le_of_ble_eq_true rfl⟩ (fun H locs hP hD hS => ?_)
  refine W.eq (g2 := F0 m 47 ls []) rfl ?_
  refine lv_iconst (v := 0) hx hb dX0_takeNumbers_47 (by decide) ?_
  refine lv_istore_n (lv' := [(2, .int 0), (0, .ref (a 0)), (1, .ref nb)]) hx hb dX0_takeNumbers_48 rfl hl (by decide) rfl (fun ls hl => ?_)
  exact hC_49 2000 0 q_34 _ _ _ hP hD hS (lv_sub hl [1, 2, 0] rfl) h
