def f_X2_in (p1 : Int64) (p2 : Int64) (p3 : Int64) : Option (Int32) := if (lg_cmp p1 p2) < 0 then (some (0)) else (if 0 < (lg_cmp p1 p3) then (some (0)) else (some (1)))
set_option maxRecDepth 100000 in
set_option maxHeartbeats 4000000 in
theorem c_X2_in (l : Launch) (D : va_G) (k : Nat → ClassId) (p1 : Int64) (p2 : Int64) (p3 : Int64) (o0 : Int32) (h : f_X2_in p1 p2 p3 = some (o0)) : Ck l D (tyK k) yX2_in wsX2_in ({ frames := 0, cells := 0, slots := 0, locals := 0 } : Room) [.long p1, .long p2, .long p3] (([] : va_W)) (some (.int o0)) (([] : va_W)) := by
  refine Ck_of (cc := cX2_in) (maxL := 6) (ret := (some .boolean)) (by decide) rfl (Nat.le_of_ble_eq_true rfl) ?_
  intro p e s m args below meth c A ls hx hb hr hml hts hown hlocks hK hA hP hD hS hl
  have hl : lv_has ls 6 [(0, .long p1), (2, .long p2), (4, .long p3)] := hl
  have hP : va_P D vwCl (([] : va_W)) s.heap := hP
  unfold f_X2_in at h
  refine lv_lload_n hx hb dX2_in_0 rfl (lv_at hl 0 rfl) ?_
  refine lv_lload_n hx hb dX2_in_1 rfl (lv_at hl 1 rfl) ?_
  refine W.lcmp hx hb dX2_in_2 ?_
  refine lv_if_lt (tgt := 17) hx hb dX2_in_3 (by decide) (fun c_1 => ?_) (fun c_1 => ?_)
  · have h := it_l c_1 h
    refine lv_iconst (v := 0) hx hb dX2_in_17 (by decide) ?_
    cases h
    exact Ck_zret hx hb hr (by decide) hP hD hS dX2_in_18 hlocks
  · have h := it_r c_1 h
    refine lv_lload_n hx hb dX2_in_6 rfl (lv_at hl 0 rfl) ?_
    refine lv_lload hx hb dX2_in_7 (lv_at hl 2 rfl) ?_
    refine W.lcmp hx hb dX2_in_9 ?_
    refine lv_if_gt (tgt := 17) hx hb dX2_in_10 (by decide) (fun c_2 => ?_) (fun c_2 => ?_)
    · have h := it_l c_2 h
      refine lv_iconst (v := 0) hx hb dX2_in_17 (by decide) ?_
      cases h
      exact Ck_zret hx hb hr (by decide) hP hD hS dX2_in_18 hlocks
    · have h := it_r c_2 h
      refine lv_iconst (v := 1) hx hb dX2_in_13 (by decide) ?_
      refine lv_goto (tgt := 18) hx hb dX2_in_14 (by decide) ?_
      cases h
      exact Ck_zret hx hb hr (by decide) hP hD hS dX2_in_18 hlocks
def f_X2_tenTo_4 (p1 : Int32) : Nat → Int64 → Int32 → Option (Int64)
  | 0, _, _ => none
  | fu + 1, x1_4, x3_4 => if p1 ≤ x3_4 then (some (x1_4)) else (nm (x1_4 * 10) fun v_2 => (f_X2_tenTo_4 p1 fu) v_2 (x3_4 + 1))
def f_X2_tenTo (p1 : Int32) : Option (Int64) := f_X2_tenTo_4 p1 2000 1 0
set_option maxRecDepth 100000 in
set_option maxHeartbeats 4000000 in
theorem c_X2_tenTo (l : Launch) (D : va_G) (k : Nat → ClassId) (p1 : Int32) (o0 : Int64) (h : f_X2_tenTo p1 = some (o0)) : Ck l D (tyK k) yX2_tenTo wsX2_tenTo ({ frames := 0, cells := 0, slots := 0, locals := 0 } : Room) [.int p1] (([] : va_W)) (some (.long o0)) (([] : va_W)) := by
  refine Ck_of (cc := cX2_tenTo) (maxL := 4) (ret := (some .long)) (by decide) rfl (Nat.le_of_ble_eq_true rfl) ?_
  intro p e s m args below meth c A ls hx hb hr hml hts hown hlocks hK hA hP hD hS hl
  have hl : lv_has ls 4 [(0, .int p1)] := hl
  have hP : va_P D vwCl (([] : va_W)) s.heap := hP
  have w_0 := hts (.constantLong RX2 45 (10)) (by decide +kernel)
  unfold f_X2_tenTo at h
  have hC_4 : ∀ (fu_4 : Nat) (x1_4 : Int64) (x3_4 : Int32) (H : Heap) (locs : List Loc) (ls : Array Slot), va_P D vwCl (([] : va_W)) H → va_D A (([] : va_W)) → va_S A s.heap H locs → lv_has ls 4 [(0, .int p1), (1, .long x1_4), (3, .int x3_4)] → f_X2_tenTo_4 p1 fu_4 x1_4 x3_4 = some (o0) → W p l e ({ frames := 0, cells := 0, slots := 0, locals := 0 } : Room) s m args below meth c H locs 0 0 (MQ below (Qk D A (some (.long o0)) (([] : va_W))) args s 0 0 A) (F0 m 4 ls []) := by
    intro fu_4
    induction fu_4 with
    | zero => intro x1_4 x3_4 H locs ls _ _ _ _ h; exact (no_l h).elim
    | succ fu_4 ih_4 =>
      intro x1_4 x3_4 H locs ls hP hD hS hl h
      rw [f_X2_tenTo_4] at h
      refine lv_iload_n hx hb dX2_tenTo_4 rfl (lv_at hl 2 rfl) ?_
      refine lv_iload_n hx hb dX2_tenTo_5 rfl (lv_at hl 0 rfl) ?_
      refine lv_icmp_ge (tgt := 21) hx hb dX2_tenTo_6 (by decide) (fun c_1 => ?_) (fun c_1 => ?_)
      · have h := it_l c_1 h
        refine lv_lload_n hx hb dX2_tenTo_21 rfl (lv_at hl 1 rfl) ?_
        cases h
        exact Ck_lret hx hb hr hP hD hS dX2_tenTo_22 hlocks
      · have h := it_r c_1 h
        refine lv_lload_n hx hb dX2_tenTo_9 rfl (lv_at hl 1 rfl) ?_
        refine lv_ldc2 (v := 10) hx hb hown w_0 dX2_tenTo_10 ?_
        refine lv_lmul hx hb dX2_tenTo_13 ?_
        refine lv_topl (fun v_2 ev_2 => ?_)
        have h := nm_l h ev_2
        refine lv_lstore_n (lv' := [(1, .long v_2), (0, .int p1), (3, .int x3_4)]) hx hb dX2_tenTo_14 rfl hl (by decide) rfl (fun ls hl => ?_)
        refine lv_iinc (v := (x3_4 + 1)) (lv' := [(3, .int (x3_4 + 1)), (1, .long v_2), (0, .int p1)]) hx hb dX2_tenTo_15 hl (k := 2) rfl rfl (by decide) rfl (fun ls hl => ?_)
        refine lv_goto (tgt := 4) hx hb dX2_tenTo_18 (by decide) ?_
        exact ih_4 v_2 (x3_4 + 1) _ _ _ hP hD hS (lv_sub hl [2, 1, 0] rfl) h
  refine lv_lconst (v := 1) hx hb dX2_tenTo_0 (by decide) ?_
  refine lv_lstore_n (lv' := [(1, .long 1), (0, .int p1)]) hx hb dX2_tenTo_1 rfl hl (by decide) rfl (fun ls hl => ?_)
  refine lv_iconst (v := 0) hx hb dX2_tenTo_2 (by decide) ?_
  refine lv_istore_n (lv' := [(3, .int 0), (1, .long 1), (0, .int p1)]) hx hb dX2_tenTo_3 rfl hl (by decide) rfl (fun ls hl => ?_)
  exact hC_4 2000 1 0 _ _ _ hP hD hS (lv_sub hl [2, 1, 0] rfl) h
def f_X2_less (p1 : Int32) (p2 : Int32) : Option (Int32) := if p2 ≤ p1 then (some (p2)) else (some (p1))
set_option maxRecDepth 100000 in
set_option maxHeartbeats 4000000 in
theorem c_X2_less (l : Launch) (D : va_G) (k : Nat → ClassId) (p1 : Int32) (p2 : Int32) (o0 : Int32) (h : f_X2_less p1 p2 = some (o0)) : Ck l D (tyK k) yX2_less wsX2_less ({ frames := 0, cells := 0, slots := 0, locals := 0 } : Room) [.int p1, .int p2] (([] : va_W)) (some (.int o0)) (([] : va_W)) := by
  refine Ck_of (cc := cX2_less) (maxL := 2) (ret := (some .int)) (by decide) rfl (Nat.le_of_ble_eq_true rfl) ?_
  intro p e s m args below meth c A ls hx hb hr hml hts hown hlocks hK hA hP hD hS hl
  have hl : lv_has ls 2 [(0, .int p1), (1, .int p2)] := hl
  have hP : va_P D vwCl (([] : va_W)) s.heap := hP
  unfold f_X2_less at h
  refine lv_iload_n hx hb dX2_less_0 rfl (lv_at hl 0 rfl) ?_
  refine lv_iload_n hx hb dX2_less_1 rfl (lv_at hl 1 rfl) ?_
  refine lv_icmp_ge (tgt := 9) hx hb dX2_less_2 (by decide) (fun c_1 => ?_) (fun c_1 => ?_)
  · have h := it_l c_1 h
    refine lv_iload_n hx hb dX2_less_9 rfl (lv_at hl 1 rfl) ?_
    cases h
    exact Ck_iret hx hb hr hP hD hS dX2_less_10 hlocks
  · have h := it_r c_1 h
    refine lv_iload_n hx hb dX2_less_5 rfl (lv_at hl 0 rfl) ?_
    refine lv_goto (tgt := 10) hx hb dX2_less_6 (by decide) ?_
    cases h
    exact Ck_iret hx hb hr hP hD hS dX2_less_10 hlocks
def f_X2_copy_3 (ff : Nat → Int32) (lf : Nat) (lt : Nat) (p1 : Int32) (p2 : Int32) (p3 : Int32) : Nat → Int32 → (Nat → Int32) → Option ((Nat → Int32))
  | 0, _, _ => none
  | fu + 1, x5_3, tf_3 => if p3 ≤ x5_3 then (some (tf_3)) else (gb (inb (p1 + x5_3) lf) <| gb (inb (p2 + x5_3) lt) <| nm (upd tf_3 (p2 + x5_3).toNatClampNeg (ff (p1 + x5_3).toNatClampNeg)) fun q_4 => (f_X2_copy_3 ff lf lt p1 p2 p3 fu) (x5_3 + 1) q_4)
def f_X2_copy (lf : Nat) (lt : Nat) (ff : Nat → Int32) (tf : Nat → Int32) (p1 : Int32) (p2 : Int32) (p3 : Int32) : Option ((Nat → Int32)) := f_X2_copy_3 ff lf lt p1 p2 p3 2000 0 tf
set_option maxRecDepth 100000 in
set_option maxHeartbeats 4000000 in
theorem c_X2_copy (l : Launch) (D : va_G) (k : Nat → ClassId) (fr : Nat) (to : Nat) (lf : Nat) (lt : Nat) (ff : Nat → Int32) (tf : Nat → Int32) (p1 : Int32) (p2 : Int32) (p3 : Int32) (o0 : Nat → Int32) (h : f_X2_copy lf lt ff tf p1 p2 p3 = some (o0)) : Ck l D (tyK k) yX2_copy wsX2_copy ({ frames := 0, cells := 0, slots := 0, locals := 0 } : Room) [.ref fr, .int p1, .ref to, .int p2, .int p3] ([(fr, .inl (k 0, lf, .inl ff))] ++ [(to, .inl (k 0, lt, .inl tf))]) none ([(fr, .inl (k 0, lf, .inl ff))] ++ [(to, .inl (k 0, lt, .inl o0))]) := by
  refine Ck_of (cc := cX2_copy) (maxL := 6) (ret := none) (by decide) rfl (Nat.le_of_ble_eq_true rfl) ?_
  intro p e s m args below meth c A ls hx hb hr hml hts hown hlocks hK hA hP hD hS hl
  have hl : lv_has ls 6 [(0, .ref fr), (1, .int p1), (2, .ref to), (3, .int p2), (4, .int p3)] := hl
  have hP : va_P D vwCl ([(fr, .inl (k 0, lf, .inl ff))] ++ [(to, .inl (k 0, lt, .inl tf))]) s.heap := hP
  unfold f_X2_copy at h
  have hC_3 : ∀ (fu_3 : Nat) (x5_3 : Int32) (tf_3 : Nat → Int32) (H : Heap) (locs : List Loc) (ls : Array Slot), va_P D vwCl ([(fr, .inl (k 0, lf, .inl ff))] ++ [(to, .inl (k 0, lt, .inl tf_3))]) H → va_D A ([(fr, .inl (k 0, lf, .inl ff))] ++ [(to, .inl (k 0, lt, .inl tf_3))]) → va_S A s.heap H locs → lv_has ls 6 [(0, .ref fr), (1, .int p1), (2, .ref to), (3, .int p2), (4, .int p3), (5, .int x5_3)] → f_X2_copy_3 ff lf lt p1 p2 p3 fu_3 x5_3 tf_3 = some (o0) → W p l e ({ frames := 0, cells := 0, slots := 0, locals := 0 } : Room) s m args below meth c H locs 0 0 (MQ below (Qk D A none ([(fr, .inl (k 0, lf, .inl ff))] ++ [(to, .inl (k 0, lt, .inl o0))])) args s 0 0 A) (F0 m 3 ls []) := by
    intro fu_3
    induction fu_3 with
    | zero => intro x5_3 tf_3 H locs ls _ _ _ _ h; exact (no_l h).elim
    | succ fu_3 ih_3 =>
      intro x5_3 tf_3 H locs ls hP hD hS hl h
      rw [f_X2_copy_3] at h
      refine lv_iload hx hb dX2_copy_3 (lv_at hl 5 rfl) ?_
      refine lv_iload hx hb dX2_copy_5 (lv_at hl 4 rfl) ?_
      refine lv_icmp_ge (tgt := 28) hx hb dX2_copy_7 (by decide) (fun c_1 => ?_) (fun c_1 => ?_)
      · have h := it_l c_1 h
        cases h
        exact Ck_vret hx hb hr hP hD hS dX2_copy_28 hlocks
      · have h := it_r c_1 h
        refine lv_aload_n hx hb dX2_copy_10 rfl (lv_at hl 2 rfl) ?_
        refine lv_iload_n hx hb dX2_copy_11 rfl (lv_at hl 3 rfl) ?_
        refine lv_iload hx hb dX2_copy_12 (lv_at hl 5 rfl) ?_
        refine lv_iadd hx hb dX2_copy_14 ?_
        refine lv_aload_n hx hb dX2_copy_15 rfl (lv_at hl 0 rfl) ?_
        refine lv_iload_n hx hb dX2_copy_16 rfl (lv_at hl 1 rfl) ?_
        refine lv_iload hx hb dX2_copy_17 (lv_at hl 5 rfl) ?_
        refine lv_iadd hx hb dX2_copy_19 ?_
        have g_2 := inb_vp (gb_l h)
        have h := gb_r h
        refine va_iald hx hb hK hP 0 0 rfl rfl g_2 dX2_copy_20 ?_
        have g_3 := inb_vp (gb_l h)
        have h := gb_r h
        refine va_iast hx hb hK hP hD hS 1 0 rfl rfl g_3 dX2_copy_21 (fun H locs hP hD hS => ?_)
        obtain ⟨q_4, eq_4⟩ : ∃ y : Nat → Int32, y = upd tf_3 (p2 + x5_3).toNatClampNeg (ff (p1 + x5_3).toNatClampNeg) := ⟨_, rfl⟩
        have hP : va_P D vwCl ([(fr, .inl (k 0, lf, .inl ff))] ++ [(to, .inl (k 0, lt, .inl q_4))]) H := by rw [eq_4]; exact hP
        have hD : va_D A ([(fr, .inl (k 0, lf, .inl ff))] ++ [(to, .inl (k 0, lt, .inl q_4))]) := by rw [eq_4]; exact hD
        have h := nm_l h eq_4
        refine lv_iinc (v := (x5_3 + 1)) (lv' := [(5, .int (x5_3 + 1)), (0, .ref fr), (1, .int p1), (2, .ref to), (3, .int p2), (4, .int p3)]) hx hb dX2_copy_22 hl (k := 5) rfl rfl (by decide) rfl (fun ls hl => ?_)
        refine lv_goto (tgt := 3) hx hb dX2_copy_25 (by decide) ?_
        exact ih_3 (x5_3 + 1) q_4 _ _ _ hP hD hS (lv_sub hl [1, 2, 3, 4, 5, 0] rfl) h
  refine lv_iconst (v := 0) hx hb dX2_copy_0 (by decide) ?_
  refine lv_istore (lv' := [(5, .int 0), (0, .ref fr), (1, .int p1), (2, .ref to), (3, .int p2), (4, .int p3)]) hx hb dX2_copy_1 hl (by decide) rfl (fun ls hl => ?_)
  exact hC_3 2000 0 tf _ _ _ hP hD hS (lv_sub hl [1, 2, 3, 4, 5, 0] rfl) h
def f_X2_copyS_3 (lf : Nat) (p1 : Int32) (p2 : Int32) (p3 : Int32) : Nat → Int32 → (Nat → Int32) → Option ((Nat → Int32))
  | 0, _, _ => none
  | fu + 1, x5_3, ff_3 => if p3 ≤ x5_3 then (some (ff_3)) else (gb (inb (p1 + x5_3) lf) <| gb (inb (p2 + x5_3) lf) <| nm (upd ff_3 (p2 + x5_3).toNatClampNeg (ff_3 (p1 + x5_3).toNatClampNeg)) fun q_4 => (f_X2_copyS_3 lf p1 p2 p3 fu) (x5_3 + 1) q_4)
def f_X2_copyS (lf : Nat) (ff : Nat → Int32) (p1 : Int32) (p2 : Int32) (p3 : Int32) : Option ((Nat → Int32)) := f_X2_copyS_3 lf p1 p2 p3 2000 0 ff
set_option maxRecDepth 100000 in
set_option maxHeartbeats 4000000 in
theorem c_X2_copyS (l : Launch) (D : va_G) (k : Nat → ClassId) (fr : Nat) (lf : Nat) (ff : Nat → Int32) (p1 : Int32) (p2 : Int32) (p3 : Int32) (o0 : Nat → Int32) (h : f_X2_copyS lf ff p1 p2 p3 = some (o0)) : Ck l D (tyK k) yX2_copy wsX2_copy ({ frames := 0, cells := 0, slots := 0, locals := 0 } : Room) [.ref fr, .int p1, .ref fr, .int p2, .int p3] ([(fr, .inl (k 0, lf, .inl ff))]) none ([(fr, .inl (k 0, lf, .inl o0))]) := by
  refine Ck_of (cc := cX2_copy) (maxL := 6) (ret := none) (by decide) rfl (Nat.le_of_ble_eq_true rfl) ?_
  intro p e s m args below meth c A ls hx hb hr hml hts hown hlocks hK hA hP hD hS hl
  have hl : lv_has ls 6 [(0, .ref fr), (1, .int p1), (2, .ref fr), (3, .int p2), (4, .int p3)] := hl
  have hP : va_P D vwCl ([(fr, .inl (k 0, lf, .inl ff))]) s.heap := hP
  unfold f_X2_copyS at h
  have hC_3 : ∀ (fu_3 : Nat) (x5_3 : Int32) (ff_3 : Nat → Int32) (H : Heap) (locs : List Loc) (ls : Array Slot), va_P D vwCl ([(fr, .inl (k 0, lf, .inl ff_3))]) H → va_D A ([(fr, .inl (k 0, lf, .inl ff_3))]) → va_S A s.heap H locs → lv_has ls 6 [(0, .ref fr), (1, .int p1), (2, .ref fr), (3, .int p2), (4, .int p3), (5, .int x5_3)] → f_X2_copyS_3 lf p1 p2 p3 fu_3 x5_3 ff_3 = some (o0) → W p l e ({ frames := 0, cells := 0, slots := 0, locals := 0 } : Room) s m args below meth c H locs 0 0 (MQ below (Qk D A none ([(fr, .inl (k 0, lf, .inl o0))])) args s 0 0 A) (F0 m 3 ls []) := by
    intro fu_3
    induction fu_3 with
    | zero => intro x5_3 ff_3 H locs ls _ _ _ _ h; exact (no_l h).elim
    | succ fu_3 ih_3 =>
      intro x5_3 ff_3 H locs ls hP hD hS hl h
      rw [f_X2_copyS_3] at h
      refine lv_iload hx hb dX2_copy_3 (lv_at hl 5 rfl) ?_
      refine lv_iload hx hb dX2_copy_5 (lv_at hl 4 rfl) ?_
      refine lv_icmp_ge (tgt := 28) hx hb dX2_copy_7 (by decide) (fun c_1 => ?_) (fun c_1 => ?_)
      · have h := it_l c_1 h
        cases h
        exact Ck_vret hx hb hr hP hD hS dX2_copy_28 hlocks
      · have h := it_r c_1 h
        refine lv_aload_n hx hb dX2_copy_10 rfl (lv_at hl 2 rfl) ?_
        refine lv_iload_n hx hb dX2_copy_11 rfl (lv_at hl 3 rfl) ?_
        refine lv_iload hx hb dX2_copy_12 (lv_at hl 5 rfl) ?_
        refine lv_iadd hx hb dX2_copy_14 ?_
        refine lv_aload_n hx hb dX2_copy_15 rfl (lv_at hl 0 rfl) ?_
        refine lv_iload_n hx hb dX2_copy_16 rfl (lv_at hl 1 rfl) ?_
        refine lv_iload hx hb dX2_copy_17 (lv_at hl 5 rfl) ?_
        refine lv_iadd hx hb dX2_copy_19 ?_
        have g_2 := inb_vp (gb_l h)
        have h := gb_r h
        refine va_iald hx hb hK hP 0 0 rfl rfl g_2 dX2_copy_20 ?_
        have g_3 := inb_vp (gb_l h)
        have h := gb_r h
        refine va_iast hx hb hK hP hD hS 0 0 rfl rfl g_3 dX2_copy_21 (fun H locs hP hD hS => ?_)
        obtain ⟨q_4, eq_4⟩ : ∃ y : Nat → Int32, y = upd ff_3 (p2 + x5_3).toNatClampNeg (ff_3 (p1 + x5_3).toNatClampNeg) := ⟨_, rfl⟩
        have hP : va_P D vwCl ([(fr, .inl (k 0, lf, .inl q_4))]) H := by rw [eq_4]; exact hP
        have hD : va_D A ([(fr, .inl (k 0, lf, .inl q_4))]) := by rw [eq_4]; exact hD
        have h := nm_l h eq_4
        refine lv_iinc (v := (x5_3 + 1)) (lv' := [(5, .int (x5_3 + 1)), (0, .ref fr), (1, .int p1), (2, .ref fr), (3, .int p2), (4, .int p3)]) hx hb dX2_copy_22 hl (k := 5) rfl rfl (by decide) rfl (fun ls hl => ?_)
        refine lv_goto (tgt := 3) hx hb dX2_copy_25 (by decide) ?_
        exact ih_3 (x5_3 + 1) q_4 _ _ _ hP hD hS (lv_sub hl [1, 2, 3, 4, 5, 0] rfl) h
  refine lv_iconst (v := 0) hx hb dX2_copy_0 (by decide) ?_
  refine lv_istore (lv' := [(5, .int 0), (0, .ref fr), (1, .int p1), (2, .ref fr), (3, .int p2), (4, .int p3)]) hx hb dX2_copy_1 hl (by decide) rfl (fun ls hl => ?_)
  exact hC_3 2000 0 ff _ _ _ hP hD hS (lv_sub hl [1, 2, 3, 4, 5, 0] rfl) h
def f_X2_amount (rf : Nat → Int32) (p1 : Int32) : Option (Int32) := gb (inb (6 + p1) 64) <| gb (inb (12 + p1) 64) <| some (((rf (6 + p1).toNatClampNeg) + (rf (12 + p1).toNatClampNeg)))
set_option maxRecDepth 100000 in
set_option maxHeartbeats 4000000 in
theorem c_X2_amount (l : Launch) (D : va_G) (k : Nat → ClassId) (rw : Nat) (rf : Nat → Int32) (p1 : Int32) (o0 : Int32) (h : f_X2_amount rf p1 = some (o0)) : Ck l D (tyK k) yX2_amount wsX2_amount ({ frames := 0, cells := 0, slots := 0, locals := 0 } : Room) [.ref rw, .int p1] ([(rw, .inl (k 0, 64, .inl rf))]) (some (.int o0)) ([(rw, .inl (k 0, 64, .inl rf))]) := by
  refine Ck_of (cc := cX2_amount) (maxL := 2) (ret := (some .int)) (by decide) rfl (Nat.le_of_ble_eq_true rfl) ?_
  intro p e s m args below meth c A ls hx hb hr hml hts hown hlocks hK hA hP hD hS hl
  have hl : lv_has ls 2 [(0, .ref rw), (1, .int p1)] := hl
  have hP : va_P D vwCl ([(rw, .inl (k 0, 64, .inl rf))]) s.heap := hP
  unfold f_X2_amount at h
  refine lv_aload_n hx hb dX2_amount_0 rfl (lv_at hl 0 rfl) ?_
  refine lv_bipush (v := 6) hx hb dX2_amount_1 (by decide) ?_
  refine lv_iload_n hx hb dX2_amount_3 rfl (lv_at hl 1 rfl) ?_
  refine lv_iadd hx hb dX2_amount_4 ?_
  have g_1 := inb_vp (gb_l h)
  have h := gb_r h
  refine va_iald hx hb hK hP 0 0 rfl rfl g_1 dX2_amount_5 ?_
  refine lv_aload_n hx hb dX2_amount_6 rfl (lv_at hl 0 rfl) ?_
  refine lv_bipush (v := 12) hx hb dX2_amount_7 (by decide) ?_
  refine lv_iload_n hx hb dX2_amount_9 rfl (lv_at hl 1 rfl) ?_
  refine lv_iadd hx hb dX2_amount_10 ?_
  have g_2 := inb_vp (gb_l h)
  have h := gb_r h
  refine va_iald hx hb hK hP 0 0 rfl rfl g_2 dX2_amount_11 ?_
  refine lv_iadd hx hb dX2_amount_12 ?_
  cases h
  exact Ck_iret hx hb hr hP hD hS dX2_amount_13 hlocks
def f_X2_thickness (rf : Nat → Int32) (p1 : Int32) : Option (Int32) := bd (f_X2_amount rf p1) fun v_1 => if v_1 = 0 then (some (0)) else (gb (inb (12 + p1) 64) <| bd (f_X2_amount rf p1) fun v_5 => gb (nz v_5) <| some (((100 * (rf (12 + p1).toNatClampNeg)) / v_5)))
set_option maxRecDepth 100000 in
set_option maxHeartbeats 4000000 in
theorem c_X2_thickness (l : Launch) (D : va_G) (k : Nat → ClassId) (rw : Nat) (rf : Nat → Int32) (p1 : Int32) (o0 : Int32) (h : f_X2_thickness rf p1 = some (o0)) : Ck l D (tyK k) yX2_thickness wsX2_thickness ({ frames := 1, cells := 0, slots := 0, locals := 21 } : Room) [.ref rw, .int p1] ([(rw, .inl (k 0, 64, .inl rf))]) (some (.int o0)) ([(rw, .inl (k 0, 64, .inl rf))]) := by
  refine Ck_of (cc := cX2_thickness) (maxL := 2) (ret := (some .int)) (by decide) rfl (Nat.le_of_ble_eq_true rfl) ?_
  intro p e s m args below meth c A ls hx hb hr hml hts hown hlocks hK hA hP hD hS hl
  have hl : lv_has ls 2 [(0, .ref rw), (1, .int p1)] := hl
  have hP : va_P D vwCl ([(rw, .inl (k 0, 64, .inl rf))]) s.heap := hP
  unfold f_X2_thickness at h
  refine lv_aload_n hx hb dX2_thickness_0 rfl (lv_at hl 0 rfl) ?_
  refine lv_iload_n hx hb dX2_thickness_1 rfl (lv_at hl 1 rfl) ?_
  obtain ⟨v_1, hv_2, h⟩ := bd_l h
  refine Ck_S (As := [.ref rw, .int p1]) (rest := []) (wc := [(rw, .inl (k 0, 64, .inl rf))]) (wc' := [(rw, .inl (k 0, 64, .inl rf))]) (w0' := [(rw, .inl (k 0, 64, .inl rf))]) ⟨hx, hb, hml, hown, hts⟩ (c_X2_amount l D k rw rf p1 v_1 hv_2) (va_cwS 2 hts gX2_thickness_X2_amount rfl rfl rfl (by decide +kernel) ⟨Nat.le_of_ble_eq_true rfl, Nat.le_of_ble_eq_true rfl⟩) hK hP hD hS hA [0] rfl (by decide) rfl rfl rfl hl.1 rfl (Nat.le_of_ble_eq_true rfl) dX2_thickness_2 ⟨Nat.le_of_ble_eq_true rfl, Nat.le_of_ble_eq_true rfl⟩ (fun H locs hP hD hS => ?_)
  refine W.eq (g2 := F0 m 5 ls [.int v_1]) rfl ?_
  refine lv_if_ne (tgt := 12) hx hb dX2_thickness_5 (by decide) (fun c_3 => ?_) (fun c_3 => ?_)
  · have h := it_r c_3 h
    refine lv_bipush (v := 100) hx hb dX2_thickness_12 (by decide) ?_
    refine lv_aload_n hx hb dX2_thickness_14 rfl (lv_at hl 0 rfl) ?_
    refine lv_bipush (v := 12) hx hb dX2_thickness_15 (by decide) ?_
    refine lv_iload_n hx hb dX2_thickness_17 rfl (lv_at hl 1 rfl) ?_
    refine lv_iadd hx hb dX2_thickness_18 ?_
    have g_4 := inb_vp (gb_l h)
    have h := gb_r h
    refine va_iald hx hb hK hP 0 0 rfl rfl g_4 dX2_thickness_19 ?_
    refine lv_imul hx hb dX2_thickness_20 ?_
    refine lv_aload_n hx hb dX2_thickness_21 rfl (lv_at hl 0 rfl) ?_
    refine lv_iload_n hx hb dX2_thickness_22 rfl (lv_at hl 1 rfl) ?_
    obtain ⟨v_5, hv_6, h⟩ := bd_l h
    refine Ck_S (As := [.ref rw, .int p1]) (rest := [.int (100 * (rf (12 + p1).toNatClampNeg))]) (wc := [(rw, .inl (k 0, 64, .inl rf))]) (wc' := [(rw, .inl (k 0, 64, .inl rf))]) (w0' := [(rw, .inl (k 0, 64, .inl rf))]) ⟨hx, hb, hml, hown, hts⟩ (c_X2_amount l D k rw rf p1 v_5 hv_6) (va_cwS 2 hts gX2_thickness_X2_amount rfl rfl rfl (by decide +kernel) ⟨Nat.le_of_ble_eq_true rfl, Nat.le_of_ble_eq_true rfl⟩) hK hP hD hS hA [0] rfl (by decide) rfl rfl rfl hl.1 rfl (Nat.le_of_ble_eq_true rfl) dX2_thickness_23 ⟨Nat.le_of_ble_eq_true rfl, Nat.le_of_ble_eq_true rfl⟩ (fun H locs hP hD hS => ?_)
    refine W.eq (g2 := F0 m 26 ls [.int v_5, .int (100 * (rf (12 + p1).toNatClampNeg))]) rfl ?_
    have g_7 := nz_l (gb_l h)
    have h := gb_r h
    refine lv_idiv hx hb dX2_thickness_26 g_7 ?_
    cases h
    exact Ck_iret hx hb hr hP hD hS dX2_thickness_27 hlocks
  · have h := it_l c_3 h
    refine lv_iconst (v := 0) hx hb dX2_thickness_8 (by decide) ?_
    refine lv_goto (tgt := 27) hx hb dX2_thickness_9 (by decide) ?_
    cases h
    exact Ck_iret hx hb hr hP hD hS dX2_thickness_27 hlocks
def f_X2_power (rf : Nat → Int32) (p1 : Int32) : Option (Int32) := gb (inb (0 + p1) 64) <| gb (inb (30 + p1) 64) <| gb (nz (10 + (rf (30 + p1).toNatClampNeg))) <| some (((100 * (rf (0 + p1).toNatClampNeg)) / (10 + (rf (30 + p1).toNatClampNeg))))
set_option maxRecDepth 100000 in
set_option maxHeartbeats 4000000 in
theorem c_X2_power (l : Launch) (D : va_G) (k : Nat → ClassId) (rw : Nat) (rf : Nat → Int32) (p1 : Int32) (o0 : Int32) (h : f_X2_power rf p1 = some (o0)) : Ck l D (tyK k) yX2_power wsX2_power ({ frames := 0, cells := 0, slots := 0, locals := 0 } : Room) [.ref rw, .int p1] ([(rw, .inl (k 0, 64, .inl rf))]) (some (.int o0)) ([(rw, .inl (k 0, 64, .inl rf))]) := by
  refine Ck_of (cc := cX2_power) (maxL := 2) (ret := (some .int)) (by decide) rfl (Nat.le_of_ble_eq_true rfl) ?_
  intro p e s m args below meth c A ls hx hb hr hml hts hown hlocks hK hA hP hD hS hl
  have hl : lv_has ls 2 [(0, .ref rw), (1, .int p1)] := hl
  have hP : va_P D vwCl ([(rw, .inl (k 0, 64, .inl rf))]) s.heap := hP
  unfold f_X2_power at h
  refine lv_bipush (v := 100) hx hb dX2_power_0 (by decide) ?_
  refine lv_aload_n hx hb dX2_power_2 rfl (lv_at hl 0 rfl) ?_
  refine lv_iconst (v := 0) hx hb dX2_power_3 (by decide) ?_
  refine lv_iload_n hx hb dX2_power_4 rfl (lv_at hl 1 rfl) ?_
  refine lv_iadd hx hb dX2_power_5 ?_
  have g_1 := inb_vp (gb_l h)
  have h := gb_r h
  refine va_iald hx hb hK hP 0 0 rfl rfl g_1 dX2_power_6 ?_
  refine lv_imul hx hb dX2_power_7 ?_
  refine lv_bipush (v := 10) hx hb dX2_power_8 (by decide) ?_
  refine lv_aload_n hx hb dX2_power_10 rfl (lv_at hl 0 rfl) ?_
  refine lv_bipush (v := 30) hx hb dX2_power_11 (by decide) ?_
  refine lv_iload_n hx hb dX2_power_13 rfl (lv_at hl 1 rfl) ?_
  refine lv_iadd hx hb dX2_power_14 ?_
  have g_2 := inb_vp (gb_l h)
  have h := gb_r h
  refine va_iald hx hb hK hP 0 0 rfl rfl g_2 dX2_power_15 ?_
  refine lv_iadd hx hb dX2_power_16 ?_
  have g_3 := nz_l (gb_l h)
  have h := gb_r h
  refine lv_idiv hx hb dX2_power_17 g_3 ?_
  cases h
  exact Ck_iret hx hb hr hP hD hS dX2_power_18 hlocks
def f_X2_works (rf : Nat → Int32) (p1 : Int32) : Option (Int32) := gb (inb (42 + p1) 64) <| if (rf (42 + p1).toNatClampNeg) = 0 then (some (1)) else (some (0))
set_option maxRecDepth 100000 in
set_option maxHeartbeats 4000000 in
theorem c_X2_works (l : Launch) (D : va_G) (k : Nat → ClassId) (rw : Nat) (rf : Nat → Int32) (p1 : Int32) (o0 : Int32) (h : f_X2_works rf p1 = some (o0)) : Ck l D (tyK k) yX2_works wsX2_works ({ frames := 0, cells := 0, slots := 0, locals := 0 } : Room) [.ref rw, .int p1] ([(rw, .inl (k 0, 64, .inl rf))]) (some (.int o0)) ([(rw, .inl (k 0, 64, .inl rf))]) := by
  refine Ck_of (cc := cX2_works) (maxL := 2) (ret := (some .boolean)) (by decide) rfl (Nat.le_of_ble_eq_true rfl) ?_
  intro p e s m args below meth c A ls hx hb hr hml hts hown hlocks hK hA hP hD hS hl
  have hl : lv_has ls 2 [(0, .ref rw), (1, .int p1)] := hl
  have hP : va_P D vwCl ([(rw, .inl (k 0, 64, .inl rf))]) s.heap := hP
  unfold f_X2_works at h
  refine lv_aload_n hx hb dX2_works_0 rfl (lv_at hl 0 rfl) ?_
  refine lv_bipush (v := 42) hx hb dX2_works_1 (by decide) ?_
  refine lv_iload_n hx hb dX2_works_3 rfl (lv_at hl 1 rfl) ?_
  refine lv_iadd hx hb dX2_works_4 ?_
  have g_1 := inb_vp (gb_l h)
  have h := gb_r h
  refine va_iald hx hb hK hP 0 0 rfl rfl g_1 dX2_works_5 ?_
  refine lv_if_ne (tgt := 13) hx hb dX2_works_6 (by decide) (fun c_2 => ?_) (fun c_2 => ?_)
  · have h := it_r c_2 h
    refine lv_iconst (v := 0) hx hb dX2_works_13 (by decide) ?_
    cases h
    exact Ck_zret hx hb hr (by decide) hP hD hS dX2_works_14 hlocks
  · have h := it_l c_2 h
    refine lv_iconst (v := 1) hx hb dX2_works_9 (by decide) ?_
    refine lv_goto (tgt := 14) hx hb dX2_works_10 (by decide) ?_
    cases h
    exact Ck_zret hx hb hr (by decide) hP hD hS dX2_works_14 hlocks
def f_X2_before_4 (rf : Nat → Int32) : Nat → Int32 → Option (Int32)
  | 0, _ => none
  | fu + 1, x2_4 => if x2_4 < 0 then (if 0 ≤ x2_4 then (some (x2_4)) else (some ((-9)))) else (bd (f_X2_works rf x2_4) fun v_3 => if v_3 = 0 then ((f_X2_before_4 rf fu) (x2_4 + (-1))) else (if 0 ≤ x2_4 then (some (x2_4)) else (some ((-9)))))
def f_X2_before (rf : Nat → Int32) (p1 : Int32) : Option (Int32) := nm (p1 - 1) fun v_7 => f_X2_before_4 rf 2000 v_7
set_option maxRecDepth 100000 in
set_option maxHeartbeats 4000000 in
theorem c_X2_before (l : Launch) (D : va_G) (k : Nat → ClassId) (rw : Nat) (rf : Nat → Int32) (p1 : Int32) (o0 : Int32) (h : f_X2_before rf p1 = some (o0)) : Ck l D (tyK k) yX2_before wsX2_before ({ frames := 1, cells := 0, slots := 0, locals := 21 } : Room) [.ref rw, .int p1] ([(rw, .inl (k 0, 64, .inl rf))]) (some (.int o0)) ([(rw, .inl (k 0, 64, .inl rf))]) := by
  refine Ck_of (cc := cX2_before) (maxL := 3) (ret := (some .int)) (by decide) rfl (Nat.le_of_ble_eq_true rfl) ?_
  intro p e s m args below meth c A ls hx hb hr hml hts hown hlocks hK hA hP hD hS hl
  have hl : lv_has ls 3 [(0, .ref rw), (1, .int p1)] := hl
  have hP : va_P D vwCl ([(rw, .inl (k 0, 64, .inl rf))]) s.heap := hP
  unfold f_X2_before at h
  have hC_4 : ∀ (fu_4 : Nat) (x2_4 : Int32) (H : Heap) (locs : List Loc) (ls : Array Slot), va_P D vwCl ([(rw, .inl (k 0, 64, .inl rf))]) H → va_D A ([(rw, .inl (k 0, 64, .inl rf))]) → va_S A s.heap H locs → lv_has ls 3 [(0, .ref rw), (2, .int x2_4)] → f_X2_before_4 rf fu_4 x2_4 = some (o0) → W p l e ({ frames := 1, cells := 0, slots := 0, locals := 21 } : Room) s m args below meth c H locs 0 0 (MQ below (Qk D A (some (.int o0)) ([(rw, .inl (k 0, 64, .inl rf))])) args s 0 0 A) (F0 m 4 ls []) := by
    intro fu_4
    induction fu_4 with
    | zero => intro x2_4 H locs ls _ _ _ _ h; exact (no_l h).elim
    | succ fu_4 ih_4 =>
      intro x2_4 H locs ls hP hD hS hl h
      rw [f_X2_before_4] at h
      refine lv_iload_n hx hb dX2_before_4 rfl (lv_at hl 1 rfl) ?_
      refine lv_if_lt (tgt := 22) hx hb dX2_before_5 (by decide) (fun c_1 => ?_) (fun c_1 => ?_)
      · have h := it_l c_1 h
        refine lv_iload_n hx hb dX2_before_22 rfl (lv_at hl 1 rfl) ?_
        refine lv_if_ge (tgt := 31) hx hb dX2_before_23 (by decide) (fun c_2 => ?_) (fun c_2 => ?_)
        · have h := it_l c_2 h
          refine lv_iload_n hx hb dX2_before_31 rfl (lv_at hl 1 rfl) ?_
          cases h
          exact Ck_iret hx hb hr hP hD hS dX2_before_32 hlocks
        · have h := it_r c_2 h
          refine lv_bipush (v := (-9)) hx hb dX2_before_26 (by decide) ?_
          refine lv_goto (tgt := 32) hx hb dX2_before_28 (by decide) ?_
          cases h
          exact Ck_iret hx hb hr hP hD hS dX2_before_32 hlocks
      · have h := it_r c_1 h
        refine lv_aload_n hx hb dX2_before_8 rfl (lv_at hl 0 rfl) ?_
        refine lv_iload_n hx hb dX2_before_9 rfl (lv_at hl 1 rfl) ?_
        obtain ⟨v_3, hv_4, h⟩ := bd_l h
        refine Ck_S (As := [.ref rw, .int x2_4]) (rest := []) (wc := [(rw, .inl (k 0, 64, .inl rf))]) (wc' := [(rw, .inl (k 0, 64, .inl rf))]) (w0' := [(rw, .inl (k 0, 64, .inl rf))]) ⟨hx, hb, hml, hown, hts⟩ (c_X2_works l D k rw rf x2_4 v_3 hv_4) (va_cwS 2 hts gX2_before_X2_works rfl rfl rfl (by decide +kernel) ⟨Nat.le_of_ble_eq_true rfl, Nat.le_of_ble_eq_true rfl⟩) hK hP hD hS hA [0] rfl (by decide) rfl rfl rfl hl.1 rfl (Nat.le_of_ble_eq_true rfl) dX2_before_10 ⟨Nat.le_of_ble_eq_true rfl, Nat.le_of_ble_eq_true rfl⟩ (fun H locs hP hD hS => ?_)
        refine W.eq (g2 := F0 m 13 ls [.int v_3]) rfl ?_
        refine lv_if_ne (tgt := 22) hx hb dX2_before_13 (by decide) (fun c_5 => ?_) (fun c_5 => ?_)
        · have h := it_r c_5 h
          refine lv_iload_n hx hb dX2_before_22 rfl (lv_at hl 1 rfl) ?_
          refine lv_if_ge (tgt := 31) hx hb dX2_before_23 (by decide) (fun c_6 => ?_) (fun c_6 => ?_)
          · have h := it_l c_6 h
            refine lv_iload_n hx hb dX2_before_31 rfl (lv_at hl 1 rfl) ?_
            cases h
            exact Ck_iret hx hb hr hP hD hS dX2_before_32 hlocks
          · have h := it_r c_6 h
            refine lv_bipush (v := (-9)) hx hb dX2_before_26 (by decide) ?_
            refine lv_goto (tgt := 32) hx hb dX2_before_28 (by decide) ?_
            cases h
            exact Ck_iret hx hb hr hP hD hS dX2_before_32 hlocks
        · have h := it_l c_5 h
          refine lv_iinc (v := (x2_4 + (-1))) (lv' := [(2, .int (x2_4 + (-1))), (0, .ref rw)]) hx hb dX2_before_16 hl (k := 1) rfl rfl (by decide) rfl (fun ls hl => ?_)
          refine lv_goto (tgt := 4) hx hb dX2_before_19 (by decide) ?_
          exact ih_4 (x2_4 + (-1)) _ _ _ hP hD hS (lv_sub hl [1, 0] rfl) h
  refine lv_iload_n hx hb dX2_before_0 rfl (lv_at hl 1 rfl) ?_
  refine lv_iconst (v := 1) hx hb dX2_before_1 (by decide) ?_
  refine lv_isub hx hb dX2_before_2 ?_
  refine lv_topi (fun v_7 ev_7 => ?_)
  have h := nm_l h ev_7
  refine lv_istore_n (lv' := [(2, .int v_7), (0, .ref rw), (1, .int p1)]) hx hb dX2_before_3 rfl hl (by decide) rfl (fun ls hl => ?_)
  exact hC_4 2000 v_7 _ _ _ hP hD hS (lv_sub hl [1, 0] rfl) h
def f_X2_behind_4 (M : MdV) (rf : Nat → Int32) : Nat → Int32 → Option (Int32)
  | 0, _ => none
  | fu + 1, x3_4 => if (m_n M) ≤ x3_4 then (if x3_4 = (m_n M) then (some ((-9))) else (some (x3_4))) else (bd (f_X2_works rf x3_4) fun v_3 => if v_3 = 0 then ((f_X2_behind_4 M rf fu) (x3_4 + 1)) else (if x3_4 = (m_n M) then (some ((-9))) else (some (x3_4))))
def f_X2_behind (M : MdV) (rf : Nat → Int32) (p1 : Int32) : Option (Int32) := nm (p1 + 1) fun v_7 => f_X2_behind_4 M rf 2000 v_7
set_option maxRecDepth 100000 in
set_option maxHeartbeats 4000000 in
theorem c_X2_behind (l : Launch) (D : va_G) (k : Nat → ClassId) (b : Nat → Nat) (rw : Nat) (M : MdV) (rf : Nat → Int32) (p1 : Int32) (o0 : Int32) (h : f_X2_behind M rf p1 = some (o0)) : Ck l D (tyK k) yX2_behind wsX2_behind ({ frames := 1, cells := 0, slots := 0, locals := 21 } : Room) [.ref (b 0), .ref rw, .int p1] ([mdO b M] ++ [(rw, .inl (k 0, 64, .inl rf))]) (some (.int o0)) ([mdO b M] ++ [(rw, .inl (k 0, 64, .inl rf))]) := by
  refine Ck_of (cc := cX2_behind) (maxL := 4) (ret := (some .int)) (by decide) rfl (Nat.le_of_ble_eq_true rfl) ?_
  intro p e s m args below meth c A ls hx hb hr hml hts hown hlocks hK hA hP hD hS hl
  have hl : lv_has ls 4 [(0, .ref (b 0)), (1, .ref rw), (2, .int p1)] := hl
  have hP : va_P D vwCl ([mdO b M] ++ [(rw, .inl (k 0, 64, .inl rf))]) s.heap := hP
  have w_0 := hts (.fieldLink RX2 38 "EffectTrainModel" "n" "I") (by decide +kernel)
  have w_1 : ∀ w ∈ wsX20, w ∈ wsX2_behind := by decide +kernel
  unfold f_X2_behind at h
  have hC_4 : ∀ (fu_4 : Nat) (x3_4 : Int32) (H : Heap) (locs : List Loc) (ls : Array Slot), va_P D vwCl ([mdO b M] ++ [(rw, .inl (k 0, 64, .inl rf))]) H → va_D A ([mdO b M] ++ [(rw, .inl (k 0, 64, .inl rf))]) → va_S A s.heap H locs → lv_has ls 4 [(0, .ref (b 0)), (1, .ref rw), (3, .int x3_4)] → f_X2_behind_4 M rf fu_4 x3_4 = some (o0) → W p l e ({ frames := 1, cells := 0, slots := 0, locals := 21 } : Room) s m args below meth c H locs 0 0 (MQ below (Qk D A (some (.int o0)) ([mdO b M] ++ [(rw, .inl (k 0, 64, .inl rf))])) args s 0 0 A) (F0 m 4 ls []) := by
    intro fu_4
    induction fu_4 with
    | zero => intro x3_4 H locs ls _ _ _ _ h; exact (no_l h).elim
    | succ fu_4 ih_4 =>
      intro x3_4 H locs ls hP hD hS hl h
      rw [f_X2_behind_4] at h
      refine lv_iload_n hx hb dX2_behind_4 rfl (lv_at hl 2 rfl) ?_
      refine lv_aload_n hx hb dX2_behind_5 rfl (lv_at hl 0 rfl) ?_
      refine va_get (D := D) (ci := 2) (v := .int (m_n M)) (C := RX2) (T := TX2) (N := 15) hx hb hts w_1 hown hK hP 0 rfl rfl 6 (by decide) w_0 (fun _ h9 => h9) rfl dX2_behind_6 ?_
      refine lv_icmp_ge (tgt := 26) hx hb dX2_behind_9 (by decide) (fun c_1 => ?_) (fun c_1 => ?_)
      · have h := it_l c_1 h
        refine lv_iload_n hx hb dX2_behind_26 rfl (lv_at hl 2 rfl) ?_
        refine lv_aload_n hx hb dX2_behind_27 rfl (lv_at hl 0 rfl) ?_
        refine va_get (D := D) (ci := 2) (v := .int (m_n M)) (C := RX2) (T := TX2) (N := 15) hx hb hts w_1 hown hK hP 0 rfl rfl 6 (by decide) w_0 (fun _ h9 => h9) rfl dX2_behind_28 ?_
        refine lv_icmp_ne (tgt := 39) hx hb dX2_behind_31 (by decide) (fun c_2 => ?_) (fun c_2 => ?_)
        · have h := it_r c_2 h
          refine lv_iload_n hx hb dX2_behind_39 rfl (lv_at hl 2 rfl) ?_
          cases h
          exact Ck_iret hx hb hr hP hD hS dX2_behind_40 hlocks
        · have h := it_l c_2 h
          refine lv_bipush (v := (-9)) hx hb dX2_behind_34 (by decide) ?_
          refine lv_goto (tgt := 40) hx hb dX2_behind_36 (by decide) ?_
          cases h
          exact Ck_iret hx hb hr hP hD hS dX2_behind_40 hlocks
      · have h := it_r c_1 h
        refine lv_aload_n hx hb dX2_behind_12 rfl (lv_at hl 1 rfl) ?_
        refine lv_iload_n hx hb dX2_behind_13 rfl (lv_at hl 2 rfl) ?_
        obtain ⟨v_3, hv_4, h⟩ := bd_l h
        refine Ck_S (As := [.ref rw, .int x3_4]) (rest := []) (wc := [(rw, .inl (k 0, 64, .inl rf))]) (wc' := [(rw, .inl (k 0, 64, .inl rf))]) (w0' := [mdO b M] ++ [(rw, .inl (k 0, 64, .inl rf))]) ⟨hx, hb, hml, hown, hts⟩ (c_X2_works l D k rw rf x3_4 v_3 hv_4) (va_cwS 2 hts gX2_behind_X2_works rfl rfl rfl (by decide +kernel) ⟨Nat.le_of_ble_eq_true rfl, Nat.le_of_ble_eq_true rfl⟩) hK hP hD hS hA [1] rfl (by decide) rfl rfl rfl hl.1 rfl (Nat.le_of_ble_eq_true rfl) dX2_behind_14 ⟨Nat.le_of_ble_eq_true rfl, Nat.le_of_ble_eq_true rfl⟩ (fun H locs hP hD hS => ?_)
        refine W.eq (g2 := F0 m 17 ls [.int v_3]) rfl ?_
        refine lv_if_ne (tgt := 26) hx hb dX2_behind_17 (by decide) (fun c_5 => ?_) (fun c_5 => ?_)
        · have h := it_r c_5 h
          refine lv_iload_n hx hb dX2_behind_26 rfl (lv_at hl 2 rfl) ?_
          refine lv_aload_n hx hb dX2_behind_27 rfl (lv_at hl 0 rfl) ?_
          refine va_get (D := D) (ci := 2) (v := .int (m_n M)) (C := RX2) (T := TX2) (N := 15) hx hb hts w_1 hown hK hP 0 rfl rfl 6 (by decide) w_0 (fun _ h9 => h9) rfl dX2_behind_28 ?_
          refine lv_icmp_ne (tgt := 39) hx hb dX2_behind_31 (by decide) (fun c_6 => ?_) (fun c_6 => ?_)
          · have h := it_r c_6 h
            refine lv_iload_n hx hb dX2_behind_39 rfl (lv_at hl 2 rfl) ?_
            cases h
            exact Ck_iret hx hb hr hP hD hS dX2_behind_40 hlocks
          · have h := it_l c_6 h
            refine lv_bipush (v := (-9)) hx hb dX2_behind_34 (by decide) ?_
            refine lv_goto (tgt := 40) hx hb dX2_behind_36 (by decide) ?_
            cases h
            exact Ck_iret hx hb hr hP hD hS dX2_behind_40 hlocks
        · have h := it_l c_5 h
          refine lv_iinc (v := (x3_4 + 1)) (lv' := [(3, .int (x3_4 + 1)), (0, .ref (b 0)), (1, .ref rw)]) hx hb dX2_behind_20 hl (k := 2) rfl rfl (by decide) rfl (fun ls hl => ?_)
          refine lv_goto (tgt := 4) hx hb dX2_behind_23 (by decide) ?_
          exact ih_4 (x3_4 + 1) _ _ _ hP hD hS (lv_sub hl [1, 2, 0] rfl) h
  refine lv_iload_n hx hb dX2_behind_0 rfl (lv_at hl 2 rfl) ?_
  refine lv_iconst (v := 1) hx hb dX2_behind_1 (by decide) ?_
  refine lv_iadd hx hb dX2_behind_2 ?_
  refine lv_topi (fun v_7 ev_7 => ?_)
  have h := nm_l h ev_7
  refine lv_istore_n (lv' := [(3, .int v_7), (0, .ref (b 0)), (1, .ref rw), (2, .int p1)]) hx hb dX2_behind_3 rfl hl (by decide) rfl (fun ls hl => ?_)
  exact hC_4 2000 v_7 _ _ _ hP hD hS (lv_sub hl [1, 2, 0] rfl) h
def f_X2_washed_4 (M : MdV) (rf : Nat → Int32) : Nat → Int32 → Int32 → Option (Int32)
  | 0, _, _ => none
  | fu + 1, x2_4, x3_4 => if (m_n M) ≤ x3_4 then (some (x2_4)) else (bd (f_X2_works rf x3_4) fun v_2 => if v_2 = 0 then (nm (x2_4 + 1) fun v_5 => (f_X2_washed_4 M rf fu) v_5 (x3_4 + 1)) else (nm (x2_4 + 0) fun v_6 => (f_X2_washed_4 M rf fu) v_6 (x3_4 + 1)))
def f_X2_washed (M : MdV) (rf : Nat → Int32) : Option (Int32) := f_X2_washed_4 M rf 2000 0 0
set_option maxRecDepth 100000 in
set_option maxHeartbeats 4000000 in
theorem c_X2_washed (l : Launch) (D : va_G) (k : Nat → ClassId) (b : Nat → Nat) (rw : Nat) (M : MdV) (rf : Nat → Int32) (o0 : Int32) (h : f_X2_washed M rf = some (o0)) : Ck l D (tyK k) yX2_washed wsX2_washed ({ frames := 1, cells := 0, slots := 0, locals := 21 } : Room) [.ref (b 0), .ref rw] ([mdO b M] ++ [(rw, .inl (k 0, 64, .inl rf))]) (some (.int o0)) ([mdO b M] ++ [(rw, .inl (k 0, 64, .inl rf))]) := by
  refine Ck_of (cc := cX2_washed) (maxL := 4) (ret := (some .int)) (by decide) rfl (Nat.le_of_ble_eq_true rfl) ?_
  intro p e s m args below meth c A ls hx hb hr hml hts hown hlocks hK hA hP hD hS hl
  have hl : lv_has ls 4 [(0, .ref (b 0)), (1, .ref rw)] := hl
  have hP : va_P D vwCl ([mdO b M] ++ [(rw, .inl (k 0, 64, .inl rf))]) s.heap := hP
  have w_0 := hts (.fieldLink RX2 38 "EffectTrainModel" "n" "I") (by decide +kernel)
  have w_1 : ∀ w ∈ wsX20, w ∈ wsX2_washed := by decide +kernel
  unfold f_X2_washed at h
  have hC_4 : ∀ (fu_4 : Nat) (x2_4 : Int32) (x3_4 : Int32) (H : Heap) (locs : List Loc) (ls : Array Slot), va_P D vwCl ([mdO b M] ++ [(rw, .inl (k 0, 64, .inl rf))]) H → va_D A ([mdO b M] ++ [(rw, .inl (k 0, 64, .inl rf))]) → va_S A s.heap H locs → lv_has ls 4 [(0, .ref (b 0)), (1, .ref rw), (2, .int x2_4), (3, .int x3_4)] → f_X2_washed_4 M rf fu_4 x2_4 x3_4 = some (o0) → W p l e ({ frames := 1, cells := 0, slots := 0, locals := 21 } : Room) s m args below meth c H locs 0 0 (MQ below (Qk D A (some (.int o0)) ([mdO b M] ++ [(rw, .inl (k 0, 64, .inl rf))])) args s 0 0 A) (F0 m 4 ls []) := by
    intro fu_4
    induction fu_4 with
    | zero => intro x2_4 x3_4 H locs ls _ _ _ _ h; exact (no_l h).elim
    | succ fu_4 ih_4 =>
      intro x2_4 x3_4 H locs ls hP hD hS hl h
      rw [f_X2_washed_4] at h
      refine lv_iload_n hx hb dX2_washed_4 rfl (lv_at hl 3 rfl) ?_
      refine lv_aload_n hx hb dX2_washed_5 rfl (lv_at hl 0 rfl) ?_
      refine va_get (D := D) (ci := 2) (v := .int (m_n M)) (C := RX2) (T := TX2) (N := 15) hx hb hts w_1 hown hK hP 0 rfl rfl 6 (by decide) w_0 (fun _ h9 => h9) rfl dX2_washed_6 ?_
      refine lv_icmp_ge (tgt := 34) hx hb dX2_washed_9 (by decide) (fun c_1 => ?_) (fun c_1 => ?_)
      · have h := it_l c_1 h
        refine lv_iload_n hx hb dX2_washed_34 rfl (lv_at hl 2 rfl) ?_
        cases h
        exact Ck_iret hx hb hr hP hD hS dX2_washed_35 hlocks
      · have h := it_r c_1 h
        refine lv_iload_n hx hb dX2_washed_12 rfl (lv_at hl 2 rfl) ?_
        refine lv_aload_n hx hb dX2_washed_13 rfl (lv_at hl 1 rfl) ?_
        refine lv_iload_n hx hb dX2_washed_14 rfl (lv_at hl 3 rfl) ?_
        obtain ⟨v_2, hv_3, h⟩ := bd_l h
        refine Ck_S (As := [.ref rw, .int x3_4]) (rest := [.int x2_4]) (wc := [(rw, .inl (k 0, 64, .inl rf))]) (wc' := [(rw, .inl (k 0, 64, .inl rf))]) (w0' := [mdO b M] ++ [(rw, .inl (k 0, 64, .inl rf))]) ⟨hx, hb, hml, hown, hts⟩ (c_X2_works l D k rw rf x3_4 v_2 hv_3) (va_cwS 2 hts gX2_washed_X2_works rfl rfl rfl (by decide +kernel) ⟨Nat.le_of_ble_eq_true rfl, Nat.le_of_ble_eq_true rfl⟩) hK hP hD hS hA [1] rfl (by decide) rfl rfl rfl hl.1 rfl (Nat.le_of_ble_eq_true rfl) dX2_washed_15 ⟨Nat.le_of_ble_eq_true rfl, Nat.le_of_ble_eq_true rfl⟩ (fun H locs hP hD hS => ?_)
        refine W.eq (g2 := F0 m 18 ls [.int v_2, .int x2_4]) rfl ?_
        refine lv_if_eq (tgt := 25) hx hb dX2_washed_18 (by decide) (fun c_4 => ?_) (fun c_4 => ?_)
        · have h := it_l c_4 h
          refine lv_iconst (v := 1) hx hb dX2_washed_25 (by decide) ?_
          refine lv_iadd hx hb dX2_washed_26 ?_
          refine lv_topi (fun v_5 ev_5 => ?_)
          have h := nm_l h ev_5
          refine lv_istore_n (lv' := [(2, .int v_5), (0, .ref (b 0)), (1, .ref rw), (3, .int x3_4)]) hx hb dX2_washed_27 rfl hl (by decide) rfl (fun ls hl => ?_)
          refine lv_iinc (v := (x3_4 + 1)) (lv' := [(3, .int (x3_4 + 1)), (2, .int v_5), (0, .ref (b 0)), (1, .ref rw)]) hx hb dX2_washed_28 hl (k := 3) rfl rfl (by decide) rfl (fun ls hl => ?_)
          refine lv_goto (tgt := 4) hx hb dX2_washed_31 (by decide) ?_
          exact ih_4 v_5 (x3_4 + 1) _ _ _ hP hD hS (lv_sub hl [2, 3, 1, 0] rfl) h
        · have h := it_r c_4 h
          refine lv_iconst (v := 0) hx hb dX2_washed_21 (by decide) ?_
          refine lv_goto (tgt := 26) hx hb dX2_washed_22 (by decide) ?_
          refine lv_iadd hx hb dX2_washed_26 ?_
          refine lv_topi (fun v_6 ev_6 => ?_)
          have h := nm_l h ev_6
          refine lv_istore_n (lv' := [(2, .int v_6), (0, .ref (b 0)), (1, .ref rw), (3, .int x3_4)]) hx hb dX2_washed_27 rfl hl (by decide) rfl (fun ls hl => ?_)
          refine lv_iinc (v := (x3_4 + 1)) (lv' := [(3, .int (x3_4 + 1)), (2, .int v_6), (0, .ref (b 0)), (1, .ref rw)]) hx hb dX2_washed_28 hl (k := 3) rfl rfl (by decide) rfl (fun ls hl => ?_)
          refine lv_goto (tgt := 4) hx hb dX2_washed_31 (by decide) ?_
          exact ih_4 v_6 (x3_4 + 1) _ _ _ hP hD hS (lv_sub hl [2, 3, 1, 0] rfl) h
  refine lv_iconst (v := 0) hx hb dX2_washed_0 (by decide) ?_
  refine lv_istore_n (lv' := [(2, .int 0), (0, .ref (b 0)), (1, .ref rw)]) hx hb dX2_washed_1 rfl hl (by decide) rfl (fun ls hl => ?_)
  refine lv_iconst (v := 0) hx hb dX2_washed_2 (by decide) ?_
  refine lv_istore_n (lv' := [(3, .int 0), (2, .int 0), (0, .ref (b 0)), (1, .ref rw)]) hx hb dX2_washed_3 rfl hl (by decide) rfl (fun ls hl => ?_)
  exact hC_4 2000 0 0 _ _ _ hP hD hS (lv_sub hl [2, 3, 1, 0] rfl) h
def f_X2_boil_156 (k_28 : Int32 → Int32 → (Nat → Int32) → Option ((Nat → Int32))) : Nat → Int32 → Int32 → Int32 → (Nat → Int32) → Option ((Nat → Int32))
  | 0, _, _, _, _ => none
  | fu + 1, x3_156, x5_156, x6_156, rf_156 => gb (inb (36 + x3_156) 64) <| if (rf_156 (36 + x3_156).toNatClampNeg) < 1000 then (nm (x5_156 - x6_156) fun v_3 => k_28 v_3 (x3_156 + 1) rf_156) else (gb (inb (36 + x3_156) 64) <| gb (inb (36 + x3_156) 64) <| nm (upd rf_156 (36 + x3_156).toNatClampNeg ((rf_156 (36 + x3_156).toNatClampNeg) - 1000)) fun q_6 => gb (inb (30 + x3_156) 64) <| if 99 ≤ (q_6 (30 + x3_156).toNatClampNeg) then (gb (inb (30 + x3_156) 64) <| nm (upd q_6 (30 + x3_156).toNatClampNeg 99) fun q_10 => (f_X2_boil_156 k_28 fu) x3_156 x5_156 x6_156 q_10) else (gb (inb (30 + x3_156) 64) <| gb (inb (30 + x3_156) 64) <| nm (upd q_6 (30 + x3_156).toNatClampNeg ((q_6 (30 + x3_156).toNatClampNeg) + 1)) fun q_13 => (f_X2_boil_156 k_28 fu) x3_156 x5_156 x6_156 q_13))
def f_X2_boil_28 (M : MdV) : Nat → Int32 → Int32 → (Nat → Int32) → Option ((Nat → Int32))
  | 0, _, _, _ => none
  | fu + 1, x2_28, x3_28, rf_28 => if (m_n M) ≤ x3_28 then (nm (upd rf_28 57 ((rf_28 57) + x2_28)) fun q_15 => some (q_15)) else (bd (f_X2_works rf_28 x3_28) fun v_16 => if v_16 = 0 then ((f_X2_boil_28 M fu) x2_28 (x3_28 + 1) rf_28) else (bd (f_X2_thickness rf_28 x3_28) fun v_19 => bd (f_X2_power rf_28 x3_28) fun v_21 => bd (f_X2_less x2_28 v_21) fun v_23 => gb (inb (6 + x3_28) 64) <| bd (f_X2_less (v_23 - ((v_23 * v_19) / 200)) (rf_28 (6 + x3_28).toNatClampNeg)) fun v_26 => gb (inb (24 + x3_28) 64) <| nm ((v_26 * (rf_28 (24 + x3_28).toNatClampNeg)) / 100) fun v_29 => gb (inb (6 + x3_28) 64) <| gb (inb (6 + x3_28) 64) <| nm (upd rf_28 (6 + x3_28).toNatClampNeg ((rf_28 (6 + x3_28).toNatClampNeg) - v_26)) fun q_32 => nm (upd q_32 55 ((q_32 55) + v_26)) fun q_33 => nm (upd q_33 56 ((q_33 56) + v_29)) fun q_34 => nm (upd q_34 58 ((q_34 58) + (x2_28 - v_26))) fun q_35 => gb (inb (36 + x3_28) 64) <| gb (inb (36 + x3_28) 64) <| nm (upd q_35 (36 + x3_28).toNatClampNeg ((q_35 (36 + x3_28).toNatClampNeg) + ((v_26 * v_19) / 10))) fun q_38 => f_X2_boil_156 (f_X2_boil_28 M fu) 2000 x3_28 v_26 v_29 q_38))
def f_X2_boil (M : MdV) (rf : Nat → Int32) : Option ((Nat → Int32)) := bd (f_X2_washed M rf) fun v_39 => if v_39 = (m_n M) then (some (rf)) else (nm (rf 48) fun v_42 => nm (upd rf 54 ((rf 54) + v_42)) fun q_43 => f_X2_boil_28 M 2000 v_42 0 q_43)
set_option maxRecDepth 100000 in
set_option maxHeartbeats 4000000 in
theorem c_X2_boil (l : Launch) (D : va_G) (k : Nat → ClassId) (b : Nat → Nat) (rw : Nat) (M : MdV) (rf : Nat → Int32) (o0 : Nat → Int32) (h : f_X2_boil M rf = some (o0)) : Ck l D (tyK k) yX2_boil wsX2_boil ({ frames := 2, cells := 0, slots := 0, locals := 44 } : Room) [.ref (b 0), .ref rw] ([mdO b M] ++ [(rw, .inl (k 0, 64, .inl rf))]) none ([mdO b M] ++ [(rw, .inl (k 0, 64, .inl o0))]) := by
  refine Ck_of (cc := cX2_boil) (maxL := 7) (ret := none) (by decide) rfl (Nat.le_of_ble_eq_true rfl) ?_
  intro p e s m args below meth c A ls hx hb hr hml hts hown hlocks hK hA hP hD hS hl
  have hl : lv_has ls 7 [(0, .ref (b 0)), (1, .ref rw)] := hl
  have hP : va_P D vwCl ([mdO b M] ++ [(rw, .inl (k 0, 64, .inl rf))]) s.heap := hP
  have w_0 := hts (.fieldLink RX2 38 "EffectTrainModel" "n" "I") (by decide +kernel)
  have w_1 : ∀ w ∈ wsX20, w ∈ wsX2_boil := by decide +kernel
  unfold f_X2_boil at h
  have hC_28 : ∀ (fu_28 : Nat) (x2_28 : Int32) (x3_28 : Int32) (rf_28 : Nat → Int32) (H : Heap) (locs : List Loc) (ls : Array Slot), va_P D vwCl ([mdO b M] ++ [(rw, .inl (k 0, 64, .inl rf_28))]) H → va_D A ([mdO b M] ++ [(rw, .inl (k 0, 64, .inl rf_28))]) → va_S A s.heap H locs → lv_has ls 7 [(0, .ref (b 0)), (1, .ref rw), (2, .int x2_28), (3, .int x3_28)] → f_X2_boil_28 M fu_28 x2_28 x3_28 rf_28 = some (o0) → W p l e ({ frames := 2, cells := 0, slots := 0, locals := 44 } : Room) s m args below meth c H locs 0 0 (MQ below (Qk D A none ([mdO b M] ++ [(rw, .inl (k 0, 64, .inl o0))])) args s 0 0 A) (F0 m 28 ls []) := by
    intro fu_28
    induction fu_28 with
    | zero => intro x2_28 x3_28 rf_28 H locs ls _ _ _ _ h; exact (no_l h).elim
    | succ fu_28 ih_28 =>
      intro x2_28 x3_28 rf_28 H locs ls hP hD hS hl h
      rw [f_X2_boil_28] at h
      have hC_156 : ∀ (fu_156 : Nat) (x3_156 : Int32) (x5_156 : Int32) (x6_156 : Int32) (rf_156 : Nat → Int32) (H : Heap) (locs : List Loc) (ls : Array Slot), va_P D vwCl ([mdO b M] ++ [(rw, .inl (k 0, 64, .inl rf_156))]) H → va_D A ([mdO b M] ++ [(rw, .inl (k 0, 64, .inl rf_156))]) → va_S A s.heap H locs → lv_has ls 7 [(0, .ref (b 0)), (1, .ref rw), (3, .int x3_156), (5, .int x5_156), (6, .int x6_156)] → f_X2_boil_156 (f_X2_boil_28 M fu_28) fu_156 x3_156 x5_156 x6_156 rf_156 = some (o0) → W p l e ({ frames := 2, cells := 0, slots := 0, locals := 44 } : Room) s m args below meth c H locs 0 0 (MQ below (Qk D A none ([mdO b M] ++ [(rw, .inl (k 0, 64, .inl o0))])) args s 0 0 A) (F0 m 156 ls []) := by
        intro fu_156
        induction fu_156 with
        | zero => intro x3_156 x5_156 x6_156 rf_156 H locs ls _ _ _ _ h; exact (no_l h).elim
        | succ fu_156 ih_156 =>
          intro x3_156 x5_156 x6_156 rf_156 H locs ls hP hD hS hl h
          rw [f_X2_boil_156] at h
          refine lv_aload_n hx hb dX2_boil_156 rfl (lv_at hl 1 rfl) ?_
          refine lv_bipush (v := 36) hx hb dX2_boil_157 (by decide) ?_
          refine lv_iload_n hx hb dX2_boil_159 rfl (lv_at hl 2 rfl) ?_
          refine lv_iadd hx hb dX2_boil_160 ?_
          have g_1 := inb_vp (gb_l h)
          have h := gb_r h
          refine va_iald hx hb hK hP 1 0 rfl rfl g_1 dX2_boil_161 ?_
          refine lv_sipush (v := 1000) hx hb dX2_boil_162 (by decide) ?_
          refine lv_icmp_lt (tgt := 213) hx hb dX2_boil_165 (by decide) (fun c_2 => ?_) (fun c_2 => ?_)
          · have h := it_l c_2 h
            refine lv_iload hx hb dX2_boil_213 (lv_at hl 3 rfl) ?_
            refine lv_iload hx hb dX2_boil_215 (lv_at hl 4 rfl) ?_
            refine lv_isub hx hb dX2_boil_217 ?_
            refine lv_topi (fun v_3 ev_3 => ?_)
            have h := nm_l h ev_3
            refine lv_istore_n (lv' := [(2, .int v_3), (0, .ref (b 0)), (1, .ref rw), (3, .int x3_156), (5, .int x5_156), (6, .int x6_156)]) hx hb dX2_boil_218 rfl hl (by decide) rfl (fun ls hl => ?_)
            refine lv_iinc (v := (x3_156 + 1)) (lv' := [(3, .int (x3_156 + 1)), (2, .int v_3), (0, .ref (b 0)), (1, .ref rw), (5, .int x5_156), (6, .int x6_156)]) hx hb dX2_boil_219 hl (k := 3) rfl rfl (by decide) rfl (fun ls hl => ?_)
            refine lv_goto (tgt := 28) hx hb dX2_boil_222 (by decide) ?_
            exact ih_28 v_3 (x3_156 + 1) rf_156 _ _ _ hP hD hS (lv_sub hl [2, 3, 1, 0] rfl) h
          · have h := it_r c_2 h
            refine lv_aload_n hx hb dX2_boil_168 rfl (lv_at hl 1 rfl) ?_
            refine lv_bipush (v := 36) hx hb dX2_boil_169 (by decide) ?_
            refine lv_iload_n hx hb dX2_boil_171 rfl (lv_at hl 2 rfl) ?_
            refine lv_iadd hx hb dX2_boil_172 ?_
            refine lv_dup2_11 hx hb dX2_boil_173 rfl rfl ?_
            have g_4 := inb_vp (gb_l h)
            have h := gb_r h
            refine va_iald hx hb hK hP 1 0 rfl rfl g_4 dX2_boil_174 ?_
            refine lv_sipush (v := 1000) hx hb dX2_boil_175 (by decide) ?_
            refine lv_isub hx hb dX2_boil_178 ?_
            have g_5 := inb_vp (gb_l h)
            have h := gb_r h
            refine va_iast hx hb hK hP hD hS 1 0 rfl rfl g_5 dX2_boil_179 (fun H locs hP hD hS => ?_)
            obtain ⟨q_6, eq_6⟩ : ∃ y : Nat → Int32, y = upd rf_156 (36 + x3_156).toNatClampNeg ((rf_156 (36 + x3_156).toNatClampNeg) - 1000) := ⟨_, rfl⟩
            have hP : va_P D vwCl ([mdO b M] ++ [(rw, .inl (k 0, 64, .inl q_6))]) H := by rw [eq_6]; exact hP
            have hD : va_D A ([mdO b M] ++ [(rw, .inl (k 0, 64, .inl q_6))]) := by rw [eq_6]; exact hD
            have h := nm_l h eq_6
            refine lv_aload_n hx hb dX2_boil_180 rfl (lv_at hl 1 rfl) ?_
            refine lv_bipush (v := 30) hx hb dX2_boil_181 (by decide) ?_
            refine lv_iload_n hx hb dX2_boil_183 rfl (lv_at hl 2 rfl) ?_
            refine lv_iadd hx hb dX2_boil_184 ?_
            refine lv_aload_n hx hb dX2_boil_185 rfl (lv_at hl 1 rfl) ?_
            refine lv_bipush (v := 30) hx hb dX2_boil_186 (by decide) ?_
            refine lv_iload_n hx hb dX2_boil_188 rfl (lv_at hl 2 rfl) ?_
            refine lv_iadd hx hb dX2_boil_189 ?_
            have g_7 := inb_vp (gb_l h)
            have h := gb_r h
            refine va_iald hx hb hK hP 1 0 rfl rfl g_7 dX2_boil_190 ?_
            refine lv_bipush (v := 99) hx hb dX2_boil_191 (by decide) ?_
            refine lv_icmp_ge (tgt := 207) hx hb dX2_boil_193 (by decide) (fun c_8 => ?_) (fun c_8 => ?_)
            · have h := it_l c_8 h
              refine lv_bipush (v := 99) hx hb dX2_boil_207 (by decide) ?_
              have g_9 := inb_vp (gb_l h)
              have h := gb_r h
              refine va_iast hx hb hK hP hD hS 1 0 rfl rfl g_9 dX2_boil_209 (fun H locs hP hD hS => ?_)
              obtain ⟨q_10, eq_10⟩ : ∃ y : Nat → Int32, y = upd q_6 (30 + x3_156).toNatClampNeg 99 := ⟨_, rfl⟩
              have hP : va_P D vwCl ([mdO b M] ++ [(rw, .inl (k 0, 64, .inl q_10))]) H := by rw [eq_10]; exact hP
              have hD : va_D A ([mdO b M] ++ [(rw, .inl (k 0, 64, .inl q_10))]) := by rw [eq_10]; exact hD
              have h := nm_l h eq_10
              refine lv_goto (tgt := 156) hx hb dX2_boil_210 (by decide) ?_
              exact ih_156 x3_156 x5_156 x6_156 q_10 _ _ _ hP hD hS (lv_sub hl [0, 1, 2, 3, 4] rfl) h
            · have h := it_r c_8 h
              refine lv_aload_n hx hb dX2_boil_196 rfl (lv_at hl 1 rfl) ?_
              refine lv_bipush (v := 30) hx hb dX2_boil_197 (by decide) ?_
              refine lv_iload_n hx hb dX2_boil_199 rfl (lv_at hl 2 rfl) ?_
              refine lv_iadd hx hb dX2_boil_200 ?_
              have g_11 := inb_vp (gb_l h)
              have h := gb_r h
              refine va_iald hx hb hK hP 1 0 rfl rfl g_11 dX2_boil_201 ?_
              refine lv_iconst (v := 1) hx hb dX2_boil_202 (by decide) ?_
              refine lv_iadd hx hb dX2_boil_203 ?_
              refine lv_goto (tgt := 209) hx hb dX2_boil_204 (by decide) ?_
              have g_12 := inb_vp (gb_l h)
              have h := gb_r h
              refine va_iast hx hb hK hP hD hS 1 0 rfl rfl g_12 dX2_boil_209 (fun H locs hP hD hS => ?_)
              obtain ⟨q_13, eq_13⟩ : ∃ y : Nat → Int32, y = upd q_6 (30 + x3_156).toNatClampNeg ((q_6 (30 + x3_156).toNatClampNeg) + 1) := ⟨_, rfl⟩
              have hP : va_P D vwCl ([mdO b M] ++ [(rw, .inl (k 0, 64, .inl q_13))]) H := by rw [eq_13]; exact hP
              have hD : va_D A ([mdO b M] ++ [(rw, .inl (k 0, 64, .inl q_13))]) := by rw [eq_13]; exact hD
              have h := nm_l h eq_13
              refine lv_goto (tgt := 156) hx hb dX2_boil_210 (by decide) ?_
              exact ih_156 x3_156 x5_156 x6_156 q_13 _ _ _ hP hD hS (lv_sub hl [0, 1, 2, 3, 4] rfl) h
      refine lv_iload_n hx hb dX2_boil_28 rfl (lv_at hl 3 rfl) ?_
      refine lv_aload_n hx hb dX2_boil_29 rfl (lv_at hl 0 rfl) ?_
      refine va_get (D := D) (ci := 2) (v := .int (m_n M)) (C := RX2) (T := TX2) (N := 15) hx hb hts w_1 hown hK hP 0 rfl rfl 6 (by decide) w_0 (fun _ h9 => h9) rfl dX2_boil_30 ?_
      refine lv_icmp_ge (tgt := 225) hx hb dX2_boil_33 (by decide) (fun c_14 => ?_) (fun c_14 => ?_)
      · have h := it_l c_14 h
        refine lv_aload_n hx hb dX2_boil_225 rfl (lv_at hl 1 rfl) ?_
        refine lv_bipush (v := 57) hx hb dX2_boil_226 (by decide) ?_
        refine lv_dup2_11 hx hb dX2_boil_228 rfl rfl ?_
        refine va_iald hx hb hK hP 1 0 rfl rfl (inb_vp (by decide)) dX2_boil_229 ?_
        refine W.eq (g2 := F0 m 230 ls [.int (rf_28 57), .int 57, .ref rw]) rfl ?_
        refine lv_iload_n hx hb dX2_boil_230 rfl (lv_at hl 2 rfl) ?_
        refine lv_iadd hx hb dX2_boil_231 ?_
        refine va_iast hx hb hK hP hD hS 1 0 rfl rfl (inb_vp (by decide)) dX2_boil_232 (fun H locs hP hD hS => ?_)
        obtain ⟨q_15, eq_15⟩ : ∃ y : Nat → Int32, y = upd rf_28 57 ((rf_28 57) + x2_28) := ⟨_, rfl⟩
        have hP : va_P D vwCl ([mdO b M] ++ [(rw, .inl (k 0, 64, .inl q_15))]) H := by rw [eq_15]; exact hP
        have hD : va_D A ([mdO b M] ++ [(rw, .inl (k 0, 64, .inl q_15))]) := by rw [eq_15]; exact hD
        have h := nm_l h eq_15
        cases h
        exact Ck_vret hx hb hr hP hD hS dX2_boil_233 hlocks
      · have h := it_r c_14 h
        refine lv_aload_n hx hb dX2_boil_36 rfl (lv_at hl 1 rfl) ?_
        refine lv_iload_n hx hb dX2_boil_37 rfl (lv_at hl 3 rfl) ?_
        obtain ⟨v_16, hv_17, h⟩ := bd_l h
        refine Ck_S (As := [.ref rw, .int x3_28]) (rest := []) (wc := [(rw, .inl (k 0, 64, .inl rf_28))]) (wc' := [(rw, .inl (k 0, 64, .inl rf_28))]) (w0' := [mdO b M] ++ [(rw, .inl (k 0, 64, .inl rf_28))]) ⟨hx, hb, hml, hown, hts⟩ (c_X2_works l D k rw rf_28 x3_28 v_16 hv_17) (va_cwS 2 hts gX2_boil_X2_works rfl rfl rfl (by decide +kernel) ⟨Nat.le_of_ble_eq_true rfl, Nat.le_of_ble_eq_true rfl⟩) hK hP hD hS hA [1] rfl (by decide) rfl rfl rfl hl.1 rfl (Nat.le_of_ble_eq_true rfl) dX2_boil_38 ⟨Nat.le_of_ble_eq_true rfl, Nat.le_of_ble_eq_true rfl⟩ (fun H locs hP hD hS => ?_)
        refine W.eq (g2 := F0 m 41 ls [.int v_16]) rfl ?_
        refine lv_if_eq (tgt := 219) hx hb dX2_boil_41 (by decide) (fun c_18 => ?_) (fun c_18 => ?_)
        · have h := it_l c_18 h
          refine lv_iinc (v := (x3_28 + 1)) (lv' := [(3, .int (x3_28 + 1)), (0, .ref (b 0)), (1, .ref rw), (2, .int x2_28)]) hx hb dX2_boil_219 hl (k := 3) rfl rfl (by decide) rfl (fun ls hl => ?_)
          refine lv_goto (tgt := 28) hx hb dX2_boil_222 (by decide) ?_
          exact ih_28 x2_28 (x3_28 + 1) rf_28 _ _ _ hP hD hS (lv_sub hl [1, 2, 3, 0] rfl) h
        · have h := it_r c_18 h
          refine lv_aload_n hx hb dX2_boil_44 rfl (lv_at hl 1 rfl) ?_
          refine lv_iload_n hx hb dX2_boil_45 rfl (lv_at hl 3 rfl) ?_
          obtain ⟨v_19, hv_20, h⟩ := bd_l h
          refine Ck_S (As := [.ref rw, .int x3_28]) (rest := []) (wc := [(rw, .inl (k 0, 64, .inl rf_28))]) (wc' := [(rw, .inl (k 0, 64, .inl rf_28))]) (w0' := [mdO b M] ++ [(rw, .inl (k 0, 64, .inl rf_28))]) ⟨hx, hb, hml, hown, hts⟩ (c_X2_thickness l D k rw rf_28 x3_28 v_19 hv_20) (va_cwS 2 hts gX2_boil_X2_thickness rfl rfl rfl (by decide +kernel) ⟨Nat.le_of_ble_eq_true rfl, Nat.le_of_ble_eq_true rfl⟩) hK hP hD hS hA [1] rfl (by decide) rfl rfl rfl hl.1 rfl (Nat.le_of_ble_eq_true rfl) dX2_boil_46 ⟨Nat.le_of_ble_eq_true rfl, Nat.le_of_ble_eq_true rfl⟩ (fun H locs hP hD hS => ?_)
          refine W.eq (g2 := F0 m 49 ls [.int v_19]) rfl ?_
          refine lv_istore (lv' := [(4, .int v_19), (0, .ref (b 0)), (1, .ref rw), (2, .int x2_28), (3, .int x3_28)]) hx hb dX2_boil_49 hl (by decide) rfl (fun ls hl => ?_)
          refine lv_iload_n hx hb dX2_boil_51 rfl (lv_at hl 3 rfl) ?_
          refine lv_aload_n hx hb dX2_boil_52 rfl (lv_at hl 2 rfl) ?_
          refine lv_iload_n hx hb dX2_boil_53 rfl (lv_at hl 4 rfl) ?_
          obtain ⟨v_21, hv_22, h⟩ := bd_l h
          refine Ck_S (As := [.ref rw, .int x3_28]) (rest := [.int x2_28]) (wc := [(rw, .inl (k 0, 64, .inl rf_28))]) (wc' := [(rw, .inl (k 0, 64, .inl rf_28))]) (w0' := [mdO b M] ++ [(rw, .inl (k 0, 64, .inl rf_28))]) ⟨hx, hb, hml, hown, hts⟩ (c_X2_power l D k rw rf_28 x3_28 v_21 hv_22) (va_cwS 2 hts gX2_boil_X2_power rfl rfl rfl (by decide +kernel) ⟨Nat.le_of_ble_eq_true rfl, Nat.le_of_ble_eq_true rfl⟩) hK hP hD hS hA [1] rfl (by decide) rfl rfl rfl hl.1 rfl (Nat.le_of_ble_eq_true rfl) dX2_boil_54 ⟨Nat.le_of_ble_eq_true rfl, Nat.le_of_ble_eq_true rfl⟩ (fun H locs hP hD hS => ?_)
          refine W.eq (g2 := F0 m 57 ls [.int v_21, .int x2_28]) rfl ?_
          obtain ⟨v_23, hv_24, h⟩ := bd_l h
          refine Ck_S (As := [.int x2_28, .int v_21]) (rest := []) (wc := ([] : va_W)) (wc' := ([] : va_W)) (w0' := [mdO b M] ++ [(rw, .inl (k 0, 64, .inl rf_28))]) ⟨hx, hb, hml, hown, hts⟩ (c_X2_less l D k  x2_28 v_21 v_23 hv_24) (va_cwS 2 hts gX2_boil_X2_less rfl rfl rfl (by decide +kernel) ⟨Nat.le_of_ble_eq_true rfl, Nat.le_of_ble_eq_true rfl⟩) hK hP hD hS hA [] rfl (by decide) rfl rfl rfl hl.1 rfl (Nat.le_of_ble_eq_true rfl) dX2_boil_57 ⟨Nat.le_of_ble_eq_true rfl, Nat.le_of_ble_eq_true rfl⟩ (fun H locs hP hD hS => ?_)
          refine W.eq (g2 := F0 m 60 ls [.int v_23]) rfl ?_
          refine lv_istore (lv' := [(5, .int v_23), (4, .int v_19), (0, .ref (b 0)), (1, .ref rw), (2, .int x2_28), (3, .int x3_28)]) hx hb dX2_boil_60 hl (by decide) rfl (fun ls hl => ?_)
          refine lv_iload hx hb dX2_boil_62 (lv_at hl 0 rfl) ?_
          refine lv_iload hx hb dX2_boil_64 (lv_at hl 0 rfl) ?_
          refine lv_iload hx hb dX2_boil_66 (lv_at hl 1 rfl) ?_
          refine lv_imul hx hb dX2_boil_68 ?_
          refine lv_sipush (v := 200) hx hb dX2_boil_69 (by decide) ?_
          refine lv_idiv hx hb dX2_boil_72 (by decide) ?_
          refine lv_isub hx hb dX2_boil_73 ?_
          refine lv_aload_n hx hb dX2_boil_74 rfl (lv_at hl 3 rfl) ?_
          refine lv_bipush (v := 6) hx hb dX2_boil_75 (by decide) ?_
          refine lv_iload_n hx hb dX2_boil_77 rfl (lv_at hl 5 rfl) ?_
          refine lv_iadd hx hb dX2_boil_78 ?_
          have g_25 := inb_vp (gb_l h)
          have h := gb_r h
          refine va_iald hx hb hK hP 1 0 rfl rfl g_25 dX2_boil_79 ?_
          obtain ⟨v_26, hv_27, h⟩ := bd_l h
          refine Ck_S (As := [.int (v_23 - ((v_23 * v_19) / 200)), .int (rf_28 (6 + x3_28).toNatClampNeg)]) (rest := []) (wc := ([] : va_W)) (wc' := ([] : va_W)) (w0' := [mdO b M] ++ [(rw, .inl (k 0, 64, .inl rf_28))]) ⟨hx, hb, hml, hown, hts⟩ (c_X2_less l D k  (v_23 - ((v_23 * v_19) / 200)) (rf_28 (6 + x3_28).toNatClampNeg) v_26 hv_27) (va_cwS 2 hts gX2_boil_X2_less rfl rfl rfl (by decide +kernel) ⟨Nat.le_of_ble_eq_true rfl, Nat.le_of_ble_eq_true rfl⟩) hK hP hD hS hA [] rfl (by decide) rfl rfl rfl hl.1 rfl (Nat.le_of_ble_eq_true rfl) dX2_boil_80 ⟨Nat.le_of_ble_eq_true rfl, Nat.le_of_ble_eq_true rfl⟩ (fun H locs hP hD hS => ?_)
          refine W.eq (g2 := F0 m 83 ls [.int v_26]) rfl ?_
          refine lv_istore (lv' := [(5, .int v_26), (4, .int v_19), (0, .ref (b 0)), (1, .ref rw), (2, .int x2_28), (3, .int x3_28)]) hx hb dX2_boil_83 hl (by decide) rfl (fun ls hl => ?_)
          refine lv_iload hx hb dX2_boil_85 (lv_at hl 0 rfl) ?_
          refine lv_aload_n hx hb dX2_boil_87 rfl (lv_at hl 3 rfl) ?_
          refine lv_bipush (v := 24) hx hb dX2_boil_88 (by decide) ?_
          refine lv_iload_n hx hb dX2_boil_90 rfl (lv_at hl 5 rfl) ?_
          refine lv_iadd hx hb dX2_boil_91 ?_
          have g_28 := inb_vp (gb_l h)
          have h := gb_r h
          refine va_iald hx hb hK hP 1 0 rfl rfl g_28 dX2_boil_92 ?_
          refine lv_imul hx hb dX2_boil_93 ?_
          refine lv_bipush (v := 100) hx hb dX2_boil_94 (by decide) ?_
          refine lv_idiv hx hb dX2_boil_96 (by decide) ?_
          refine lv_topi (fun v_29 ev_29 => ?_)
          have h := nm_l h ev_29
          refine lv_istore (lv' := [(6, .int v_29), (5, .int v_26), (4, .int v_19), (0, .ref (b 0)), (1, .ref rw), (2, .int x2_28), (3, .int x3_28)]) hx hb dX2_boil_97 hl (by decide) rfl (fun ls hl => ?_)
          refine lv_aload_n hx hb dX2_boil_99 rfl (lv_at hl 4 rfl) ?_
          refine lv_bipush (v := 6) hx hb dX2_boil_100 (by decide) ?_
          refine lv_iload_n hx hb dX2_boil_102 rfl (lv_at hl 6 rfl) ?_
          refine lv_iadd hx hb dX2_boil_103 ?_
          refine lv_dup2_11 hx hb dX2_boil_104 rfl rfl ?_
          have g_30 := inb_vp (gb_l h)
          have h := gb_r h
          refine va_iald hx hb hK hP 1 0 rfl rfl g_30 dX2_boil_105 ?_
          refine lv_iload hx hb dX2_boil_106 (lv_at hl 1 rfl) ?_
          refine lv_isub hx hb dX2_boil_108 ?_
          have g_31 := inb_vp (gb_l h)
          have h := gb_r h
          refine va_iast hx hb hK hP hD hS 1 0 rfl rfl g_31 dX2_boil_109 (fun H locs hP hD hS => ?_)
          obtain ⟨q_32, eq_32⟩ : ∃ y : Nat → Int32, y = upd rf_28 (6 + x3_28).toNatClampNeg ((rf_28 (6 + x3_28).toNatClampNeg) - v_26) := ⟨_, rfl⟩
          have hP : va_P D vwCl ([mdO b M] ++ [(rw, .inl (k 0, 64, .inl q_32))]) H := by rw [eq_32]; exact hP
          have hD : va_D A ([mdO b M] ++ [(rw, .inl (k 0, 64, .inl q_32))]) := by rw [eq_32]; exact hD
          have h := nm_l h eq_32
          refine lv_aload_n hx hb dX2_boil_110 rfl (lv_at hl 4 rfl) ?_
          refine lv_bipush (v := 55) hx hb dX2_boil_111 (by decide) ?_
          refine lv_dup2_11 hx hb dX2_boil_113 rfl rfl ?_
          refine va_iald hx hb hK hP 1 0 rfl rfl (inb_vp (by decide)) dX2_boil_114 ?_
          refine W.eq (g2 := F0 m 115 ls [.int (q_32 55), .int 55, .ref rw]) rfl ?_
          refine lv_iload hx hb dX2_boil_115 (lv_at hl 1 rfl) ?_
          refine lv_iadd hx hb dX2_boil_117 ?_
          refine va_iast hx hb hK hP hD hS 1 0 rfl rfl (inb_vp (by decide)) dX2_boil_118 (fun H locs hP hD hS => ?_)
          obtain ⟨q_33, eq_33⟩ : ∃ y : Nat → Int32, y = upd q_32 55 ((q_32 55) + v_26) := ⟨_, rfl⟩
          have hP : va_P D vwCl ([mdO b M] ++ [(rw, .inl (k 0, 64, .inl q_33))]) H := by rw [eq_33]; exact hP
          have hD : va_D A ([mdO b M] ++ [(rw, .inl (k 0, 64, .inl q_33))]) := by rw [eq_33]; exact hD
          have h := nm_l h eq_33
          refine lv_aload_n hx hb dX2_boil_119 rfl (lv_at hl 4 rfl) ?_
          refine lv_bipush (v := 56) hx hb dX2_boil_120 (by decide) ?_
          refine lv_dup2_11 hx hb dX2_boil_122 rfl rfl ?_
          refine va_iald hx hb hK hP 1 0 rfl rfl (inb_vp (by decide)) dX2_boil_123 ?_
          refine W.eq (g2 := F0 m 124 ls [.int (q_33 56), .int 56, .ref rw]) rfl ?_
          refine lv_iload hx hb dX2_boil_124 (lv_at hl 0 rfl) ?_
          refine lv_iadd hx hb dX2_boil_126 ?_
          refine va_iast hx hb hK hP hD hS 1 0 rfl rfl (inb_vp (by decide)) dX2_boil_127 (fun H locs hP hD hS => ?_)
          obtain ⟨q_34, eq_34⟩ : ∃ y : Nat → Int32, y = upd q_33 56 ((q_33 56) + v_29) := ⟨_, rfl⟩
          have hP : va_P D vwCl ([mdO b M] ++ [(rw, .inl (k 0, 64, .inl q_34))]) H := by rw [eq_34]; exact hP
          have hD : va_D A ([mdO b M] ++ [(rw, .inl (k 0, 64, .inl q_34))]) := by rw [eq_34]; exact hD
          have h := nm_l h eq_34
          refine lv_aload_n hx hb dX2_boil_128 rfl (lv_at hl 4 rfl) ?_
          refine lv_bipush (v := 58) hx hb dX2_boil_129 (by decide) ?_
          refine lv_dup2_11 hx hb dX2_boil_131 rfl rfl ?_
          refine va_iald hx hb hK hP 1 0 rfl rfl (inb_vp (by decide)) dX2_boil_132 ?_
          refine W.eq (g2 := F0 m 133 ls [.int (q_34 58), .int 58, .ref rw]) rfl ?_
          refine lv_iload_n hx hb dX2_boil_133 rfl (lv_at hl 5 rfl) ?_
          refine lv_iload hx hb dX2_boil_134 (lv_at hl 1 rfl) ?_
          refine lv_isub hx hb dX2_boil_136 ?_
          refine lv_iadd hx hb dX2_boil_137 ?_
          refine va_iast hx hb hK hP hD hS 1 0 rfl rfl (inb_vp (by decide)) dX2_boil_138 (fun H locs hP hD hS => ?_)
          obtain ⟨q_35, eq_35⟩ : ∃ y : Nat → Int32, y = upd q_34 58 ((q_34 58) + (x2_28 - v_26)) := ⟨_, rfl⟩
          have hP : va_P D vwCl ([mdO b M] ++ [(rw, .inl (k 0, 64, .inl q_35))]) H := by rw [eq_35]; exact hP
          have hD : va_D A ([mdO b M] ++ [(rw, .inl (k 0, 64, .inl q_35))]) := by rw [eq_35]; exact hD
          have h := nm_l h eq_35
          refine lv_aload_n hx hb dX2_boil_139 rfl (lv_at hl 4 rfl) ?_
          refine lv_bipush (v := 36) hx hb dX2_boil_140 (by decide) ?_
          refine lv_iload_n hx hb dX2_boil_142 rfl (lv_at hl 6 rfl) ?_
          refine lv_iadd hx hb dX2_boil_143 ?_
          refine lv_dup2_11 hx hb dX2_boil_144 rfl rfl ?_
          have g_36 := inb_vp (gb_l h)
          have h := gb_r h
          refine va_iald hx hb hK hP 1 0 rfl rfl g_36 dX2_boil_145 ?_
          refine lv_iload hx hb dX2_boil_146 (lv_at hl 1 rfl) ?_
          refine lv_iload hx hb dX2_boil_148 (lv_at hl 2 rfl) ?_
          refine lv_imul hx hb dX2_boil_150 ?_
          refine lv_bipush (v := 10) hx hb dX2_boil_151 (by decide) ?_
          refine lv_idiv hx hb dX2_boil_153 (by decide) ?_
          refine lv_iadd hx hb dX2_boil_154 ?_
          have g_37 := inb_vp (gb_l h)
          have h := gb_r h
          refine va_iast hx hb hK hP hD hS 1 0 rfl rfl g_37 dX2_boil_155 (fun H locs hP hD hS => ?_)
          obtain ⟨q_38, eq_38⟩ : ∃ y : Nat → Int32, y = upd q_35 (36 + x3_28).toNatClampNeg ((q_35 (36 + x3_28).toNatClampNeg) + ((v_26 * v_19) / 10)) := ⟨_, rfl⟩
          have hP : va_P D vwCl ([mdO b M] ++ [(rw, .inl (k 0, 64, .inl q_38))]) H := by rw [eq_38]; exact hP
          have hD : va_D A ([mdO b M] ++ [(rw, .inl (k 0, 64, .inl q_38))]) := by rw [eq_38]; exact hD
          have h := nm_l h eq_38
          exact hC_156 2000 x3_28 v_26 v_29 q_38 _ _ _ hP hD hS (lv_sub hl [3, 4, 6, 1, 0] rfl) h
  refine lv_aload_n hx hb dX2_boil_0 rfl (lv_at hl 0 rfl) ?_
  refine lv_aload_n hx hb dX2_boil_1 rfl (lv_at hl 1 rfl) ?_
  obtain ⟨v_39, hv_40, h⟩ := bd_l h
  refine Ck_V (As := [.ref rw]) (rest := []) (wc := [mdO b M] ++ [(rw, .inl (k 0, 64, .inl rf))]) (wc' := [mdO b M] ++ [(rw, .inl (k 0, 64, .inl rf))]) (w0' := [mdO b M] ++ [(rw, .inl (k 0, 64, .inl rf))]) ⟨hx, hb, hml, hown, hts⟩ (c_X2_washed l D k b rw M rf v_39 hv_40) (cwV 1 hts gX2_boil_X2_washed rfl rfl rfl (by decide +kernel) ⟨Nat.le_of_ble_eq_true rfl, Nat.le_of_ble_eq_true rfl⟩) hK hP hD hS hA (q0 := 0) (ci := 2) rfl rfl [0, 1] rfl (by decide) rfl rfl rfl hl.1 rfl (Nat.le_of_ble_eq_true rfl) dX2_boil_2 ⟨Nat.le_of_ble_eq_true rfl, Nat.le_of_ble_eq_true rfl⟩ (fun H locs hP hD hS => ?_)
  refine W.eq (g2 := F0 m 5 ls [.int v_39]) rfl ?_
  refine lv_aload_n hx hb dX2_boil_5 rfl (lv_at hl 0 rfl) ?_
  refine va_get (D := D) (ci := 2) (v := .int (m_n M)) (C := RX2) (T := TX2) (N := 15) hx hb hts w_1 hown hK hP 0 rfl rfl 6 (by decide) w_0 (fun _ h9 => h9) rfl dX2_boil_6 ?_
  refine lv_icmp_ne (tgt := 13) hx hb dX2_boil_9 (by decide) (fun c_41 => ?_) (fun c_41 => ?_)
  · have h := it_r c_41 h
    refine lv_aload_n hx hb dX2_boil_13 rfl (lv_at hl 1 rfl) ?_
    refine lv_bipush (v := 48) hx hb dX2_boil_14 (by decide) ?_
    refine va_iald hx hb hK hP 1 0 rfl rfl (inb_vp (by decide)) dX2_boil_16 ?_
    refine W.eq (g2 := F0 m 17 ls [.int (rf 48)]) rfl ?_
    refine lv_topi (fun v_42 ev_42 => ?_)
    have h := nm_l h ev_42
    refine lv_istore_n (lv' := [(2, .int v_42), (0, .ref (b 0)), (1, .ref rw)]) hx hb dX2_boil_17 rfl hl (by decide) rfl (fun ls hl => ?_)
    refine lv_aload_n hx hb dX2_boil_18 rfl (lv_at hl 2 rfl) ?_
    refine lv_bipush (v := 54) hx hb dX2_boil_19 (by decide) ?_
    refine lv_dup2_11 hx hb dX2_boil_21 rfl rfl ?_
    refine va_iald hx hb hK hP 1 0 rfl rfl (inb_vp (by decide)) dX2_boil_22 ?_
    refine W.eq (g2 := F0 m 23 ls [.int (rf 54), .int 54, .ref rw]) rfl ?_
    refine lv_iload_n hx hb dX2_boil_23 rfl (lv_at hl 0 rfl) ?_
    refine lv_iadd hx hb dX2_boil_24 ?_
    refine va_iast hx hb hK hP hD hS 1 0 rfl rfl (inb_vp (by decide)) dX2_boil_25 (fun H locs hP hD hS => ?_)
    obtain ⟨q_43, eq_43⟩ : ∃ y : Nat → Int32, y = upd rf 54 ((rf 54) + v_42) := ⟨_, rfl⟩
    have hP : va_P D vwCl ([mdO b M] ++ [(rw, .inl (k 0, 64, .inl q_43))]) H := by rw [eq_43]; exact hP
    have hD : va_D A ([mdO b M] ++ [(rw, .inl (k 0, 64, .inl q_43))]) := by rw [eq_43]; exact hD
    have h := nm_l h eq_43
    refine lv_iconst (v := 0) hx hb dX2_boil_26 (by decide) ?_
    refine lv_istore_n (lv' := [(3, .int 0), (2, .int v_42), (0, .ref (b 0)), (1, .ref rw)]) hx hb dX2_boil_27 rfl hl (by decide) rfl (fun ls hl => ?_)
    exact hC_28 2000 v_42 0 q_43 _ _ _ hP hD hS (lv_sub hl [2, 3, 1, 0] rfl) h
  · have h := it_l c_41 h
    cases h
    exact Ck_vret hx hb hr hP hD hS dX2_boil_12 hlocks
def f_X2_go_219 (k_189 : Int32 → Int32 → Int32 → (Nat → Int32) → (Nat → Int32) → (Nat → Int32) → Option ((Nat → Int32) × (Nat → Int32) × (Nat → Int32))) (fl_189 : Nat → Int32) (sa_189 : Nat → Int32) (x2_189 : Int32) (x4_189 : Int32) (x5_219 : Int32) (t0_219 : Int32) (rf_219 : Nat → Int32) : Option ((Nat → Int32) × (Nat → Int32) × (Nat → Int32)) := gb (inb x5_219 6) <| gb (inb x5_219 6) <| nm ((fl_189 x5_219.toNatClampNeg) - (sa_189 x5_219.toNatClampNeg)) fun v_3 => gb (inb (6 + x5_219) 64) <| gb (inb (6 + x5_219) 64) <| nm (upd rf_219 (6 + x5_219).toNatClampNeg ((rf_219 (6 + x5_219).toNatClampNeg) - v_3)) fun q_6 => gb (inb (12 + x5_219) 64) <| gb (inb x5_219 6) <| gb (inb (12 + x5_219) 64) <| nm (upd q_6 (12 + x5_219).toNatClampNeg ((q_6 (12 + x5_219).toNatClampNeg) - (sa_189 x5_219.toNatClampNeg))) fun q_10 => if t0_219 = (-9) then (nm (upd q_10 61 ((q_10 61) + v_3)) fun q_19 => gb (inb x5_219 6) <| nm (upd q_19 62 ((q_19 62) + (sa_189 x5_219.toNatClampNeg))) fun q_21 => k_189 x2_189 x4_189 (x5_219 + 1) q_21 fl_189 sa_189) else (gb (inb (6 + t0_219) 64) <| gb (inb (6 + t0_219) 64) <| nm (upd q_10 (6 + t0_219).toNatClampNeg ((q_10 (6 + t0_219).toNatClampNeg) + v_3)) fun q_14 => gb (inb (12 + t0_219) 64) <| gb (inb x5_219 6) <| gb (inb (12 + t0_219) 64) <| nm (upd q_14 (12 + t0_219).toNatClampNeg ((q_14 (12 + t0_219).toNatClampNeg) + (sa_189 x5_219.toNatClampNeg))) fun q_18 => k_189 x2_189 x4_189 (x5_219 + 1) q_18 fl_189 sa_189)
def f_X2_go_189 (M : MdV) : Nat → Int32 → Int32 → Int32 → (Nat → Int32) → (Nat → Int32) → (Nat → Int32) → Option ((Nat → Int32) × (Nat → Int32) × (Nat → Int32))
  | 0, _, _, _, _, _, _ => none
  | fu + 1, x2_189, x4_189, x5_189, rf_189, fl_189, sa_189 => if (m_n M) ≤ x5_189 then (if x4_189 = 0 then (gb (inb (6 + x2_189) 64) <| gb (inb (6 + x2_189) 64) <| nm (upd rf_189 (6 + x2_189).toNatClampNeg ((rf_189 (6 + x2_189).toNatClampNeg) + (rf_189 49))) fun q_26 => gb (inb (12 + x2_189) 64) <| gb (inb (12 + x2_189) 64) <| nm (upd q_26 (12 + x2_189).toNatClampNeg ((q_26 (12 + x2_189).toNatClampNeg) + (q_26 50))) fun q_29 => nm (upd q_29 59 ((q_29 59) + (q_29 49))) fun q_30 => nm (upd q_30 60 ((q_30 60) + (q_30 50))) fun q_31 => some (q_31, fl_189, sa_189)) else (nm (upd rf_189 63 ((rf_189 63) + 1)) fun q_32 => some (q_32, fl_189, sa_189))) else (bd (f_X2_works rf_189 x5_189) fun v_33 => if v_33 = 0 then (f_X2_go_219 (f_X2_go_189 M fu) fl_189 sa_189 x2_189 x4_189 x5_189 (-9) rf_189) else (bd (f_X2_behind M rf_189 x5_189) fun v_36 => f_X2_go_219 (f_X2_go_189 M fu) fl_189 sa_189 x2_189 x4_189 x5_189 v_36 rf_189))
def f_X2_go_121 (k_46 : Int32 → Int32 → Int32 → (Nat → Int32) → (Nat → Int32) → Option ((Nat → Int32) × (Nat → Int32) × (Nat → Int32))) (rf : Nat → Int32) (x2_46 : Int32) (x4_46 : Int32) (x5_121 : Int32) (t0_121 : Int32) (fl_121 : Nat → Int32) (sa_121 : Nat → Int32) : Option ((Nat → Int32) × (Nat → Int32) × (Nat → Int32)) := gb (inb (18 + x5_121) 64) <| bd (f_X2_amount rf x5_121) fun v_39 => bd (f_X2_less (rf (18 + x5_121).toNatClampNeg) v_39) fun v_41 => bd (f_X2_less v_41 t0_121) fun v_43 => gb (inb x5_121 6) <| nm (upd fl_121 x5_121.toNatClampNeg v_43) fun q_46 => gb (inb (12 + x5_121) 64) <| gb (inb x5_121 6) <| bd (f_X2_amount rf x5_121) fun v_49 => gb (nz v_49) <| gb (inb x5_121 6) <| nm (upd sa_121 x5_121.toNatClampNeg (((rf (12 + x5_121).toNatClampNeg) * (q_46 x5_121.toNatClampNeg)) / v_49)) fun q_53 => k_46 x2_46 x4_46 (x5_121 + 1) q_46 q_53
def f_X2_go_46 (M : MdV) (rf : Nat → Int32) : Nat → Int32 → Int32 → Int32 → (Nat → Int32) → (Nat → Int32) → Option ((Nat → Int32) × (Nat → Int32) × (Nat → Int32))
  | 0, _, _, _, _, _ => none
  | fu + 1, x2_46, x4_46, x5_46, fl_46, sa_46 => if (m_n M) ≤ x5_46 then (f_X2_go_189 M 2000 x2_46 x4_46 0 rf fl_46 sa_46) else (gb (inb x5_46 6) <| nm (upd fl_46 x5_46.toNatClampNeg 0) fun q_56 => gb (inb x5_46 6) <| nm (upd sa_46 x5_46.toNatClampNeg 0) fun q_58 => bd (f_X2_works rf x5_46) fun v_59 => if v_59 = 0 then ((f_X2_go_46 M rf fu) x2_46 x4_46 (x5_46 + 1) q_56 q_58) else (bd (f_X2_amount rf x5_46) fun v_62 => if v_62 ≤ 0 then ((f_X2_go_46 M rf fu) x2_46 x4_46 (x5_46 + 1) q_56 q_58) else (bd (f_X2_behind M rf x5_46) fun v_65 => if v_65 = (-9) then (f_X2_go_121 (f_X2_go_46 M rf fu) rf x2_46 x4_46 x5_46 5000 q_56 q_58) else (bd (f_X2_amount rf v_65) fun v_68 => f_X2_go_121 (f_X2_go_46 M rf fu) rf x2_46 x4_46 x5_46 (5000 - v_68) q_56 q_58))))
def f_X2_go (M : MdV) (rf : Nat → Int32) (fl : Nat → Int32) (sa : Nat → Int32) : Option ((Nat → Int32) × (Nat → Int32) × (Nat → Int32)) := bd (f_X2_behind M rf (-1)) fun v_70 => nm ((rf 49) + (rf 50)) fun v_72 => if v_70 = (-9) then (f_X2_go_46 M rf 2000 v_70 1 0 fl sa) else (bd (f_X2_amount rf v_70) fun v_74 => if v_72 ≤ (5000 - v_74) then (f_X2_go_46 M rf 2000 v_70 0 0 fl sa) else (f_X2_go_46 M rf 2000 v_70 1 0 fl sa))
set_option maxRecDepth 100000 in
set_option maxHeartbeats 4000000 in
theorem c_X2_go (l : Launch) (D : va_G) (k : Nat → ClassId) (b : Nat → Nat) (rw : Nat) (M : MdV) (rf : Nat → Int32) (fl : Nat → Int32) (sa : Nat → Int32) (o0 : Nat → Int32) (o1 : Nat → Int32) (o2 : Nat → Int32) (h : f_X2_go M rf fl sa = some (o0, o1, o2)) : Ck l D (tyK k) yX2_go wsX2_go ({ frames := 2, cells := 0, slots := 0, locals := 44 } : Room) [.ref (b 0), .ref rw] ([mdO b M] ++ [(rw, .inl (k 0, 64, .inl rf))] ++ [(b 8, .inl (k 0, 6, .inl fl))] ++ [(b 9, .inl (k 0, 6, .inl sa))]) none ([mdO b M] ++ [(rw, .inl (k 0, 64, .inl o0))] ++ [(b 8, .inl (k 0, 6, .inl o1))] ++ [(b 9, .inl (k 0, 6, .inl o2))]) := by
  refine Ck_of (cc := cX2_go) (maxL := 8) (ret := none) (by decide) rfl (Nat.le_of_ble_eq_true rfl) ?_
  intro p e s m args below meth c A ls hx hb hr hml hts hown hlocks hK hA hP hD hS hl
  have hl : lv_has ls 8 [(0, .ref (b 0)), (1, .ref rw)] := hl
  have hP : va_P D vwCl ([mdO b M] ++ [(rw, .inl (k 0, 64, .inl rf))] ++ [(b 8, .inl (k 0, 6, .inl fl))] ++ [(b 9, .inl (k 0, 6, .inl sa))]) s.heap := hP
  have w_0 := hts (.fieldLink RX2 32 "EffectTrainModel" "flow" "[I") (by decide +kernel)
  have w_1 : ∀ w ∈ wsX20, w ∈ wsX2_go := by decide +kernel
  have w_2 := hts (.fieldLink RX2 35 "EffectTrainModel" "salt" "[I") (by decide +kernel)
  have w_3 := hts (.fieldLink RX2 38 "EffectTrainModel" "n" "I") (by decide +kernel)
  unfold f_X2_go at h
  have hC_189 : ∀ (fu_189 : Nat) (x2_189 : Int32) (x4_189 : Int32) (x5_189 : Int32) (rf_189 : Nat → Int32) (fl_189 : Nat → Int32) (sa_189 : Nat → Int32) (H : Heap) (locs : List Loc) (ls : Array Slot), va_P D vwCl ([mdO b M] ++ [(rw, .inl (k 0, 64, .inl rf_189))] ++ [(b 8, .inl (k 0, 6, .inl fl_189))] ++ [(b 9, .inl (k 0, 6, .inl sa_189))]) H → va_D A ([mdO b M] ++ [(rw, .inl (k 0, 64, .inl rf_189))] ++ [(b 8, .inl (k 0, 6, .inl fl_189))] ++ [(b 9, .inl (k 0, 6, .inl sa_189))]) → va_S A s.heap H locs → lv_has ls 8 [(0, .ref (b 0)), (1, .ref rw), (2, .int x2_189), (4, .int x4_189), (5, .int x5_189)] → f_X2_go_189 M fu_189 x2_189 x4_189 x5_189 rf_189 fl_189 sa_189 = some (o0, o1, o2) → W p l e ({ frames := 2, cells := 0, slots := 0, locals := 44 } : Room) s m args below meth c H locs 0 0 (MQ below (Qk D A none ([mdO b M] ++ [(rw, .inl (k 0, 64, .inl o0))] ++ [(b 8, .inl (k 0, 6, .inl o1))] ++ [(b 9, .inl (k 0, 6, .inl o2))])) args s 0 0 A) (F0 m 189 ls []) := by
    intro fu_189
    induction fu_189 with
    | zero => intro x2_189 x4_189 x5_189 rf_189 fl_189 sa_189 H locs ls _ _ _ _ h; exact (no_l h).elim
    | succ fu_189 ih_189 =>
      intro x2_189 x4_189 x5_189 rf_189 fl_189 sa_189 H locs ls hP hD hS hl h
      rw [f_X2_go_189] at h
      have hC_219 : ∀ (x5_219 : Int32) (t0_219 : Int32) (rf_219 : Nat → Int32) (H : Heap) (locs : List Loc) (ls : Array Slot), va_P D vwCl ([mdO b M] ++ [(rw, .inl (k 0, 64, .inl rf_219))] ++ [(b 8, .inl (k 0, 6, .inl fl_189))] ++ [(b 9, .inl (k 0, 6, .inl sa_189))]) H → va_D A ([mdO b M] ++ [(rw, .inl (k 0, 64, .inl rf_219))] ++ [(b 8, .inl (k 0, 6, .inl fl_189))] ++ [(b 9, .inl (k 0, 6, .inl sa_189))]) → va_S A s.heap H locs → lv_has ls 8 [(0, .ref (b 0)), (1, .ref rw), (2, .int x2_189), (4, .int x4_189), (5, .int x5_219)] → f_X2_go_219 (f_X2_go_189 M fu_189) fl_189 sa_189 x2_189 x4_189 x5_219 t0_219 rf_219 = some (o0, o1, o2) → W p l e ({ frames := 2, cells := 0, slots := 0, locals := 44 } : Room) s m args below meth c H locs 0 0 (MQ below (Qk D A none ([mdO b M] ++ [(rw, .inl (k 0, 64, .inl o0))] ++ [(b 8, .inl (k 0, 6, .inl o1))] ++ [(b 9, .inl (k 0, 6, .inl o2))])) args s 0 0 A) (F0 m 219 ls [.int t0_219]) := by
        intro x5_219 t0_219 rf_219 H locs ls hP hD hS hl h
        unfold f_X2_go_219 at h
        refine lv_istore (lv' := [(6, .int t0_219), (0, .ref (b 0)), (1, .ref rw), (2, .int x2_189), (4, .int x4_189), (5, .int x5_219)]) hx hb dX2_go_219 hl (by decide) rfl (fun ls hl => ?_)
        refine lv_aload_n hx hb dX2_go_221 rfl (lv_at hl 1 rfl) ?_
        refine va_get (D := D) (ci := 2) (v := .ref (b 8)) (C := RX2) (T := TX2) (N := 15) hx hb hts w_1 hown hK hP 0 rfl rfl 13 (by decide) w_0 (fun _ h9 => h9) rfl dX2_go_222 ?_
        refine lv_iload hx hb dX2_go_225 (lv_at hl 5 rfl) ?_
        have g_1 := inb_vp (gb_l h)
        have h := gb_r h
        refine va_iald hx hb hK hP 2 0 rfl rfl g_1 dX2_go_227 ?_
        refine lv_aload_n hx hb dX2_go_228 rfl (lv_at hl 1 rfl) ?_
        refine va_get (D := D) (ci := 2) (v := .ref (b 9)) (C := RX2) (T := TX2) (N := 15) hx hb hts w_1 hown hK hP 0 rfl rfl 14 (by decide) w_2 (fun _ h9 => h9) rfl dX2_go_229 ?_
        refine lv_iload hx hb dX2_go_232 (lv_at hl 5 rfl) ?_
        have g_2 := inb_vp (gb_l h)
        have h := gb_r h
        refine va_iald hx hb hK hP 3 0 rfl rfl g_2 dX2_go_234 ?_
        refine lv_isub hx hb dX2_go_235 ?_
        refine lv_topi (fun v_3 ev_3 => ?_)
        have h := nm_l h ev_3
        refine lv_istore (lv' := [(7, .int v_3), (6, .int t0_219), (0, .ref (b 0)), (1, .ref rw), (2, .int x2_189), (4, .int x4_189), (5, .int x5_219)]) hx hb dX2_go_236 hl (by decide) rfl (fun ls hl => ?_)
        refine lv_aload_n hx hb dX2_go_238 rfl (lv_at hl 3 rfl) ?_
        refine lv_bipush (v := 6) hx hb dX2_go_239 (by decide) ?_
        refine lv_iload hx hb dX2_go_241 (lv_at hl 6 rfl) ?_
        refine lv_iadd hx hb dX2_go_243 ?_
        refine lv_dup2_11 hx hb dX2_go_244 rfl rfl ?_
        have g_4 := inb_vp (gb_l h)
        have h := gb_r h
        refine va_iald hx hb hK hP 1 0 rfl rfl g_4 dX2_go_245 ?_
        refine lv_iload hx hb dX2_go_246 (lv_at hl 0 rfl) ?_
        refine lv_isub hx hb dX2_go_248 ?_
        have g_5 := inb_vp (gb_l h)
        have h := gb_r h
        refine va_iast hx hb hK hP hD hS 1 0 rfl rfl g_5 dX2_go_249 (fun H locs hP hD hS => ?_)
        obtain ⟨q_6, eq_6⟩ : ∃ y : Nat → Int32, y = upd rf_219 (6 + x5_219).toNatClampNeg ((rf_219 (6 + x5_219).toNatClampNeg) - v_3) := ⟨_, rfl⟩
        have hP : va_P D vwCl ([mdO b M] ++ [(rw, .inl (k 0, 64, .inl q_6))] ++ [(b 8, .inl (k 0, 6, .inl fl_189))] ++ [(b 9, .inl (k 0, 6, .inl sa_189))]) H := by rw [eq_6]; exact hP
        have hD : va_D A ([mdO b M] ++ [(rw, .inl (k 0, 64, .inl q_6))] ++ [(b 8, .inl (k 0, 6, .inl fl_189))] ++ [(b 9, .inl (k 0, 6, .inl sa_189))]) := by rw [eq_6]; exact hD
        have h := nm_l h eq_6
        refine lv_aload_n hx hb dX2_go_250 rfl (lv_at hl 3 rfl) ?_
        refine lv_bipush (v := 12) hx hb dX2_go_251 (by decide) ?_
        refine lv_iload hx hb dX2_go_253 (lv_at hl 6 rfl) ?_
        refine lv_iadd hx hb dX2_go_255 ?_
        refine lv_dup2_11 hx hb dX2_go_256 rfl rfl ?_
        have g_7 := inb_vp (gb_l h)
        have h := gb_r h
        refine va_iald hx hb hK hP 1 0 rfl rfl g_7 dX2_go_257 ?_
        refine lv_aload_n hx hb dX2_go_258 rfl (lv_at hl 2 rfl) ?_
        refine va_get (D := D) (ci := 2) (v := .ref (b 9)) (C := RX2) (T := TX2) (N := 15) hx hb hts w_1 hown hK hP 0 rfl rfl 14 (by decide) w_2 (fun _ h9 => h9) rfl dX2_go_259 ?_
        refine lv_iload hx hb dX2_go_262 (lv_at hl 6 rfl) ?_
        have g_8 := inb_vp (gb_l h)
        have h := gb_r h
        refine va_iald hx hb hK hP 3 0 rfl rfl g_8 dX2_go_264 ?_
        refine lv_isub hx hb dX2_go_265 ?_
        have g_9 := inb_vp (gb_l h)
        have h := gb_r h
        refine va_iast hx hb hK hP hD hS 1 0 rfl rfl g_9 dX2_go_266 (fun H locs hP hD hS => ?_)
        obtain ⟨q_10, eq_10⟩ : ∃ y : Nat → Int32, y = upd q_6 (12 + x5_219).toNatClampNeg ((q_6 (12 + x5_219).toNatClampNeg) - (sa_189 x5_219.toNatClampNeg)) := ⟨_, rfl⟩
        have hP : va_P D vwCl ([mdO b M] ++ [(rw, .inl (k 0, 64, .inl q_10))] ++ [(b 8, .inl (k 0, 6, .inl fl_189))] ++ [(b 9, .inl (k 0, 6, .inl sa_189))]) H := by rw [eq_10]; exact hP
        have hD : va_D A ([mdO b M] ++ [(rw, .inl (k 0, 64, .inl q_10))] ++ [(b 8, .inl (k 0, 6, .inl fl_189))] ++ [(b 9, .inl (k 0, 6, .inl sa_189))]) := by rw [eq_10]; exact hD
        have h := nm_l h eq_10
        refine lv_iload hx hb dX2_go_267 (lv_at hl 1 rfl) ?_
        refine lv_bipush (v := (-9)) hx hb dX2_go_269 (by decide) ?_
        refine lv_icmp_ne (tgt := 300) hx hb dX2_go_271 (by decide) (fun c_11 => ?_) (fun c_11 => ?_)
        · have h := it_r c_11 h
          refine lv_aload_n hx hb dX2_go_300 rfl (lv_at hl 3 rfl) ?_
          refine lv_bipush (v := 6) hx hb dX2_go_301 (by decide) ?_
          refine lv_iload hx hb dX2_go_303 (lv_at hl 1 rfl) ?_
          refine lv_iadd hx hb dX2_go_305 ?_
          refine lv_dup2_11 hx hb dX2_go_306 rfl rfl ?_
          have g_12 := inb_vp (gb_l h)
          have h := gb_r h
          refine va_iald hx hb hK hP 1 0 rfl rfl g_12 dX2_go_307 ?_
          refine lv_iload hx hb dX2_go_308 (lv_at hl 0 rfl) ?_
          refine lv_iadd hx hb dX2_go_310 ?_
          have g_13 := inb_vp (gb_l h)
          have h := gb_r h
          refine va_iast hx hb hK hP hD hS 1 0 rfl rfl g_13 dX2_go_311 (fun H locs hP hD hS => ?_)
          obtain ⟨q_14, eq_14⟩ : ∃ y : Nat → Int32, y = upd q_10 (6 + t0_219).toNatClampNeg ((q_10 (6 + t0_219).toNatClampNeg) + v_3) := ⟨_, rfl⟩
          have hP : va_P D vwCl ([mdO b M] ++ [(rw, .inl (k 0, 64, .inl q_14))] ++ [(b 8, .inl (k 0, 6, .inl fl_189))] ++ [(b 9, .inl (k 0, 6, .inl sa_189))]) H := by rw [eq_14]; exact hP
          have hD : va_D A ([mdO b M] ++ [(rw, .inl (k 0, 64, .inl q_14))] ++ [(b 8, .inl (k 0, 6, .inl fl_189))] ++ [(b 9, .inl (k 0, 6, .inl sa_189))]) := by rw [eq_14]; exact hD
          have h := nm_l h eq_14
          refine lv_aload_n hx hb dX2_go_312 rfl (lv_at hl 3 rfl) ?_
          refine lv_bipush (v := 12) hx hb dX2_go_313 (by decide) ?_
          refine lv_iload hx hb dX2_go_315 (lv_at hl 1 rfl) ?_
          refine lv_iadd hx hb dX2_go_317 ?_
          refine lv_dup2_11 hx hb dX2_go_318 rfl rfl ?_
          have g_15 := inb_vp (gb_l h)
          have h := gb_r h
          refine va_iald hx hb hK hP 1 0 rfl rfl g_15 dX2_go_319 ?_
          refine lv_aload_n hx hb dX2_go_320 rfl (lv_at hl 2 rfl) ?_
          refine va_get (D := D) (ci := 2) (v := .ref (b 9)) (C := RX2) (T := TX2) (N := 15) hx hb hts w_1 hown hK hP 0 rfl rfl 14 (by decide) w_2 (fun _ h9 => h9) rfl dX2_go_321 ?_
          refine lv_iload hx hb dX2_go_324 (lv_at hl 6 rfl) ?_
          have g_16 := inb_vp (gb_l h)
          have h := gb_r h
          refine va_iald hx hb hK hP 3 0 rfl rfl g_16 dX2_go_326 ?_
          refine lv_iadd hx hb dX2_go_327 ?_
          have g_17 := inb_vp (gb_l h)
          have h := gb_r h
          refine va_iast hx hb hK hP hD hS 1 0 rfl rfl g_17 dX2_go_328 (fun H locs hP hD hS => ?_)
          obtain ⟨q_18, eq_18⟩ : ∃ y : Nat → Int32, y = upd q_14 (12 + t0_219).toNatClampNeg ((q_14 (12 + t0_219).toNatClampNeg) + (sa_189 x5_219.toNatClampNeg)) := ⟨_, rfl⟩
          have hP : va_P D vwCl ([mdO b M] ++ [(rw, .inl (k 0, 64, .inl q_18))] ++ [(b 8, .inl (k 0, 6, .inl fl_189))] ++ [(b 9, .inl (k 0, 6, .inl sa_189))]) H := by rw [eq_18]; exact hP
          have hD : va_D A ([mdO b M] ++ [(rw, .inl (k 0, 64, .inl q_18))] ++ [(b 8, .inl (k 0, 6, .inl fl_189))] ++ [(b 9, .inl (k 0, 6, .inl sa_189))]) := by rw [eq_18]; exact hD
          have h := nm_l h eq_18
          refine lv_iinc (v := (x5_219 + 1)) (lv' := [(5, .int (x5_219 + 1)), (7, .int v_3), (6, .int t0_219), (0, .ref (b 0)), (1, .ref rw), (2, .int x2_189), (4, .int x4_189)]) hx hb dX2_go_329 hl (k := 6) rfl rfl (by decide) rfl (fun ls hl => ?_)
          refine lv_goto (tgt := 189) hx hb dX2_go_332 (by decide) ?_
          exact ih_189 x2_189 x4_189 (x5_219 + 1) q_18 fl_189 sa_189 _ _ _ hP hD hS (lv_sub hl [3, 4, 5, 6, 0] rfl) h
        · have h := it_l c_11 h
          refine lv_aload_n hx hb dX2_go_274 rfl (lv_at hl 3 rfl) ?_
          refine lv_bipush (v := 61) hx hb dX2_go_275 (by decide) ?_
          refine lv_dup2_11 hx hb dX2_go_277 rfl rfl ?_
          refine va_iald hx hb hK hP 1 0 rfl rfl (inb_vp (by decide)) dX2_go_278 ?_
          refine W.eq (g2 := F0 m 279 ls [.int (q_10 61), .int 61, .ref rw]) rfl ?_
          refine lv_iload hx hb dX2_go_279 (lv_at hl 0 rfl) ?_
          refine lv_iadd hx hb dX2_go_281 ?_
          refine va_iast hx hb hK hP hD hS 1 0 rfl rfl (inb_vp (by decide)) dX2_go_282 (fun H locs hP hD hS => ?_)
          obtain ⟨q_19, eq_19⟩ : ∃ y : Nat → Int32, y = upd q_10 61 ((q_10 61) + v_3) := ⟨_, rfl⟩
          have hP : va_P D vwCl ([mdO b M] ++ [(rw, .inl (k 0, 64, .inl q_19))] ++ [(b 8, .inl (k 0, 6, .inl fl_189))] ++ [(b 9, .inl (k 0, 6, .inl sa_189))]) H := by rw [eq_19]; exact hP
          have hD : va_D A ([mdO b M] ++ [(rw, .inl (k 0, 64, .inl q_19))] ++ [(b 8, .inl (k 0, 6, .inl fl_189))] ++ [(b 9, .inl (k 0, 6, .inl sa_189))]) := by rw [eq_19]; exact hD
          have h := nm_l h eq_19
          refine lv_aload_n hx hb dX2_go_283 rfl (lv_at hl 3 rfl) ?_
          refine lv_bipush (v := 62) hx hb dX2_go_284 (by decide) ?_
          refine lv_dup2_11 hx hb dX2_go_286 rfl rfl ?_
          refine va_iald hx hb hK hP 1 0 rfl rfl (inb_vp (by decide)) dX2_go_287 ?_
          refine W.eq (g2 := F0 m 288 ls [.int (q_19 62), .int 62, .ref rw]) rfl ?_
          refine lv_aload_n hx hb dX2_go_288 rfl (lv_at hl 2 rfl) ?_
          refine va_get (D := D) (ci := 2) (v := .ref (b 9)) (C := RX2) (T := TX2) (N := 15) hx hb hts w_1 hown hK hP 0 rfl rfl 14 (by decide) w_2 (fun _ h9 => h9) rfl dX2_go_289 ?_
          refine lv_iload hx hb dX2_go_292 (lv_at hl 6 rfl) ?_
          have g_20 := inb_vp (gb_l h)
          have h := gb_r h
          refine va_iald hx hb hK hP 3 0 rfl rfl g_20 dX2_go_294 ?_
          refine lv_iadd hx hb dX2_go_295 ?_
          refine va_iast hx hb hK hP hD hS 1 0 rfl rfl (inb_vp (by decide)) dX2_go_296 (fun H locs hP hD hS => ?_)
          obtain ⟨q_21, eq_21⟩ : ∃ y : Nat → Int32, y = upd q_19 62 ((q_19 62) + (sa_189 x5_219.toNatClampNeg)) := ⟨_, rfl⟩
          have hP : va_P D vwCl ([mdO b M] ++ [(rw, .inl (k 0, 64, .inl q_21))] ++ [(b 8, .inl (k 0, 6, .inl fl_189))] ++ [(b 9, .inl (k 0, 6, .inl sa_189))]) H := by rw [eq_21]; exact hP
          have hD : va_D A ([mdO b M] ++ [(rw, .inl (k 0, 64, .inl q_21))] ++ [(b 8, .inl (k 0, 6, .inl fl_189))] ++ [(b 9, .inl (k 0, 6, .inl sa_189))]) := by rw [eq_21]; exact hD
          have h := nm_l h eq_21
          refine lv_goto (tgt := 329) hx hb dX2_go_297 (by decide) ?_
          refine lv_iinc (v := (x5_219 + 1)) (lv' := [(5, .int (x5_219 + 1)), (7, .int v_3), (6, .int t0_219), (0, .ref (b 0)), (1, .ref rw), (2, .int x2_189), (4, .int x4_189)]) hx hb dX2_go_329 hl (k := 6) rfl rfl (by decide) rfl (fun ls hl => ?_)
          refine lv_goto (tgt := 189) hx hb dX2_go_332 (by decide) ?_
          exact ih_189 x2_189 x4_189 (x5_219 + 1) q_21 fl_189 sa_189 _ _ _ hP hD hS (lv_sub hl [3, 4, 5, 6, 0] rfl) h
      refine lv_iload hx hb dX2_go_189 (lv_at hl 4 rfl) ?_
      refine lv_aload_n hx hb dX2_go_191 rfl (lv_at hl 0 rfl) ?_
      refine va_get (D := D) (ci := 2) (v := .int (m_n M)) (C := RX2) (T := TX2) (N := 15) hx hb hts w_1 hown hK hP 0 rfl rfl 6 (by decide) w_3 (fun _ h9 => h9) rfl dX2_go_192 ?_
      refine lv_icmp_ge (tgt := 335) hx hb dX2_go_195 (by decide) (fun c_22 => ?_) (fun c_22 => ?_)
      · have h := it_l c_22 h
        refine lv_iload hx hb dX2_go_335 (lv_at hl 3 rfl) ?_
        refine lv_if_eq (tgt := 351) hx hb dX2_go_337 (by decide) (fun c_23 => ?_) (fun c_23 => ?_)
        · have h := it_l c_23 h
          refine lv_aload_n hx hb dX2_go_351 rfl (lv_at hl 1 rfl) ?_
          refine lv_bipush (v := 6) hx hb dX2_go_352 (by decide) ?_
          refine lv_iload_n hx hb dX2_go_354 rfl (lv_at hl 2 rfl) ?_
          refine lv_iadd hx hb dX2_go_355 ?_
          refine lv_dup2_11 hx hb dX2_go_356 rfl rfl ?_
          have g_24 := inb_vp (gb_l h)
          have h := gb_r h
          refine va_iald hx hb hK hP 1 0 rfl rfl g_24 dX2_go_357 ?_
          refine lv_aload_n hx hb dX2_go_358 rfl (lv_at hl 1 rfl) ?_
          refine lv_bipush (v := 49) hx hb dX2_go_359 (by decide) ?_
          refine va_iald hx hb hK hP 1 0 rfl rfl (inb_vp (by decide)) dX2_go_361 ?_
          refine W.eq (g2 := F0 m 362 ls [.int (rf_189 49), .int (rf_189 (6 + x2_189).toNatClampNeg), .int (6 + x2_189), .ref rw]) rfl ?_
          refine lv_iadd hx hb dX2_go_362 ?_
          have g_25 := inb_vp (gb_l h)
          have h := gb_r h
          refine va_iast hx hb hK hP hD hS 1 0 rfl rfl g_25 dX2_go_363 (fun H locs hP hD hS => ?_)
          obtain ⟨q_26, eq_26⟩ : ∃ y : Nat → Int32, y = upd rf_189 (6 + x2_189).toNatClampNeg ((rf_189 (6 + x2_189).toNatClampNeg) + (rf_189 49)) := ⟨_, rfl⟩
          have hP : va_P D vwCl ([mdO b M] ++ [(rw, .inl (k 0, 64, .inl q_26))] ++ [(b 8, .inl (k 0, 6, .inl fl_189))] ++ [(b 9, .inl (k 0, 6, .inl sa_189))]) H := by rw [eq_26]; exact hP
          have hD : va_D A ([mdO b M] ++ [(rw, .inl (k 0, 64, .inl q_26))] ++ [(b 8, .inl (k 0, 6, .inl fl_189))] ++ [(b 9, .inl (k 0, 6, .inl sa_189))]) := by rw [eq_26]; exact hD
          have h := nm_l h eq_26
          refine lv_aload_n hx hb dX2_go_364 rfl (lv_at hl 1 rfl) ?_
          refine lv_bipush (v := 12) hx hb dX2_go_365 (by decide) ?_
          refine lv_iload_n hx hb dX2_go_367 rfl (lv_at hl 2 rfl) ?_
          refine lv_iadd hx hb dX2_go_368 ?_
          refine lv_dup2_11 hx hb dX2_go_369 rfl rfl ?_
          have g_27 := inb_vp (gb_l h)
          have h := gb_r h
          refine va_iald hx hb hK hP 1 0 rfl rfl g_27 dX2_go_370 ?_
          refine lv_aload_n hx hb dX2_go_371 rfl (lv_at hl 1 rfl) ?_
          refine lv_bipush (v := 50) hx hb dX2_go_372 (by decide) ?_
          refine va_iald hx hb hK hP 1 0 rfl rfl (inb_vp (by decide)) dX2_go_374 ?_
          refine W.eq (g2 := F0 m 375 ls [.int (q_26 50), .int (q_26 (12 + x2_189).toNatClampNeg), .int (12 + x2_189), .ref rw]) rfl ?_
          refine lv_iadd hx hb dX2_go_375 ?_
          have g_28 := inb_vp (gb_l h)
          have h := gb_r h
          refine va_iast hx hb hK hP hD hS 1 0 rfl rfl g_28 dX2_go_376 (fun H locs hP hD hS => ?_)
          obtain ⟨q_29, eq_29⟩ : ∃ y : Nat → Int32, y = upd q_26 (12 + x2_189).toNatClampNeg ((q_26 (12 + x2_189).toNatClampNeg) + (q_26 50)) := ⟨_, rfl⟩
          have hP : va_P D vwCl ([mdO b M] ++ [(rw, .inl (k 0, 64, .inl q_29))] ++ [(b 8, .inl (k 0, 6, .inl fl_189))] ++ [(b 9, .inl (k 0, 6, .inl sa_189))]) H := by rw [eq_29]; exact hP
          have hD : va_D A ([mdO b M] ++ [(rw, .inl (k 0, 64, .inl q_29))] ++ [(b 8, .inl (k 0, 6, .inl fl_189))] ++ [(b 9, .inl (k 0, 6, .inl sa_189))]) := by rw [eq_29]; exact hD
          have h := nm_l h eq_29
          refine lv_aload_n hx hb dX2_go_377 rfl (lv_at hl 1 rfl) ?_
          refine lv_bipush (v := 59) hx hb dX2_go_378 (by decide) ?_
          refine lv_dup2_11 hx hb dX2_go_380 rfl rfl ?_
          refine va_iald hx hb hK hP 1 0 rfl rfl (inb_vp (by decide)) dX2_go_381 ?_
          refine W.eq (g2 := F0 m 382 ls [.int (q_29 59), .int 59, .ref rw]) rfl ?_
          refine lv_aload_n hx hb dX2_go_382 rfl (lv_at hl 1 rfl) ?_
          refine lv_bipush (v := 49) hx hb dX2_go_383 (by decide) ?_
          refine va_iald hx hb hK hP 1 0 rfl rfl (inb_vp (by decide)) dX2_go_385 ?_
          refine W.eq (g2 := F0 m 386 ls [.int (q_29 49), .int (q_29 59), .int 59, .ref rw]) rfl ?_
          refine lv_iadd hx hb dX2_go_386 ?_
          refine va_iast hx hb hK hP hD hS 1 0 rfl rfl (inb_vp (by decide)) dX2_go_387 (fun H locs hP hD hS => ?_)
          obtain ⟨q_30, eq_30⟩ : ∃ y : Nat → Int32, y = upd q_29 59 ((q_29 59) + (q_29 49)) := ⟨_, rfl⟩
          have hP : va_P D vwCl ([mdO b M] ++ [(rw, .inl (k 0, 64, .inl q_30))] ++ [(b 8, .inl (k 0, 6, .inl fl_189))] ++ [(b 9, .inl (k 0, 6, .inl sa_189))]) H := by rw [eq_30]; exact hP
          have hD : va_D A ([mdO b M] ++ [(rw, .inl (k 0, 64, .inl q_30))] ++ [(b 8, .inl (k 0, 6, .inl fl_189))] ++ [(b 9, .inl (k 0, 6, .inl sa_189))]) := by rw [eq_30]; exact hD
          have h := nm_l h eq_30
          refine lv_aload_n hx hb dX2_go_388 rfl (lv_at hl 1 rfl) ?_
          refine lv_bipush (v := 60) hx hb dX2_go_389 (by decide) ?_
          refine lv_dup2_11 hx hb dX2_go_391 rfl rfl ?_
          refine va_iald hx hb hK hP 1 0 rfl rfl (inb_vp (by decide)) dX2_go_392 ?_
          refine W.eq (g2 := F0 m 393 ls [.int (q_30 60), .int 60, .ref rw]) rfl ?_
          refine lv_aload_n hx hb dX2_go_393 rfl (lv_at hl 1 rfl) ?_
          refine lv_bipush (v := 50) hx hb dX2_go_394 (by decide) ?_
          refine va_iald hx hb hK hP 1 0 rfl rfl (inb_vp (by decide)) dX2_go_396 ?_
          refine W.eq (g2 := F0 m 397 ls [.int (q_30 50), .int (q_30 60), .int 60, .ref rw]) rfl ?_
          refine lv_iadd hx hb dX2_go_397 ?_
          refine va_iast hx hb hK hP hD hS 1 0 rfl rfl (inb_vp (by decide)) dX2_go_398 (fun H locs hP hD hS => ?_)
          obtain ⟨q_31, eq_31⟩ : ∃ y : Nat → Int32, y = upd q_30 60 ((q_30 60) + (q_30 50)) := ⟨_, rfl⟩
          have hP : va_P D vwCl ([mdO b M] ++ [(rw, .inl (k 0, 64, .inl q_31))] ++ [(b 8, .inl (k 0, 6, .inl fl_189))] ++ [(b 9, .inl (k 0, 6, .inl sa_189))]) H := by rw [eq_31]; exact hP
          have hD : va_D A ([mdO b M] ++ [(rw, .inl (k 0, 64, .inl q_31))] ++ [(b 8, .inl (k 0, 6, .inl fl_189))] ++ [(b 9, .inl (k 0, 6, .inl sa_189))]) := by rw [eq_31]; exact hD
          have h := nm_l h eq_31
          cases h
          exact Ck_vret hx hb hr hP hD hS dX2_go_399 hlocks
        · have h := it_r c_23 h
          refine lv_aload_n hx hb dX2_go_340 rfl (lv_at hl 1 rfl) ?_
          refine lv_bipush (v := 63) hx hb dX2_go_341 (by decide) ?_
          refine lv_dup2_11 hx hb dX2_go_343 rfl rfl ?_
          refine va_iald hx hb hK hP 1 0 rfl rfl (inb_vp (by decide)) dX2_go_344 ?_
          refine W.eq (g2 := F0 m 345 ls [.int (rf_189 63), .int 63, .ref rw]) rfl ?_
          refine lv_iconst (v := 1) hx hb dX2_go_345 (by decide) ?_
          refine lv_iadd hx hb dX2_go_346 ?_
          refine va_iast hx hb hK hP hD hS 1 0 rfl rfl (inb_vp (by decide)) dX2_go_347 (fun H locs hP hD hS => ?_)
          obtain ⟨q_32, eq_32⟩ : ∃ y : Nat → Int32, y = upd rf_189 63 ((rf_189 63) + 1) := ⟨_, rfl⟩
          have hP : va_P D vwCl ([mdO b M] ++ [(rw, .inl (k 0, 64, .inl q_32))] ++ [(b 8, .inl (k 0, 6, .inl fl_189))] ++ [(b 9, .inl (k 0, 6, .inl sa_189))]) H := by rw [eq_32]; exact hP
          have hD : va_D A ([mdO b M] ++ [(rw, .inl (k 0, 64, .inl q_32))] ++ [(b 8, .inl (k 0, 6, .inl fl_189))] ++ [(b 9, .inl (k 0, 6, .inl sa_189))]) := by rw [eq_32]; exact hD
          have h := nm_l h eq_32
          refine lv_goto (tgt := 399) hx hb dX2_go_348 (by decide) ?_
          cases h
          exact Ck_vret hx hb hr hP hD hS dX2_go_399 hlocks
      · have h := it_r c_22 h
        refine lv_aload_n hx hb dX2_go_198 rfl (lv_at hl 1 rfl) ?_
        refine lv_iload hx hb dX2_go_199 (lv_at hl 4 rfl) ?_
        obtain ⟨v_33, hv_34, h⟩ := bd_l h
        refine Ck_S (As := [.ref rw, .int x5_189]) (rest := []) (wc := [(rw, .inl (k 0, 64, .inl rf_189))]) (wc' := [(rw, .inl (k 0, 64, .inl rf_189))]) (w0' := [mdO b M] ++ [(rw, .inl (k 0, 64, .inl rf_189))] ++ [(b 8, .inl (k 0, 6, .inl fl_189))] ++ [(b 9, .inl (k 0, 6, .inl sa_189))]) ⟨hx, hb, hml, hown, hts⟩ (c_X2_works l D k rw rf_189 x5_189 v_33 hv_34) (va_cwS 2 hts gX2_go_X2_works rfl rfl rfl (by decide +kernel) ⟨Nat.le_of_ble_eq_true rfl, Nat.le_of_ble_eq_true rfl⟩) hK hP hD hS hA [1] rfl (by decide) rfl rfl rfl hl.1 rfl (Nat.le_of_ble_eq_true rfl) dX2_go_201 ⟨Nat.le_of_ble_eq_true rfl, Nat.le_of_ble_eq_true rfl⟩ (fun H locs hP hD hS => ?_)
        refine W.eq (g2 := F0 m 204 ls [.int v_33]) rfl ?_
        refine lv_if_eq (tgt := 217) hx hb dX2_go_204 (by decide) (fun c_35 => ?_) (fun c_35 => ?_)
        · have h := it_l c_35 h
          refine lv_bipush (v := (-9)) hx hb dX2_go_217 (by decide) ?_
          exact hC_219 x5_189 (-9) rf_189 _ _ _ hP hD hS (lv_sub hl [0, 1, 2, 3, 4] rfl) h
        · have h := it_r c_35 h
          refine lv_aload_n hx hb dX2_go_207 rfl (lv_at hl 0 rfl) ?_
          refine lv_aload_n hx hb dX2_go_208 rfl (lv_at hl 1 rfl) ?_
          refine lv_iload hx hb dX2_go_209 (lv_at hl 4 rfl) ?_
          obtain ⟨v_36, hv_37, h⟩ := bd_l h
          refine Ck_V (As := [.ref rw, .int x5_189]) (rest := []) (wc := [mdO b M] ++ [(rw, .inl (k 0, 64, .inl rf_189))]) (wc' := [mdO b M] ++ [(rw, .inl (k 0, 64, .inl rf_189))]) (w0' := [mdO b M] ++ [(rw, .inl (k 0, 64, .inl rf_189))] ++ [(b 8, .inl (k 0, 6, .inl fl_189))] ++ [(b 9, .inl (k 0, 6, .inl sa_189))]) ⟨hx, hb, hml, hown, hts⟩ (c_X2_behind l D k b rw M rf_189 x5_189 v_36 hv_37) (cwV 2 hts gX2_go_X2_behind rfl rfl rfl (by decide +kernel) ⟨Nat.le_of_ble_eq_true rfl, Nat.le_of_ble_eq_true rfl⟩) hK hP hD hS hA (q0 := 0) (ci := 2) rfl rfl [0, 1] rfl (by decide) rfl rfl rfl hl.1 rfl (Nat.le_of_ble_eq_true rfl) dX2_go_211 ⟨Nat.le_of_ble_eq_true rfl, Nat.le_of_ble_eq_true rfl⟩ (fun H locs hP hD hS => ?_)
          refine W.eq (g2 := F0 m 214 ls [.int v_36]) rfl ?_
          refine lv_goto (tgt := 219) hx hb dX2_go_214 (by decide) ?_
          exact hC_219 x5_189 v_36 rf_189 _ _ _ hP hD hS (lv_sub hl [0, 1, 2, 3, 4] rfl) h
  have hC_46 : ∀ (fu_46 : Nat) (x2_46 : Int32) (x4_46 : Int32) (x5_46 : Int32) (fl_46 : Nat → Int32) (sa_46 : Nat → Int32) (H : Heap) (locs : List Loc) (ls : Array Slot), va_P D vwCl ([mdO b M] ++ [(rw, .inl (k 0, 64, .inl rf))] ++ [(b 8, .inl (k 0, 6, .inl fl_46))] ++ [(b 9, .inl (k 0, 6, .inl sa_46))]) H → va_D A ([mdO b M] ++ [(rw, .inl (k 0, 64, .inl rf))] ++ [(b 8, .inl (k 0, 6, .inl fl_46))] ++ [(b 9, .inl (k 0, 6, .inl sa_46))]) → va_S A s.heap H locs → lv_has ls 8 [(0, .ref (b 0)), (1, .ref rw), (2, .int x2_46), (4, .int x4_46), (5, .int x5_46)] → f_X2_go_46 M rf fu_46 x2_46 x4_46 x5_46 fl_46 sa_46 = some (o0, o1, o2) → W p l e ({ frames := 2, cells := 0, slots := 0, locals := 44 } : Room) s m args below meth c H locs 0 0 (MQ below (Qk D A none ([mdO b M] ++ [(rw, .inl (k 0, 64, .inl o0))] ++ [(b 8, .inl (k 0, 6, .inl o1))] ++ [(b 9, .inl (k 0, 6, .inl o2))])) args s 0 0 A) (F0 m 46 ls []) := by
    intro fu_46
    induction fu_46 with
    | zero => intro x2_46 x4_46 x5_46 fl_46 sa_46 H locs ls _ _ _ _ h; exact (no_l h).elim
    | succ fu_46 ih_46 =>
      intro x2_46 x4_46 x5_46 fl_46 sa_46 H locs ls hP hD hS hl h
      rw [f_X2_go_46] at h
      have hC_121 : ∀ (x5_121 : Int32) (t0_121 : Int32) (fl_121 : Nat → Int32) (sa_121 : Nat → Int32) (H : Heap) (locs : List Loc) (ls : Array Slot), va_P D vwCl ([mdO b M] ++ [(rw, .inl (k 0, 64, .inl rf))] ++ [(b 8, .inl (k 0, 6, .inl fl_121))] ++ [(b 9, .inl (k 0, 6, .inl sa_121))]) H → va_D A ([mdO b M] ++ [(rw, .inl (k 0, 64, .inl rf))] ++ [(b 8, .inl (k 0, 6, .inl fl_121))] ++ [(b 9, .inl (k 0, 6, .inl sa_121))]) → va_S A s.heap H locs → lv_has ls 8 [(0, .ref (b 0)), (1, .ref rw), (2, .int x2_46), (4, .int x4_46), (5, .int x5_121)] → f_X2_go_121 (f_X2_go_46 M rf fu_46) rf x2_46 x4_46 x5_121 t0_121 fl_121 sa_121 = some (o0, o1, o2) → W p l e ({ frames := 2, cells := 0, slots := 0, locals := 44 } : Room) s m args below meth c H locs 0 0 (MQ below (Qk D A none ([mdO b M] ++ [(rw, .inl (k 0, 64, .inl o0))] ++ [(b 8, .inl (k 0, 6, .inl o1))] ++ [(b 9, .inl (k 0, 6, .inl o2))])) args s 0 0 A) (F0 m 121 ls [.int t0_121]) := by
        intro x5_121 t0_121 fl_121 sa_121 H locs ls hP hD hS hl h
        unfold f_X2_go_121 at h
        refine lv_istore (lv' := [(7, .int t0_121), (0, .ref (b 0)), (1, .ref rw), (2, .int x2_46), (4, .int x4_46), (5, .int x5_121)]) hx hb dX2_go_121 hl (by decide) rfl (fun ls hl => ?_)
        refine lv_aload_n hx hb dX2_go_123 rfl (lv_at hl 1 rfl) ?_
        refine va_get (D := D) (ci := 2) (v := .ref (b 8)) (C := RX2) (T := TX2) (N := 15) hx hb hts w_1 hown hK hP 0 rfl rfl 13 (by decide) w_0 (fun _ h9 => h9) rfl dX2_go_124 ?_
        refine lv_iload hx hb dX2_go_127 (lv_at hl 5 rfl) ?_
        refine lv_aload_n hx hb dX2_go_129 rfl (lv_at hl 2 rfl) ?_
        refine lv_bipush (v := 18) hx hb dX2_go_130 (by decide) ?_
        refine lv_iload hx hb dX2_go_132 (lv_at hl 5 rfl) ?_
        refine lv_iadd hx hb dX2_go_134 ?_
        have g_38 := inb_vp (gb_l h)
        have h := gb_r h
        refine va_iald hx hb hK hP 1 0 rfl rfl g_38 dX2_go_135 ?_
        refine lv_aload_n hx hb dX2_go_136 rfl (lv_at hl 2 rfl) ?_
        refine lv_iload hx hb dX2_go_137 (lv_at hl 5 rfl) ?_
        obtain ⟨v_39, hv_40, h⟩ := bd_l h
        refine Ck_S (As := [.ref rw, .int x5_121]) (rest := [.int (rf (18 + x5_121).toNatClampNeg), .int x5_121, .ref (b 8)]) (wc := [(rw, .inl (k 0, 64, .inl rf))]) (wc' := [(rw, .inl (k 0, 64, .inl rf))]) (w0' := [mdO b M] ++ [(rw, .inl (k 0, 64, .inl rf))] ++ [(b 8, .inl (k 0, 6, .inl fl_121))] ++ [(b 9, .inl (k 0, 6, .inl sa_121))]) ⟨hx, hb, hml, hown, hts⟩ (c_X2_amount l D k rw rf x5_121 v_39 hv_40) (va_cwS 2 hts gX2_go_X2_amount rfl rfl rfl (by decide +kernel) ⟨Nat.le_of_ble_eq_true rfl, Nat.le_of_ble_eq_true rfl⟩) hK hP hD hS hA [1] rfl (by decide) rfl rfl rfl hl.1 rfl (Nat.le_of_ble_eq_true rfl) dX2_go_139 ⟨Nat.le_of_ble_eq_true rfl, Nat.le_of_ble_eq_true rfl⟩ (fun H locs hP hD hS => ?_)
        refine W.eq (g2 := F0 m 142 ls [.int v_39, .int (rf (18 + x5_121).toNatClampNeg), .int x5_121, .ref (b 8)]) rfl ?_
        obtain ⟨v_41, hv_42, h⟩ := bd_l h
        refine Ck_S (As := [.int (rf (18 + x5_121).toNatClampNeg), .int v_39]) (rest := [.int x5_121, .ref (b 8)]) (wc := ([] : va_W)) (wc' := ([] : va_W)) (w0' := [mdO b M] ++ [(rw, .inl (k 0, 64, .inl rf))] ++ [(b 8, .inl (k 0, 6, .inl fl_121))] ++ [(b 9, .inl (k 0, 6, .inl sa_121))]) ⟨hx, hb, hml, hown, hts⟩ (c_X2_less l D k  (rf (18 + x5_121).toNatClampNeg) v_39 v_41 hv_42) (va_cwS 2 hts gX2_go_X2_less rfl rfl rfl (by decide +kernel) ⟨Nat.le_of_ble_eq_true rfl, Nat.le_of_ble_eq_true rfl⟩) hK hP hD hS hA [] rfl (by decide) rfl rfl rfl hl.1 rfl (Nat.le_of_ble_eq_true rfl) dX2_go_142 ⟨Nat.le_of_ble_eq_true rfl, Nat.le_of_ble_eq_true rfl⟩ (fun H locs hP hD hS => ?_)
        refine W.eq (g2 := F0 m 145 ls [.int v_41, .int x5_121, .ref (b 8)]) rfl ?_
        refine lv_iload hx hb dX2_go_145 (lv_at hl 0 rfl) ?_
        obtain ⟨v_43, hv_44, h⟩ := bd_l h
        refine Ck_S (As := [.int v_41, .int t0_121]) (rest := [.int x5_121, .ref (b 8)]) (wc := ([] : va_W)) (wc' := ([] : va_W)) (w0' := [mdO b M] ++ [(rw, .inl (k 0, 64, .inl rf))] ++ [(b 8, .inl (k 0, 6, .inl fl_121))] ++ [(b 9, .inl (k 0, 6, .inl sa_121))]) ⟨hx, hb, hml, hown, hts⟩ (c_X2_less l D k  v_41 t0_121 v_43 hv_44) (va_cwS 2 hts gX2_go_X2_less rfl rfl rfl (by decide +kernel) ⟨Nat.le_of_ble_eq_true rfl, Nat.le_of_ble_eq_true rfl⟩) hK hP hD hS hA [] rfl (by decide) rfl rfl rfl hl.1 rfl (Nat.le_of_ble_eq_true rfl) dX2_go_147 ⟨Nat.le_of_ble_eq_true rfl, Nat.le_of_ble_eq_true rfl⟩ (fun H locs hP hD hS => ?_)
        refine W.eq (g2 := F0 m 150 ls [.int v_43, .int x5_121, .ref (b 8)]) rfl ?_
        have g_45 := inb_vp (gb_l h)
        have h := gb_r h
        refine va_iast hx hb hK hP hD hS 2 0 rfl rfl g_45 dX2_go_150 (fun H locs hP hD hS => ?_)
        obtain ⟨q_46, eq_46⟩ : ∃ y : Nat → Int32, y = upd fl_121 x5_121.toNatClampNeg v_43 := ⟨_, rfl⟩
        have hP : va_P D vwCl ([mdO b M] ++ [(rw, .inl (k 0, 64, .inl rf))] ++ [(b 8, .inl (k 0, 6, .inl q_46))] ++ [(b 9, .inl (k 0, 6, .inl sa_121))]) H := by rw [eq_46]; exact hP
        have hD : va_D A ([mdO b M] ++ [(rw, .inl (k 0, 64, .inl rf))] ++ [(b 8, .inl (k 0, 6, .inl q_46))] ++ [(b 9, .inl (k 0, 6, .inl sa_121))]) := by rw [eq_46]; exact hD
        have h := nm_l h eq_46
        refine lv_aload_n hx hb dX2_go_151 rfl (lv_at hl 1 rfl) ?_
        refine va_get (D := D) (ci := 2) (v := .ref (b 9)) (C := RX2) (T := TX2) (N := 15) hx hb hts w_1 hown hK hP 0 rfl rfl 14 (by decide) w_2 (fun _ h9 => h9) rfl dX2_go_152 ?_
        refine lv_iload hx hb dX2_go_155 (lv_at hl 5 rfl) ?_
        refine lv_aload_n hx hb dX2_go_157 rfl (lv_at hl 2 rfl) ?_
        refine lv_bipush (v := 12) hx hb dX2_go_158 (by decide) ?_
        refine lv_iload hx hb dX2_go_160 (lv_at hl 5 rfl) ?_
        refine lv_iadd hx hb dX2_go_162 ?_
        have g_47 := inb_vp (gb_l h)
        have h := gb_r h
        refine va_iald hx hb hK hP 1 0 rfl rfl g_47 dX2_go_163 ?_
        refine lv_aload_n hx hb dX2_go_164 rfl (lv_at hl 1 rfl) ?_
        refine va_get (D := D) (ci := 2) (v := .ref (b 8)) (C := RX2) (T := TX2) (N := 15) hx hb hts w_1 hown hK hP 0 rfl rfl 13 (by decide) w_0 (fun _ h9 => h9) rfl dX2_go_165 ?_
        refine lv_iload hx hb dX2_go_168 (lv_at hl 5 rfl) ?_
        have g_48 := inb_vp (gb_l h)
        have h := gb_r h
        refine va_iald hx hb hK hP 2 0 rfl rfl g_48 dX2_go_170 ?_
        refine lv_imul hx hb dX2_go_171 ?_
        refine lv_aload_n hx hb dX2_go_172 rfl (lv_at hl 2 rfl) ?_
        refine lv_iload hx hb dX2_go_173 (lv_at hl 5 rfl) ?_
        obtain ⟨v_49, hv_50, h⟩ := bd_l h
        refine Ck_S (As := [.ref rw, .int x5_121]) (rest := [.int ((rf (12 + x5_121).toNatClampNeg) * (q_46 x5_121.toNatClampNeg)), .int x5_121, .ref (b 9)]) (wc := [(rw, .inl (k 0, 64, .inl rf))]) (wc' := [(rw, .inl (k 0, 64, .inl rf))]) (w0' := [mdO b M] ++ [(rw, .inl (k 0, 64, .inl rf))] ++ [(b 8, .inl (k 0, 6, .inl q_46))] ++ [(b 9, .inl (k 0, 6, .inl sa_121))]) ⟨hx, hb, hml, hown, hts⟩ (c_X2_amount l D k rw rf x5_121 v_49 hv_50) (va_cwS 2 hts gX2_go_X2_amount rfl rfl rfl (by decide +kernel) ⟨Nat.le_of_ble_eq_true rfl, Nat.le_of_ble_eq_true rfl⟩) hK hP hD hS hA [1] rfl (by decide) rfl rfl rfl hl.1 rfl (Nat.le_of_ble_eq_true rfl) dX2_go_175 ⟨Nat.le_of_ble_eq_true rfl, Nat.le_of_ble_eq_true rfl⟩ (fun H locs hP hD hS => ?_)
        refine W.eq (g2 := F0 m 178 ls [.int v_49, .int ((rf (12 + x5_121).toNatClampNeg) * (q_46 x5_121.toNatClampNeg)), .int x5_121, .ref (b 9)]) rfl ?_
        have g_51 := nz_l (gb_l h)
        have h := gb_r h
        refine lv_idiv hx hb dX2_go_178 g_51 ?_
        have g_52 := inb_vp (gb_l h)
        have h := gb_r h
        refine va_iast hx hb hK hP hD hS 3 0 rfl rfl g_52 dX2_go_179 (fun H locs hP hD hS => ?_)
        obtain ⟨q_53, eq_53⟩ : ∃ y : Nat → Int32, y = upd sa_121 x5_121.toNatClampNeg (((rf (12 + x5_121).toNatClampNeg) * (q_46 x5_121.toNatClampNeg)) / v_49) := ⟨_, rfl⟩
        have hP : va_P D vwCl ([mdO b M] ++ [(rw, .inl (k 0, 64, .inl rf))] ++ [(b 8, .inl (k 0, 6, .inl q_46))] ++ [(b 9, .inl (k 0, 6, .inl q_53))]) H := by rw [eq_53]; exact hP
        have hD : va_D A ([mdO b M] ++ [(rw, .inl (k 0, 64, .inl rf))] ++ [(b 8, .inl (k 0, 6, .inl q_46))] ++ [(b 9, .inl (k 0, 6, .inl q_53))]) := by rw [eq_53]; exact hD
        have h := nm_l h eq_53
        refine lv_iinc (v := (x5_121 + 1)) (lv' := [(5, .int (x5_121 + 1)), (7, .int t0_121), (0, .ref (b 0)), (1, .ref rw), (2, .int x2_46), (4, .int x4_46)]) hx hb dX2_go_180 hl (k := 5) rfl rfl (by decide) rfl (fun ls hl => ?_)
        refine lv_goto (tgt := 46) hx hb dX2_go_183 (by decide) ?_
        exact ih_46 x2_46 x4_46 (x5_121 + 1) q_46 q_53 _ _ _ hP hD hS (lv_sub hl [2, 3, 4, 5, 0] rfl) h
      refine lv_iload hx hb dX2_go_46 (lv_at hl 4 rfl) ?_
      refine lv_aload_n hx hb dX2_go_48 rfl (lv_at hl 0 rfl) ?_
      refine va_get (D := D) (ci := 2) (v := .int (m_n M)) (C := RX2) (T := TX2) (N := 15) hx hb hts w_1 hown hK hP 0 rfl rfl 6 (by decide) w_3 (fun _ h9 => h9) rfl dX2_go_49 ?_
      refine lv_icmp_ge (tgt := 186) hx hb dX2_go_52 (by decide) (fun c_54 => ?_) (fun c_54 => ?_)
      · have h := it_l c_54 h
        refine lv_iconst (v := 0) hx hb dX2_go_186 (by decide) ?_
        refine lv_istore (lv' := [(5, .int 0), (0, .ref (b 0)), (1, .ref rw), (2, .int x2_46), (4, .int x4_46)]) hx hb dX2_go_187 hl (by decide) rfl (fun ls hl => ?_)
        exact hC_189 2000 x2_46 x4_46 0 rf fl_46 sa_46 _ _ _ hP hD hS (lv_sub hl [1, 2, 3, 4, 0] rfl) h
      · have h := it_r c_54 h
        refine lv_aload_n hx hb dX2_go_55 rfl (lv_at hl 0 rfl) ?_
        refine va_get (D := D) (ci := 2) (v := .ref (b 8)) (C := RX2) (T := TX2) (N := 15) hx hb hts w_1 hown hK hP 0 rfl rfl 13 (by decide) w_0 (fun _ h9 => h9) rfl dX2_go_56 ?_
        refine lv_iload hx hb dX2_go_59 (lv_at hl 4 rfl) ?_
        refine lv_iconst (v := 0) hx hb dX2_go_61 (by decide) ?_
        have g_55 := inb_vp (gb_l h)
        have h := gb_r h
        refine va_iast hx hb hK hP hD hS 2 0 rfl rfl g_55 dX2_go_62 (fun H locs hP hD hS => ?_)
        obtain ⟨q_56, eq_56⟩ : ∃ y : Nat → Int32, y = upd fl_46 x5_46.toNatClampNeg 0 := ⟨_, rfl⟩
        have hP : va_P D vwCl ([mdO b M] ++ [(rw, .inl (k 0, 64, .inl rf))] ++ [(b 8, .inl (k 0, 6, .inl q_56))] ++ [(b 9, .inl (k 0, 6, .inl sa_46))]) H := by rw [eq_56]; exact hP
        have hD : va_D A ([mdO b M] ++ [(rw, .inl (k 0, 64, .inl rf))] ++ [(b 8, .inl (k 0, 6, .inl q_56))] ++ [(b 9, .inl (k 0, 6, .inl sa_46))]) := by rw [eq_56]; exact hD
        have h := nm_l h eq_56
        refine lv_aload_n hx hb dX2_go_63 rfl (lv_at hl 0 rfl) ?_
        refine va_get (D := D) (ci := 2) (v := .ref (b 9)) (C := RX2) (T := TX2) (N := 15) hx hb hts w_1 hown hK hP 0 rfl rfl 14 (by decide) w_2 (fun _ h9 => h9) rfl dX2_go_64 ?_
        refine lv_iload hx hb dX2_go_67 (lv_at hl 4 rfl) ?_
        refine lv_iconst (v := 0) hx hb dX2_go_69 (by decide) ?_
        have g_57 := inb_vp (gb_l h)
        have h := gb_r h
        refine va_iast hx hb hK hP hD hS 3 0 rfl rfl g_57 dX2_go_70 (fun H locs hP hD hS => ?_)
        obtain ⟨q_58, eq_58⟩ : ∃ y : Nat → Int32, y = upd sa_46 x5_46.toNatClampNeg 0 := ⟨_, rfl⟩
        have hP : va_P D vwCl ([mdO b M] ++ [(rw, .inl (k 0, 64, .inl rf))] ++ [(b 8, .inl (k 0, 6, .inl q_56))] ++ [(b 9, .inl (k 0, 6, .inl q_58))]) H := by rw [eq_58]; exact hP
        have hD : va_D A ([mdO b M] ++ [(rw, .inl (k 0, 64, .inl rf))] ++ [(b 8, .inl (k 0, 6, .inl q_56))] ++ [(b 9, .inl (k 0, 6, .inl q_58))]) := by rw [eq_58]; exact hD
        have h := nm_l h eq_58
        refine lv_aload_n hx hb dX2_go_71 rfl (lv_at hl 1 rfl) ?_
        refine lv_iload hx hb dX2_go_72 (lv_at hl 4 rfl) ?_
        obtain ⟨v_59, hv_60, h⟩ := bd_l h
        refine Ck_S (As := [.ref rw, .int x5_46]) (rest := []) (wc := [(rw, .inl (k 0, 64, .inl rf))]) (wc' := [(rw, .inl (k 0, 64, .inl rf))]) (w0' := [mdO b M] ++ [(rw, .inl (k 0, 64, .inl rf))] ++ [(b 8, .inl (k 0, 6, .inl q_56))] ++ [(b 9, .inl (k 0, 6, .inl q_58))]) ⟨hx, hb, hml, hown, hts⟩ (c_X2_works l D k rw rf x5_46 v_59 hv_60) (va_cwS 2 hts gX2_go_X2_works rfl rfl rfl (by decide +kernel) ⟨Nat.le_of_ble_eq_true rfl, Nat.le_of_ble_eq_true rfl⟩) hK hP hD hS hA [1] rfl (by decide) rfl rfl rfl hl.1 rfl (Nat.le_of_ble_eq_true rfl) dX2_go_74 ⟨Nat.le_of_ble_eq_true rfl, Nat.le_of_ble_eq_true rfl⟩ (fun H locs hP hD hS => ?_)
        refine W.eq (g2 := F0 m 77 ls [.int v_59]) rfl ?_
        refine lv_if_eq (tgt := 180) hx hb dX2_go_77 (by decide) (fun c_61 => ?_) (fun c_61 => ?_)
        · have h := it_l c_61 h
          refine lv_iinc (v := (x5_46 + 1)) (lv' := [(5, .int (x5_46 + 1)), (0, .ref (b 0)), (1, .ref rw), (2, .int x2_46), (4, .int x4_46)]) hx hb dX2_go_180 hl (k := 4) rfl rfl (by decide) rfl (fun ls hl => ?_)
          refine lv_goto (tgt := 46) hx hb dX2_go_183 (by decide) ?_
          exact ih_46 x2_46 x4_46 (x5_46 + 1) q_56 q_58 _ _ _ hP hD hS (lv_sub hl [1, 2, 3, 4, 0] rfl) h
        · have h := it_r c_61 h
          refine lv_aload_n hx hb dX2_go_80 rfl (lv_at hl 1 rfl) ?_
          refine lv_iload hx hb dX2_go_81 (lv_at hl 4 rfl) ?_
          obtain ⟨v_62, hv_63, h⟩ := bd_l h
          refine Ck_S (As := [.ref rw, .int x5_46]) (rest := []) (wc := [(rw, .inl (k 0, 64, .inl rf))]) (wc' := [(rw, .inl (k 0, 64, .inl rf))]) (w0' := [mdO b M] ++ [(rw, .inl (k 0, 64, .inl rf))] ++ [(b 8, .inl (k 0, 6, .inl q_56))] ++ [(b 9, .inl (k 0, 6, .inl q_58))]) ⟨hx, hb, hml, hown, hts⟩ (c_X2_amount l D k rw rf x5_46 v_62 hv_63) (va_cwS 2 hts gX2_go_X2_amount rfl rfl rfl (by decide +kernel) ⟨Nat.le_of_ble_eq_true rfl, Nat.le_of_ble_eq_true rfl⟩) hK hP hD hS hA [1] rfl (by decide) rfl rfl rfl hl.1 rfl (Nat.le_of_ble_eq_true rfl) dX2_go_83 ⟨Nat.le_of_ble_eq_true rfl, Nat.le_of_ble_eq_true rfl⟩ (fun H locs hP hD hS => ?_)
          refine W.eq (g2 := F0 m 86 ls [.int v_62]) rfl ?_
          refine lv_if_le (tgt := 180) hx hb dX2_go_86 (by decide) (fun c_64 => ?_) (fun c_64 => ?_)
          · have h := it_l c_64 h
            refine lv_iinc (v := (x5_46 + 1)) (lv' := [(5, .int (x5_46 + 1)), (0, .ref (b 0)), (1, .ref rw), (2, .int x2_46), (4, .int x4_46)]) hx hb dX2_go_180 hl (k := 4) rfl rfl (by decide) rfl (fun ls hl => ?_)
            refine lv_goto (tgt := 46) hx hb dX2_go_183 (by decide) ?_
            exact ih_46 x2_46 x4_46 (x5_46 + 1) q_56 q_58 _ _ _ hP hD hS (lv_sub hl [1, 2, 3, 4, 0] rfl) h
          · have h := it_r c_64 h
            refine lv_aload_n hx hb dX2_go_89 rfl (lv_at hl 0 rfl) ?_
            refine lv_aload_n hx hb dX2_go_90 rfl (lv_at hl 1 rfl) ?_
            refine lv_iload hx hb dX2_go_91 (lv_at hl 4 rfl) ?_
            obtain ⟨v_65, hv_66, h⟩ := bd_l h
            refine Ck_V (As := [.ref rw, .int x5_46]) (rest := []) (wc := [mdO b M] ++ [(rw, .inl (k 0, 64, .inl rf))]) (wc' := [mdO b M] ++ [(rw, .inl (k 0, 64, .inl rf))]) (w0' := [mdO b M] ++ [(rw, .inl (k 0, 64, .inl rf))] ++ [(b 8, .inl (k 0, 6, .inl q_56))] ++ [(b 9, .inl (k 0, 6, .inl q_58))]) ⟨hx, hb, hml, hown, hts⟩ (c_X2_behind l D k b rw M rf x5_46 v_65 hv_66) (cwV 2 hts gX2_go_X2_behind rfl rfl rfl (by decide +kernel) ⟨Nat.le_of_ble_eq_true rfl, Nat.le_of_ble_eq_true rfl⟩) hK hP hD hS hA (q0 := 0) (ci := 2) rfl rfl [0, 1] rfl (by decide) rfl rfl rfl hl.1 rfl (Nat.le_of_ble_eq_true rfl) dX2_go_93 ⟨Nat.le_of_ble_eq_true rfl, Nat.le_of_ble_eq_true rfl⟩ (fun H locs hP hD hS => ?_)
            refine W.eq (g2 := F0 m 96 ls [.int v_65]) rfl ?_
            refine lv_istore (lv' := [(6, .int v_65), (0, .ref (b 0)), (1, .ref rw), (2, .int x2_46), (4, .int x4_46), (5, .int x5_46)]) hx hb dX2_go_96 hl (by decide) rfl (fun ls hl => ?_)
            refine lv_iload hx hb dX2_go_98 (lv_at hl 0 rfl) ?_
            refine lv_bipush (v := (-9)) hx hb dX2_go_100 (by decide) ?_
            refine lv_icmp_ne (tgt := 111) hx hb dX2_go_102 (by decide) (fun c_67 => ?_) (fun c_67 => ?_)
            · have h := it_r c_67 h
              refine lv_sipush (v := 5000) hx hb dX2_go_111 (by decide) ?_
              refine lv_aload_n hx hb dX2_go_114 rfl (lv_at hl 2 rfl) ?_
              refine lv_iload hx hb dX2_go_115 (lv_at hl 0 rfl) ?_
              obtain ⟨v_68, hv_69, h⟩ := bd_l h
              refine Ck_S (As := [.ref rw, .int v_65]) (rest := [.int 5000]) (wc := [(rw, .inl (k 0, 64, .inl rf))]) (wc' := [(rw, .inl (k 0, 64, .inl rf))]) (w0' := [mdO b M] ++ [(rw, .inl (k 0, 64, .inl rf))] ++ [(b 8, .inl (k 0, 6, .inl q_56))] ++ [(b 9, .inl (k 0, 6, .inl q_58))]) ⟨hx, hb, hml, hown, hts⟩ (c_X2_amount l D k rw rf v_65 v_68 hv_69) (va_cwS 2 hts gX2_go_X2_amount rfl rfl rfl (by decide +kernel) ⟨Nat.le_of_ble_eq_true rfl, Nat.le_of_ble_eq_true rfl⟩) hK hP hD hS hA [1] rfl (by decide) rfl rfl rfl hl.1 rfl (Nat.le_of_ble_eq_true rfl) dX2_go_117 ⟨Nat.le_of_ble_eq_true rfl, Nat.le_of_ble_eq_true rfl⟩ (fun H locs hP hD hS => ?_)
              refine W.eq (g2 := F0 m 120 ls [.int v_68, .int 5000]) rfl ?_
              refine lv_isub hx hb dX2_go_120 ?_
              exact hC_121 x5_46 (5000 - v_68) q_56 q_58 _ _ _ hP hD hS (lv_sub hl [1, 2, 3, 4, 5] rfl) h
            · have h := it_l c_67 h
              refine lv_sipush (v := 5000) hx hb dX2_go_105 (by decide) ?_
              refine lv_goto (tgt := 121) hx hb dX2_go_108 (by decide) ?_
              exact hC_121 x5_46 5000 q_56 q_58 _ _ _ hP hD hS (lv_sub hl [1, 2, 3, 4, 5] rfl) h
  refine lv_aload_n hx hb dX2_go_0 rfl (lv_at hl 0 rfl) ?_
  refine lv_aload_n hx hb dX2_go_1 rfl (lv_at hl 1 rfl) ?_
  refine lv_iconst (v := (-1)) hx hb dX2_go_2 (by decide) ?_
  obtain ⟨v_70, hv_71, h⟩ := bd_l h
  refine Ck_V (As := [.ref rw, .int (-1)]) (rest := []) (wc := [mdO b M] ++ [(rw, .inl (k 0, 64, .inl rf))]) (wc' := [mdO b M] ++ [(rw, .inl (k 0, 64, .inl rf))]) (w0' := [mdO b M] ++ [(rw, .inl (k 0, 64, .inl rf))] ++ [(b 8, .inl (k 0, 6, .inl fl))] ++ [(b 9, .inl (k 0, 6, .inl sa))]) ⟨hx, hb, hml, hown, hts⟩ (c_X2_behind l D k b rw M rf (-1) v_70 hv_71) (cwV 2 hts gX2_go_X2_behind rfl rfl rfl (by decide +kernel) ⟨Nat.le_of_ble_eq_true rfl, Nat.le_of_ble_eq_true rfl⟩) hK hP hD hS hA (q0 := 0) (ci := 2) rfl rfl [0, 1] rfl (by decide) rfl rfl rfl hl.1 rfl (Nat.le_of_ble_eq_true rfl) dX2_go_3 ⟨Nat.le_of_ble_eq_true rfl, Nat.le_of_ble_eq_true rfl⟩ (fun H locs hP hD hS => ?_)
  refine W.eq (g2 := F0 m 6 ls [.int v_70]) rfl ?_
  refine lv_istore_n (lv' := [(2, .int v_70), (0, .ref (b 0)), (1, .ref rw)]) hx hb dX2_go_6 rfl hl (by decide) rfl (fun ls hl => ?_)
  refine lv_aload_n hx hb dX2_go_7 rfl (lv_at hl 2 rfl) ?_
  refine lv_bipush (v := 49) hx hb dX2_go_8 (by decide) ?_
  refine va_iald hx hb hK hP 1 0 rfl rfl (inb_vp (by decide)) dX2_go_10 ?_
  refine W.eq (g2 := F0 m 11 ls [.int (rf 49)]) rfl ?_
  refine lv_aload_n hx hb dX2_go_11 rfl (lv_at hl 2 rfl) ?_
  refine lv_bipush (v := 50) hx hb dX2_go_12 (by decide) ?_
  refine va_iald hx hb hK hP 1 0 rfl rfl (inb_vp (by decide)) dX2_go_14 ?_
  refine W.eq (g2 := F0 m 15 ls [.int (rf 50), .int (rf 49)]) rfl ?_
  refine lv_iadd hx hb dX2_go_15 ?_
  refine lv_topi (fun v_72 ev_72 => ?_)
  have h := nm_l h ev_72
  refine lv_istore_n (lv' := [(3, .int v_72), (2, .int v_70), (0, .ref (b 0)), (1, .ref rw)]) hx hb dX2_go_16 rfl hl (by decide) rfl (fun ls hl => ?_)
  refine lv_iload_n hx hb dX2_go_17 rfl (lv_at hl 1 rfl) ?_
  refine lv_bipush (v := (-9)) hx hb dX2_go_18 (by decide) ?_
  refine lv_icmp_eq (tgt := 36) hx hb dX2_go_20 (by decide) (fun c_73 => ?_) (fun c_73 => ?_)
  · have h := it_l c_73 h
    refine lv_iconst (v := 1) hx hb dX2_go_36 (by decide) ?_
    refine lv_goto (tgt := 41) hx hb dX2_go_37 (by decide) ?_
    refine lv_istore (lv' := [(4, .int 1), (3, .int v_72), (2, .int v_70), (0, .ref (b 0)), (1, .ref rw)]) hx hb dX2_go_41 hl (by decide) rfl (fun ls hl => ?_)
    refine lv_iconst (v := 0) hx hb dX2_go_43 (by decide) ?_
    refine lv_istore (lv' := [(5, .int 0), (4, .int 1), (3, .int v_72), (2, .int v_70), (0, .ref (b 0)), (1, .ref rw)]) hx hb dX2_go_44 hl (by decide) rfl (fun ls hl => ?_)
    exact hC_46 2000 v_70 1 0 fl sa _ _ _ hP hD hS (lv_sub hl [4, 5, 3, 1, 0] rfl) h
  · have h := it_r c_73 h
    refine lv_sipush (v := 5000) hx hb dX2_go_23 (by decide) ?_
    refine lv_aload_n hx hb dX2_go_26 rfl (lv_at hl 3 rfl) ?_
    refine lv_iload_n hx hb dX2_go_27 rfl (lv_at hl 1 rfl) ?_
    obtain ⟨v_74, hv_75, h⟩ := bd_l h
    refine Ck_S (As := [.ref rw, .int v_70]) (rest := [.int 5000]) (wc := [(rw, .inl (k 0, 64, .inl rf))]) (wc' := [(rw, .inl (k 0, 64, .inl rf))]) (w0' := [mdO b M] ++ [(rw, .inl (k 0, 64, .inl rf))] ++ [(b 8, .inl (k 0, 6, .inl fl))] ++ [(b 9, .inl (k 0, 6, .inl sa))]) ⟨hx, hb, hml, hown, hts⟩ (c_X2_amount l D k rw rf v_70 v_74 hv_75) (va_cwS 2 hts gX2_go_X2_amount rfl rfl rfl (by decide +kernel) ⟨Nat.le_of_ble_eq_true rfl, Nat.le_of_ble_eq_true rfl⟩) hK hP hD hS hA [1] rfl (by decide) rfl rfl rfl hl.1 rfl (Nat.le_of_ble_eq_true rfl) dX2_go_28 ⟨Nat.le_of_ble_eq_true rfl, Nat.le_of_ble_eq_true rfl⟩ (fun H locs hP hD hS => ?_)
    refine W.eq (g2 := F0 m 31 ls [.int v_74, .int 5000]) rfl ?_
    refine lv_isub hx hb dX2_go_31 ?_
    refine lv_iload_n hx hb dX2_go_32 rfl (lv_at hl 0 rfl) ?_
    refine lv_icmp_ge (tgt := 40) hx hb dX2_go_33 (by decide) (fun c_76 => ?_) (fun c_76 => ?_)
    · have h := it_l c_76 h
      refine lv_iconst (v := 0) hx hb dX2_go_40 (by decide) ?_
      refine lv_istore (lv' := [(4, .int 0), (3, .int v_72), (2, .int v_70), (0, .ref (b 0)), (1, .ref rw)]) hx hb dX2_go_41 hl (by decide) rfl (fun ls hl => ?_)
      refine lv_iconst (v := 0) hx hb dX2_go_43 (by decide) ?_
      refine lv_istore (lv' := [(5, .int 0), (4, .int 0), (3, .int v_72), (2, .int v_70), (0, .ref (b 0)), (1, .ref rw)]) hx hb dX2_go_44 hl (by decide) rfl (fun ls hl => ?_)
      exact hC_46 2000 v_70 0 0 fl sa _ _ _ hP hD hS (lv_sub hl [4, 5, 3, 1, 0] rfl) h
    · have h := it_r c_76 h
      refine lv_iconst (v := 1) hx hb dX2_go_36 (by decide) ?_
      refine lv_goto (tgt := 41) hx hb dX2_go_37 (by decide) ?_
      refine lv_istore (lv' := [(4, .int 1), (3, .int v_72), (2, .int v_70), (0, .ref (b 0)), (1, .ref rw)]) hx hb dX2_go_41 hl (by decide) rfl (fun ls hl => ?_)
      refine lv_iconst (v := 0) hx hb dX2_go_43 (by decide) ?_
      refine lv_istore (lv' := [(5, .int 0), (4, .int 1), (3, .int v_72), (2, .int v_70), (0, .ref (b 0)), (1, .ref rw)]) hx hb dX2_go_44 hl (by decide) rfl (fun ls hl => ?_)
      exact hC_46 2000 v_70 1 0 fl sa _ _ _ hP hD hS (lv_sub hl [4, 5, 3, 1, 0] rfl) h
def f_X2_tickOn_144 (k_101 : Int32 → (Nat → Int32) → (Nat → Int32) → (Nat → Int32) → Option ((Nat → Int32) × (Nat → Int32) × (Nat → Int32))) (fl_101 : Nat → Int32) (sa_101 : Nat → Int32) (x2_144 : Int32) (t0_144 : Int32) (t1_144 : Int32) (rf_144 : Nat → Int32) : Option ((Nat → Int32) × (Nat → Int32) × (Nat → Int32)) := gb (inb t1_144 64) <| nm (upd rf_144 t1_144.toNatClampNeg t0_144) fun q_2 => gb (inb (42 + x2_144) 64) <| gb (inb (42 + x2_144) 64) <| nm (upd q_2 (42 + x2_144).toNatClampNeg ((q_2 (42 + x2_144).toNatClampNeg) - 1)) fun q_5 => k_101 (x2_144 + 1) q_5 fl_101 sa_101
def f_X2_tickOn_101 (M : MdV) : Nat → Int32 → (Nat → Int32) → (Nat → Int32) → (Nat → Int32) → Option ((Nat → Int32) × (Nat → Int32) × (Nat → Int32))
  | 0, _, _, _, _ => none
  | fu + 1, x2_101, rf_101, fl_101, sa_101 => if (m_n M) ≤ x2_101 then (nm (upd rf_101 53 ((rf_101 53) + 1)) fun q_7 => some (q_7, fl_101, sa_101)) else (bd (f_X2_works rf_101 x2_101) fun v_8 => if v_8 = 0 then (gb (inb (30 + x2_101) 64) <| if 5 ≤ (rf_101 (30 + x2_101).toNatClampNeg) then (gb (inb (30 + x2_101) 64) <| f_X2_tickOn_144 (f_X2_tickOn_101 M fu) fl_101 sa_101 x2_101 ((rf_101 (30 + x2_101).toNatClampNeg) - 5) (30 + x2_101) rf_101) else (f_X2_tickOn_144 (f_X2_tickOn_101 M fu) fl_101 sa_101 x2_101 0 (30 + x2_101) rf_101)) else ((f_X2_tickOn_101 M fu) (x2_101 + 1) rf_101 fl_101 sa_101))
def f_X2_tickOn_31 (M : MdV) (fl : Nat → Int32) (rf : Nat → Int32) (sa : Nat → Int32) : Nat → Int32 → Int32 → Option ((Nat → Int32) × (Nat → Int32) × (Nat → Int32))
  | 0, _, _ => none
  | fu + 1, x2_31, x3_31 => if (m_n M) ≤ x3_31 then (gb (inb (30 + x2_31) 64) <| if (rf (30 + x2_31).toNatClampNeg) ≤ 0 then (gb (inb (42 + x2_31) 64) <| nm (upd rf (42 + x2_31).toNatClampNeg 0) fun q_18 => bd (f_X2_boil M q_18) fun q_19 => bd (f_X2_go M q_19 fl sa) fun ⟨q_21, q_22, q_23⟩ => f_X2_tickOn_101 M 2000 0 q_21 q_22 q_23) else (gb (inb (42 + x2_31) 64) <| nm (upd rf (42 + x2_31).toNatClampNeg (rf 52)) fun q_26 => bd (f_X2_boil M q_26) fun q_27 => bd (f_X2_go M q_27 fl sa) fun ⟨q_29, q_30, q_31⟩ => f_X2_tickOn_101 M 2000 0 q_29 q_30 q_31)) else (gb (inb (30 + x3_31) 64) <| gb (inb (30 + x2_31) 64) <| if (rf (30 + x3_31).toNatClampNeg) ≤ (rf (30 + x2_31).toNatClampNeg) then ((f_X2_tickOn_31 M fl rf sa fu) x2_31 (x3_31 + 1)) else ((f_X2_tickOn_31 M fl rf sa fu) x3_31 (x3_31 + 1)))
def f_X2_tickOn (M : MdV) (rf : Nat → Int32) (fl : Nat → Int32) (sa : Nat → Int32) : Option ((Nat → Int32) × (Nat → Int32) × (Nat → Int32)) := if (rf 51) ≤ 0 then (bd (f_X2_boil M rf) fun q_37 => bd (f_X2_go M q_37 fl sa) fun ⟨q_39, q_40, q_41⟩ => f_X2_tickOn_101 M 2000 0 q_39 q_40 q_41) else (gb (nz (rf 51)) <| if ((rf 53) - (rf 53) / (rf 51) * (rf 51)) = 0 then (bd (f_X2_washed M rf) fun v_51 => if v_51 = 0 then (f_X2_tickOn_31 M fl rf sa 2000 0 1) else (bd (f_X2_boil M rf) fun q_54 => bd (f_X2_go M q_54 fl sa) fun ⟨q_56, q_57, q_58⟩ => f_X2_tickOn_101 M 2000 0 q_56 q_57 q_58)) else (bd (f_X2_boil M rf) fun q_45 => bd (f_X2_go M q_45 fl sa) fun ⟨q_47, q_48, q_49⟩ => f_X2_tickOn_101 M 2000 0 q_47 q_48 q_49))
set_option maxRecDepth 100000 in
set_option maxHeartbeats 4000000 in
theorem c_X2_tickOn (l : Launch) (D : va_G) (k : Nat → ClassId) (b : Nat → Nat) (rw : Nat) (M : MdV) (rf : Nat → Int32) (fl : Nat → Int32) (sa : Nat → Int32) (o0 : Nat → Int32) (o1 : Nat → Int32) (o2 : Nat → Int32) (h : f_X2_tickOn M rf fl sa = some (o0, o1, o2)) : Ck l D (tyK k) yX2_tickOn wsX2_tickOn ({ frames := 3, cells := 0, slots := 0, locals := 71 } : Room) [.ref (b 0), .ref rw] ([mdO b M] ++ [(rw, .inl (k 0, 64, .inl rf))] ++ [(b 8, .inl (k 0, 6, .inl fl))] ++ [(b 9, .inl (k 0, 6, .inl sa))]) none ([mdO b M] ++ [(rw, .inl (k 0, 64, .inl o0))] ++ [(b 8, .inl (k 0, 6, .inl o1))] ++ [(b 9, .inl (k 0, 6, .inl o2))]) := by
  refine Ck_of (cc := cX2_tickOn) (maxL := 4) (ret := none) (by decide) rfl (Nat.le_of_ble_eq_true rfl) ?_
  intro p e s m args below meth c A ls hx hb hr hml hts hown hlocks hK hA hP hD hS hl
  have hl : lv_has ls 4 [(0, .ref (b 0)), (1, .ref rw)] := hl
  have hP : va_P D vwCl ([mdO b M] ++ [(rw, .inl (k 0, 64, .inl rf))] ++ [(b 8, .inl (k 0, 6, .inl fl))] ++ [(b 9, .inl (k 0, 6, .inl sa))]) s.heap := hP
  have w_0 := hts (.fieldLink RX2 38 "EffectTrainModel" "n" "I") (by decide +kernel)
  have w_1 : ∀ w ∈ wsX20, w ∈ wsX2_tickOn := by decide +kernel
  unfold f_X2_tickOn at h
  have hC_101 : ∀ (fu_101 : Nat) (x2_101 : Int32) (rf_101 : Nat → Int32) (fl_101 : Nat → Int32) (sa_101 : Nat → Int32) (H : Heap) (locs : List Loc) (ls : Array Slot), va_P D vwCl ([mdO b M] ++ [(rw, .inl (k 0, 64, .inl rf_101))] ++ [(b 8, .inl (k 0, 6, .inl fl_101))] ++ [(b 9, .inl (k 0, 6, .inl sa_101))]) H → va_D A ([mdO b M] ++ [(rw, .inl (k 0, 64, .inl rf_101))] ++ [(b 8, .inl (k 0, 6, .inl fl_101))] ++ [(b 9, .inl (k 0, 6, .inl sa_101))]) → va_S A s.heap H locs → lv_has ls 4 [(0, .ref (b 0)), (1, .ref rw), (2, .int x2_101)] → f_X2_tickOn_101 M fu_101 x2_101 rf_101 fl_101 sa_101 = some (o0, o1, o2) → W p l e ({ frames := 3, cells := 0, slots := 0, locals := 71 } : Room) s m args below meth c H locs 0 0 (MQ below (Qk D A none ([mdO b M] ++ [(rw, .inl (k 0, 64, .inl o0))] ++ [(b 8, .inl (k 0, 6, .inl o1))] ++ [(b 9, .inl (k 0, 6, .inl o2))])) args s 0 0 A) (F0 m 101 ls []) := by
    intro fu_101
    induction fu_101 with
    | zero => intro x2_101 rf_101 fl_101 sa_101 H locs ls _ _ _ _ h; exact (no_l h).elim
    | succ fu_101 ih_101 =>
      intro x2_101 rf_101 fl_101 sa_101 H locs ls hP hD hS hl h
      rw [f_X2_tickOn_101] at h
      have hC_144 : ∀ (x2_144 : Int32) (t0_144 : Int32) (t1_144 : Int32) (rf_144 : Nat → Int32) (H : Heap) (locs : List Loc) (ls : Array Slot), va_P D vwCl ([mdO b M] ++ [(rw, .inl (k 0, 64, .inl rf_144))] ++ [(b 8, .inl (k 0, 6, .inl fl_101))] ++ [(b 9, .inl (k 0, 6, .inl sa_101))]) H → va_D A ([mdO b M] ++ [(rw, .inl (k 0, 64, .inl rf_144))] ++ [(b 8, .inl (k 0, 6, .inl fl_101))] ++ [(b 9, .inl (k 0, 6, .inl sa_101))]) → va_S A s.heap H locs → lv_has ls 4 [(0, .ref (b 0)), (1, .ref rw), (2, .int x2_144)] → f_X2_tickOn_144 (f_X2_tickOn_101 M fu_101) fl_101 sa_101 x2_144 t0_144 t1_144 rf_144 = some (o0, o1, o2) → W p l e ({ frames := 3, cells := 0, slots := 0, locals := 71 } : Room) s m args below meth c H locs 0 0 (MQ below (Qk D A none ([mdO b M] ++ [(rw, .inl (k 0, 64, .inl o0))] ++ [(b 8, .inl (k 0, 6, .inl o1))] ++ [(b 9, .inl (k 0, 6, .inl o2))])) args s 0 0 A) (F0 m 144 ls [.int t0_144, .int t1_144, .ref rw]) := by
        intro x2_144 t0_144 t1_144 rf_144 H locs ls hP hD hS hl h
        unfold f_X2_tickOn_144 at h
        have g_1 := inb_vp (gb_l h)
        have h := gb_r h
        refine va_iast hx hb hK hP hD hS 1 0 rfl rfl g_1 dX2_tickOn_144 (fun H locs hP hD hS => ?_)
        obtain ⟨q_2, eq_2⟩ : ∃ y : Nat → Int32, y = upd rf_144 t1_144.toNatClampNeg t0_144 := ⟨_, rfl⟩
        have hP : va_P D vwCl ([mdO b M] ++ [(rw, .inl (k 0, 64, .inl q_2))] ++ [(b 8, .inl (k 0, 6, .inl fl_101))] ++ [(b 9, .inl (k 0, 6, .inl sa_101))]) H := by rw [eq_2]; exact hP
        have hD : va_D A ([mdO b M] ++ [(rw, .inl (k 0, 64, .inl q_2))] ++ [(b 8, .inl (k 0, 6, .inl fl_101))] ++ [(b 9, .inl (k 0, 6, .inl sa_101))]) := by rw [eq_2]; exact hD
        have h := nm_l h eq_2
        refine lv_aload_n hx hb dX2_tickOn_145 rfl (lv_at hl 1 rfl) ?_
        refine lv_bipush (v := 42) hx hb dX2_tickOn_146 (by decide) ?_
        refine lv_iload_n hx hb dX2_tickOn_148 rfl (lv_at hl 2 rfl) ?_
        refine lv_iadd hx hb dX2_tickOn_149 ?_
        refine lv_dup2_11 hx hb dX2_tickOn_150 rfl rfl ?_
        have g_3 := inb_vp (gb_l h)
        have h := gb_r h
        refine va_iald hx hb hK hP 1 0 rfl rfl g_3 dX2_tickOn_151 ?_
        refine lv_iconst (v := 1) hx hb dX2_tickOn_152 (by decide) ?_
        refine lv_isub hx hb dX2_tickOn_153 ?_
        have g_4 := inb_vp (gb_l h)
        have h := gb_r h
        refine va_iast hx hb hK hP hD hS 1 0 rfl rfl g_4 dX2_tickOn_154 (fun H locs hP hD hS => ?_)
        obtain ⟨q_5, eq_5⟩ : ∃ y : Nat → Int32, y = upd q_2 (42 + x2_144).toNatClampNeg ((q_2 (42 + x2_144).toNatClampNeg) - 1) := ⟨_, rfl⟩
        have hP : va_P D vwCl ([mdO b M] ++ [(rw, .inl (k 0, 64, .inl q_5))] ++ [(b 8, .inl (k 0, 6, .inl fl_101))] ++ [(b 9, .inl (k 0, 6, .inl sa_101))]) H := by rw [eq_5]; exact hP
        have hD : va_D A ([mdO b M] ++ [(rw, .inl (k 0, 64, .inl q_5))] ++ [(b 8, .inl (k 0, 6, .inl fl_101))] ++ [(b 9, .inl (k 0, 6, .inl sa_101))]) := by rw [eq_5]; exact hD
        have h := nm_l h eq_5
        refine lv_iinc (v := (x2_144 + 1)) (lv' := [(2, .int (x2_144 + 1)), (0, .ref (b 0)), (1, .ref rw)]) hx hb dX2_tickOn_155 hl (k := 2) rfl rfl (by decide) rfl (fun ls hl => ?_)
        refine lv_goto (tgt := 101) hx hb dX2_tickOn_158 (by decide) ?_
        exact ih_101 (x2_144 + 1) q_5 fl_101 sa_101 _ _ _ hP hD hS (lv_sub hl [1, 2, 0] rfl) h
      refine lv_iload_n hx hb dX2_tickOn_101 rfl (lv_at hl 2 rfl) ?_
      refine lv_aload_n hx hb dX2_tickOn_102 rfl (lv_at hl 0 rfl) ?_
      refine va_get (D := D) (ci := 2) (v := .int (m_n M)) (C := RX2) (T := TX2) (N := 15) hx hb hts w_1 hown hK hP 0 rfl rfl 6 (by decide) w_0 (fun _ h9 => h9) rfl dX2_tickOn_103 ?_
      refine lv_icmp_ge (tgt := 161) hx hb dX2_tickOn_106 (by decide) (fun c_6 => ?_) (fun c_6 => ?_)
      · have h := it_l c_6 h
        refine lv_aload_n hx hb dX2_tickOn_161 rfl (lv_at hl 1 rfl) ?_
        refine lv_bipush (v := 53) hx hb dX2_tickOn_162 (by decide) ?_
        refine lv_dup2_11 hx hb dX2_tickOn_164 rfl rfl ?_
        refine va_iald hx hb hK hP 1 0 rfl rfl (inb_vp (by decide)) dX2_tickOn_165 ?_
        refine W.eq (g2 := F0 m 166 ls [.int (rf_101 53), .int 53, .ref rw]) rfl ?_
        refine lv_iconst (v := 1) hx hb dX2_tickOn_166 (by decide) ?_
        refine lv_iadd hx hb dX2_tickOn_167 ?_
        refine va_iast hx hb hK hP hD hS 1 0 rfl rfl (inb_vp (by decide)) dX2_tickOn_168 (fun H locs hP hD hS => ?_)
        obtain ⟨q_7, eq_7⟩ : ∃ y : Nat → Int32, y = upd rf_101 53 ((rf_101 53) + 1) := ⟨_, rfl⟩
        have hP : va_P D vwCl ([mdO b M] ++ [(rw, .inl (k 0, 64, .inl q_7))] ++ [(b 8, .inl (k 0, 6, .inl fl_101))] ++ [(b 9, .inl (k 0, 6, .inl sa_101))]) H := by rw [eq_7]; exact hP
        have hD : va_D A ([mdO b M] ++ [(rw, .inl (k 0, 64, .inl q_7))] ++ [(b 8, .inl (k 0, 6, .inl fl_101))] ++ [(b 9, .inl (k 0, 6, .inl sa_101))]) := by rw [eq_7]; exact hD
        have h := nm_l h eq_7
        cases h
        exact Ck_vret hx hb hr hP hD hS dX2_tickOn_169 hlocks
      · have h := it_r c_6 h
        refine lv_aload_n hx hb dX2_tickOn_109 rfl (lv_at hl 1 rfl) ?_
        refine lv_iload_n hx hb dX2_tickOn_110 rfl (lv_at hl 2 rfl) ?_
        obtain ⟨v_8, hv_9, h⟩ := bd_l h
        refine Ck_S (As := [.ref rw, .int x2_101]) (rest := []) (wc := [(rw, .inl (k 0, 64, .inl rf_101))]) (wc' := [(rw, .inl (k 0, 64, .inl rf_101))]) (w0' := [mdO b M] ++ [(rw, .inl (k 0, 64, .inl rf_101))] ++ [(b 8, .inl (k 0, 6, .inl fl_101))] ++ [(b 9, .inl (k 0, 6, .inl sa_101))]) ⟨hx, hb, hml, hown, hts⟩ (c_X2_works l D k rw rf_101 x2_101 v_8 hv_9) (va_cwS 2 hts gX2_tickOn_X2_works rfl rfl rfl (by decide +kernel) ⟨Nat.le_of_ble_eq_true rfl, Nat.le_of_ble_eq_true rfl⟩) hK hP hD hS hA [1] rfl (by decide) rfl rfl rfl hl.1 rfl (Nat.le_of_ble_eq_true rfl) dX2_tickOn_111 ⟨Nat.le_of_ble_eq_true rfl, Nat.le_of_ble_eq_true rfl⟩ (fun H locs hP hD hS => ?_)
        refine W.eq (g2 := F0 m 114 ls [.int v_8]) rfl ?_
        refine lv_if_ne (tgt := 155) hx hb dX2_tickOn_114 (by decide) (fun c_10 => ?_) (fun c_10 => ?_)
        · have h := it_r c_10 h
          refine lv_iinc (v := (x2_101 + 1)) (lv' := [(2, .int (x2_101 + 1)), (0, .ref (b 0)), (1, .ref rw)]) hx hb dX2_tickOn_155 hl (k := 2) rfl rfl (by decide) rfl (fun ls hl => ?_)
          refine lv_goto (tgt := 101) hx hb dX2_tickOn_158 (by decide) ?_
          exact ih_101 (x2_101 + 1) rf_101 fl_101 sa_101 _ _ _ hP hD hS (lv_sub hl [1, 2, 0] rfl) h
        · have h := it_l c_10 h
          refine lv_aload_n hx hb dX2_tickOn_117 rfl (lv_at hl 1 rfl) ?_
          refine lv_bipush (v := 30) hx hb dX2_tickOn_118 (by decide) ?_
          refine lv_iload_n hx hb dX2_tickOn_120 rfl (lv_at hl 2 rfl) ?_
          refine lv_iadd hx hb dX2_tickOn_121 ?_
          refine lv_aload_n hx hb dX2_tickOn_122 rfl (lv_at hl 1 rfl) ?_
          refine lv_bipush (v := 30) hx hb dX2_tickOn_123 (by decide) ?_
          refine lv_iload_n hx hb dX2_tickOn_125 rfl (lv_at hl 2 rfl) ?_
          refine lv_iadd hx hb dX2_tickOn_126 ?_
          have g_11 := inb_vp (gb_l h)
          have h := gb_r h
          refine va_iald hx hb hK hP 1 0 rfl rfl g_11 dX2_tickOn_127 ?_
          refine lv_iconst (v := 5) hx hb dX2_tickOn_128 (by decide) ?_
          refine lv_icmp_ge (tgt := 136) hx hb dX2_tickOn_129 (by decide) (fun c_12 => ?_) (fun c_12 => ?_)
          · have h := it_l c_12 h
            refine lv_aload_n hx hb dX2_tickOn_136 rfl (lv_at hl 1 rfl) ?_
            refine lv_bipush (v := 30) hx hb dX2_tickOn_137 (by decide) ?_
            refine lv_iload_n hx hb dX2_tickOn_139 rfl (lv_at hl 2 rfl) ?_
            refine lv_iadd hx hb dX2_tickOn_140 ?_
            have g_13 := inb_vp (gb_l h)
            have h := gb_r h
            refine va_iald hx hb hK hP 1 0 rfl rfl g_13 dX2_tickOn_141 ?_
            refine lv_iconst (v := 5) hx hb dX2_tickOn_142 (by decide) ?_
            refine lv_isub hx hb dX2_tickOn_143 ?_
            exact hC_144 x2_101 ((rf_101 (30 + x2_101).toNatClampNeg) - 5) (30 + x2_101) rf_101 _ _ _ hP hD hS (lv_sub hl [0, 1, 2] rfl) h
          · have h := it_r c_12 h
            refine lv_iconst (v := 0) hx hb dX2_tickOn_132 (by decide) ?_
            refine lv_goto (tgt := 144) hx hb dX2_tickOn_133 (by decide) ?_
            exact hC_144 x2_101 0 (30 + x2_101) rf_101 _ _ _ hP hD hS (lv_sub hl [0, 1, 2] rfl) h
  have hC_31 : ∀ (fu_31 : Nat) (x2_31 : Int32) (x3_31 : Int32) (H : Heap) (locs : List Loc) (ls : Array Slot), va_P D vwCl ([mdO b M] ++ [(rw, .inl (k 0, 64, .inl rf))] ++ [(b 8, .inl (k 0, 6, .inl fl))] ++ [(b 9, .inl (k 0, 6, .inl sa))]) H → va_D A ([mdO b M] ++ [(rw, .inl (k 0, 64, .inl rf))] ++ [(b 8, .inl (k 0, 6, .inl fl))] ++ [(b 9, .inl (k 0, 6, .inl sa))]) → va_S A s.heap H locs → lv_has ls 4 [(0, .ref (b 0)), (1, .ref rw), (2, .int x2_31), (3, .int x3_31)] → f_X2_tickOn_31 M fl rf sa fu_31 x2_31 x3_31 = some (o0, o1, o2) → W p l e ({ frames := 3, cells := 0, slots := 0, locals := 71 } : Room) s m args below meth c H locs 0 0 (MQ below (Qk D A none ([mdO b M] ++ [(rw, .inl (k 0, 64, .inl o0))] ++ [(b 8, .inl (k 0, 6, .inl o1))] ++ [(b 9, .inl (k 0, 6, .inl o2))])) args s 0 0 A) (F0 m 31 ls []) := by
    intro fu_31
    induction fu_31 with
    | zero => intro x2_31 x3_31 H locs ls _ _ _ _ h; exact (no_l h).elim
    | succ fu_31 ih_31 =>
      intro x2_31 x3_31 H locs ls hP hD hS hl h
      rw [f_X2_tickOn_31] at h
      refine lv_iload_n hx hb dX2_tickOn_31 rfl (lv_at hl 3 rfl) ?_
      refine lv_aload_n hx hb dX2_tickOn_32 rfl (lv_at hl 0 rfl) ?_
      refine va_get (D := D) (ci := 2) (v := .int (m_n M)) (C := RX2) (T := TX2) (N := 15) hx hb hts w_1 hown hK hP 0 rfl rfl 6 (by decide) w_0 (fun _ h9 => h9) rfl dX2_tickOn_33 ?_
      refine lv_icmp_ge (tgt := 66) hx hb dX2_tickOn_36 (by decide) (fun c_14 => ?_) (fun c_14 => ?_)
      · have h := it_l c_14 h
        refine lv_aload_n hx hb dX2_tickOn_66 rfl (lv_at hl 1 rfl) ?_
        refine lv_bipush (v := 42) hx hb dX2_tickOn_67 (by decide) ?_
        refine lv_iload_n hx hb dX2_tickOn_69 rfl (lv_at hl 2 rfl) ?_
        refine lv_iadd hx hb dX2_tickOn_70 ?_
        refine lv_aload_n hx hb dX2_tickOn_71 rfl (lv_at hl 1 rfl) ?_
        refine lv_bipush (v := 30) hx hb dX2_tickOn_72 (by decide) ?_
        refine lv_iload_n hx hb dX2_tickOn_74 rfl (lv_at hl 2 rfl) ?_
        refine lv_iadd hx hb dX2_tickOn_75 ?_
        have g_15 := inb_vp (gb_l h)
        have h := gb_r h
        refine va_iald hx hb hK hP 1 0 rfl rfl g_15 dX2_tickOn_76 ?_
        refine lv_if_le (tgt := 87) hx hb dX2_tickOn_77 (by decide) (fun c_16 => ?_) (fun c_16 => ?_)
        · have h := it_l c_16 h
          refine lv_iconst (v := 0) hx hb dX2_tickOn_87 (by decide) ?_
          have g_17 := inb_vp (gb_l h)
          have h := gb_r h
          refine va_iast hx hb hK hP hD hS 1 0 rfl rfl g_17 dX2_tickOn_88 (fun H locs hP hD hS => ?_)
          obtain ⟨q_18, eq_18⟩ : ∃ y : Nat → Int32, y = upd rf (42 + x2_31).toNatClampNeg 0 := ⟨_, rfl⟩
          have hP : va_P D vwCl ([mdO b M] ++ [(rw, .inl (k 0, 64, .inl q_18))] ++ [(b 8, .inl (k 0, 6, .inl fl))] ++ [(b 9, .inl (k 0, 6, .inl sa))]) H := by rw [eq_18]; exact hP
          have hD : va_D A ([mdO b M] ++ [(rw, .inl (k 0, 64, .inl q_18))] ++ [(b 8, .inl (k 0, 6, .inl fl))] ++ [(b 9, .inl (k 0, 6, .inl sa))]) := by rw [eq_18]; exact hD
          have h := nm_l h eq_18
          refine lv_aload_n hx hb dX2_tickOn_89 rfl (lv_at hl 0 rfl) ?_
          refine lv_aload_n hx hb dX2_tickOn_90 rfl (lv_at hl 1 rfl) ?_
          obtain ⟨q_19, hv_20, h⟩ := bd_l h
          refine Ck_V (As := [.ref rw]) (rest := []) (wc := [mdO b M] ++ [(rw, .inl (k 0, 64, .inl q_18))]) (wc' := [mdO b M] ++ [(rw, .inl (k 0, 64, .inl q_19))]) (w0' := [mdO b M] ++ [(rw, .inl (k 0, 64, .inl q_19))] ++ [(b 8, .inl (k 0, 6, .inl fl))] ++ [(b 9, .inl (k 0, 6, .inl sa))]) ⟨hx, hb, hml, hown, hts⟩ (c_X2_boil l D k b rw M q_18 q_19 hv_20) (cwV 1 hts gX2_tickOn_X2_boil rfl rfl rfl (by decide +kernel) ⟨Nat.le_of_ble_eq_true rfl, Nat.le_of_ble_eq_true rfl⟩) hK hP hD hS hA (q0 := 0) (ci := 2) rfl rfl [0, 1] rfl (by decide) rfl rfl rfl hl.1 rfl (Nat.le_of_ble_eq_true rfl) dX2_tickOn_91 ⟨Nat.le_of_ble_eq_true rfl, Nat.le_of_ble_eq_true rfl⟩ (fun H locs hP hD hS => ?_)
          refine W.eq (g2 := F0 m 94 ls []) rfl ?_
          refine lv_aload_n hx hb dX2_tickOn_94 rfl (lv_at hl 0 rfl) ?_
          refine lv_aload_n hx hb dX2_tickOn_95 rfl (lv_at hl 1 rfl) ?_
          obtain ⟨⟨q_21, q_22, q_23⟩, hv_24, h⟩ := bd_l h
          refine Ck_V (As := [.ref rw]) (rest := []) (wc := [mdO b M] ++ [(rw, .inl (k 0, 64, .inl q_19))] ++ [(b 8, .inl (k 0, 6, .inl fl))] ++ [(b 9, .inl (k 0, 6, .inl sa))]) (wc' := [mdO b M] ++ [(rw, .inl (k 0, 64, .inl q_21))] ++ [(b 8, .inl (k 0, 6, .inl q_22))] ++ [(b 9, .inl (k 0, 6, .inl q_23))]) (w0' := [mdO b M] ++ [(rw, .inl (k 0, 64, .inl q_21))] ++ [(b 8, .inl (k 0, 6, .inl q_22))] ++ [(b 9, .inl (k 0, 6, .inl q_23))]) ⟨hx, hb, hml, hown, hts⟩ (c_X2_go l D k b rw M q_19 fl sa q_21 q_22 q_23 hv_24) (cwV 1 hts gX2_tickOn_X2_go rfl rfl rfl (by decide +kernel) ⟨Nat.le_of_ble_eq_true rfl, Nat.le_of_ble_eq_true rfl⟩) hK hP hD hS hA (q0 := 0) (ci := 2) rfl rfl [0, 1, 2, 3] rfl (by decide) rfl rfl rfl hl.1 rfl (Nat.le_of_ble_eq_true rfl) dX2_tickOn_96 ⟨Nat.le_of_ble_eq_true rfl, Nat.le_of_ble_eq_true rfl⟩ (fun H locs hP hD hS => ?_)
          refine W.eq (g2 := F0 m 99 ls []) rfl ?_
          refine lv_iconst (v := 0) hx hb dX2_tickOn_99 (by decide) ?_
          refine lv_istore_n (lv' := [(2, .int 0), (0, .ref (b 0)), (1, .ref rw), (3, .int x3_31)]) hx hb dX2_tickOn_100 rfl hl (by decide) rfl (fun ls hl => ?_)
          exact hC_101 2000 0 q_21 q_22 q_23 _ _ _ hP hD hS (lv_sub hl [1, 2, 0] rfl) h
        · have h := it_r c_16 h
          refine lv_aload_n hx hb dX2_tickOn_80 rfl (lv_at hl 1 rfl) ?_
          refine lv_bipush (v := 52) hx hb dX2_tickOn_81 (by decide) ?_
          refine va_iald hx hb hK hP 1 0 rfl rfl (inb_vp (by decide)) dX2_tickOn_83 ?_
          refine W.eq (g2 := F0 m 84 ls [.int (rf 52), .int (42 + x2_31), .ref rw]) rfl ?_
          refine lv_goto (tgt := 88) hx hb dX2_tickOn_84 (by decide) ?_
          have g_25 := inb_vp (gb_l h)
          have h := gb_r h
          refine va_iast hx hb hK hP hD hS 1 0 rfl rfl g_25 dX2_tickOn_88 (fun H locs hP hD hS => ?_)
          obtain ⟨q_26, eq_26⟩ : ∃ y : Nat → Int32, y = upd rf (42 + x2_31).toNatClampNeg (rf 52) := ⟨_, rfl⟩
          have hP : va_P D vwCl ([mdO b M] ++ [(rw, .inl (k 0, 64, .inl q_26))] ++ [(b 8, .inl (k 0, 6, .inl fl))] ++ [(b 9, .inl (k 0, 6, .inl sa))]) H := by rw [eq_26]; exact hP
          have hD : va_D A ([mdO b M] ++ [(rw, .inl (k 0, 64, .inl q_26))] ++ [(b 8, .inl (k 0, 6, .inl fl))] ++ [(b 9, .inl (k 0, 6, .inl sa))]) := by rw [eq_26]; exact hD
          have h := nm_l h eq_26
          refine lv_aload_n hx hb dX2_tickOn_89 rfl (lv_at hl 0 rfl) ?_
          refine lv_aload_n hx hb dX2_tickOn_90 rfl (lv_at hl 1 rfl) ?_
          obtain ⟨q_27, hv_28, h⟩ := bd_l h
          refine Ck_V (As := [.ref rw]) (rest := []) (wc := [mdO b M] ++ [(rw, .inl (k 0, 64, .inl q_26))]) (wc' := [mdO b M] ++ [(rw, .inl (k 0, 64, .inl q_27))]) (w0' := [mdO b M] ++ [(rw, .inl (k 0, 64, .inl q_27))] ++ [(b 8, .inl (k 0, 6, .inl fl))] ++ [(b 9, .inl (k 0, 6, .inl sa))]) ⟨hx, hb, hml, hown, hts⟩ (c_X2_boil l D k b rw M q_26 q_27 hv_28) (cwV 1 hts gX2_tickOn_X2_boil rfl rfl rfl (by decide +kernel) ⟨Nat.le_of_ble_eq_true rfl, Nat.le_of_ble_eq_true rfl⟩) hK hP hD hS hA (q0 := 0) (ci := 2) rfl rfl [0, 1] rfl (by decide) rfl rfl rfl hl.1 rfl (Nat.le_of_ble_eq_true rfl) dX2_tickOn_91 ⟨Nat.le_of_ble_eq_true rfl, Nat.le_of_ble_eq_true rfl⟩ (fun H locs hP hD hS => ?_)
          refine W.eq (g2 := F0 m 94 ls []) rfl ?_
          refine lv_aload_n hx hb dX2_tickOn_94 rfl (lv_at hl 0 rfl) ?_
          refine lv_aload_n hx hb dX2_tickOn_95 rfl (lv_at hl 1 rfl) ?_
          obtain ⟨⟨q_29, q_30, q_31⟩, hv_32, h⟩ := bd_l h
          refine Ck_V (As := [.ref rw]) (rest := []) (wc := [mdO b M] ++ [(rw, .inl (k 0, 64, .inl q_27))] ++ [(b 8, .inl (k 0, 6, .inl fl))] ++ [(b 9, .inl (k 0, 6, .inl sa))]) (wc' := [mdO b M] ++ [(rw, .inl (k 0, 64, .inl q_29))] ++ [(b 8, .inl (k 0, 6, .inl q_30))] ++ [(b 9, .inl (k 0, 6, .inl q_31))]) (w0' := [mdO b M] ++ [(rw, .inl (k 0, 64, .inl q_29))] ++ [(b 8, .inl (k 0, 6, .inl q_30))] ++ [(b 9, .inl (k 0, 6, .inl q_31))]) ⟨hx, hb, hml, hown, hts⟩ (c_X2_go l D k b rw M q_27 fl sa q_29 q_30 q_31 hv_32) (cwV 1 hts gX2_tickOn_X2_go rfl rfl rfl (by decide +kernel) ⟨Nat.le_of_ble_eq_true rfl, Nat.le_of_ble_eq_true rfl⟩) hK hP hD hS hA (q0 := 0) (ci := 2) rfl rfl [0, 1, 2, 3] rfl (by decide) rfl rfl rfl hl.1 rfl (Nat.le_of_ble_eq_true rfl) dX2_tickOn_96 ⟨Nat.le_of_ble_eq_true rfl, Nat.le_of_ble_eq_true rfl⟩ (fun H locs hP hD hS => ?_)
          refine W.eq (g2 := F0 m 99 ls []) rfl ?_
          refine lv_iconst (v := 0) hx hb dX2_tickOn_99 (by decide) ?_
          refine lv_istore_n (lv' := [(2, .int 0), (0, .ref (b 0)), (1, .ref rw), (3, .int x3_31)]) hx hb dX2_tickOn_100 rfl hl (by decide) rfl (fun ls hl => ?_)
          exact hC_101 2000 0 q_29 q_30 q_31 _ _ _ hP hD hS (lv_sub hl [1, 2, 0] rfl) h
      · have h := it_r c_14 h
        refine lv_aload_n hx hb dX2_tickOn_39 rfl (lv_at hl 1 rfl) ?_
        refine lv_bipush (v := 30) hx hb dX2_tickOn_40 (by decide) ?_
        refine lv_iload_n hx hb dX2_tickOn_42 rfl (lv_at hl 3 rfl) ?_
        refine lv_iadd hx hb dX2_tickOn_43 ?_
        have g_33 := inb_vp (gb_l h)
        have h := gb_r h
        refine va_iald hx hb hK hP 1 0 rfl rfl g_33 dX2_tickOn_44 ?_
        refine lv_aload_n hx hb dX2_tickOn_45 rfl (lv_at hl 1 rfl) ?_
        refine lv_bipush (v := 30) hx hb dX2_tickOn_46 (by decide) ?_
        refine lv_iload_n hx hb dX2_tickOn_48 rfl (lv_at hl 2 rfl) ?_
        refine lv_iadd hx hb dX2_tickOn_49 ?_
        have g_34 := inb_vp (gb_l h)
        have h := gb_r h
        refine va_iald hx hb hK hP 1 0 rfl rfl g_34 dX2_tickOn_50 ?_
        refine lv_icmp_le (tgt := 58) hx hb dX2_tickOn_51 (by decide) (fun c_35 => ?_) (fun c_35 => ?_)
        · have h := it_l c_35 h
          refine lv_iload_n hx hb dX2_tickOn_58 rfl (lv_at hl 2 rfl) ?_
          refine lv_istore_n (lv' := [(2, .int x2_31), (0, .ref (b 0)), (1, .ref rw), (3, .int x3_31)]) hx hb dX2_tickOn_59 rfl hl (by decide) rfl (fun ls hl => ?_)
          refine lv_iinc (v := (x3_31 + 1)) (lv' := [(3, .int (x3_31 + 1)), (2, .int x2_31), (0, .ref (b 0)), (1, .ref rw)]) hx hb dX2_tickOn_60 hl (k := 3) rfl rfl (by decide) rfl (fun ls hl => ?_)
          refine lv_goto (tgt := 31) hx hb dX2_tickOn_63 (by decide) ?_
          exact ih_31 x2_31 (x3_31 + 1) _ _ _ hP hD hS (lv_sub hl [2, 3, 1, 0] rfl) h
        · have h := it_r c_35 h
          refine lv_iload_n hx hb dX2_tickOn_54 rfl (lv_at hl 3 rfl) ?_
          refine lv_goto (tgt := 59) hx hb dX2_tickOn_55 (by decide) ?_
          refine lv_istore_n (lv' := [(2, .int x3_31), (0, .ref (b 0)), (1, .ref rw), (3, .int x3_31)]) hx hb dX2_tickOn_59 rfl hl (by decide) rfl (fun ls hl => ?_)
          refine lv_iinc (v := (x3_31 + 1)) (lv' := [(3, .int (x3_31 + 1)), (2, .int x3_31), (0, .ref (b 0)), (1, .ref rw)]) hx hb dX2_tickOn_60 hl (k := 3) rfl rfl (by decide) rfl (fun ls hl => ?_)
          refine lv_goto (tgt := 31) hx hb dX2_tickOn_63 (by decide) ?_
          exact ih_31 x3_31 (x3_31 + 1) _ _ _ hP hD hS (lv_sub hl [2, 3, 1, 0] rfl) h
  refine lv_aload_n hx hb dX2_tickOn_0 rfl (lv_at hl 1 rfl) ?_
  refine lv_bipush (v := 51) hx hb dX2_tickOn_1 (by decide) ?_
  refine va_iald hx hb hK hP 1 0 rfl rfl (inb_vp (by decide)) dX2_tickOn_3 ?_
  refine W.eq (g2 := F0 m 4 ls [.int (rf 51)]) rfl ?_
  refine lv_if_le (tgt := 89) hx hb dX2_tickOn_4 (by decide) (fun c_36 => ?_) (fun c_36 => ?_)
  · have h := it_l c_36 h
    refine lv_aload_n hx hb dX2_tickOn_89 rfl (lv_at hl 0 rfl) ?_
    refine lv_aload_n hx hb dX2_tickOn_90 rfl (lv_at hl 1 rfl) ?_
    obtain ⟨q_37, hv_38, h⟩ := bd_l h
    refine Ck_V (As := [.ref rw]) (rest := []) (wc := [mdO b M] ++ [(rw, .inl (k 0, 64, .inl rf))]) (wc' := [mdO b M] ++ [(rw, .inl (k 0, 64, .inl q_37))]) (w0' := [mdO b M] ++ [(rw, .inl (k 0, 64, .inl q_37))] ++ [(b 8, .inl (k 0, 6, .inl fl))] ++ [(b 9, .inl (k 0, 6, .inl sa))]) ⟨hx, hb, hml, hown, hts⟩ (c_X2_boil l D k b rw M rf q_37 hv_38) (cwV 1 hts gX2_tickOn_X2_boil rfl rfl rfl (by decide +kernel) ⟨Nat.le_of_ble_eq_true rfl, Nat.le_of_ble_eq_true rfl⟩) hK hP hD hS hA (q0 := 0) (ci := 2) rfl rfl [0, 1] rfl (by decide) rfl rfl rfl hl.1 rfl (Nat.le_of_ble_eq_true rfl) dX2_tickOn_91 ⟨Nat.le_of_ble_eq_true rfl, Nat.le_of_ble_eq_true rfl⟩ (fun H locs hP hD hS => ?_)
    refine W.eq (g2 := F0 m 94 ls []) rfl ?_
    refine lv_aload_n hx hb dX2_tickOn_94 rfl (lv_at hl 0 rfl) ?_
    refine lv_aload_n hx hb dX2_tickOn_95 rfl (lv_at hl 1 rfl) ?_
    obtain ⟨⟨q_39, q_40, q_41⟩, hv_42, h⟩ := bd_l h
    refine Ck_V (As := [.ref rw]) (rest := []) (wc := [mdO b M] ++ [(rw, .inl (k 0, 64, .inl q_37))] ++ [(b 8, .inl (k 0, 6, .inl fl))] ++ [(b 9, .inl (k 0, 6, .inl sa))]) (wc' := [mdO b M] ++ [(rw, .inl (k 0, 64, .inl q_39))] ++ [(b 8, .inl (k 0, 6, .inl q_40))] ++ [(b 9, .inl (k 0, 6, .inl q_41))]) (w0' := [mdO b M] ++ [(rw, .inl (k 0, 64, .inl q_39))] ++ [(b 8, .inl (k 0, 6, .inl q_40))] ++ [(b 9, .inl (k 0, 6, .inl q_41))]) ⟨hx, hb, hml, hown, hts⟩ (c_X2_go l D k b rw M q_37 fl sa q_39 q_40 q_41 hv_42) (cwV 1 hts gX2_tickOn_X2_go rfl rfl rfl (by decide +kernel) ⟨Nat.le_of_ble_eq_true rfl, Nat.le_of_ble_eq_true rfl⟩) hK hP hD hS hA (q0 := 0) (ci := 2) rfl rfl [0, 1, 2, 3] rfl (by decide) rfl rfl rfl hl.1 rfl (Nat.le_of_ble_eq_true rfl) dX2_tickOn_96 ⟨Nat.le_of_ble_eq_true rfl, Nat.le_of_ble_eq_true rfl⟩ (fun H locs hP hD hS => ?_)
    refine W.eq (g2 := F0 m 99 ls []) rfl ?_
    refine lv_iconst (v := 0) hx hb dX2_tickOn_99 (by decide) ?_
    refine lv_istore_n (lv' := [(2, .int 0), (0, .ref (b 0)), (1, .ref rw)]) hx hb dX2_tickOn_100 rfl hl (by decide) rfl (fun ls hl => ?_)
    exact hC_101 2000 0 q_39 q_40 q_41 _ _ _ hP hD hS (lv_sub hl [1, 2, 0] rfl) h
  · have h := it_r c_36 h
    refine lv_aload_n hx hb dX2_tickOn_7 rfl (lv_at hl 1 rfl) ?_
    refine lv_bipush (v := 53) hx hb dX2_tickOn_8 (by decide) ?_
    refine va_iald hx hb hK hP 1 0 rfl rfl (inb_vp (by decide)) dX2_tickOn_10 ?_
    refine W.eq (g2 := F0 m 11 ls [.int (rf 53)]) rfl ?_
    refine lv_aload_n hx hb dX2_tickOn_11 rfl (lv_at hl 1 rfl) ?_
    refine lv_bipush (v := 51) hx hb dX2_tickOn_12 (by decide) ?_
    refine va_iald hx hb hK hP 1 0 rfl rfl (inb_vp (by decide)) dX2_tickOn_14 ?_
    refine W.eq (g2 := F0 m 15 ls [.int (rf 51), .int (rf 53)]) rfl ?_
    have g_43 := nz_l (gb_l h)
    have h := gb_r h
    refine lv_irem hx hb dX2_tickOn_15 g_43 ?_
    refine lv_if_ne (tgt := 89) hx hb dX2_tickOn_16 (by decide) (fun c_44 => ?_) (fun c_44 => ?_)
    · have h := it_r c_44 h
      refine lv_aload_n hx hb dX2_tickOn_89 rfl (lv_at hl 0 rfl) ?_
      refine lv_aload_n hx hb dX2_tickOn_90 rfl (lv_at hl 1 rfl) ?_
      obtain ⟨q_45, hv_46, h⟩ := bd_l h
      refine Ck_V (As := [.ref rw]) (rest := []) (wc := [mdO b M] ++ [(rw, .inl (k 0, 64, .inl rf))]) (wc' := [mdO b M] ++ [(rw, .inl (k 0, 64, .inl q_45))]) (w0' := [mdO b M] ++ [(rw, .inl (k 0, 64, .inl q_45))] ++ [(b 8, .inl (k 0, 6, .inl fl))] ++ [(b 9, .inl (k 0, 6, .inl sa))]) ⟨hx, hb, hml, hown, hts⟩ (c_X2_boil l D k b rw M rf q_45 hv_46) (cwV 1 hts gX2_tickOn_X2_boil rfl rfl rfl (by decide +kernel) ⟨Nat.le_of_ble_eq_true rfl, Nat.le_of_ble_eq_true rfl⟩) hK hP hD hS hA (q0 := 0) (ci := 2) rfl rfl [0, 1] rfl (by decide) rfl rfl rfl hl.1 rfl (Nat.le_of_ble_eq_true rfl) dX2_tickOn_91 ⟨Nat.le_of_ble_eq_true rfl, Nat.le_of_ble_eq_true rfl⟩ (fun H locs hP hD hS => ?_)
      refine W.eq (g2 := F0 m 94 ls []) rfl ?_
      refine lv_aload_n hx hb dX2_tickOn_94 rfl (lv_at hl 0 rfl) ?_
      refine lv_aload_n hx hb dX2_tickOn_95 rfl (lv_at hl 1 rfl) ?_
      obtain ⟨⟨q_47, q_48, q_49⟩, hv_50, h⟩ := bd_l h
      refine Ck_V (As := [.ref rw]) (rest := []) (wc := [mdO b M] ++ [(rw, .inl (k 0, 64, .inl q_45))] ++ [(b 8, .inl (k 0, 6, .inl fl))] ++ [(b 9, .inl (k 0, 6, .inl sa))]) (wc' := [mdO b M] ++ [(rw, .inl (k 0, 64, .inl q_47))] ++ [(b 8, .inl (k 0, 6, .inl q_48))] ++ [(b 9, .inl (k 0, 6, .inl q_49))]) (w0' := [mdO b M] ++ [(rw, .inl (k 0, 64, .inl q_47))] ++ [(b 8, .inl (k 0, 6, .inl q_48))] ++ [(b 9, .inl (k 0, 6, .inl q_49))]) ⟨hx, hb, hml, hown, hts⟩ (c_X2_go l D k b rw M q_45 fl sa q_47 q_48 q_49 hv_50) (cwV 1 hts gX2_tickOn_X2_go rfl rfl rfl (by decide +kernel) ⟨Nat.le_of_ble_eq_true rfl, Nat.le_of_ble_eq_true rfl⟩) hK hP hD hS hA (q0 := 0) (ci := 2) rfl rfl [0, 1, 2, 3] rfl (by decide) rfl rfl rfl hl.1 rfl (Nat.le_of_ble_eq_true rfl) dX2_tickOn_96 ⟨Nat.le_of_ble_eq_true rfl, Nat.le_of_ble_eq_true rfl⟩ (fun H locs hP hD hS => ?_)
      refine W.eq (g2 := F0 m 99 ls []) rfl ?_
      refine lv_iconst (v := 0) hx hb dX2_tickOn_99 (by decide) ?_
      refine lv_istore_n (lv' := [(2, .int 0), (0, .ref (b 0)), (1, .ref rw)]) hx hb dX2_tickOn_100 rfl hl (by decide) rfl (fun ls hl => ?_)
      exact hC_101 2000 0 q_47 q_48 q_49 _ _ _ hP hD hS (lv_sub hl [1, 2, 0] rfl) h
    · have h := it_l c_44 h
      refine lv_aload_n hx hb dX2_tickOn_19 rfl (lv_at hl 0 rfl) ?_
      refine lv_aload_n hx hb dX2_tickOn_20 rfl (lv_at hl 1 rfl) ?_
      obtain ⟨v_51, hv_52, h⟩ := bd_l h
      refine Ck_V (As := [.ref rw]) (rest := []) (wc := [mdO b M] ++ [(rw, .inl (k 0, 64, .inl rf))]) (wc' := [mdO b M] ++ [(rw, .inl (k 0, 64, .inl rf))]) (w0' := [mdO b M] ++ [(rw, .inl (k 0, 64, .inl rf))] ++ [(b 8, .inl (k 0, 6, .inl fl))] ++ [(b 9, .inl (k 0, 6, .inl sa))]) ⟨hx, hb, hml, hown, hts⟩ (c_X2_washed l D k b rw M rf v_51 hv_52) (cwV 1 hts gX2_tickOn_X2_washed rfl rfl rfl (by decide +kernel) ⟨Nat.le_of_ble_eq_true rfl, Nat.le_of_ble_eq_true rfl⟩) hK hP hD hS hA (q0 := 0) (ci := 2) rfl rfl [0, 1] rfl (by decide) rfl rfl rfl hl.1 rfl (Nat.le_of_ble_eq_true rfl) dX2_tickOn_21 ⟨Nat.le_of_ble_eq_true rfl, Nat.le_of_ble_eq_true rfl⟩ (fun H locs hP hD hS => ?_)
      refine W.eq (g2 := F0 m 24 ls [.int v_51]) rfl ?_
      refine lv_if_ne (tgt := 89) hx hb dX2_tickOn_24 (by decide) (fun c_53 => ?_) (fun c_53 => ?_)
      · have h := it_r c_53 h
        refine lv_aload_n hx hb dX2_tickOn_89 rfl (lv_at hl 0 rfl) ?_
        refine lv_aload_n hx hb dX2_tickOn_90 rfl (lv_at hl 1 rfl) ?_
        obtain ⟨q_54, hv_55, h⟩ := bd_l h
        refine Ck_V (As := [.ref rw]) (rest := []) (wc := [mdO b M] ++ [(rw, .inl (k 0, 64, .inl rf))]) (wc' := [mdO b M] ++ [(rw, .inl (k 0, 64, .inl q_54))]) (w0' := [mdO b M] ++ [(rw, .inl (k 0, 64, .inl q_54))] ++ [(b 8, .inl (k 0, 6, .inl fl))] ++ [(b 9, .inl (k 0, 6, .inl sa))]) ⟨hx, hb, hml, hown, hts⟩ (c_X2_boil l D k b rw M rf q_54 hv_55) (cwV 1 hts gX2_tickOn_X2_boil rfl rfl rfl (by decide +kernel) ⟨Nat.le_of_ble_eq_true rfl, Nat.le_of_ble_eq_true rfl⟩) hK hP hD hS hA (q0 := 0) (ci := 2) rfl rfl [0, 1] rfl (by decide) rfl rfl rfl hl.1 rfl (Nat.le_of_ble_eq_true rfl) dX2_tickOn_91 ⟨Nat.le_of_ble_eq_true rfl, Nat.le_of_ble_eq_true rfl⟩ (fun H locs hP hD hS => ?_)
        refine W.eq (g2 := F0 m 94 ls []) rfl ?_
        refine lv_aload_n hx hb dX2_tickOn_94 rfl (lv_at hl 0 rfl) ?_
        refine lv_aload_n hx hb dX2_tickOn_95 rfl (lv_at hl 1 rfl) ?_
        obtain ⟨⟨q_56, q_57, q_58⟩, hv_59, h⟩ := bd_l h
        refine Ck_V (As := [.ref rw]) (rest := []) (wc := [mdO b M] ++ [(rw, .inl (k 0, 64, .inl q_54))] ++ [(b 8, .inl (k 0, 6, .inl fl))] ++ [(b 9, .inl (k 0, 6, .inl sa))]) (wc' := [mdO b M] ++ [(rw, .inl (k 0, 64, .inl q_56))] ++ [(b 8, .inl (k 0, 6, .inl q_57))] ++ [(b 9, .inl (k 0, 6, .inl q_58))]) (w0' := [mdO b M] ++ [(rw, .inl (k 0, 64, .inl q_56))] ++ [(b 8, .inl (k 0, 6, .inl q_57))] ++ [(b 9, .inl (k 0, 6, .inl q_58))]) ⟨hx, hb, hml, hown, hts⟩ (c_X2_go l D k b rw M q_54 fl sa q_56 q_57 q_58 hv_59) (cwV 1 hts gX2_tickOn_X2_go rfl rfl rfl (by decide +kernel) ⟨Nat.le_of_ble_eq_true rfl, Nat.le_of_ble_eq_true rfl⟩) hK hP hD hS hA (q0 := 0) (ci := 2) rfl rfl [0, 1, 2, 3] rfl (by decide) rfl rfl rfl hl.1 rfl (Nat.le_of_ble_eq_true rfl) dX2_tickOn_96 ⟨Nat.le_of_ble_eq_true rfl, Nat.le_of_ble_eq_true rfl⟩ (fun H locs hP hD hS => ?_)
        refine W.eq (g2 := F0 m 99 ls []) rfl ?_
        refine lv_iconst (v := 0) hx hb dX2_tickOn_99 (by decide) ?_
        refine lv_istore_n (lv' := [(2, .int 0), (0, .ref (b 0)), (1, .ref rw)]) hx hb dX2_tickOn_100 rfl hl (by decide) rfl (fun ls hl => ?_)
        exact hC_101 2000 0 q_56 q_57 q_58 _ _ _ hP hD hS (lv_sub hl [1, 2, 0] rfl) h
      · have h := it_l c_53 h
        refine lv_iconst (v := 0) hx hb dX2_tickOn_27 (by decide) ?_
        refine lv_istore_n (lv' := [(2, .int 0), (0, .ref (b 0)), (1, .ref rw)]) hx hb dX2_tickOn_28 rfl hl (by decide) rfl (fun ls hl => ?_)
        refine lv_iconst (v := 1) hx hb dX2_tickOn_29 (by decide) ?_
        refine lv_istore_n (lv' := [(3, .int 1), (2, .int 0), (0, .ref (b 0)), (1, .ref rw)]) hx hb dX2_tickOn_30 rfl hl (by decide) rfl (fun ls hl => ?_)
        exact hC_31 2000 0 1 _ _ _ hP hD hS (lv_sub hl [2, 3, 1, 0] rfl) h
def f_X2_ticksOn_8 (M : MdV) (p1 : Int32) : Nat → Int32 → Int32 → (Nat → Int32) → (Nat → Int32) → (Nat → Int32) → Option (Int32 × (Nat → Int32) × (Nat → Int32) × (Nat → Int32))
  | 0, _, _, _, _, _ => none
  | fu + 1, x3_8, x4_8, rf_8, fl_8, sa_8 => if p1 ≤ x4_8 then (some (((rf_8 55) - x3_8), rf_8, fl_8, sa_8)) else (bd (f_X2_tickOn M rf_8 fl_8 sa_8) fun ⟨q_2, q_3, q_4⟩ => (f_X2_ticksOn_8 M p1 fu) x3_8 (x4_8 + 1) q_2 q_3 q_4)
def f_X2_ticksOn (M : MdV) (rf : Nat → Int32) (fl : Nat → Int32) (sa : Nat → Int32) (p1 : Int32) : Option (Int32 × (Nat → Int32) × (Nat → Int32) × (Nat → Int32)) := nm (rf 55) fun v_6 => f_X2_ticksOn_8 M p1 2000 v_6 0 rf fl sa
set_option maxRecDepth 100000 in
set_option maxHeartbeats 4000000 in
theorem c_X2_ticksOn (l : Launch) (D : va_G) (k : Nat → ClassId) (b : Nat → Nat) (rw : Nat) (M : MdV) (rf : Nat → Int32) (fl : Nat → Int32) (sa : Nat → Int32) (p1 : Int32) (o0 : Int32) (o1 : Nat → Int32) (o2 : Nat → Int32) (o3 : Nat → Int32) (h : f_X2_ticksOn M rf fl sa p1 = some (o0, o1, o2, o3)) : Ck l D (tyK k) yX2_ticksOn wsX2_ticksOn ({ frames := 4, cells := 0, slots := 0, locals := 94 } : Room) [.ref (b 0), .ref rw, .int p1] ([mdO b M] ++ [(rw, .inl (k 0, 64, .inl rf))] ++ [(b 8, .inl (k 0, 6, .inl fl))] ++ [(b 9, .inl (k 0, 6, .inl sa))]) (some (.int o0)) ([mdO b M] ++ [(rw, .inl (k 0, 64, .inl o1))] ++ [(b 8, .inl (k 0, 6, .inl o2))] ++ [(b 9, .inl (k 0, 6, .inl o3))]) := by
  refine Ck_of (cc := cX2_ticksOn) (maxL := 5) (ret := (some .int)) (by decide) rfl (Nat.le_of_ble_eq_true rfl) ?_
  intro p e s m args below meth c A ls hx hb hr hml hts hown hlocks hK hA hP hD hS hl
  have hl : lv_has ls 5 [(0, .ref (b 0)), (1, .ref rw), (2, .int p1)] := hl
  have hP : va_P D vwCl ([mdO b M] ++ [(rw, .inl (k 0, 64, .inl rf))] ++ [(b 8, .inl (k 0, 6, .inl fl))] ++ [(b 9, .inl (k 0, 6, .inl sa))]) s.heap := hP
  unfold f_X2_ticksOn at h
  have hC_8 : ∀ (fu_8 : Nat) (x3_8 : Int32) (x4_8 : Int32) (rf_8 : Nat → Int32) (fl_8 : Nat → Int32) (sa_8 : Nat → Int32) (H : Heap) (locs : List Loc) (ls : Array Slot), va_P D vwCl ([mdO b M] ++ [(rw, .inl (k 0, 64, .inl rf_8))] ++ [(b 8, .inl (k 0, 6, .inl fl_8))] ++ [(b 9, .inl (k 0, 6, .inl sa_8))]) H → va_D A ([mdO b M] ++ [(rw, .inl (k 0, 64, .inl rf_8))] ++ [(b 8, .inl (k 0, 6, .inl fl_8))] ++ [(b 9, .inl (k 0, 6, .inl sa_8))]) → va_S A s.heap H locs → lv_has ls 5 [(0, .ref (b 0)), (1, .ref rw), (2, .int p1), (3, .int x3_8), (4, .int x4_8)] → f_X2_ticksOn_8 M p1 fu_8 x3_8 x4_8 rf_8 fl_8 sa_8 = some (o0, o1, o2, o3) → W p l e ({ frames := 4, cells := 0, slots := 0, locals := 94 } : Room) s m args below meth c H locs 0 0 (MQ below (Qk D A (some (.int o0)) ([mdO b M] ++ [(rw, .inl (k 0, 64, .inl o1))] ++ [(b 8, .inl (k 0, 6, .inl o2))] ++ [(b 9, .inl (k 0, 6, .inl o3))])) args s 0 0 A) (F0 m 8 ls []) := by
    intro fu_8
    induction fu_8 with
    | zero => intro x3_8 x4_8 rf_8 fl_8 sa_8 H locs ls _ _ _ _ h; exact (no_l h).elim
    | succ fu_8 ih_8 =>
      intro x3_8 x4_8 rf_8 fl_8 sa_8 H locs ls hP hD hS hl h
      rw [f_X2_ticksOn_8] at h
      refine lv_iload hx hb dX2_ticksOn_8 (lv_at hl 4 rfl) ?_
      refine lv_iload_n hx hb dX2_ticksOn_10 rfl (lv_at hl 2 rfl) ?_
      refine lv_icmp_ge (tgt := 25) hx hb dX2_ticksOn_11 (by decide) (fun c_1 => ?_) (fun c_1 => ?_)
      · have h := it_l c_1 h
        refine lv_aload_n hx hb dX2_ticksOn_25 rfl (lv_at hl 1 rfl) ?_
        refine lv_bipush (v := 55) hx hb dX2_ticksOn_26 (by decide) ?_
        refine va_iald hx hb hK hP 1 0 rfl rfl (inb_vp (by decide)) dX2_ticksOn_28 ?_
        refine W.eq (g2 := F0 m 29 ls [.int (rf_8 55)]) rfl ?_
        refine lv_iload_n hx hb dX2_ticksOn_29 rfl (lv_at hl 3 rfl) ?_
        refine lv_isub hx hb dX2_ticksOn_30 ?_
        cases h
        exact Ck_iret hx hb hr hP hD hS dX2_ticksOn_31 hlocks
      · have h := it_r c_1 h
        refine lv_aload_n hx hb dX2_ticksOn_14 rfl (lv_at hl 0 rfl) ?_
        refine lv_aload_n hx hb dX2_ticksOn_15 rfl (lv_at hl 1 rfl) ?_
        obtain ⟨⟨q_2, q_3, q_4⟩, hv_5, h⟩ := bd_l h
        refine Ck_V (As := [.ref rw]) (rest := []) (wc := [mdO b M] ++ [(rw, .inl (k 0, 64, .inl rf_8))] ++ [(b 8, .inl (k 0, 6, .inl fl_8))] ++ [(b 9, .inl (k 0, 6, .inl sa_8))]) (wc' := [mdO b M] ++ [(rw, .inl (k 0, 64, .inl q_2))] ++ [(b 8, .inl (k 0, 6, .inl q_3))] ++ [(b 9, .inl (k 0, 6, .inl q_4))]) (w0' := [mdO b M] ++ [(rw, .inl (k 0, 64, .inl q_2))] ++ [(b 8, .inl (k 0, 6, .inl q_3))] ++ [(b 9, .inl (k 0, 6, .inl q_4))]) ⟨hx, hb, hml, hown, hts⟩ (c_X2_tickOn l D k b rw M rf_8 fl_8 sa_8 q_2 q_3 q_4 hv_5) (cwV 1 hts gX2_ticksOn_X2_tickOn rfl rfl rfl (by decide +kernel) ⟨Nat.le_of_ble_eq_true rfl, Nat.le_of_ble_eq_true rfl⟩) hK hP hD hS hA (q0 := 0) (ci := 2) rfl rfl [0, 1, 2, 3] rfl (by decide) rfl rfl rfl hl.1 rfl (Nat.le_of_ble_eq_true rfl) dX2_ticksOn_16 ⟨Nat.le_of_ble_eq_true rfl, Nat.le_of_ble_eq_true rfl⟩ (fun H locs hP hD hS => ?_)
        refine W.eq (g2 := F0 m 19 ls []) rfl ?_
        refine lv_iinc (v := (x4_8 + 1)) (lv' := [(4, .int (x4_8 + 1)), (0, .ref (b 0)), (1, .ref rw), (2, .int p1), (3, .int x3_8)]) hx hb dX2_ticksOn_19 hl (k := 4) rfl rfl (by decide) rfl (fun ls hl => ?_)
        refine lv_goto (tgt := 8) hx hb dX2_ticksOn_22 (by decide) ?_
        exact ih_8 x3_8 (x4_8 + 1) q_2 q_3 q_4 _ _ _ hP hD hS (lv_sub hl [1, 2, 3, 4, 0] rfl) h
  refine lv_aload_n hx hb dX2_ticksOn_0 rfl (lv_at hl 1 rfl) ?_
  refine lv_bipush (v := 55) hx hb dX2_ticksOn_1 (by decide) ?_
  refine va_iald hx hb hK hP 1 0 rfl rfl (inb_vp (by decide)) dX2_ticksOn_3 ?_
  refine W.eq (g2 := F0 m 4 ls [.int (rf 55)]) rfl ?_
  refine lv_topi (fun v_6 ev_6 => ?_)
  have h := nm_l h ev_6
  refine lv_istore_n (lv' := [(3, .int v_6), (0, .ref (b 0)), (1, .ref rw), (2, .int p1)]) hx hb dX2_ticksOn_4 rfl hl (by decide) rfl (fun ls hl => ?_)
  refine lv_iconst (v := 0) hx hb dX2_ticksOn_5 (by decide) ?_
  refine lv_istore (lv' := [(4, .int 0), (3, .int v_6), (0, .ref (b 0)), (1, .ref rw), (2, .int p1)]) hx hb dX2_ticksOn_6 hl (by decide) rfl (fun ls hl => ?_)
  exact hC_8 2000 v_6 0 rf fl sa _ _ _ hP hD hS (lv_sub hl [2, 3, 4, 1, 0] rfl) h
def f_X2_sumOf_5 (M : MdV) (p1 : Int32) (rf : Nat → Int32) : Nat → Int32 → Int32 → Option (Int32)
  | 0, _, _ => none
  | fu + 1, x3_5, x4_5 => if (m_n M) ≤ x4_5 then (some (x3_5)) else (gb (inb (p1 + x4_5) 64) <| nm (x3_5 + (rf (p1 + x4_5).toNatClampNeg)) fun v_3 => (f_X2_sumOf_5 M p1 rf fu) v_3 (x4_5 + 1))
def f_X2_sumOf (M : MdV) (rf : Nat → Int32) (p1 : Int32) : Option (Int32) := f_X2_sumOf_5 M p1 rf 2000 0 0
set_option maxRecDepth 100000 in
set_option maxHeartbeats 4000000 in
theorem c_X2_sumOf (l : Launch) (D : va_G) (k : Nat → ClassId) (b : Nat → Nat) (rw : Nat) (M : MdV) (rf : Nat → Int32) (p1 : Int32) (o0 : Int32) (h : f_X2_sumOf M rf p1 = some (o0)) : Ck l D (tyK k) yX2_sumOf wsX2_sumOf ({ frames := 0, cells := 0, slots := 0, locals := 0 } : Room) [.ref (b 0), .ref rw, .int p1] ([mdO b M] ++ [(rw, .inl (k 0, 64, .inl rf))]) (some (.int o0)) ([mdO b M] ++ [(rw, .inl (k 0, 64, .inl rf))]) := by
  refine Ck_of (cc := cX2_sumOf) (maxL := 5) (ret := (some .int)) (by decide) rfl (Nat.le_of_ble_eq_true rfl) ?_
  intro p e s m args below meth c A ls hx hb hr hml hts hown hlocks hK hA hP hD hS hl
  have hl : lv_has ls 5 [(0, .ref (b 0)), (1, .ref rw), (2, .int p1)] := hl
  have hP : va_P D vwCl ([mdO b M] ++ [(rw, .inl (k 0, 64, .inl rf))]) s.heap := hP
  have w_0 := hts (.fieldLink RX2 38 "EffectTrainModel" "n" "I") (by decide +kernel)
  have w_1 : ∀ w ∈ wsX20, w ∈ wsX2_sumOf := by decide +kernel
  unfold f_X2_sumOf at h
  have hC_5 : ∀ (fu_5 : Nat) (x3_5 : Int32) (x4_5 : Int32) (H : Heap) (locs : List Loc) (ls : Array Slot), va_P D vwCl ([mdO b M] ++ [(rw, .inl (k 0, 64, .inl rf))]) H → va_D A ([mdO b M] ++ [(rw, .inl (k 0, 64, .inl rf))]) → va_S A s.heap H locs → lv_has ls 5 [(0, .ref (b 0)), (1, .ref rw), (2, .int p1), (3, .int x3_5), (4, .int x4_5)] → f_X2_sumOf_5 M p1 rf fu_5 x3_5 x4_5 = some (o0) → W p l e ({ frames := 0, cells := 0, slots := 0, locals := 0 } : Room) s m args below meth c H locs 0 0 (MQ below (Qk D A (some (.int o0)) ([mdO b M] ++ [(rw, .inl (k 0, 64, .inl rf))])) args s 0 0 A) (F0 m 5 ls []) := by
    intro fu_5
    induction fu_5 with
    | zero => intro x3_5 x4_5 H locs ls _ _ _ _ h; exact (no_l h).elim
    | succ fu_5 ih_5 =>
      intro x3_5 x4_5 H locs ls hP hD hS hl h
      rw [f_X2_sumOf_5] at h
      refine lv_iload hx hb dX2_sumOf_5 (lv_at hl 4 rfl) ?_
      refine lv_aload_n hx hb dX2_sumOf_7 rfl (lv_at hl 0 rfl) ?_
      refine va_get (D := D) (ci := 2) (v := .int (m_n M)) (C := RX2) (T := TX2) (N := 15) hx hb hts w_1 hown hK hP 0 rfl rfl 6 (by decide) w_0 (fun _ h9 => h9) rfl dX2_sumOf_8 ?_
      refine lv_icmp_ge (tgt := 29) hx hb dX2_sumOf_11 (by decide) (fun c_1 => ?_) (fun c_1 => ?_)
      · have h := it_l c_1 h
        refine lv_iload_n hx hb dX2_sumOf_29 rfl (lv_at hl 3 rfl) ?_
        cases h
        exact Ck_iret hx hb hr hP hD hS dX2_sumOf_30 hlocks
      · have h := it_r c_1 h
        refine lv_iload_n hx hb dX2_sumOf_14 rfl (lv_at hl 3 rfl) ?_
        refine lv_aload_n hx hb dX2_sumOf_15 rfl (lv_at hl 1 rfl) ?_
        refine lv_iload_n hx hb dX2_sumOf_16 rfl (lv_at hl 2 rfl) ?_
        refine lv_iload hx hb dX2_sumOf_17 (lv_at hl 4 rfl) ?_
        refine lv_iadd hx hb dX2_sumOf_19 ?_
        have g_2 := inb_vp (gb_l h)
        have h := gb_r h
        refine va_iald hx hb hK hP 1 0 rfl rfl g_2 dX2_sumOf_20 ?_
        refine lv_iadd hx hb dX2_sumOf_21 ?_
        refine lv_topi (fun v_3 ev_3 => ?_)
        have h := nm_l h ev_3
        refine lv_istore_n (lv' := [(3, .int v_3), (0, .ref (b 0)), (1, .ref rw), (2, .int p1), (4, .int x4_5)]) hx hb dX2_sumOf_22 rfl hl (by decide) rfl (fun ls hl => ?_)
        refine lv_iinc (v := (x4_5 + 1)) (lv' := [(4, .int (x4_5 + 1)), (3, .int v_3), (0, .ref (b 0)), (1, .ref rw), (2, .int p1)]) hx hb dX2_sumOf_23 hl (k := 4) rfl rfl (by decide) rfl (fun ls hl => ?_)
        refine lv_goto (tgt := 5) hx hb dX2_sumOf_26 (by decide) ?_
        exact ih_5 v_3 (x4_5 + 1) _ _ _ hP hD hS (lv_sub hl [2, 3, 4, 1, 0] rfl) h
  refine lv_iconst (v := 0) hx hb dX2_sumOf_0 (by decide) ?_
  refine lv_istore_n (lv' := [(3, .int 0), (0, .ref (b 0)), (1, .ref rw), (2, .int p1)]) hx hb dX2_sumOf_1 rfl hl (by decide) rfl (fun ls hl => ?_)
  refine lv_iconst (v := 0) hx hb dX2_sumOf_2 (by decide) ?_
  refine lv_istore (lv' := [(4, .int 0), (3, .int 0), (0, .ref (b 0)), (1, .ref rw), (2, .int p1)]) hx hb dX2_sumOf_3 hl (by decide) rfl (fun ls hl => ?_)
  exact hC_5 2000 0 0 _ _ _ hP hD hS (lv_sub hl [2, 3, 4, 1, 0] rfl) h
def f_X2_detail (rf : Nat → Int32) (p1 : Int32) (p2 : Int32) : Option (Int32) := if 8 ≤ p2 then (if p2 = 8 then (bd (f_X2_thickness rf p1) fun v_5 => some (v_5)) else (bd (f_X2_power rf p1) fun v_3 => some (v_3))) else (gb (inb ((6 * p2) + p1) 64) <| some ((rf ((6 * p2) + p1).toNatClampNeg)))
set_option maxRecDepth 100000 in
set_option maxHeartbeats 4000000 in
theorem c_X2_detail (l : Launch) (D : va_G) (k : Nat → ClassId) (rw : Nat) (rf : Nat → Int32) (p1 : Int32) (p2 : Int32) (o0 : Int32) (h : f_X2_detail rf p1 p2 = some (o0)) : Ck l D (tyK k) yX2_detail wsX2_detail ({ frames := 2, cells := 0, slots := 0, locals := 42 } : Room) [.ref rw, .int p1, .int p2] ([(rw, .inl (k 0, 64, .inl rf))]) (some (.int o0)) ([(rw, .inl (k 0, 64, .inl rf))]) := by
  refine Ck_of (cc := cX2_detail) (maxL := 3) (ret := (some .int)) (by decide) rfl (Nat.le_of_ble_eq_true rfl) ?_
  intro p e s m args below meth c A ls hx hb hr hml hts hown hlocks hK hA hP hD hS hl
  have hl : lv_has ls 3 [(0, .ref rw), (1, .int p1), (2, .int p2)] := hl
  have hP : va_P D vwCl ([(rw, .inl (k 0, 64, .inl rf))]) s.heap := hP
  unfold f_X2_detail at h
  refine lv_iload_n hx hb dX2_detail_0 rfl (lv_at hl 2 rfl) ?_
  refine lv_bipush (v := 8) hx hb dX2_detail_1 (by decide) ?_
  refine lv_icmp_ge (tgt := 17) hx hb dX2_detail_3 (by decide) (fun c_1 => ?_) (fun c_1 => ?_)
  · have h := it_l c_1 h
    refine lv_iload_n hx hb dX2_detail_17 rfl (lv_at hl 2 rfl) ?_
    refine lv_bipush (v := 8) hx hb dX2_detail_18 (by decide) ?_
    refine lv_icmp_ne (tgt := 31) hx hb dX2_detail_20 (by decide) (fun c_2 => ?_) (fun c_2 => ?_)
    · have h := it_r c_2 h
      refine lv_aload_n hx hb dX2_detail_31 rfl (lv_at hl 0 rfl) ?_
      refine lv_iload_n hx hb dX2_detail_32 rfl (lv_at hl 1 rfl) ?_
      obtain ⟨v_3, hv_4, h⟩ := bd_l h
      refine Ck_S (As := [.ref rw, .int p1]) (rest := []) (wc := [(rw, .inl (k 0, 64, .inl rf))]) (wc' := [(rw, .inl (k 0, 64, .inl rf))]) (w0' := [(rw, .inl (k 0, 64, .inl rf))]) ⟨hx, hb, hml, hown, hts⟩ (c_X2_power l D k rw rf p1 v_3 hv_4) (va_cwS 2 hts gX2_detail_X2_power rfl rfl rfl (by decide +kernel) ⟨Nat.le_of_ble_eq_true rfl, Nat.le_of_ble_eq_true rfl⟩) hK hP hD hS hA [0] rfl (by decide) rfl rfl rfl hl.1 rfl (Nat.le_of_ble_eq_true rfl) dX2_detail_33 ⟨Nat.le_of_ble_eq_true rfl, Nat.le_of_ble_eq_true rfl⟩ (fun H locs hP hD hS => ?_)
      refine W.eq (g2 := F0 m 36 ls [.int v_3]) rfl ?_
      cases h
      exact Ck_iret hx hb hr hP hD hS dX2_detail_36 hlocks
    · have h := it_l c_2 h
      refine lv_aload_n hx hb dX2_detail_23 rfl (lv_at hl 0 rfl) ?_
      refine lv_iload_n hx hb dX2_detail_24 rfl (lv_at hl 1 rfl) ?_
      obtain ⟨v_5, hv_6, h⟩ := bd_l h
      refine Ck_S (As := [.ref rw, .int p1]) (rest := []) (wc := [(rw, .inl (k 0, 64, .inl rf))]) (wc' := [(rw, .inl (k 0, 64, .inl rf))]) (w0' := [(rw, .inl (k 0, 64, .inl rf))]) ⟨hx, hb, hml, hown, hts⟩ (c_X2_thickness l D k rw rf p1 v_5 hv_6) (va_cwS 2 hts gX2_detail_X2_thickness rfl rfl rfl (by decide +kernel) ⟨Nat.le_of_ble_eq_true rfl, Nat.le_of_ble_eq_true rfl⟩) hK hP hD hS hA [0] rfl (by decide) rfl rfl rfl hl.1 rfl (Nat.le_of_ble_eq_true rfl) dX2_detail_25 ⟨Nat.le_of_ble_eq_true rfl, Nat.le_of_ble_eq_true rfl⟩ (fun H locs hP hD hS => ?_)
      refine W.eq (g2 := F0 m 28 ls [.int v_5]) rfl ?_
      refine lv_goto (tgt := 36) hx hb dX2_detail_28 (by decide) ?_
      cases h
      exact Ck_iret hx hb hr hP hD hS dX2_detail_36 hlocks
  · have h := it_r c_1 h
    refine lv_aload_n hx hb dX2_detail_6 rfl (lv_at hl 0 rfl) ?_
    refine lv_bipush (v := 6) hx hb dX2_detail_7 (by decide) ?_
    refine lv_iload_n hx hb dX2_detail_9 rfl (lv_at hl 2 rfl) ?_
    refine lv_imul hx hb dX2_detail_10 ?_
    refine lv_iload_n hx hb dX2_detail_11 rfl (lv_at hl 1 rfl) ?_
    refine lv_iadd hx hb dX2_detail_12 ?_
    have g_7 := inb_vp (gb_l h)
    have h := gb_r h
    refine va_iald hx hb hK hP 0 0 rfl rfl g_7 dX2_detail_13 ?_
    refine lv_goto (tgt := 36) hx hb dX2_detail_14 (by decide) ?_
    cases h
    exact Ck_iret hx hb hr hP hD hS dX2_detail_36 hlocks
def f_X2_thrown (M : MdV) : Option (Int32) := some ((m_ref M))
set_option maxRecDepth 100000 in
set_option maxHeartbeats 4000000 in
theorem c_X2_thrown (l : Launch) (D : va_G) (k : Nat → ClassId) (b : Nat → Nat) (M : MdV) (o0 : Int32) (h : f_X2_thrown M = some (o0)) : Ck l D (tyK k) yX2_thrown wsX2_thrown ({ frames := 0, cells := 0, slots := 0, locals := 0 } : Room) [.ref (b 0)] ([mdO b M]) (some (.int o0)) ([mdO b M]) := by
  refine Ck_of (cc := cX2_thrown) (maxL := 1) (ret := (some .int)) (by decide) rfl (Nat.le_of_ble_eq_true rfl) ?_
  intro p e s m args below meth c A ls hx hb hr hml hts hown hlocks hK hA hP hD hS hl
  have hl : lv_has ls 1 [(0, .ref (b 0))] := hl
  have hP : va_P D vwCl ([mdO b M]) s.heap := hP
  have w_0 := hts (.fieldLink RX2 42 "EffectTrainModel" "refusal" "I") (by decide +kernel)
  have w_1 : ∀ w ∈ wsX20, w ∈ wsX2_thrown := by decide +kernel
  unfold f_X2_thrown at h
  refine lv_aload_n hx hb dX2_thrown_0 rfl (lv_at hl 0 rfl) ?_
  refine va_get (D := D) (ci := 2) (v := .int (m_ref M)) (C := RX2) (T := TX2) (N := 15) hx hb hts w_1 hown hK hP 0 rfl rfl 0 (by decide) w_0 (fun _ h9 => h9) rfl dX2_thrown_1 ?_
  cases h
  exact Ck_iret hx hb hr hP hD hS dX2_thrown_4 hlocks
def f_X2_isEffect (M : MdV) (p1 : Int32) : Option (Int32) := bd (f_X2_in (p1.toInt64) 0 (((m_n M) - 1).toInt64)) fun v_1 => gb (isb v_1) <| some (v_1)
set_option maxRecDepth 100000 in
set_option maxHeartbeats 4000000 in
theorem c_X2_isEffect (l : Launch) (D : va_G) (k : Nat → ClassId) (b : Nat → Nat) (M : MdV) (p1 : Int32) (o0 : Int32) (h : f_X2_isEffect M p1 = some (o0)) : Ck l D (tyK k) yX2_isEffect wsX2_isEffect ({ frames := 1, cells := 0, slots := 0, locals := 25 } : Room) [.ref (b 0), .int p1] ([mdO b M]) (some (.int o0)) ([mdO b M]) := by
  refine Ck_of (cc := cX2_isEffect) (maxL := 2) (ret := (some .boolean)) (by decide) rfl (Nat.le_of_ble_eq_true rfl) ?_
  intro p e s m args below meth c A ls hx hb hr hml hts hown hlocks hK hA hP hD hS hl
  have hl : lv_has ls 2 [(0, .ref (b 0)), (1, .int p1)] := hl
  have hP : va_P D vwCl ([mdO b M]) s.heap := hP
  have w_0 := hts (.fieldLink RX2 38 "EffectTrainModel" "n" "I") (by decide +kernel)
  have w_1 : ∀ w ∈ wsX20, w ∈ wsX2_isEffect := by decide +kernel
  unfold f_X2_isEffect at h
  refine lv_iload_n hx hb dX2_isEffect_0 rfl (lv_at hl 1 rfl) ?_
  refine lv_i2l hx hb dX2_isEffect_1 rfl ?_
  refine lv_lconst (v := 0) hx hb dX2_isEffect_2 (by decide) ?_
  refine lv_aload_n hx hb dX2_isEffect_3 rfl (lv_at hl 0 rfl) ?_
  refine va_get (D := D) (ci := 2) (v := .int (m_n M)) (C := RX2) (T := TX2) (N := 15) hx hb hts w_1 hown hK hP 0 rfl rfl 6 (by decide) w_0 (fun _ h9 => h9) rfl dX2_isEffect_4 ?_
  refine lv_iconst (v := 1) hx hb dX2_isEffect_7 (by decide) ?_
  refine lv_isub hx hb dX2_isEffect_8 ?_
  refine lv_i2l hx hb dX2_isEffect_9 rfl ?_
  obtain ⟨v_1, hv_2, h⟩ := bd_l h
  refine Ck_S (As := [.long (p1.toInt64), .long 0, .long (((m_n M) - 1).toInt64)]) (rest := []) (wc := ([] : va_W)) (wc' := ([] : va_W)) (w0' := [mdO b M]) ⟨hx, hb, hml, hown, hts⟩ (c_X2_in l D k  (p1.toInt64) 0 (((m_n M) - 1).toInt64) v_1 hv_2) (va_cwS 3 hts gX2_isEffect_X2_in rfl rfl rfl (by decide +kernel) ⟨Nat.le_of_ble_eq_true rfl, Nat.le_of_ble_eq_true rfl⟩) hK hP hD hS hA [] rfl (by decide) rfl rfl rfl hl.1 rfl (Nat.le_of_ble_eq_true rfl) dX2_isEffect_10 ⟨Nat.le_of_ble_eq_true rfl, Nat.le_of_ble_eq_true rfl⟩ (fun H locs hP hD hS => ?_)
  refine W.eq (g2 := F0 m 13 ls [.int v_1]) rfl ?_
  have g_3 := gb_l h
  have h := gb_r h
  cases h
  exact Ck_zret hx hb hr (isb_l g_3) hP hD hS dX2_isEffect_13 hlocks
def f_X2_refused (M : MdV) (p1 : Int32) : Option (Int32 × MdV) := nm (mu_ref M p1) fun q_1 => if p1 ≤ 0 then (some (0, q_1)) else (some (1, q_1))
set_option maxRecDepth 100000 in
set_option maxHeartbeats 4000000 in
theorem c_X2_refused (l : Launch) (D : va_G) (k : Nat → ClassId) (b : Nat → Nat) (M : MdV) (p1 : Int32) (o0 : Int32) (o1 : MdV) (h : f_X2_refused M p1 = some (o0, o1)) : Ck l D (tyK k) yX2_refused wsX2_refused ({ frames := 0, cells := 0, slots := 0, locals := 0 } : Room) [.ref (b 0), .int p1] (mdW k b M) (some (.int o0)) (mdW k b o1) := by
  refine Ck_of (cc := cX2_refused) (maxL := 2) (ret := (some .boolean)) (by decide) rfl (Nat.le_of_ble_eq_true rfl) ?_
  intro p e s m args below meth c A ls hx hb hr hml hts hown hlocks hK hA hP hD hS hl
  have hl : lv_has ls 2 [(0, .ref (b 0)), (1, .int p1)] := hl
  have hP : va_P D vwCl (mdW k b M) s.heap := hP
  have w_0 := hts (.fieldLink RX2 42 "EffectTrainModel" "refusal" "I") (by decide +kernel)
  have w_1 : ∀ w ∈ wsX20, w ∈ wsX2_refused := by decide +kernel
  unfold f_X2_refused at h
  refine lv_aload_n hx hb dX2_refused_0 rfl (lv_at hl 0 rfl) ?_
  refine lv_iload_n hx hb dX2_refused_1 rfl (lv_at hl 1 rfl) ?_
  refine va_put (D := D) (ci := 2) (v := .int p1) (ty := .int) (C := RX2) (T := TX2) (N := 15) hx hb hts w_1 tyX2 tyX2_ok nmX2 hown hK hP hD hS 0 rfl rfl 0 (by decide) w_0 (fun _ h9 => h9) rfl (by decide +kernel) rfl rfl (Nat.le_of_ble_eq_true rfl) dX2_refused_2 (fun H locs hP hD hS => ?_)
  obtain ⟨q_1, eq_1⟩ : ∃ y : MdV, y = mu_ref M p1 := ⟨_, rfl⟩
  have hP : va_P D vwCl (mdW k b q_1) H := by rw [eq_1, ← md_set_ref k b M _]; exact hP
  have hD : va_D A (mdW k b q_1) := by rw [eq_1, ← md_set_ref k b M _]; exact hD
  have h := nm_l h eq_1
  refine lv_iload_n hx hb dX2_refused_5 rfl (lv_at hl 1 rfl) ?_
  refine lv_if_le (tgt := 13) hx hb dX2_refused_6 (by decide) (fun c_2 => ?_) (fun c_2 => ?_)
  · have h := it_l c_2 h
    refine lv_iconst (v := 0) hx hb dX2_refused_13 (by decide) ?_
    cases h
    exact Ck_zret hx hb hr (by decide) hP hD hS dX2_refused_14 hlocks
  · have h := it_r c_2 h
    refine lv_iconst (v := 1) hx hb dX2_refused_9 (by decide) ?_
    refine lv_goto (tgt := 14) hx hb dX2_refused_10 (by decide) ?_
    cases h
    exact Ck_zret hx hb hr (by decide) hP hD hS dX2_refused_14 hlocks
def f_X2_note_36 (M_36 : MdV) : Option (MdV) := bd (f_X2_copy 64 896 (m_now M_36) (m_dia M_36) 0 (64 * (m_act M_36)) 64) fun q_1 => nm (mu_dia M_36 q_1) fun q_3 => nm ((m_act q_3) + 1) fun v_4 => nm (mu_act q_3 v_4) fun q_5 => some (q_5)
def f_X2_note (M : MdV) : Option (MdV) := if (m_act M) = 14 then (bd (f_X2_copyS 896 (m_dia M) 64 0 832) fun q_7 => nm (mu_dia M q_7) fun q_9 => nm ((m_act q_9) - 1) fun v_10 => nm (mu_act q_9 v_10) fun q_11 => f_X2_note_36 q_11) else (f_X2_note_36 M)
set_option maxRecDepth 100000 in
set_option maxHeartbeats 4000000 in
theorem c_X2_note (l : Launch) (D : va_G) (k : Nat → ClassId) (b : Nat → Nat) (M : MdV) (o0 : MdV) (h : f_X2_note M = some (o0)) : Ck l D (tyK k) yX2_note wsX2_note ({ frames := 1, cells := 0, slots := 0, locals := 25 } : Room) [.ref (b 0)] (mdW k b M) none (mdW k b o0) := by
  refine Ck_of (cc := cX2_note) (maxL := 1) (ret := none) (by decide) rfl (Nat.le_of_ble_eq_true rfl) ?_
  intro p e s m args below meth c A ls hx hb hr hml hts hown hlocks hK hA hP hD hS hl
  have hl : lv_has ls 1 [(0, .ref (b 0))] := hl
  have hP : va_P D vwCl (mdW k b M) s.heap := hP
  have w_0 := hts (.fieldLink RX2 16 "EffectTrainModel" "now" "[I") (by decide +kernel)
  have w_1 : ∀ w ∈ wsX20, w ∈ wsX2_note := by decide +kernel
  have w_2 := hts (.fieldLink RX2 22 "EffectTrainModel" "diary" "[I") (by decide +kernel)
  have w_3 := hts (.fieldLink RX2 47 "EffectTrainModel" "acts" "I") (by decide +kernel)
  unfold f_X2_note at h
  have hC_36 : ∀ (M_36 : MdV) (H : Heap) (locs : List Loc) (ls : Array Slot), va_P D vwCl (mdW k b M_36) H → va_D A (mdW k b M_36) → va_S A s.heap H locs → lv_has ls 1 [(0, .ref (b 0))] → f_X2_note_36 M_36 = some (o0) → W p l e ({ frames := 1, cells := 0, slots := 0, locals := 25 } : Room) s m args below meth c H locs 0 0 (MQ below (Qk D A none (mdW k b o0)) args s 0 0 A) (F0 m 36 ls []) := by
    intro M_36 H locs ls hP hD hS hl h
    unfold f_X2_note_36 at h
    refine lv_aload_n hx hb dX2_note_36 rfl (lv_at hl 0 rfl) ?_
    refine va_get (D := D) (ci := 2) (v := .ref (b 3)) (C := RX2) (T := TX2) (N := 15) hx hb hts w_1 hown hK hP 0 rfl rfl 7 (by decide) w_0 (fun _ h9 => h9) rfl dX2_note_37 ?_
    refine lv_iconst (v := 0) hx hb dX2_note_40 (by decide) ?_
    refine lv_aload_n hx hb dX2_note_41 rfl (lv_at hl 0 rfl) ?_
    refine va_get (D := D) (ci := 2) (v := .ref (b 5)) (C := RX2) (T := TX2) (N := 15) hx hb hts w_1 hown hK hP 0 rfl rfl 9 (by decide) w_2 (fun _ h9 => h9) rfl dX2_note_42 ?_
    refine lv_bipush (v := 64) hx hb dX2_note_45 (by decide) ?_
    refine lv_aload_n hx hb dX2_note_47 rfl (lv_at hl 0 rfl) ?_
    refine va_get (D := D) (ci := 2) (v := .int (m_act M_36)) (C := RX2) (T := TX2) (N := 15) hx hb hts w_1 hown hK hP 0 rfl rfl 10 (by decide) w_3 (fun _ h9 => h9) rfl dX2_note_48 ?_
    refine lv_imul hx hb dX2_note_51 ?_
    refine lv_bipush (v := 64) hx hb dX2_note_52 (by decide) ?_
    obtain ⟨q_1, hv_2, h⟩ := bd_l h
    obtain ⟨q_3, eq_3⟩ : ∃ y : MdV, y = mu_dia M_36 q_1 := ⟨_, rfl⟩
    have h := nm_l h eq_3
    refine Ck_S (As := [.ref (b 3), .int 0, .ref (b 5), .int (64 * (m_act M_36)), .int 64]) (rest := []) (wc := [(b 3, .inl (k 0, 64, .inl (m_now M_36)))] ++ [(b 5, .inl (k 0, 896, .inl (m_dia M_36)))]) (wc' := [(b 3, .inl (k 0, 64, .inl (m_now M_36)))] ++ [(b 5, .inl (k 0, 896, .inl q_1))]) (w0' := mdW k b q_3) ⟨hx, hb, hml, hown, hts⟩ (c_X2_copy l D k (b 3) (b 5) 64 896 (m_now M_36) (m_dia M_36) 0 (64 * (m_act M_36)) 64 q_1 hv_2) (va_cwS 5 hts gX2_note_X2_copy rfl rfl rfl (by decide +kernel) ⟨Nat.le_of_ble_eq_true rfl, Nat.le_of_ble_eq_true rfl⟩) hK hP hD hS hA [3, 5] rfl (by decide) rfl (by rw [eq_3]; simp only [va_sets, List.cons_append, List.nil_append, md_set_0, md_self_now, md_set_dia]) rfl hl.1 rfl (Nat.le_of_ble_eq_true rfl) dX2_note_54 ⟨Nat.le_of_ble_eq_true rfl, Nat.le_of_ble_eq_true rfl⟩ (fun H locs hP hD hS => ?_)
    refine W.eq (g2 := F0 m 57 ls []) rfl ?_
    refine lv_aload_n hx hb dX2_note_57 rfl (lv_at hl 0 rfl) ?_
    refine lv_dup hx hb dX2_note_58 rfl ?_
    refine va_get (D := D) (ci := 2) (v := .int (m_act q_3)) (C := RX2) (T := TX2) (N := 15) hx hb hts w_1 hown hK hP 0 rfl rfl 10 (by decide) w_3 (fun _ h9 => h9) rfl dX2_note_59 ?_
    refine lv_iconst (v := 1) hx hb dX2_note_62 (by decide) ?_
    refine lv_iadd hx hb dX2_note_63 ?_
    refine lv_topi (fun v_4 ev_4 => ?_)
    have h := nm_l h ev_4
    refine va_put (D := D) (ci := 2) (v := .int v_4) (ty := .int) (C := RX2) (T := TX2) (N := 15) hx hb hts w_1 tyX2 tyX2_ok nmX2 hown hK hP hD hS 0 rfl rfl 10 (by decide) w_3 (fun _ h9 => h9) rfl (by decide +kernel) rfl rfl (Nat.le_of_ble_eq_true rfl) dX2_note_64 (fun H locs hP hD hS => ?_)
    obtain ⟨q_5, eq_5⟩ : ∃ y : MdV, y = mu_act q_3 v_4 := ⟨_, rfl⟩
    have hP : va_P D vwCl (mdW k b q_5) H := by rw [eq_5, ← md_set_act k b q_3 _]; exact hP
    have hD : va_D A (mdW k b q_5) := by rw [eq_5, ← md_set_act k b q_3 _]; exact hD
    have h := nm_l h eq_5
    cases h
    exact Ck_vret hx hb hr hP hD hS dX2_note_67 hlocks
  refine lv_aload_n hx hb dX2_note_0 rfl (lv_at hl 0 rfl) ?_
  refine va_get (D := D) (ci := 2) (v := .int (m_act M)) (C := RX2) (T := TX2) (N := 15) hx hb hts w_1 hown hK hP 0 rfl rfl 10 (by decide) w_3 (fun _ h9 => h9) rfl dX2_note_1 ?_
  refine lv_bipush (v := 14) hx hb dX2_note_4 (by decide) ?_
  refine lv_icmp_ne (tgt := 36) hx hb dX2_note_6 (by decide) (fun c_6 => ?_) (fun c_6 => ?_)
  · have h := it_r c_6 h
    exact hC_36 M _ _ _ hP hD hS (lv_sub hl [0] rfl) h
  · have h := it_l c_6 h
    refine lv_aload_n hx hb dX2_note_9 rfl (lv_at hl 0 rfl) ?_
    refine va_get (D := D) (ci := 2) (v := .ref (b 5)) (C := RX2) (T := TX2) (N := 15) hx hb hts w_1 hown hK hP 0 rfl rfl 9 (by decide) w_2 (fun _ h9 => h9) rfl dX2_note_10 ?_
    refine lv_bipush (v := 64) hx hb dX2_note_13 (by decide) ?_
    refine lv_aload_n hx hb dX2_note_15 rfl (lv_at hl 0 rfl) ?_
    refine va_get (D := D) (ci := 2) (v := .ref (b 5)) (C := RX2) (T := TX2) (N := 15) hx hb hts w_1 hown hK hP 0 rfl rfl 9 (by decide) w_2 (fun _ h9 => h9) rfl dX2_note_16 ?_
    refine lv_iconst (v := 0) hx hb dX2_note_19 (by decide) ?_
    refine lv_sipush (v := 832) hx hb dX2_note_20 (by decide) ?_
    obtain ⟨q_7, hv_8, h⟩ := bd_l h
    obtain ⟨q_9, eq_9⟩ : ∃ y : MdV, y = mu_dia M q_7 := ⟨_, rfl⟩
    have h := nm_l h eq_9
    refine Ck_S (As := [.ref (b 5), .int 64, .ref (b 5), .int 0, .int 832]) (rest := []) (wc := [(b 5, .inl (k 0, 896, .inl (m_dia M)))]) (wc' := [(b 5, .inl (k 0, 896, .inl q_7))]) (w0' := mdW k b q_9) ⟨hx, hb, hml, hown, hts⟩ (c_X2_copyS l D k (b 5) 896 (m_dia M) 64 0 832 q_7 hv_8) (va_cwS 5 hts gX2_note_X2_copy rfl rfl rfl (by decide +kernel) ⟨Nat.le_of_ble_eq_true rfl, Nat.le_of_ble_eq_true rfl⟩) hK hP hD hS hA [5] rfl (by decide) rfl (by rw [eq_9]; simp only [va_sets, List.cons_append, List.nil_append, md_set_0, md_set_dia]) rfl hl.1 rfl (Nat.le_of_ble_eq_true rfl) dX2_note_23 ⟨Nat.le_of_ble_eq_true rfl, Nat.le_of_ble_eq_true rfl⟩ (fun H locs hP hD hS => ?_)
    refine W.eq (g2 := F0 m 26 ls []) rfl ?_
    refine lv_aload_n hx hb dX2_note_26 rfl (lv_at hl 0 rfl) ?_
    refine lv_dup hx hb dX2_note_27 rfl ?_
    refine va_get (D := D) (ci := 2) (v := .int (m_act q_9)) (C := RX2) (T := TX2) (N := 15) hx hb hts w_1 hown hK hP 0 rfl rfl 10 (by decide) w_3 (fun _ h9 => h9) rfl dX2_note_28 ?_
    refine lv_iconst (v := 1) hx hb dX2_note_31 (by decide) ?_
    refine lv_isub hx hb dX2_note_32 ?_
    refine lv_topi (fun v_10 ev_10 => ?_)
    have h := nm_l h ev_10
    refine va_put (D := D) (ci := 2) (v := .int v_10) (ty := .int) (C := RX2) (T := TX2) (N := 15) hx hb hts w_1 tyX2 tyX2_ok nmX2 hown hK hP hD hS 0 rfl rfl 10 (by decide) w_3 (fun _ h9 => h9) rfl (by decide +kernel) rfl rfl (Nat.le_of_ble_eq_true rfl) dX2_note_33 (fun H locs hP hD hS => ?_)
    obtain ⟨q_11, eq_11⟩ : ∃ y : MdV, y = mu_act q_9 v_10 := ⟨_, rfl⟩
    have hP : va_P D vwCl (mdW k b q_11) H := by rw [eq_11, ← md_set_act k b q_9 _]; exact hP
    have hD : va_D A (mdW k b q_11) := by rw [eq_11, ← md_set_act k b q_9 _]; exact hD
    have h := nm_l h eq_11
    exact hC_36 q_11 _ _ _ hP hD hS (lv_sub hl [0] rfl) h
def f_X2_change (M : MdV) (p1 : Int32) (p2 : Int32) : Option (Int32 × MdV) := bd (f_X2_note M) fun q_1 => gb (inb p1 64) <| nm ((m_now q_1) p1.toNatClampNeg) fun v_4 => gb (inb p1 64) <| nm (mu_now q_1 (upd (m_now q_1) p1.toNatClampNeg p2)) fun q_6 => some (v_4, q_6)
set_option maxRecDepth 100000 in
set_option maxHeartbeats 4000000 in
theorem c_X2_change (l : Launch) (D : va_G) (k : Nat → ClassId) (b : Nat → Nat) (M : MdV) (p1 : Int32) (p2 : Int32) (o0 : Int32) (o1 : MdV) (h : f_X2_change M p1 p2 = some (o0, o1)) : Ck l D (tyK k) yX2_change wsX2_change ({ frames := 2, cells := 0, slots := 0, locals := 45 } : Room) [.ref (b 0), .int p1, .int p2] (mdW k b M) (some (.int o0)) (mdW k b o1) := by
  refine Ck_of (cc := cX2_change) (maxL := 4) (ret := (some .int)) (by decide) rfl (Nat.le_of_ble_eq_true rfl) ?_
  intro p e s m args below meth c A ls hx hb hr hml hts hown hlocks hK hA hP hD hS hl
  have hl : lv_has ls 4 [(0, .ref (b 0)), (1, .int p1), (2, .int p2)] := hl
  have hP : va_P D vwCl (mdW k b M) s.heap := hP
  have w_0 := hts (.fieldLink RX2 16 "EffectTrainModel" "now" "[I") (by decide +kernel)
  have w_1 : ∀ w ∈ wsX20, w ∈ wsX2_change := by decide +kernel
  unfold f_X2_change at h
  refine lv_aload_n hx hb dX2_change_0 rfl (lv_at hl 0 rfl) ?_
  obtain ⟨q_1, hv_2, h⟩ := bd_l h
  refine Ck_V (As := []) (rest := []) (wc := mdW k b M) (wc' := mdW k b q_1) (w0' := mdW k b q_1) ⟨hx, hb, hml, hown, hts⟩ (c_X2_note l D k b M q_1 hv_2) (cwV 0 hts gX2_change_X2_note rfl rfl rfl (by decide +kernel) ⟨Nat.le_of_ble_eq_true rfl, Nat.le_of_ble_eq_true rfl⟩) hK hP hD hS hA (q0 := 0) (ci := 2) rfl rfl [0, 1, 2, 3, 4, 5, 6, 7, 8, 9] rfl (by decide) rfl rfl rfl hl.1 rfl (Nat.le_of_ble_eq_true rfl) dX2_change_1 ⟨Nat.le_of_ble_eq_true rfl, Nat.le_of_ble_eq_true rfl⟩ (fun H locs hP hD hS => ?_)
  refine W.eq (g2 := F0 m 4 ls []) rfl ?_
  refine lv_aload_n hx hb dX2_change_4 rfl (lv_at hl 0 rfl) ?_
  refine va_get (D := D) (ci := 2) (v := .ref (b 3)) (C := RX2) (T := TX2) (N := 15) hx hb hts w_1 hown hK hP 0 rfl rfl 7 (by decide) w_0 (fun _ h9 => h9) rfl dX2_change_5 ?_
  refine lv_iload_n hx hb dX2_change_8 rfl (lv_at hl 1 rfl) ?_
  have g_3 := inb_vp (gb_l h)
  have h := gb_r h
  refine va_iald hx hb hK hP 3 0 rfl rfl g_3 dX2_change_9 ?_
  refine lv_topi (fun v_4 ev_4 => ?_)
  have h := nm_l h ev_4
  refine lv_istore_n (lv' := [(3, .int v_4), (0, .ref (b 0)), (1, .int p1), (2, .int p2)]) hx hb dX2_change_10 rfl hl (by decide) rfl (fun ls hl => ?_)
  refine lv_aload_n hx hb dX2_change_11 rfl (lv_at hl 1 rfl) ?_
  refine va_get (D := D) (ci := 2) (v := .ref (b 3)) (C := RX2) (T := TX2) (N := 15) hx hb hts w_1 hown hK hP 0 rfl rfl 7 (by decide) w_0 (fun _ h9 => h9) rfl dX2_change_12 ?_
  refine lv_iload_n hx hb dX2_change_15 rfl (lv_at hl 2 rfl) ?_
  refine lv_iload_n hx hb dX2_change_16 rfl (lv_at hl 3 rfl) ?_
  have g_5 := inb_vp (gb_l h)
  have h := gb_r h
  refine va_iast hx hb hK hP hD hS 3 0 rfl rfl g_5 dX2_change_17 (fun H locs hP hD hS => ?_)
  obtain ⟨q_6, eq_6⟩ : ∃ y : MdV, y = mu_now q_1 (upd (m_now q_1) p1.toNatClampNeg p2) := ⟨_, rfl⟩
  have hP : va_P D vwCl (mdW k b q_6) H := by rw [eq_6, ← md_set_now k b q_1 _]; exact hP
  have hD : va_D A (mdW k b q_6) := by rw [eq_6, ← md_set_now k b q_1 _]; exact hD
  have h := nm_l h eq_6
  refine lv_iload_n hx hb dX2_change_18 rfl (lv_at hl 0 rfl) ?_
  cases h
  exact Ck_iret hx hb hr hP hD hS dX2_change_19 hlocks
def f_X2_number_40 (k_6 : Int32 → Int32 → MdV → Option (Int32 × MdV)) (p1 : Int32) (p2 : Int32) (p3 : Int32) (x4_40 : Int32) (x5_40 : Int32) (t0_40 : Int32) (M_40 : MdV) : Option (Int32 × MdV) := bd (f_X2_tenTo (p1 - x5_40)) fun v_1 => nm (v_1.toInt32) fun v_3 => nm (((10 * x4_40) + t0_40) * v_3) fun v_4 => bd (f_X2_in (t0_40.toInt64) 0 9) fun v_5 => if v_5 = 0 then (some ((-9), M_40)) else (if p3 < v_4 then (some ((-9), M_40)) else (if p2 ≤ ((v_4 + v_3) - 1) then (nm ((10 * x4_40) + t0_40) fun v_10 => nm ((m_spo M_40) + 1) fun v_11 => nm (mu_spo M_40 v_11) fun q_12 => k_6 v_10 (x5_40 + 1) q_12) else (some ((-9), M_40))))
def f_X2_number_6 (p1 : Int32) (p2 : Int32) (p3 : Int32) : Nat → Int32 → Int32 → MdV → Option (Int32 × MdV)
  | 0, _, _, _ => none
  | fu + 1, x4_6, x5_6, M_6 => if p1 < x5_6 then (some (x4_6, M_6)) else (if (m_scs M_6) ≤ (m_spo M_6) then (f_X2_number_40 (f_X2_number_6 p1 p2 p3 fu) p1 p2 p3 x4_6 x5_6 (-9) M_6) else (gb (inb (m_spo M_6) 120) <| f_X2_number_40 (f_X2_number_6 p1 p2 p3 fu) p1 p2 p3 x4_6 x5_6 (((m_scr M_6) (m_spo M_6).toNatClampNeg) - 48) M_6))
def f_X2_number (M : MdV) (p1 : Int32) (p2 : Int32) (p3 : Int32) : Option (Int32 × MdV) := f_X2_number_6 p1 p2 p3 2000 0 1 M
set_option maxRecDepth 100000 in
set_option maxHeartbeats 4000000 in
theorem c_X2_number (l : Launch) (D : va_G) (k : Nat → ClassId) (b : Nat → Nat) (M : MdV) (p1 : Int32) (p2 : Int32) (p3 : Int32) (o0 : Int32) (o1 : MdV) (h : f_X2_number M p1 p2 p3 = some (o0, o1)) : Ck l D (tyK k) yX2_number wsX2_number ({ frames := 1, cells := 0, slots := 0, locals := 25 } : Room) [.ref (b 0), .int p1, .int p2, .int p3] (mdW k b M) (some (.int o0)) (mdW k b o1) := by
  refine Ck_of (cc := cX2_number) (maxL := 9) (ret := (some .int)) (by decide) rfl (Nat.le_of_ble_eq_true rfl) ?_
  intro p e s m args below meth c A ls hx hb hr hml hts hown hlocks hK hA hP hD hS hl
  have hl : lv_has ls 9 [(0, .ref (b 0)), (1, .int p1), (2, .int p2), (3, .int p3)] := hl
  have hP : va_P D vwCl (mdW k b M) s.heap := hP
  have w_0 := hts (.constantLong RX2 109 (9)) (by decide +kernel)
  have w_1 := hts (.fieldLink RX2 102 "EffectTrainModel" "spot" "I") (by decide +kernel)
  have w_2 : ∀ w ∈ wsX20, w ∈ wsX2_number := by decide +kernel
  have w_3 := hts (.fieldLink RX2 95 "EffectTrainModel" "scriptSize" "I") (by decide +kernel)
  have w_4 := hts (.fieldLink RX2 7 "EffectTrainModel" "script" "[I") (by decide +kernel)
  unfold f_X2_number at h
  have hC_6 : ∀ (fu_6 : Nat) (x4_6 : Int32) (x5_6 : Int32) (M_6 : MdV) (H : Heap) (locs : List Loc) (ls : Array Slot), va_P D vwCl (mdW k b M_6) H → va_D A (mdW k b M_6) → va_S A s.heap H locs → lv_has ls 9 [(0, .ref (b 0)), (1, .int p1), (2, .int p2), (3, .int p3), (4, .int x4_6), (5, .int x5_6)] → f_X2_number_6 p1 p2 p3 fu_6 x4_6 x5_6 M_6 = some (o0, o1) → W p l e ({ frames := 1, cells := 0, slots := 0, locals := 25 } : Room) s m args below meth c H locs 0 0 (MQ below (Qk D A (some (.int o0)) (mdW k b o1)) args s 0 0 A) (F0 m 6 ls []) := by
    intro fu_6
    induction fu_6 with
    | zero => intro x4_6 x5_6 M_6 H locs ls _ _ _ _ h; exact (no_l h).elim
    | succ fu_6 ih_6 =>
      intro x4_6 x5_6 M_6 H locs ls hP hD hS hl h
      rw [f_X2_number_6] at h
      have hC_40 : ∀ (x4_40 : Int32) (x5_40 : Int32) (t0_40 : Int32) (M_40 : MdV) (H : Heap) (locs : List Loc) (ls : Array Slot), va_P D vwCl (mdW k b M_40) H → va_D A (mdW k b M_40) → va_S A s.heap H locs → lv_has ls 9 [(0, .ref (b 0)), (1, .int p1), (2, .int p2), (3, .int p3), (4, .int x4_40), (5, .int x5_40)] → f_X2_number_40 (f_X2_number_6 p1 p2 p3 fu_6) p1 p2 p3 x4_40 x5_40 t0_40 M_40 = some (o0, o1) → W p l e ({ frames := 1, cells := 0, slots := 0, locals := 25 } : Room) s m args below meth c H locs 0 0 (MQ below (Qk D A (some (.int o0)) (mdW k b o1)) args s 0 0 A) (F0 m 40 ls [.int t0_40]) := by
        intro x4_40 x5_40 t0_40 M_40 H locs ls hP hD hS hl h
        unfold f_X2_number_40 at h
        refine lv_istore (lv' := [(6, .int t0_40), (0, .ref (b 0)), (1, .int p1), (2, .int p2), (3, .int p3), (4, .int x4_40), (5, .int x5_40)]) hx hb dX2_number_40 hl (by decide) rfl (fun ls hl => ?_)
        refine lv_iload_n hx hb dX2_number_42 rfl (lv_at hl 2 rfl) ?_
        refine lv_iload hx hb dX2_number_43 (lv_at hl 6 rfl) ?_
        refine lv_isub hx hb dX2_number_45 ?_
        obtain ⟨v_1, hv_2, h⟩ := bd_l h
        refine Ck_S (As := [.int (p1 - x5_40)]) (rest := []) (wc := ([] : va_W)) (wc' := ([] : va_W)) (w0' := mdW k b M_40) ⟨hx, hb, hml, hown, hts⟩ (c_X2_tenTo l D k  (p1 - x5_40) v_1 hv_2) (va_cwS 1 hts gX2_number_X2_tenTo rfl rfl rfl (by decide +kernel) ⟨Nat.le_of_ble_eq_true rfl, Nat.le_of_ble_eq_true rfl⟩) hK hP hD hS hA [] rfl (by decide) rfl rfl rfl hl.1 rfl (Nat.le_of_ble_eq_true rfl) dX2_number_46 ⟨Nat.le_of_ble_eq_true rfl, Nat.le_of_ble_eq_true rfl⟩ (fun H locs hP hD hS => ?_)
        refine W.eq (g2 := F0 m 49 ls [.long v_1]) rfl ?_
        refine lv_l2i hx hb dX2_number_49 rfl ?_
        refine lv_topi (fun v_3 ev_3 => ?_)
        have h := nm_l h ev_3
        refine lv_istore (lv' := [(7, .int v_3), (6, .int t0_40), (0, .ref (b 0)), (1, .int p1), (2, .int p2), (3, .int p3), (4, .int x4_40), (5, .int x5_40)]) hx hb dX2_number_50 hl (by decide) rfl (fun ls hl => ?_)
        refine lv_bipush (v := 10) hx hb dX2_number_52 (by decide) ?_
        refine lv_iload hx hb dX2_number_54 (lv_at hl 6 rfl) ?_
        refine lv_imul hx hb dX2_number_56 ?_
        refine lv_iload hx hb dX2_number_57 (lv_at hl 1 rfl) ?_
        refine lv_iadd hx hb dX2_number_59 ?_
        refine lv_iload hx hb dX2_number_60 (lv_at hl 0 rfl) ?_
        refine lv_imul hx hb dX2_number_62 ?_
        refine lv_topi (fun v_4 ev_4 => ?_)
        have h := nm_l h ev_4
        refine lv_istore (lv' := [(8, .int v_4), (7, .int v_3), (6, .int t0_40), (0, .ref (b 0)), (1, .int p1), (2, .int p2), (3, .int p3), (4, .int x4_40), (5, .int x5_40)]) hx hb dX2_number_63 hl (by decide) rfl (fun ls hl => ?_)
        refine lv_iload hx hb dX2_number_65 (lv_at hl 2 rfl) ?_
        refine lv_i2l hx hb dX2_number_67 rfl ?_
        refine lv_lconst (v := 0) hx hb dX2_number_68 (by decide) ?_
        refine lv_ldc2 (v := 9) hx hb hown w_0 dX2_number_69 ?_
        obtain ⟨v_5, hv_6, h⟩ := bd_l h
        refine Ck_S (As := [.long (t0_40.toInt64), .long 0, .long 9]) (rest := []) (wc := ([] : va_W)) (wc' := ([] : va_W)) (w0' := mdW k b M_40) ⟨hx, hb, hml, hown, hts⟩ (c_X2_in l D k  (t0_40.toInt64) 0 9 v_5 hv_6) (va_cwS 3 hts gX2_number_X2_in rfl rfl rfl (by decide +kernel) ⟨Nat.le_of_ble_eq_true rfl, Nat.le_of_ble_eq_true rfl⟩) hK hP hD hS hA [] rfl (by decide) rfl rfl rfl hl.1 rfl (Nat.le_of_ble_eq_true rfl) dX2_number_72 ⟨Nat.le_of_ble_eq_true rfl, Nat.le_of_ble_eq_true rfl⟩ (fun H locs hP hD hS => ?_)
        refine W.eq (g2 := F0 m 75 ls [.int v_5]) rfl ?_
        refine lv_if_eq (tgt := 95) hx hb dX2_number_75 (by decide) (fun c_7 => ?_) (fun c_7 => ?_)
        · have h := it_l c_7 h
          refine lv_bipush (v := (-9)) hx hb dX2_number_95 (by decide) ?_
          cases h
          exact Ck_iret hx hb hr hP hD hS dX2_number_97 hlocks
        · have h := it_r c_7 h
          refine lv_iload hx hb dX2_number_78 (lv_at hl 0 rfl) ?_
          refine lv_iload_n hx hb dX2_number_80 rfl (lv_at hl 6 rfl) ?_
          refine lv_icmp_gt (tgt := 95) hx hb dX2_number_81 (by decide) (fun c_8 => ?_) (fun c_8 => ?_)
          · have h := it_l c_8 h
            refine lv_bipush (v := (-9)) hx hb dX2_number_95 (by decide) ?_
            cases h
            exact Ck_iret hx hb hr hP hD hS dX2_number_97 hlocks
          · have h := it_r c_8 h
            refine lv_iload hx hb dX2_number_84 (lv_at hl 0 rfl) ?_
            refine lv_iload hx hb dX2_number_86 (lv_at hl 1 rfl) ?_
            refine lv_iadd hx hb dX2_number_88 ?_
            refine lv_iconst (v := 1) hx hb dX2_number_89 (by decide) ?_
            refine lv_isub hx hb dX2_number_90 ?_
            refine lv_iload_n hx hb dX2_number_91 rfl (lv_at hl 5 rfl) ?_
            refine lv_icmp_ge (tgt := 98) hx hb dX2_number_92 (by decide) (fun c_9 => ?_) (fun c_9 => ?_)
            · have h := it_l c_9 h
              refine lv_bipush (v := 10) hx hb dX2_number_98 (by decide) ?_
              refine lv_iload hx hb dX2_number_100 (lv_at hl 7 rfl) ?_
              refine lv_imul hx hb dX2_number_102 ?_
              refine lv_iload hx hb dX2_number_103 (lv_at hl 2 rfl) ?_
              refine lv_iadd hx hb dX2_number_105 ?_
              refine lv_topi (fun v_10 ev_10 => ?_)
              have h := nm_l h ev_10
              refine lv_istore (lv' := [(4, .int v_10), (8, .int v_4), (7, .int v_3), (6, .int t0_40), (0, .ref (b 0)), (1, .int p1), (2, .int p2), (3, .int p3), (5, .int x5_40)]) hx hb dX2_number_106 hl (by decide) rfl (fun ls hl => ?_)
              refine lv_aload_n hx hb dX2_number_108 rfl (lv_at hl 4 rfl) ?_
              refine lv_dup hx hb dX2_number_109 rfl ?_
              refine va_get (D := D) (ci := 2) (v := .int (m_spo M_40)) (C := RX2) (T := TX2) (N := 15) hx hb hts w_2 hown hK hP 0 rfl rfl 3 (by decide) w_1 (fun _ h9 => h9) rfl dX2_number_110 ?_
              refine lv_iconst (v := 1) hx hb dX2_number_113 (by decide) ?_
              refine lv_iadd hx hb dX2_number_114 ?_
              refine lv_topi (fun v_11 ev_11 => ?_)
              have h := nm_l h ev_11
              refine va_put (D := D) (ci := 2) (v := .int v_11) (ty := .int) (C := RX2) (T := TX2) (N := 15) hx hb hts w_2 tyX2 tyX2_ok nmX2 hown hK hP hD hS 0 rfl rfl 3 (by decide) w_1 (fun _ h9 => h9) rfl (by decide +kernel) rfl rfl (Nat.le_of_ble_eq_true rfl) dX2_number_115 (fun H locs hP hD hS => ?_)
              obtain ⟨q_12, eq_12⟩ : ∃ y : MdV, y = mu_spo M_40 v_11 := ⟨_, rfl⟩
              have hP : va_P D vwCl (mdW k b q_12) H := by rw [eq_12, ← md_set_spo k b M_40 _]; exact hP
              have hD : va_D A (mdW k b q_12) := by rw [eq_12, ← md_set_spo k b M_40 _]; exact hD
              have h := nm_l h eq_12
              refine lv_iinc (v := (x5_40 + 1)) (lv' := [(5, .int (x5_40 + 1)), (4, .int v_10), (8, .int v_4), (7, .int v_3), (6, .int t0_40), (0, .ref (b 0)), (1, .int p1), (2, .int p2), (3, .int p3)]) hx hb dX2_number_118 hl (k := 8) rfl rfl (by decide) rfl (fun ls hl => ?_)
              refine lv_goto (tgt := 6) hx hb dX2_number_121 (by decide) ?_
              exact ih_6 v_10 (x5_40 + 1) q_12 _ _ _ hP hD hS (lv_sub hl [5, 6, 7, 8, 1, 0] rfl) h
            · have h := it_r c_9 h
              refine lv_bipush (v := (-9)) hx hb dX2_number_95 (by decide) ?_
              cases h
              exact Ck_iret hx hb hr hP hD hS dX2_number_97 hlocks
      refine lv_iload hx hb dX2_number_6 (lv_at hl 5 rfl) ?_
      refine lv_iload_n hx hb dX2_number_8 rfl (lv_at hl 1 rfl) ?_
      refine lv_icmp_gt (tgt := 124) hx hb dX2_number_9 (by decide) (fun c_13 => ?_) (fun c_13 => ?_)
      · have h := it_l c_13 h
        refine lv_iload hx hb dX2_number_124 (lv_at hl 4 rfl) ?_
        cases h
        exact Ck_iret hx hb hr hP hD hS dX2_number_126 hlocks
      · have h := it_r c_13 h
        refine lv_aload_n hx hb dX2_number_12 rfl (lv_at hl 0 rfl) ?_
        refine va_get (D := D) (ci := 2) (v := .int (m_spo M_6)) (C := RX2) (T := TX2) (N := 15) hx hb hts w_2 hown hK hP 0 rfl rfl 3 (by decide) w_1 (fun _ h9 => h9) rfl dX2_number_13 ?_
        refine lv_aload_n hx hb dX2_number_16 rfl (lv_at hl 0 rfl) ?_
        refine va_get (D := D) (ci := 2) (v := .int (m_scs M_6)) (C := RX2) (T := TX2) (N := 15) hx hb hts w_2 hown hK hP 0 rfl rfl 2 (by decide) w_3 (fun _ h9 => h9) rfl dX2_number_17 ?_
        refine lv_icmp_ge (tgt := 38) hx hb dX2_number_20 (by decide) (fun c_14 => ?_) (fun c_14 => ?_)
        · have h := it_l c_14 h
          refine lv_bipush (v := (-9)) hx hb dX2_number_38 (by decide) ?_
          exact hC_40 x4_6 x5_6 (-9) M_6 _ _ _ hP hD hS (lv_sub hl [0, 1, 2, 3, 4, 5] rfl) h
        · have h := it_r c_14 h
          refine lv_aload_n hx hb dX2_number_23 rfl (lv_at hl 0 rfl) ?_
          refine va_get (D := D) (ci := 2) (v := .ref (b 1)) (C := RX2) (T := TX2) (N := 15) hx hb hts w_2 hown hK hP 0 rfl rfl 1 (by decide) w_4 (fun _ h9 => h9) rfl dX2_number_24 ?_
          refine lv_aload_n hx hb dX2_number_27 rfl (lv_at hl 0 rfl) ?_
          refine va_get (D := D) (ci := 2) (v := .int (m_spo M_6)) (C := RX2) (T := TX2) (N := 15) hx hb hts w_2 hown hK hP 0 rfl rfl 3 (by decide) w_1 (fun _ h9 => h9) rfl dX2_number_28 ?_
          have g_15 := inb_vp (gb_l h)
          have h := gb_r h
          refine va_iald hx hb hK hP 1 0 rfl rfl g_15 dX2_number_31 ?_
          refine lv_bipush (v := 48) hx hb dX2_number_32 (by decide) ?_
          refine lv_isub hx hb dX2_number_34 ?_
          refine lv_goto (tgt := 40) hx hb dX2_number_35 (by decide) ?_
          exact hC_40 x4_6 x5_6 (((m_scr M_6) (m_spo M_6).toNatClampNeg) - 48) M_6 _ _ _ hP hD hS (lv_sub hl [0, 1, 2, 3, 4, 5] rfl) h
  refine lv_iconst (v := 0) hx hb dX2_number_0 (by decide) ?_
  refine lv_istore (lv' := [(4, .int 0), (0, .ref (b 0)), (1, .int p1), (2, .int p2), (3, .int p3)]) hx hb dX2_number_1 hl (by decide) rfl (fun ls hl => ?_)
  refine lv_iconst (v := 1) hx hb dX2_number_3 (by decide) ?_
  refine lv_istore (lv' := [(5, .int 1), (4, .int 0), (0, .ref (b 0)), (1, .int p1), (2, .int p2), (3, .int p3)]) hx hb dX2_number_4 hl (by decide) rfl (fun ls hl => ?_)
  exact hC_6 2000 0 1 M _ _ _ hP hD hS (lv_sub hl [2, 3, 4, 5, 1, 0] rfl) h
def f_X2_readEffect_100 (k_4 : Int32 → Int32 → MdV → Option (Int32 × MdV)) (p1 : Int32) (x3_100 : Int32) (t0_100 : Int32) (M_100 : MdV) : Option (Int32 × MdV) := gb (inb ((6 * x3_100) + p1) 64) <| nm (mu_rrw M_100 (upd (m_rrw M_100) ((6 * x3_100) + p1).toNatClampNeg t0_100)) fun q_2 => k_4 t0_100 (x3_100 + 1) q_2
def f_X2_readEffect_97 (k_4 : Int32 → Int32 → MdV → Option (Int32 × MdV)) (p1 : Int32) (x3_97 : Int32) (t0_97 : Int32) (t1_97 : Int32) (t2_97 : Int32) (M_97 : MdV) : Option (Int32 × MdV) := bd (f_X2_number M_97 t2_97 t1_97 t0_97) fun ⟨v_3, q_4⟩ => f_X2_readEffect_100 k_4 p1 x3_97 v_3 q_4
def f_X2_readEffect_4 (p1 : Int32) : Nat → Int32 → Int32 → MdV → Option (Int32 × MdV)
  | 0, _, _, _ => none
  | fu + 1, x2_4, x3_4, M_4 => if 6 ≤ x3_4 then (some (x2_4, M_4)) else (if x2_4 = (-9) then (some (x2_4, M_4)) else (if x3_4 = 0 then (bd (f_X2_number M_4 1 1 9) fun ⟨v_22, q_23⟩ => f_X2_readEffect_100 (f_X2_readEffect_4 p1 fu) p1 x3_4 v_22 q_23) else (if x3_4 = 1 then (bd (f_X2_number M_4 4 0 4000) fun ⟨v_19, q_20⟩ => f_X2_readEffect_100 (f_X2_readEffect_4 p1 fu) p1 x3_4 v_19 q_20) else (if x3_4 = 2 then (bd (f_X2_number M_4 4 0 1000) fun ⟨v_16, q_17⟩ => f_X2_readEffect_100 (f_X2_readEffect_4 p1 fu) p1 x3_4 v_16 q_17) else (if x3_4 = 3 then (bd (f_X2_number M_4 3 0 999) fun ⟨v_13, q_14⟩ => f_X2_readEffect_100 (f_X2_readEffect_4 p1 fu) p1 x3_4 v_13 q_14) else (if x3_4 = 4 then (f_X2_readEffect_97 (f_X2_readEffect_4 p1 fu) p1 x3_4 90 0 2 M_4) else (f_X2_readEffect_97 (f_X2_readEffect_4 p1 fu) p1 x3_4 99 0 2 M_4)))))))
def f_X2_readEffect (M : MdV) (p1 : Int32) : Option (Int32 × MdV) := f_X2_readEffect_4 p1 2000 0 0 M
set_option maxRecDepth 100000 in
set_option maxHeartbeats 4000000 in
theorem c_X2_readEffect (l : Launch) (D : va_G) (k : Nat → ClassId) (b : Nat → Nat) (M : MdV) (p1 : Int32) (o0 : Int32) (o1 : MdV) (h : f_X2_readEffect M p1 = some (o0, o1)) : Ck l D (tyK k) yX2_readEffect wsX2_readEffect ({ frames := 2, cells := 0, slots := 0, locals := 53 } : Room) [.ref (b 0), .int p1] (mdW k b M) (some (.int o0)) (mdW k b o1) := by
  refine Ck_of (cc := cX2_readEffect) (maxL := 4) (ret := (some .int)) (by decide) rfl (Nat.le_of_ble_eq_true rfl) ?_
  intro p e s m args below meth c A ls hx hb hr hml hts hown hlocks hK hA hP hD hS hl
  have hl : lv_has ls 4 [(0, .ref (b 0)), (1, .int p1)] := hl
  have hP : va_P D vwCl (mdW k b M) s.heap := hP
  have w_0 := hts (.fieldLink RX2 13 "EffectTrainModel" "readRow" "[I") (by decide +kernel)
  have w_1 : ∀ w ∈ wsX20, w ∈ wsX2_readEffect := by decide +kernel
  unfold f_X2_readEffect at h
  have hC_4 : ∀ (fu_4 : Nat) (x2_4 : Int32) (x3_4 : Int32) (M_4 : MdV) (H : Heap) (locs : List Loc) (ls : Array Slot), va_P D vwCl (mdW k b M_4) H → va_D A (mdW k b M_4) → va_S A s.heap H locs → lv_has ls 4 [(0, .ref (b 0)), (1, .int p1), (2, .int x2_4), (3, .int x3_4)] → f_X2_readEffect_4 p1 fu_4 x2_4 x3_4 M_4 = some (o0, o1) → W p l e ({ frames := 2, cells := 0, slots := 0, locals := 53 } : Room) s m args below meth c H locs 0 0 (MQ below (Qk D A (some (.int o0)) (mdW k b o1)) args s 0 0 A) (F0 m 4 ls []) := by
    intro fu_4
    induction fu_4 with
    | zero => intro x2_4 x3_4 M_4 H locs ls _ _ _ _ h; exact (no_l h).elim
    | succ fu_4 ih_4 =>
      intro x2_4 x3_4 M_4 H locs ls hP hD hS hl h
      rw [f_X2_readEffect_4] at h
      have hC_100 : ∀ (x3_100 : Int32) (t0_100 : Int32) (M_100 : MdV) (H : Heap) (locs : List Loc) (ls : Array Slot), va_P D vwCl (mdW k b M_100) H → va_D A (mdW k b M_100) → va_S A s.heap H locs → lv_has ls 4 [(0, .ref (b 0)), (1, .int p1), (3, .int x3_100)] → f_X2_readEffect_100 (f_X2_readEffect_4 p1 fu_4) p1 x3_100 t0_100 M_100 = some (o0, o1) → W p l e ({ frames := 2, cells := 0, slots := 0, locals := 53 } : Room) s m args below meth c H locs 0 0 (MQ below (Qk D A (some (.int o0)) (mdW k b o1)) args s 0 0 A) (F0 m 100 ls [.int t0_100]) := by
        intro x3_100 t0_100 M_100 H locs ls hP hD hS hl h
        unfold f_X2_readEffect_100 at h
        refine lv_istore_n (lv' := [(2, .int t0_100), (0, .ref (b 0)), (1, .int p1), (3, .int x3_100)]) hx hb dX2_readEffect_100 rfl hl (by decide) rfl (fun ls hl => ?_)
        refine lv_aload_n hx hb dX2_readEffect_101 rfl (lv_at hl 1 rfl) ?_
        refine va_get (D := D) (ci := 2) (v := .ref (b 2)) (C := RX2) (T := TX2) (N := 15) hx hb hts w_1 hown hK hP 0 rfl rfl 5 (by decide) w_0 (fun _ h9 => h9) rfl dX2_readEffect_102 ?_
        refine lv_bipush (v := 6) hx hb dX2_readEffect_105 (by decide) ?_
        refine lv_iload_n hx hb dX2_readEffect_107 rfl (lv_at hl 3 rfl) ?_
        refine lv_imul hx hb dX2_readEffect_108 ?_
        refine lv_iload_n hx hb dX2_readEffect_109 rfl (lv_at hl 2 rfl) ?_
        refine lv_iadd hx hb dX2_readEffect_110 ?_
        refine lv_iload_n hx hb dX2_readEffect_111 rfl (lv_at hl 0 rfl) ?_
        have g_1 := inb_vp (gb_l h)
        have h := gb_r h
        refine va_iast hx hb hK hP hD hS 2 0 rfl rfl g_1 dX2_readEffect_112 (fun H locs hP hD hS => ?_)
        obtain ⟨q_2, eq_2⟩ : ∃ y : MdV, y = mu_rrw M_100 (upd (m_rrw M_100) ((6 * x3_100) + p1).toNatClampNeg t0_100) := ⟨_, rfl⟩
        have hP : va_P D vwCl (mdW k b q_2) H := by rw [eq_2, ← md_set_rrw k b M_100 _]; exact hP
        have hD : va_D A (mdW k b q_2) := by rw [eq_2, ← md_set_rrw k b M_100 _]; exact hD
        have h := nm_l h eq_2
        refine lv_iinc (v := (x3_100 + 1)) (lv' := [(3, .int (x3_100 + 1)), (2, .int t0_100), (0, .ref (b 0)), (1, .int p1)]) hx hb dX2_readEffect_113 hl (k := 3) rfl rfl (by decide) rfl (fun ls hl => ?_)
        refine lv_goto (tgt := 4) hx hb dX2_readEffect_116 (by decide) ?_
        exact ih_4 t0_100 (x3_100 + 1) q_2 _ _ _ hP hD hS (lv_sub hl [2, 3, 1, 0] rfl) h
      have hC_97 : ∀ (x3_97 : Int32) (t0_97 : Int32) (t1_97 : Int32) (t2_97 : Int32) (M_97 : MdV) (H : Heap) (locs : List Loc) (ls : Array Slot), va_P D vwCl (mdW k b M_97) H → va_D A (mdW k b M_97) → va_S A s.heap H locs → lv_has ls 4 [(0, .ref (b 0)), (1, .int p1), (3, .int x3_97)] → f_X2_readEffect_97 (f_X2_readEffect_4 p1 fu_4) p1 x3_97 t0_97 t1_97 t2_97 M_97 = some (o0, o1) → W p l e ({ frames := 2, cells := 0, slots := 0, locals := 53 } : Room) s m args below meth c H locs 0 0 (MQ below (Qk D A (some (.int o0)) (mdW k b o1)) args s 0 0 A) (F0 m 97 ls [.int t0_97, .int t1_97, .int t2_97, .ref (b 0)]) := by
        intro x3_97 t0_97 t1_97 t2_97 M_97 H locs ls hP hD hS hl h
        unfold f_X2_readEffect_97 at h
        obtain ⟨⟨v_3, q_4⟩, hv_5, h⟩ := bd_l h
        refine Ck_V (As := [.int t2_97, .int t1_97, .int t0_97]) (rest := []) (wc := mdW k b M_97) (wc' := mdW k b q_4) (w0' := mdW k b q_4) ⟨hx, hb, hml, hown, hts⟩ (c_X2_number l D k b M_97 t2_97 t1_97 t0_97 v_3 q_4 hv_5) (cwV 3 hts gX2_readEffect_X2_number rfl rfl rfl (by decide +kernel) ⟨Nat.le_of_ble_eq_true rfl, Nat.le_of_ble_eq_true rfl⟩) hK hP hD hS hA (q0 := 0) (ci := 2) rfl rfl [0, 1, 2, 3, 4, 5, 6, 7, 8, 9] rfl (by decide) rfl rfl rfl hl.1 rfl (Nat.le_of_ble_eq_true rfl) dX2_readEffect_97 ⟨Nat.le_of_ble_eq_true rfl, Nat.le_of_ble_eq_true rfl⟩ (fun H locs hP hD hS => ?_)
        refine W.eq (g2 := F0 m 100 ls [.int v_3]) rfl ?_
        exact hC_100 x3_97 v_3 q_4 _ _ _ hP hD hS (lv_sub hl [0, 1, 2] rfl) h
      refine lv_iload_n hx hb dX2_readEffect_4 rfl (lv_at hl 3 rfl) ?_
      refine lv_bipush (v := 6) hx hb dX2_readEffect_5 (by decide) ?_
      refine lv_icmp_ge (tgt := 119) hx hb dX2_readEffect_7 (by decide) (fun c_6 => ?_) (fun c_6 => ?_)
      · have h := it_l c_6 h
        refine lv_iload_n hx hb dX2_readEffect_119 rfl (lv_at hl 2 rfl) ?_
        cases h
        exact Ck_iret hx hb hr hP hD hS dX2_readEffect_120 hlocks
      · have h := it_r c_6 h
        refine lv_iload_n hx hb dX2_readEffect_10 rfl (lv_at hl 2 rfl) ?_
        refine lv_bipush (v := (-9)) hx hb dX2_readEffect_11 (by decide) ?_
        refine lv_icmp_eq (tgt := 119) hx hb dX2_readEffect_13 (by decide) (fun c_7 => ?_) (fun c_7 => ?_)
        · have h := it_l c_7 h
          refine lv_iload_n hx hb dX2_readEffect_119 rfl (lv_at hl 2 rfl) ?_
          cases h
          exact Ck_iret hx hb hr hP hD hS dX2_readEffect_120 hlocks
        · have h := it_r c_7 h
          refine lv_iload_n hx hb dX2_readEffect_16 rfl (lv_at hl 3 rfl) ?_
          refine lv_if_ne (tgt := 31) hx hb dX2_readEffect_17 (by decide) (fun c_8 => ?_) (fun c_8 => ?_)
          · have h := it_r c_8 h
            refine lv_iload_n hx hb dX2_readEffect_31 rfl (lv_at hl 3 rfl) ?_
            refine lv_iconst (v := 1) hx hb dX2_readEffect_32 (by decide) ?_
            refine lv_icmp_ne (tgt := 48) hx hb dX2_readEffect_33 (by decide) (fun c_9 => ?_) (fun c_9 => ?_)
            · have h := it_r c_9 h
              refine lv_iload_n hx hb dX2_readEffect_48 rfl (lv_at hl 3 rfl) ?_
              refine lv_iconst (v := 2) hx hb dX2_readEffect_49 (by decide) ?_
              refine lv_icmp_ne (tgt := 65) hx hb dX2_readEffect_50 (by decide) (fun c_10 => ?_) (fun c_10 => ?_)
              · have h := it_r c_10 h
                refine lv_iload_n hx hb dX2_readEffect_65 rfl (lv_at hl 3 rfl) ?_
                refine lv_iconst (v := 3) hx hb dX2_readEffect_66 (by decide) ?_
                refine lv_icmp_ne (tgt := 82) hx hb dX2_readEffect_67 (by decide) (fun c_11 => ?_) (fun c_11 => ?_)
                · have h := it_r c_11 h
                  refine lv_aload_n hx hb dX2_readEffect_82 rfl (lv_at hl 0 rfl) ?_
                  refine lv_iconst (v := 2) hx hb dX2_readEffect_83 (by decide) ?_
                  refine lv_iconst (v := 0) hx hb dX2_readEffect_84 (by decide) ?_
                  refine lv_iload_n hx hb dX2_readEffect_85 rfl (lv_at hl 3 rfl) ?_
                  refine lv_iconst (v := 4) hx hb dX2_readEffect_86 (by decide) ?_
                  refine lv_icmp_ne (tgt := 95) hx hb dX2_readEffect_87 (by decide) (fun c_12 => ?_) (fun c_12 => ?_)
                  · have h := it_r c_12 h
                    refine lv_bipush (v := 99) hx hb dX2_readEffect_95 (by decide) ?_
                    exact hC_97 x3_4 99 0 2 M_4 _ _ _ hP hD hS (lv_sub hl [0, 1, 3] rfl) h
                  · have h := it_l c_12 h
                    refine lv_bipush (v := 90) hx hb dX2_readEffect_90 (by decide) ?_
                    refine lv_goto (tgt := 97) hx hb dX2_readEffect_92 (by decide) ?_
                    exact hC_97 x3_4 90 0 2 M_4 _ _ _ hP hD hS (lv_sub hl [0, 1, 3] rfl) h
                · have h := it_l c_11 h
                  refine lv_aload_n hx hb dX2_readEffect_70 rfl (lv_at hl 0 rfl) ?_
                  refine lv_iconst (v := 3) hx hb dX2_readEffect_71 (by decide) ?_
                  refine lv_iconst (v := 0) hx hb dX2_readEffect_72 (by decide) ?_
                  refine lv_sipush (v := 999) hx hb dX2_readEffect_73 (by decide) ?_
                  obtain ⟨⟨v_13, q_14⟩, hv_15, h⟩ := bd_l h
                  refine Ck_V (As := [.int 3, .int 0, .int 999]) (rest := []) (wc := mdW k b M_4) (wc' := mdW k b q_14) (w0' := mdW k b q_14) ⟨hx, hb, hml, hown, hts⟩ (c_X2_number l D k b M_4 3 0 999 v_13 q_14 hv_15) (cwV 3 hts gX2_readEffect_X2_number rfl rfl rfl (by decide +kernel) ⟨Nat.le_of_ble_eq_true rfl, Nat.le_of_ble_eq_true rfl⟩) hK hP hD hS hA (q0 := 0) (ci := 2) rfl rfl [0, 1, 2, 3, 4, 5, 6, 7, 8, 9] rfl (by decide) rfl rfl rfl hl.1 rfl (Nat.le_of_ble_eq_true rfl) dX2_readEffect_76 ⟨Nat.le_of_ble_eq_true rfl, Nat.le_of_ble_eq_true rfl⟩ (fun H locs hP hD hS => ?_)
                  refine W.eq (g2 := F0 m 79 ls [.int v_13]) rfl ?_
                  refine lv_goto (tgt := 100) hx hb dX2_readEffect_79 (by decide) ?_
                  exact hC_100 x3_4 v_13 q_14 _ _ _ hP hD hS (lv_sub hl [0, 1, 3] rfl) h
              · have h := it_l c_10 h
                refine lv_aload_n hx hb dX2_readEffect_53 rfl (lv_at hl 0 rfl) ?_
                refine lv_iconst (v := 4) hx hb dX2_readEffect_54 (by decide) ?_
                refine lv_iconst (v := 0) hx hb dX2_readEffect_55 (by decide) ?_
                refine lv_sipush (v := 1000) hx hb dX2_readEffect_56 (by decide) ?_
                obtain ⟨⟨v_16, q_17⟩, hv_18, h⟩ := bd_l h
                refine Ck_V (As := [.int 4, .int 0, .int 1000]) (rest := []) (wc := mdW k b M_4) (wc' := mdW k b q_17) (w0' := mdW k b q_17) ⟨hx, hb, hml, hown, hts⟩ (c_X2_number l D k b M_4 4 0 1000 v_16 q_17 hv_18) (cwV 3 hts gX2_readEffect_X2_number rfl rfl rfl (by decide +kernel) ⟨Nat.le_of_ble_eq_true rfl, Nat.le_of_ble_eq_true rfl⟩) hK hP hD hS hA (q0 := 0) (ci := 2) rfl rfl [0, 1, 2, 3, 4, 5, 6, 7, 8, 9] rfl (by decide) rfl rfl rfl hl.1 rfl (Nat.le_of_ble_eq_true rfl) dX2_readEffect_59 ⟨Nat.le_of_ble_eq_true rfl, Nat.le_of_ble_eq_true rfl⟩ (fun H locs hP hD hS => ?_)
                refine W.eq (g2 := F0 m 62 ls [.int v_16]) rfl ?_
                refine lv_goto (tgt := 100) hx hb dX2_readEffect_62 (by decide) ?_
                exact hC_100 x3_4 v_16 q_17 _ _ _ hP hD hS (lv_sub hl [0, 1, 3] rfl) h
            · have h := it_l c_9 h
              refine lv_aload_n hx hb dX2_readEffect_36 rfl (lv_at hl 0 rfl) ?_
              refine lv_iconst (v := 4) hx hb dX2_readEffect_37 (by decide) ?_
              refine lv_iconst (v := 0) hx hb dX2_readEffect_38 (by decide) ?_
              refine lv_sipush (v := 4000) hx hb dX2_readEffect_39 (by decide) ?_
              obtain ⟨⟨v_19, q_20⟩, hv_21, h⟩ := bd_l h
              refine Ck_V (As := [.int 4, .int 0, .int 4000]) (rest := []) (wc := mdW k b M_4) (wc' := mdW k b q_20) (w0' := mdW k b q_20) ⟨hx, hb, hml, hown, hts⟩ (c_X2_number l D k b M_4 4 0 4000 v_19 q_20 hv_21) (cwV 3 hts gX2_readEffect_X2_number rfl rfl rfl (by decide +kernel) ⟨Nat.le_of_ble_eq_true rfl, Nat.le_of_ble_eq_true rfl⟩) hK hP hD hS hA (q0 := 0) (ci := 2) rfl rfl [0, 1, 2, 3, 4, 5, 6, 7, 8, 9] rfl (by decide) rfl rfl rfl hl.1 rfl (Nat.le_of_ble_eq_true rfl) dX2_readEffect_42 ⟨Nat.le_of_ble_eq_true rfl, Nat.le_of_ble_eq_true rfl⟩ (fun H locs hP hD hS => ?_)
              refine W.eq (g2 := F0 m 45 ls [.int v_19]) rfl ?_
              refine lv_goto (tgt := 100) hx hb dX2_readEffect_45 (by decide) ?_
              exact hC_100 x3_4 v_19 q_20 _ _ _ hP hD hS (lv_sub hl [0, 1, 3] rfl) h
          · have h := it_l c_8 h
            refine lv_aload_n hx hb dX2_readEffect_20 rfl (lv_at hl 0 rfl) ?_
            refine lv_iconst (v := 1) hx hb dX2_readEffect_21 (by decide) ?_
            refine lv_iconst (v := 1) hx hb dX2_readEffect_22 (by decide) ?_
            refine lv_bipush (v := 9) hx hb dX2_readEffect_23 (by decide) ?_
            obtain ⟨⟨v_22, q_23⟩, hv_24, h⟩ := bd_l h
            refine Ck_V (As := [.int 1, .int 1, .int 9]) (rest := []) (wc := mdW k b M_4) (wc' := mdW k b q_23) (w0' := mdW k b q_23) ⟨hx, hb, hml, hown, hts⟩ (c_X2_number l D k b M_4 1 1 9 v_22 q_23 hv_24) (cwV 3 hts gX2_readEffect_X2_number rfl rfl rfl (by decide +kernel) ⟨Nat.le_of_ble_eq_true rfl, Nat.le_of_ble_eq_true rfl⟩) hK hP hD hS hA (q0 := 0) (ci := 2) rfl rfl [0, 1, 2, 3, 4, 5, 6, 7, 8, 9] rfl (by decide) rfl rfl rfl hl.1 rfl (Nat.le_of_ble_eq_true rfl) dX2_readEffect_25 ⟨Nat.le_of_ble_eq_true rfl, Nat.le_of_ble_eq_true rfl⟩ (fun H locs hP hD hS => ?_)
            refine W.eq (g2 := F0 m 28 ls [.int v_22]) rfl ?_
            refine lv_goto (tgt := 100) hx hb dX2_readEffect_28 (by decide) ?_
            exact hC_100 x3_4 v_22 q_23 _ _ _ hP hD hS (lv_sub hl [0, 1, 3] rfl) h
  refine lv_iconst (v := 0) hx hb dX2_readEffect_0 (by decide) ?_
  refine lv_istore_n (lv' := [(2, .int 0), (0, .ref (b 0)), (1, .int p1)]) hx hb dX2_readEffect_1 rfl hl (by decide) rfl (fun ls hl => ?_)
  refine lv_iconst (v := 0) hx hb dX2_readEffect_2 (by decide) ?_
  refine lv_istore_n (lv' := [(3, .int 0), (2, .int 0), (0, .ref (b 0)), (1, .int p1)]) hx hb dX2_readEffect_3 rfl hl (by decide) rfl (fun ls hl => ?_)
  exact hC_4 2000 0 0 M _ _ _ hP hD hS (lv_sub hl [2, 3, 1, 0] rfl) h
def f_X2_readText_167 (x1_167 : Int32) (M_167 : MdV) : Option (Int32 × MdV) := if x1_167 = (-9) then (some ((m_spo M_167), M_167)) else (if (m_scs M_167) ≤ (m_spo M_167) then (some ((-9), M_167)) else (some ((m_spo M_167), M_167)))
def f_X2_readText_141 : Nat → Int32 → Int32 → MdV → Option (Int32 × MdV)
  | 0, _, _, _ => none
  | fu + 1, x1_141, x2_141, M_141 => if (m_rdn M_141) ≤ x2_141 then (f_X2_readText_167 x1_141 M_141) else (if x1_141 = (-9) then (f_X2_readText_167 x1_141 M_141) else (bd (f_X2_readEffect M_141 x2_141) fun ⟨v_5, q_6⟩ => (f_X2_readText_141 fu) v_5 (x2_141 + 1) q_6))
def f_X2_readText_122 (k_70 : Int32 → Int32 → MdV → Option (Int32 × MdV)) (x2_122 : Int32) (t0_122 : Int32) (M_122 : MdV) : Option (Int32 × MdV) := gb (inb (48 + x2_122) 64) <| nm (mu_rrw M_122 (upd (m_rrw M_122) (48 + x2_122).toNatClampNeg t0_122)) fun q_9 => k_70 t0_122 (x2_122 + 1) q_9
def f_X2_readText_70 : Nat → Int32 → Int32 → MdV → Option (Int32 × MdV)
  | 0, _, _, _ => none
  | fu + 1, x1_70, x2_70, M_70 => if 5 ≤ x2_70 then (f_X2_readText_141 2000 x1_70 0 M_70) else (if x1_70 = (-9) then (f_X2_readText_141 2000 x1_70 0 M_70) else (if 2 ≤ x2_70 then (if 4 ≤ x2_70 then (bd (f_X2_number M_70 2 1 20) fun ⟨v_14, q_15⟩ => f_X2_readText_122 (f_X2_readText_70 fu) x2_70 v_14 q_15) else (bd (f_X2_number M_70 2 0 99) fun ⟨v_17, q_18⟩ => f_X2_readText_122 (f_X2_readText_70 fu) x2_70 v_17 q_18)) else (bd (f_X2_number M_70 3 0 999) fun ⟨v_20, q_21⟩ => f_X2_readText_122 (f_X2_readText_70 fu) x2_70 v_20 q_21)))
def f_X2_readText_2 : Nat → Int32 → MdV → Option (Int32 × MdV)
  | 0, _, _ => none
  | fu + 1, x1_2, M_2 => if 64 ≤ x1_2 then (nm (mu_spo M_2 0) fun q_24 => if (m_scs q_24) = 0 then (some (0, q_24)) else (if ((m_scr q_24) 0) = 69 then (nm (mu_spo q_24 1) fun q_27 => bd (f_X2_number q_27 1 2 6) fun ⟨v_28, q_29⟩ => nm (mu_rdn q_29 v_28) fun q_31 => nm (m_rdn q_31) fun v_32 => f_X2_readText_70 2000 v_32 0 q_31) else (some (0, q_24)))) else (gb (inb x1_2 64) <| nm (mu_rrw M_2 (upd (m_rrw M_2) x1_2.toNatClampNeg 0)) fun q_34 => (f_X2_readText_2 fu) (x1_2 + 1) q_34)
def f_X2_readText (M : MdV) : Option (Int32 × MdV) := f_X2_readText_2 2000 0 M
set_option maxRecDepth 100000 in
set_option maxHeartbeats 4000000 in
theorem c_X2_readText (l : Launch) (D : va_G) (k : Nat → ClassId) (b : Nat → Nat) (M : MdV) (o0 : Int32) (o1 : MdV) (h : f_X2_readText M = some (o0, o1)) : Ck l D (tyK k) yX2_readText wsX2_readText ({ frames := 3, cells := 0, slots := 0, locals := 76 } : Room) [.ref (b 0)] (mdW k b M) (some (.int o0)) (mdW k b o1) := by
  refine Ck_of (cc := cX2_readText) (maxL := 3) (ret := (some .int)) (by decide) rfl (Nat.le_of_ble_eq_true rfl) ?_
  intro p e s m args below meth c A ls hx hb hr hml hts hown hlocks hK hA hP hD hS hl
  have hl : lv_has ls 3 [(0, .ref (b 0))] := hl
  have hP : va_P D vwCl (mdW k b M) s.heap := hP
  have w_0 := hts (.fieldLink RX2 102 "EffectTrainModel" "spot" "I") (by decide +kernel)
  have w_1 : ∀ w ∈ wsX20, w ∈ wsX2_readText := by decide +kernel
  have w_2 := hts (.fieldLink RX2 95 "EffectTrainModel" "scriptSize" "I") (by decide +kernel)
  have w_3 := hts (.fieldLink RX2 115 "EffectTrainModel" "readN" "I") (by decide +kernel)
  have w_4 := hts (.fieldLink RX2 13 "EffectTrainModel" "readRow" "[I") (by decide +kernel)
  have w_5 := hts (.fieldLink RX2 7 "EffectTrainModel" "script" "[I") (by decide +kernel)
  unfold f_X2_readText at h
  have hC_167 : ∀ (x1_167 : Int32) (M_167 : MdV) (H : Heap) (locs : List Loc) (ls : Array Slot), va_P D vwCl (mdW k b M_167) H → va_D A (mdW k b M_167) → va_S A s.heap H locs → lv_has ls 3 [(0, .ref (b 0)), (1, .int x1_167)] → f_X2_readText_167 x1_167 M_167 = some (o0, o1) → W p l e ({ frames := 3, cells := 0, slots := 0, locals := 76 } : Room) s m args below meth c H locs 0 0 (MQ below (Qk D A (some (.int o0)) (mdW k b o1)) args s 0 0 A) (F0 m 167 ls []) := by
    intro x1_167 M_167 H locs ls hP hD hS hl h
    unfold f_X2_readText_167 at h
    refine lv_iload_n hx hb dX2_readText_167 rfl (lv_at hl 1 rfl) ?_
    refine lv_bipush (v := (-9)) hx hb dX2_readText_168 (by decide) ?_
    refine lv_icmp_eq (tgt := 184) hx hb dX2_readText_170 (by decide) (fun c_1 => ?_) (fun c_1 => ?_)
    · have h := it_l c_1 h
      refine lv_aload_n hx hb dX2_readText_184 rfl (lv_at hl 0 rfl) ?_
      refine va_get (D := D) (ci := 2) (v := .int (m_spo M_167)) (C := RX2) (T := TX2) (N := 15) hx hb hts w_1 hown hK hP 0 rfl rfl 3 (by decide) w_0 (fun _ h9 => h9) rfl dX2_readText_185 ?_
      refine lv_goto (tgt := 193) hx hb dX2_readText_188 (by decide) ?_
      cases h
      exact Ck_iret hx hb hr hP hD hS dX2_readText_193 hlocks
    · have h := it_r c_1 h
      refine lv_aload_n hx hb dX2_readText_173 rfl (lv_at hl 0 rfl) ?_
      refine va_get (D := D) (ci := 2) (v := .int (m_spo M_167)) (C := RX2) (T := TX2) (N := 15) hx hb hts w_1 hown hK hP 0 rfl rfl 3 (by decide) w_0 (fun _ h9 => h9) rfl dX2_readText_174 ?_
      refine lv_aload_n hx hb dX2_readText_177 rfl (lv_at hl 0 rfl) ?_
      refine va_get (D := D) (ci := 2) (v := .int (m_scs M_167)) (C := RX2) (T := TX2) (N := 15) hx hb hts w_1 hown hK hP 0 rfl rfl 2 (by decide) w_2 (fun _ h9 => h9) rfl dX2_readText_178 ?_
      refine lv_icmp_ge (tgt := 191) hx hb dX2_readText_181 (by decide) (fun c_2 => ?_) (fun c_2 => ?_)
      · have h := it_l c_2 h
        refine lv_bipush (v := (-9)) hx hb dX2_readText_191 (by decide) ?_
        cases h
        exact Ck_iret hx hb hr hP hD hS dX2_readText_193 hlocks
      · have h := it_r c_2 h
        refine lv_aload_n hx hb dX2_readText_184 rfl (lv_at hl 0 rfl) ?_
        refine va_get (D := D) (ci := 2) (v := .int (m_spo M_167)) (C := RX2) (T := TX2) (N := 15) hx hb hts w_1 hown hK hP 0 rfl rfl 3 (by decide) w_0 (fun _ h9 => h9) rfl dX2_readText_185 ?_
        refine lv_goto (tgt := 193) hx hb dX2_readText_188 (by decide) ?_
        cases h
        exact Ck_iret hx hb hr hP hD hS dX2_readText_193 hlocks
  have hC_141 : ∀ (fu_141 : Nat) (x1_141 : Int32) (x2_141 : Int32) (M_141 : MdV) (H : Heap) (locs : List Loc) (ls : Array Slot), va_P D vwCl (mdW k b M_141) H → va_D A (mdW k b M_141) → va_S A s.heap H locs → lv_has ls 3 [(0, .ref (b 0)), (1, .int x1_141), (2, .int x2_141)] → f_X2_readText_141 fu_141 x1_141 x2_141 M_141 = some (o0, o1) → W p l e ({ frames := 3, cells := 0, slots := 0, locals := 76 } : Room) s m args below meth c H locs 0 0 (MQ below (Qk D A (some (.int o0)) (mdW k b o1)) args s 0 0 A) (F0 m 141 ls []) := by
    intro fu_141
    induction fu_141 with
    | zero => intro x1_141 x2_141 M_141 H locs ls _ _ _ _ h; exact (no_l h).elim
    | succ fu_141 ih_141 =>
      intro x1_141 x2_141 M_141 H locs ls hP hD hS hl h
      rw [f_X2_readText_141] at h
      refine lv_iload_n hx hb dX2_readText_141 rfl (lv_at hl 2 rfl) ?_
      refine lv_aload_n hx hb dX2_readText_142 rfl (lv_at hl 0 rfl) ?_
      refine va_get (D := D) (ci := 2) (v := .int (m_rdn M_141)) (C := RX2) (T := TX2) (N := 15) hx hb hts w_1 hown hK hP 0 rfl rfl 4 (by decide) w_3 (fun _ h9 => h9) rfl dX2_readText_143 ?_
      refine lv_icmp_ge (tgt := 167) hx hb dX2_readText_146 (by decide) (fun c_3 => ?_) (fun c_3 => ?_)
      · have h := it_l c_3 h
        exact hC_167 x1_141 M_141 _ _ _ hP hD hS (lv_sub hl [0, 1] rfl) h
      · have h := it_r c_3 h
        refine lv_iload_n hx hb dX2_readText_149 rfl (lv_at hl 1 rfl) ?_
        refine lv_bipush (v := (-9)) hx hb dX2_readText_150 (by decide) ?_
        refine lv_icmp_eq (tgt := 167) hx hb dX2_readText_152 (by decide) (fun c_4 => ?_) (fun c_4 => ?_)
        · have h := it_l c_4 h
          exact hC_167 x1_141 M_141 _ _ _ hP hD hS (lv_sub hl [0, 1] rfl) h
        · have h := it_r c_4 h
          refine lv_aload_n hx hb dX2_readText_155 rfl (lv_at hl 0 rfl) ?_
          refine lv_iload_n hx hb dX2_readText_156 rfl (lv_at hl 2 rfl) ?_
          obtain ⟨⟨v_5, q_6⟩, hv_7, h⟩ := bd_l h
          refine Ck_V (As := [.int x2_141]) (rest := []) (wc := mdW k b M_141) (wc' := mdW k b q_6) (w0' := mdW k b q_6) ⟨hx, hb, hml, hown, hts⟩ (c_X2_readEffect l D k b M_141 x2_141 v_5 q_6 hv_7) (cwV 1 hts gX2_readText_X2_readEffect rfl rfl rfl (by decide +kernel) ⟨Nat.le_of_ble_eq_true rfl, Nat.le_of_ble_eq_true rfl⟩) hK hP hD hS hA (q0 := 0) (ci := 2) rfl rfl [0, 1, 2, 3, 4, 5, 6, 7, 8, 9] rfl (by decide) rfl rfl rfl hl.1 rfl (Nat.le_of_ble_eq_true rfl) dX2_readText_157 ⟨Nat.le_of_ble_eq_true rfl, Nat.le_of_ble_eq_true rfl⟩ (fun H locs hP hD hS => ?_)
          refine W.eq (g2 := F0 m 160 ls [.int v_5]) rfl ?_
          refine lv_istore_n (lv' := [(1, .int v_5), (0, .ref (b 0)), (2, .int x2_141)]) hx hb dX2_readText_160 rfl hl (by decide) rfl (fun ls hl => ?_)
          refine lv_iinc (v := (x2_141 + 1)) (lv' := [(2, .int (x2_141 + 1)), (1, .int v_5), (0, .ref (b 0))]) hx hb dX2_readText_161 hl (k := 2) rfl rfl (by decide) rfl (fun ls hl => ?_)
          refine lv_goto (tgt := 141) hx hb dX2_readText_164 (by decide) ?_
          exact ih_141 v_5 (x2_141 + 1) q_6 _ _ _ hP hD hS (lv_sub hl [2, 1, 0] rfl) h
  have hC_70 : ∀ (fu_70 : Nat) (x1_70 : Int32) (x2_70 : Int32) (M_70 : MdV) (H : Heap) (locs : List Loc) (ls : Array Slot), va_P D vwCl (mdW k b M_70) H → va_D A (mdW k b M_70) → va_S A s.heap H locs → lv_has ls 3 [(0, .ref (b 0)), (1, .int x1_70), (2, .int x2_70)] → f_X2_readText_70 fu_70 x1_70 x2_70 M_70 = some (o0, o1) → W p l e ({ frames := 3, cells := 0, slots := 0, locals := 76 } : Room) s m args below meth c H locs 0 0 (MQ below (Qk D A (some (.int o0)) (mdW k b o1)) args s 0 0 A) (F0 m 70 ls []) := by
    intro fu_70
    induction fu_70 with
    | zero => intro x1_70 x2_70 M_70 H locs ls _ _ _ _ h; exact (no_l h).elim
    | succ fu_70 ih_70 =>
      intro x1_70 x2_70 M_70 H locs ls hP hD hS hl h
      rw [f_X2_readText_70] at h
      have hC_122 : ∀ (x2_122 : Int32) (t0_122 : Int32) (M_122 : MdV) (H : Heap) (locs : List Loc) (ls : Array Slot), va_P D vwCl (mdW k b M_122) H → va_D A (mdW k b M_122) → va_S A s.heap H locs → lv_has ls 3 [(0, .ref (b 0)), (2, .int x2_122)] → f_X2_readText_122 (f_X2_readText_70 fu_70) x2_122 t0_122 M_122 = some (o0, o1) → W p l e ({ frames := 3, cells := 0, slots := 0, locals := 76 } : Room) s m args below meth c H locs 0 0 (MQ below (Qk D A (some (.int o0)) (mdW k b o1)) args s 0 0 A) (F0 m 122 ls [.int t0_122]) := by
        intro x2_122 t0_122 M_122 H locs ls hP hD hS hl h
        unfold f_X2_readText_122 at h
        refine lv_istore_n (lv' := [(1, .int t0_122), (0, .ref (b 0)), (2, .int x2_122)]) hx hb dX2_readText_122 rfl hl (by decide) rfl (fun ls hl => ?_)
        refine lv_aload_n hx hb dX2_readText_123 rfl (lv_at hl 1 rfl) ?_
        refine va_get (D := D) (ci := 2) (v := .ref (b 2)) (C := RX2) (T := TX2) (N := 15) hx hb hts w_1 hown hK hP 0 rfl rfl 5 (by decide) w_4 (fun _ h9 => h9) rfl dX2_readText_124 ?_
        refine lv_bipush (v := 48) hx hb dX2_readText_127 (by decide) ?_
        refine lv_iload_n hx hb dX2_readText_129 rfl (lv_at hl 2 rfl) ?_
        refine lv_iadd hx hb dX2_readText_130 ?_
        refine lv_iload_n hx hb dX2_readText_131 rfl (lv_at hl 0 rfl) ?_
        have g_8 := inb_vp (gb_l h)
        have h := gb_r h
        refine va_iast hx hb hK hP hD hS 2 0 rfl rfl g_8 dX2_readText_132 (fun H locs hP hD hS => ?_)
        obtain ⟨q_9, eq_9⟩ : ∃ y : MdV, y = mu_rrw M_122 (upd (m_rrw M_122) (48 + x2_122).toNatClampNeg t0_122) := ⟨_, rfl⟩
        have hP : va_P D vwCl (mdW k b q_9) H := by rw [eq_9, ← md_set_rrw k b M_122 _]; exact hP
        have hD : va_D A (mdW k b q_9) := by rw [eq_9, ← md_set_rrw k b M_122 _]; exact hD
        have h := nm_l h eq_9
        refine lv_iinc (v := (x2_122 + 1)) (lv' := [(2, .int (x2_122 + 1)), (1, .int t0_122), (0, .ref (b 0))]) hx hb dX2_readText_133 hl (k := 2) rfl rfl (by decide) rfl (fun ls hl => ?_)
        refine lv_goto (tgt := 70) hx hb dX2_readText_136 (by decide) ?_
        exact ih_70 t0_122 (x2_122 + 1) q_9 _ _ _ hP hD hS (lv_sub hl [2, 1, 0] rfl) h
      refine lv_iload_n hx hb dX2_readText_70 rfl (lv_at hl 2 rfl) ?_
      refine lv_iconst (v := 5) hx hb dX2_readText_71 (by decide) ?_
      refine lv_icmp_ge (tgt := 139) hx hb dX2_readText_72 (by decide) (fun c_10 => ?_) (fun c_10 => ?_)
      · have h := it_l c_10 h
        refine lv_iconst (v := 0) hx hb dX2_readText_139 (by decide) ?_
        refine lv_istore_n (lv' := [(2, .int 0), (0, .ref (b 0)), (1, .int x1_70)]) hx hb dX2_readText_140 rfl hl (by decide) rfl (fun ls hl => ?_)
        exact hC_141 2000 x1_70 0 M_70 _ _ _ hP hD hS (lv_sub hl [1, 2, 0] rfl) h
      · have h := it_r c_10 h
        refine lv_iload_n hx hb dX2_readText_75 rfl (lv_at hl 1 rfl) ?_
        refine lv_bipush (v := (-9)) hx hb dX2_readText_76 (by decide) ?_
        refine lv_icmp_eq (tgt := 139) hx hb dX2_readText_78 (by decide) (fun c_11 => ?_) (fun c_11 => ?_)
        · have h := it_l c_11 h
          refine lv_iconst (v := 0) hx hb dX2_readText_139 (by decide) ?_
          refine lv_istore_n (lv' := [(2, .int 0), (0, .ref (b 0)), (1, .int x1_70)]) hx hb dX2_readText_140 rfl hl (by decide) rfl (fun ls hl => ?_)
          exact hC_141 2000 x1_70 0 M_70 _ _ _ hP hD hS (lv_sub hl [1, 2, 0] rfl) h
        · have h := it_r c_11 h
          refine lv_iload_n hx hb dX2_readText_81 rfl (lv_at hl 2 rfl) ?_
          refine lv_iconst (v := 2) hx hb dX2_readText_82 (by decide) ?_
          refine lv_icmp_ge (tgt := 98) hx hb dX2_readText_83 (by decide) (fun c_12 => ?_) (fun c_12 => ?_)
          · have h := it_l c_12 h
            refine lv_iload_n hx hb dX2_readText_98 rfl (lv_at hl 2 rfl) ?_
            refine lv_iconst (v := 4) hx hb dX2_readText_99 (by decide) ?_
            refine lv_icmp_ge (tgt := 114) hx hb dX2_readText_100 (by decide) (fun c_13 => ?_) (fun c_13 => ?_)
            · have h := it_l c_13 h
              refine lv_aload_n hx hb dX2_readText_114 rfl (lv_at hl 0 rfl) ?_
              refine lv_iconst (v := 2) hx hb dX2_readText_115 (by decide) ?_
              refine lv_iconst (v := 1) hx hb dX2_readText_116 (by decide) ?_
              refine lv_bipush (v := 20) hx hb dX2_readText_117 (by decide) ?_
              obtain ⟨⟨v_14, q_15⟩, hv_16, h⟩ := bd_l h
              refine Ck_V (As := [.int 2, .int 1, .int 20]) (rest := []) (wc := mdW k b M_70) (wc' := mdW k b q_15) (w0' := mdW k b q_15) ⟨hx, hb, hml, hown, hts⟩ (c_X2_number l D k b M_70 2 1 20 v_14 q_15 hv_16) (cwV 3 hts gX2_readText_X2_number rfl rfl rfl (by decide +kernel) ⟨Nat.le_of_ble_eq_true rfl, Nat.le_of_ble_eq_true rfl⟩) hK hP hD hS hA (q0 := 0) (ci := 2) rfl rfl [0, 1, 2, 3, 4, 5, 6, 7, 8, 9] rfl (by decide) rfl rfl rfl hl.1 rfl (Nat.le_of_ble_eq_true rfl) dX2_readText_119 ⟨Nat.le_of_ble_eq_true rfl, Nat.le_of_ble_eq_true rfl⟩ (fun H locs hP hD hS => ?_)
              refine W.eq (g2 := F0 m 122 ls [.int v_14]) rfl ?_
              exact hC_122 x2_70 v_14 q_15 _ _ _ hP hD hS (lv_sub hl [0, 2] rfl) h
            · have h := it_r c_13 h
              refine lv_aload_n hx hb dX2_readText_103 rfl (lv_at hl 0 rfl) ?_
              refine lv_iconst (v := 2) hx hb dX2_readText_104 (by decide) ?_
              refine lv_iconst (v := 0) hx hb dX2_readText_105 (by decide) ?_
              refine lv_bipush (v := 99) hx hb dX2_readText_106 (by decide) ?_
              obtain ⟨⟨v_17, q_18⟩, hv_19, h⟩ := bd_l h
              refine Ck_V (As := [.int 2, .int 0, .int 99]) (rest := []) (wc := mdW k b M_70) (wc' := mdW k b q_18) (w0' := mdW k b q_18) ⟨hx, hb, hml, hown, hts⟩ (c_X2_number l D k b M_70 2 0 99 v_17 q_18 hv_19) (cwV 3 hts gX2_readText_X2_number rfl rfl rfl (by decide +kernel) ⟨Nat.le_of_ble_eq_true rfl, Nat.le_of_ble_eq_true rfl⟩) hK hP hD hS hA (q0 := 0) (ci := 2) rfl rfl [0, 1, 2, 3, 4, 5, 6, 7, 8, 9] rfl (by decide) rfl rfl rfl hl.1 rfl (Nat.le_of_ble_eq_true rfl) dX2_readText_108 ⟨Nat.le_of_ble_eq_true rfl, Nat.le_of_ble_eq_true rfl⟩ (fun H locs hP hD hS => ?_)
              refine W.eq (g2 := F0 m 111 ls [.int v_17]) rfl ?_
              refine lv_goto (tgt := 122) hx hb dX2_readText_111 (by decide) ?_
              exact hC_122 x2_70 v_17 q_18 _ _ _ hP hD hS (lv_sub hl [0, 2] rfl) h
          · have h := it_r c_12 h
            refine lv_aload_n hx hb dX2_readText_86 rfl (lv_at hl 0 rfl) ?_
            refine lv_iconst (v := 3) hx hb dX2_readText_87 (by decide) ?_
            refine lv_iconst (v := 0) hx hb dX2_readText_88 (by decide) ?_
            refine lv_sipush (v := 999) hx hb dX2_readText_89 (by decide) ?_
            obtain ⟨⟨v_20, q_21⟩, hv_22, h⟩ := bd_l h
            refine Ck_V (As := [.int 3, .int 0, .int 999]) (rest := []) (wc := mdW k b M_70) (wc' := mdW k b q_21) (w0' := mdW k b q_21) ⟨hx, hb, hml, hown, hts⟩ (c_X2_number l D k b M_70 3 0 999 v_20 q_21 hv_22) (cwV 3 hts gX2_readText_X2_number rfl rfl rfl (by decide +kernel) ⟨Nat.le_of_ble_eq_true rfl, Nat.le_of_ble_eq_true rfl⟩) hK hP hD hS hA (q0 := 0) (ci := 2) rfl rfl [0, 1, 2, 3, 4, 5, 6, 7, 8, 9] rfl (by decide) rfl rfl rfl hl.1 rfl (Nat.le_of_ble_eq_true rfl) dX2_readText_92 ⟨Nat.le_of_ble_eq_true rfl, Nat.le_of_ble_eq_true rfl⟩ (fun H locs hP hD hS => ?_)
            refine W.eq (g2 := F0 m 95 ls [.int v_20]) rfl ?_
            refine lv_goto (tgt := 122) hx hb dX2_readText_95 (by decide) ?_
            exact hC_122 x2_70 v_20 q_21 _ _ _ hP hD hS (lv_sub hl [0, 2] rfl) h
  have hC_2 : ∀ (fu_2 : Nat) (x1_2 : Int32) (M_2 : MdV) (H : Heap) (locs : List Loc) (ls : Array Slot), va_P D vwCl (mdW k b M_2) H → va_D A (mdW k b M_2) → va_S A s.heap H locs → lv_has ls 3 [(0, .ref (b 0)), (1, .int x1_2)] → f_X2_readText_2 fu_2 x1_2 M_2 = some (o0, o1) → W p l e ({ frames := 3, cells := 0, slots := 0, locals := 76 } : Room) s m args below meth c H locs 0 0 (MQ below (Qk D A (some (.int o0)) (mdW k b o1)) args s 0 0 A) (F0 m 2 ls []) := by
    intro fu_2
    induction fu_2 with
    | zero => intro x1_2 M_2 H locs ls _ _ _ _ h; exact (no_l h).elim
    | succ fu_2 ih_2 =>
      intro x1_2 M_2 H locs ls hP hD hS hl h
      rw [f_X2_readText_2] at h
      refine lv_iload_n hx hb dX2_readText_2 rfl (lv_at hl 1 rfl) ?_
      refine lv_bipush (v := 64) hx hb dX2_readText_3 (by decide) ?_
      refine lv_icmp_ge (tgt := 21) hx hb dX2_readText_5 (by decide) (fun c_23 => ?_) (fun c_23 => ?_)
      · have h := it_l c_23 h
        refine lv_aload_n hx hb dX2_readText_21 rfl (lv_at hl 0 rfl) ?_
        refine lv_iconst (v := 0) hx hb dX2_readText_22 (by decide) ?_
        refine va_put (D := D) (ci := 2) (v := .int 0) (ty := .int) (C := RX2) (T := TX2) (N := 15) hx hb hts w_1 tyX2 tyX2_ok nmX2 hown hK hP hD hS 0 rfl rfl 3 (by decide) w_0 (fun _ h9 => h9) rfl (by decide +kernel) rfl rfl (Nat.le_of_ble_eq_true rfl) dX2_readText_23 (fun H locs hP hD hS => ?_)
        obtain ⟨q_24, eq_24⟩ : ∃ y : MdV, y = mu_spo M_2 0 := ⟨_, rfl⟩
        have hP : va_P D vwCl (mdW k b q_24) H := by rw [eq_24, ← md_set_spo k b M_2 _]; exact hP
        have hD : va_D A (mdW k b q_24) := by rw [eq_24, ← md_set_spo k b M_2 _]; exact hD
        have h := nm_l h eq_24
        refine lv_aload_n hx hb dX2_readText_26 rfl (lv_at hl 0 rfl) ?_
        refine va_get (D := D) (ci := 2) (v := .int (m_scs q_24)) (C := RX2) (T := TX2) (N := 15) hx hb hts w_1 hown hK hP 0 rfl rfl 2 (by decide) w_2 (fun _ h9 => h9) rfl dX2_readText_27 ?_
        refine lv_if_eq (tgt := 44) hx hb dX2_readText_30 (by decide) (fun c_25 => ?_) (fun c_25 => ?_)
        · have h := it_l c_25 h
          refine lv_iconst (v := 0) hx hb dX2_readText_44 (by decide) ?_
          cases h
          exact Ck_iret hx hb hr hP hD hS dX2_readText_45 hlocks
        · have h := it_r c_25 h
          refine lv_aload_n hx hb dX2_readText_33 rfl (lv_at hl 0 rfl) ?_
          refine va_get (D := D) (ci := 2) (v := .ref (b 1)) (C := RX2) (T := TX2) (N := 15) hx hb hts w_1 hown hK hP 0 rfl rfl 1 (by decide) w_5 (fun _ h9 => h9) rfl dX2_readText_34 ?_
          refine lv_iconst (v := 0) hx hb dX2_readText_37 (by decide) ?_
          refine va_iald hx hb hK hP 1 0 rfl rfl (inb_vp (by decide)) dX2_readText_38 ?_
          refine W.eq (g2 := F0 m 39 ls [.int ((m_scr q_24) 0)]) rfl ?_
          refine lv_bipush (v := 69) hx hb dX2_readText_39 (by decide) ?_
          refine lv_icmp_eq (tgt := 46) hx hb dX2_readText_41 (by decide) (fun c_26 => ?_) (fun c_26 => ?_)
          · have h := it_l c_26 h
            refine lv_aload_n hx hb dX2_readText_46 rfl (lv_at hl 0 rfl) ?_
            refine lv_iconst (v := 1) hx hb dX2_readText_47 (by decide) ?_
            refine va_put (D := D) (ci := 2) (v := .int 1) (ty := .int) (C := RX2) (T := TX2) (N := 15) hx hb hts w_1 tyX2 tyX2_ok nmX2 hown hK hP hD hS 0 rfl rfl 3 (by decide) w_0 (fun _ h9 => h9) rfl (by decide +kernel) rfl rfl (Nat.le_of_ble_eq_true rfl) dX2_readText_48 (fun H locs hP hD hS => ?_)
            obtain ⟨q_27, eq_27⟩ : ∃ y : MdV, y = mu_spo q_24 1 := ⟨_, rfl⟩
            have hP : va_P D vwCl (mdW k b q_27) H := by rw [eq_27, ← md_set_spo k b q_24 _]; exact hP
            have hD : va_D A (mdW k b q_27) := by rw [eq_27, ← md_set_spo k b q_24 _]; exact hD
            have h := nm_l h eq_27
            refine lv_aload_n hx hb dX2_readText_51 rfl (lv_at hl 0 rfl) ?_
            refine lv_aload_n hx hb dX2_readText_52 rfl (lv_at hl 0 rfl) ?_
            refine lv_iconst (v := 1) hx hb dX2_readText_53 (by decide) ?_
            refine lv_iconst (v := 2) hx hb dX2_readText_54 (by decide) ?_
            refine lv_bipush (v := 6) hx hb dX2_readText_55 (by decide) ?_
            obtain ⟨⟨v_28, q_29⟩, hv_30, h⟩ := bd_l h
            refine Ck_V (As := [.int 1, .int 2, .int 6]) (rest := [.ref (b 0)]) (wc := mdW k b q_27) (wc' := mdW k b q_29) (w0' := mdW k b q_29) ⟨hx, hb, hml, hown, hts⟩ (c_X2_number l D k b q_27 1 2 6 v_28 q_29 hv_30) (cwV 3 hts gX2_readText_X2_number rfl rfl rfl (by decide +kernel) ⟨Nat.le_of_ble_eq_true rfl, Nat.le_of_ble_eq_true rfl⟩) hK hP hD hS hA (q0 := 0) (ci := 2) rfl rfl [0, 1, 2, 3, 4, 5, 6, 7, 8, 9] rfl (by decide) rfl rfl rfl hl.1 rfl (Nat.le_of_ble_eq_true rfl) dX2_readText_57 ⟨Nat.le_of_ble_eq_true rfl, Nat.le_of_ble_eq_true rfl⟩ (fun H locs hP hD hS => ?_)
            refine W.eq (g2 := F0 m 60 ls [.int v_28, .ref (b 0)]) rfl ?_
            refine va_put (D := D) (ci := 2) (v := .int v_28) (ty := .int) (C := RX2) (T := TX2) (N := 15) hx hb hts w_1 tyX2 tyX2_ok nmX2 hown hK hP hD hS 0 rfl rfl 4 (by decide) w_3 (fun _ h9 => h9) rfl (by decide +kernel) rfl rfl (Nat.le_of_ble_eq_true rfl) dX2_readText_60 (fun H locs hP hD hS => ?_)
            obtain ⟨q_31, eq_31⟩ : ∃ y : MdV, y = mu_rdn q_29 v_28 := ⟨_, rfl⟩
            have hP : va_P D vwCl (mdW k b q_31) H := by rw [eq_31, ← md_set_rdn k b q_29 _]; exact hP
            have hD : va_D A (mdW k b q_31) := by rw [eq_31, ← md_set_rdn k b q_29 _]; exact hD
            have h := nm_l h eq_31
            refine lv_aload_n hx hb dX2_readText_63 rfl (lv_at hl 0 rfl) ?_
            refine va_get (D := D) (ci := 2) (v := .int (m_rdn q_31)) (C := RX2) (T := TX2) (N := 15) hx hb hts w_1 hown hK hP 0 rfl rfl 4 (by decide) w_3 (fun _ h9 => h9) rfl dX2_readText_64 ?_
            refine lv_topi (fun v_32 ev_32 => ?_)
            have h := nm_l h ev_32
            refine lv_istore_n (lv' := [(1, .int v_32), (0, .ref (b 0))]) hx hb dX2_readText_67 rfl hl (by decide) rfl (fun ls hl => ?_)
            refine lv_iconst (v := 0) hx hb dX2_readText_68 (by decide) ?_
            refine lv_istore_n (lv' := [(2, .int 0), (1, .int v_32), (0, .ref (b 0))]) hx hb dX2_readText_69 rfl hl (by decide) rfl (fun ls hl => ?_)
            exact hC_70 2000 v_32 0 q_31 _ _ _ hP hD hS (lv_sub hl [2, 1, 0] rfl) h
          · have h := it_r c_26 h
            refine lv_iconst (v := 0) hx hb dX2_readText_44 (by decide) ?_
            cases h
            exact Ck_iret hx hb hr hP hD hS dX2_readText_45 hlocks
      · have h := it_r c_23 h
        refine lv_aload_n hx hb dX2_readText_8 rfl (lv_at hl 0 rfl) ?_
        refine va_get (D := D) (ci := 2) (v := .ref (b 2)) (C := RX2) (T := TX2) (N := 15) hx hb hts w_1 hown hK hP 0 rfl rfl 5 (by decide) w_4 (fun _ h9 => h9) rfl dX2_readText_9 ?_
        refine lv_iload_n hx hb dX2_readText_12 rfl (lv_at hl 1 rfl) ?_
        refine lv_iconst (v := 0) hx hb dX2_readText_13 (by decide) ?_
        have g_33 := inb_vp (gb_l h)
        have h := gb_r h
        refine va_iast hx hb hK hP hD hS 2 0 rfl rfl g_33 dX2_readText_14 (fun H locs hP hD hS => ?_)
        obtain ⟨q_34, eq_34⟩ : ∃ y : MdV, y = mu_rrw M_2 (upd (m_rrw M_2) x1_2.toNatClampNeg 0) := ⟨_, rfl⟩
        have hP : va_P D vwCl (mdW k b q_34) H := by rw [eq_34, ← md_set_rrw k b M_2 _]; exact hP
        have hD : va_D A (mdW k b q_34) := by rw [eq_34, ← md_set_rrw k b M_2 _]; exact hD
        have h := nm_l h eq_34
        refine lv_iinc (v := (x1_2 + 1)) (lv' := [(1, .int (x1_2 + 1)), (0, .ref (b 0))]) hx hb dX2_readText_15 hl (k := 1) rfl rfl (by decide) rfl (fun ls hl => ?_)
        refine lv_goto (tgt := 2) hx hb dX2_readText_18 (by decide) ?_
        exact ih_2 (x1_2 + 1) q_34 _ _ _ hP hD hS (lv_sub hl [1, 0] rfl) h
  refine lv_iconst (v := 0) hx hb dX2_readText_0 (by decide) ?_
  refine lv_istore_n (lv' := [(1, .int 0), (0, .ref (b 0))]) hx hb dX2_readText_1 rfl hl (by decide) rfl (fun ls hl => ?_)
  exact hC_2 2000 0 M _ _ _ hP hD hS (lv_sub hl [1, 0] rfl) h
