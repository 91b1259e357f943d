/-! the law's wrappers -/
set_option maxRecDepth 100000 in
set_option maxHeartbeats 4000000 in
theorem c_L_append (l : Launch) (D : va_G) (k : Nat → ClassId) (x : Nat) (p1 : Int32) (wc wx wr : va_W) (oc : Oc) (fs : List Value) (he : wc[0]? = some (x, .inr (1, fs))) (hfx : wx.map Prod.fst = wc.map Prod.fst) (hx1 : ∀ E, oc = .inl E → E = xR ∨ E = xS) (hvv : ∀ (B : Option Value → va_W → Prop) (ov : Option Value) (w : va_W), oc = .inr B → B ov w → ∃ v, ov = some (.int v)) (hCx : Cx l D (tyK k) yX1_append wsX1_append ({ frames := 7, cells := 2, slots := 12, locals := 104 } : Room) [.ref x, .int p1] wc wx oc) : Cl l D (tyK k) yL_append wsL_append ({ frames := 8, cells := 2, slots := 12, locals := 125 } : Room) [.ref x, .int p1] (wc ++ wr) (.inr (fun (ov : Option Value) (w : va_W) => (oc = .inl xR ∧ ov = some (.long (-9000000000000000002)) ∧ w = wx ++ wr) ∨ (oc = .inl xS ∧ ov = some (.long (-9000000000000000003)) ∧ w = wx ++ wr) ∨ ∃ (B : Option Value → va_W → Prop) (v : Int32) (w2 : va_W), oc = .inr B ∧ B (some (.int v)) w2 ∧ ov = some (.long v.toInt64) ∧ w = w2 ++ wr)) := by
  obtain ⟨O, hO⟩ : ∃ O : Oc, O = .inr (fun (ov : Option Value) (w : va_W) => (oc = .inl xR ∧ ov = some (.long (-9000000000000000002)) ∧ w = wx ++ wr) ∨ (oc = .inl xS ∧ ov = some (.long (-9000000000000000003)) ∧ w = wx ++ wr) ∨ ∃ (B : Option Value → va_W → Prop) (v : Int32) (w2 : va_W), oc = .inr B ∧ B (some (.int v)) w2 ∧ ov = some (.long v.toInt64) ∧ w = w2 ++ wr) := ⟨_, rfl⟩
  rw [← hO]
  refine Cl_of (cc := cL_append) (maxL := 3) (ret := (some .long)) (hh := [(0, 6, 7, 15), (0, 6, 12, 19)]) (by decide) rfl (Nat.le_of_ble_eq_true rfl) ?_
  intro p e s m args below meth c A ls hx hb hr hml hts hown hlocks htab hK hG hC hA hP hD hS hl
  have hl : lv_has ls 3 [(0, .ref x), (1, .int p1)] := hl
  refine lv_aload_n hx hb dL_append_0 rfl (lv_at hl 0 rfl) ?_
  refine lv_iload_n hx hb dL_append_1 rfl (lv_at hl 1 rfl) ?_
  refine Cx_goF (wc := wc) (wx := wx) (wr := wr) (vx_runV (As := [.int p1]) (rest := []) ⟨hx, hb, hml, hown, hts⟩ (hCx _) (cwV 1 hts gL_append_X1_append rfl rfl rfl (by decide +kernel) ⟨(Nat.le_of_ble_eq_true rfl), (Nat.le_of_ble_eq_true rfl)⟩) ⟨Px_blind, va_recv (q0 := 0) (ci := 1) hK hP rfl (by rw [List.getElem?_append_left (List.getElem?_eq_some_iff.mp he).1]; exact he), Px_at (wc := wc) hK hG hP hD hS hA (List.range wc.length) (rg_hi _ _) (rg_nd _)⟩ rfl rfl hl.1 rfl (Nat.le_of_ble_eq_true rfl) dL_append_2 ⟨(Nat.le_of_ble_eq_true rfl), (Nat.le_of_ble_eq_true rfl)⟩) hP hD hS hA hfx ?_ ?_
  · intro E ce q9 H1 locs1 h1 hP1 hD1 hS1 hce hcv hcl
    have w_15 := hts (.classLink RL 15 "java/lang/IllegalArgumentException") (by decide +kernel)
    have w_19 := hts (.classLink RL 19 "java/lang/IllegalStateException") (by decide +kernel)
    rcases hx1 E h1 with rfl | rfl
    · have hca : (Cond.castable xR "java/lang/IllegalArgumentException").before args s = true := va_Nw.use rfl (hG.2.2.1.2.1 "java/lang/IllegalArgumentException" (by decide +kernel))
      refine vx_catch (own := RL) (name := "java/lang/IllegalArgumentException") hown [] ⟨0, 6, 7, 15⟩ [⟨0, 6, 12, 19⟩] (htab.trans rfl) (fun z hz => by cases hz) rfl (by decide) w_15 hca hce hcv hcl ?_
      refine lv_astore_n (lv' := [(2, .ref q9), (0, .ref x), (1, .int p1)]) hx hb dL_append_7 rfl hl (by decide) rfl (fun ls hl => ?_)
      refine lv_ldc2 (v := (-9000000000000000002)) hx hb hown (hts (.constantLong RL 17 (-9000000000000000002)) (by decide +kernel)) dL_append_8 ?_
      exact Cx_lret hO (Or.inl ⟨h1, rfl, rfl⟩) (Nat.le_of_ble_eq_true rfl) (Nat.le_of_ble_eq_true rfl) hx hb hr hP1 hD1 hS1 dL_append_11 hlocks
    · have hca : (Cond.castable xS "java/lang/IllegalStateException").before args s = true := va_Nw.use rfl (hG.2.2.1.2.1 "java/lang/IllegalStateException" (by decide +kernel))
      refine vx_catch (own := RL) (name := "java/lang/IllegalStateException") hown [⟨0, 6, 7, 15⟩] ⟨0, 6, 12, 19⟩ [] (htab.trans rfl) (List.forall_mem_cons.mpr ⟨Or.inr ⟨by decide, "java/lang/IllegalArgumentException", w_15, hC.2.2⟩, (fun z hz => by cases hz)⟩) rfl (by decide) w_19 hca hce hcv hcl ?_
      refine lv_astore_n (lv' := [(2, .ref q9), (0, .ref x), (1, .int p1)]) hx hb dL_append_12 rfl hl (by decide) rfl (fun ls hl => ?_)
      refine lv_ldc2 (v := (-9000000000000000003)) hx hb hown (hts (.constantLong RL 21 (-9000000000000000003)) (by decide +kernel)) dL_append_13 ?_
      exact Cx_lret hO (Or.inr (Or.inl ⟨h1, rfl, rfl⟩)) (Nat.le_of_ble_eq_true rfl) (Nat.le_of_ble_eq_true rfl) hx hb hr hP1 hD1 hS1 dL_append_16 hlocks
  · intro ov B w1 H locs h1 hB hP hD hS
    obtain ⟨v, rfl⟩ := hvv B ov w1 h1 hB
    refine W.eq (g2 := F0 m 5 ls [.int v]) rfl ?_
    refine lv_i2l hx hb dL_append_5 rfl ?_
    exact Cx_lret hO (Or.inr (Or.inr (⟨B, v, w1, h1, hB, rfl, rfl⟩))) (Nat.le_of_ble_eq_true rfl) (Nat.le_of_ble_eq_true rfl) hx hb hr hP hD hS dL_append_6 hlocks
set_option maxRecDepth 100000 in
set_option maxHeartbeats 4000000 in
theorem c_L_load (l : Launch) (D : va_G) (k : Nat → ClassId) (x : Nat) (wc wx wr : va_W) (oc : Oc) (fs : List Value) (he : wc[0]? = some (x, .inr (1, fs))) (hfx : wx.map Prod.fst = wc.map Prod.fst) (hx1 : ∀ E, oc = .inl E → E = xS) (hvv : ∀ (B : Option Value → va_W → Prop) (ov : Option Value) (w : va_W), oc = .inr B → B ov w → ∃ v, ov = some (.int v)) (hCx : Cx l D (tyK k) yX1_load wsX1_load ({ frames := 6, cells := 7, slots := 42, locals := 83 } : Room) [.ref x] wc wx oc) : Cl l D (tyK k) yL_load wsL_load ({ frames := 7, cells := 7, slots := 42, locals := 104 } : Room) [.ref x] (wc ++ wr) (.inr (fun (ov : Option Value) (w : va_W) => (oc = .inl xS ∧ ov = some (.long (-9000000000000000003)) ∧ w = wx ++ wr) ∨ ∃ (B : Option Value → va_W → Prop) (v : Int32) (w2 : va_W), oc = .inr B ∧ B (some (.int v)) w2 ∧ ov = some (.long v.toInt64) ∧ w = w2 ++ wr)) := by
  obtain ⟨O, hO⟩ : ∃ O : Oc, O = .inr (fun (ov : Option Value) (w : va_W) => (oc = .inl xS ∧ ov = some (.long (-9000000000000000003)) ∧ w = wx ++ wr) ∨ ∃ (B : Option Value → va_W → Prop) (v : Int32) (w2 : va_W), oc = .inr B ∧ B (some (.int v)) w2 ∧ ov = some (.long v.toInt64) ∧ w = w2 ++ wr) := ⟨_, rfl⟩
  rw [← hO]
  refine Cl_of (cc := cL_load) (maxL := 2) (ret := (some .long)) (hh := [(0, 5, 6, 19)]) (by decide) rfl (Nat.le_of_ble_eq_true rfl) ?_
  intro p e s m args below meth c A ls hx hb hr hml hts hown hlocks htab hK hG hC hA hP hD hS hl
  have hl : lv_has ls 2 [(0, .ref x)] := hl
  refine lv_aload_n hx hb dL_load_0 rfl (lv_at hl 0 rfl) ?_
  refine Cx_goF (wc := wc) (wx := wx) (wr := wr) (vx_runV (As := []) (rest := []) ⟨hx, hb, hml, hown, hts⟩ (hCx _) (cwV 0 hts gL_load_X1_load rfl rfl rfl (by decide +kernel) ⟨(Nat.le_of_ble_eq_true rfl), (Nat.le_of_ble_eq_true rfl)⟩) ⟨Px_blind, va_recv (q0 := 0) (ci := 1) hK hP rfl (by rw [List.getElem?_append_left (List.getElem?_eq_some_iff.mp he).1]; exact he), Px_at (wc := wc) hK hG hP hD hS hA (List.range wc.length) (rg_hi _ _) (rg_nd _)⟩ rfl rfl hl.1 rfl (Nat.le_of_ble_eq_true rfl) dL_load_1 ⟨(Nat.le_of_ble_eq_true rfl), (Nat.le_of_ble_eq_true rfl)⟩) hP hD hS hA hfx ?_ ?_
  · intro E ce q9 H1 locs1 h1 hP1 hD1 hS1 hce hcv hcl
    have w_19 := hts (.classLink RL 19 "java/lang/IllegalStateException") (by decide +kernel)
    rcases hx1 E h1 with rfl
    · have hca : (Cond.castable xS "java/lang/IllegalStateException").before args s = true := va_Nw.use rfl (hG.2.2.1.2.1 "java/lang/IllegalStateException" (by decide +kernel))
      refine vx_catch (own := RL) (name := "java/lang/IllegalStateException") hown [] ⟨0, 5, 6, 19⟩ [] (htab.trans rfl) (fun z hz => by cases hz) rfl (by decide) w_19 hca hce hcv hcl ?_
      refine lv_astore_n (lv' := [(1, .ref q9), (0, .ref x)]) hx hb dL_load_6 rfl hl (by decide) rfl (fun ls hl => ?_)
      refine lv_ldc2 (v := (-9000000000000000003)) hx hb hown (hts (.constantLong RL 21 (-9000000000000000003)) (by decide +kernel)) dL_load_7 ?_
      exact Cx_lret hO (Or.inl ⟨h1, rfl, rfl⟩) (Nat.le_of_ble_eq_true rfl) (Nat.le_of_ble_eq_true rfl) hx hb hr hP1 hD1 hS1 dL_load_10 hlocks
  · intro ov B w1 H locs h1 hB hP hD hS
    obtain ⟨v, rfl⟩ := hvv B ov w1 h1 hB
    refine W.eq (g2 := F0 m 4 ls [.int v]) rfl ?_
    refine lv_i2l hx hb dL_load_4 rfl ?_
    exact Cx_lret hO (Or.inr (⟨B, v, w1, h1, hB, rfl, rfl⟩)) (Nat.le_of_ble_eq_true rfl) (Nat.le_of_ble_eq_true rfl) hx hb hr hP hD hS dL_load_5 hlocks
set_option maxRecDepth 100000 in
set_option maxHeartbeats 4000000 in
theorem c_L_about (l : Launch) (D : va_G) (k : Nat → ClassId) (x : Nat) (p1 : Int32) (wc wx wr : va_W) (oc : Oc) (fs : List Value) (he : wc[0]? = some (x, .inr (1, fs))) (hfx : wx.map Prod.fst = wc.map Prod.fst) (hx1 : ∀ E, oc = .inl E → E = xR) (hvv : ∀ (B : Option Value → va_W → Prop) (ov : Option Value) (w : va_W), oc = .inr B → B ov w → ∃ v, ov = some (.int v)) (hCx : Cx l D (tyK k) yX1_about wsX1_about ({ frames := 7, cells := 1, slots := 6, locals := 104 } : Room) [.ref x, .int p1] wc wx oc) : Cl l D (tyK k) yL_about wsL_about ({ frames := 8, cells := 1, slots := 6, locals := 125 } : Room) [.ref x, .int p1] (wc ++ wr) (.inr (fun (ov : Option Value) (w : va_W) => (oc = .inl xR ∧ ov = some (.long (-9000000000000000002)) ∧ w = wx ++ wr) ∨ ∃ (B : Option Value → va_W → Prop) (v : Int32) (w2 : va_W), oc = .inr B ∧ B (some (.int v)) w2 ∧ ov = some (.long v.toInt64) ∧ w = w2 ++ wr)) := by
  obtain ⟨O, hO⟩ : ∃ O : Oc, O = .inr (fun (ov : Option Value) (w : va_W) => (oc = .inl xR ∧ ov = some (.long (-9000000000000000002)) ∧ w = wx ++ wr) ∨ ∃ (B : Option Value → va_W → Prop) (v : Int32) (w2 : va_W), oc = .inr B ∧ B (some (.int v)) w2 ∧ ov = some (.long v.toInt64) ∧ w = w2 ++ wr) := ⟨_, rfl⟩
  rw [← hO]
  refine Cl_of (cc := cL_about) (maxL := 3) (ret := (some .long)) (hh := [(0, 6, 7, 15)]) (by decide) rfl (Nat.le_of_ble_eq_true rfl) ?_
  intro p e s m args below meth c A ls hx hb hr hml hts hown hlocks htab hK hG hC hA hP hD hS hl
  have hl : lv_has ls 3 [(0, .ref x), (1, .int p1)] := hl
  refine lv_aload_n hx hb dL_about_0 rfl (lv_at hl 0 rfl) ?_
  refine lv_iload_n hx hb dL_about_1 rfl (lv_at hl 1 rfl) ?_
  refine Cx_goF (wc := wc) (wx := wx) (wr := wr) (vx_runV (As := [.int p1]) (rest := []) ⟨hx, hb, hml, hown, hts⟩ (hCx _) (cwV 1 hts gL_about_X1_about rfl rfl rfl (by decide +kernel) ⟨(Nat.le_of_ble_eq_true rfl), (Nat.le_of_ble_eq_true rfl)⟩) ⟨Px_blind, va_recv (q0 := 0) (ci := 1) hK hP rfl (by rw [List.getElem?_append_left (List.getElem?_eq_some_iff.mp he).1]; exact he), Px_at (wc := wc) hK hG hP hD hS hA (List.range wc.length) (rg_hi _ _) (rg_nd _)⟩ rfl rfl hl.1 rfl (Nat.le_of_ble_eq_true rfl) dL_about_2 ⟨(Nat.le_of_ble_eq_true rfl), (Nat.le_of_ble_eq_true rfl)⟩) hP hD hS hA hfx ?_ ?_
  · intro E ce q9 H1 locs1 h1 hP1 hD1 hS1 hce hcv hcl
    have w_15 := hts (.classLink RL 15 "java/lang/IllegalArgumentException") (by decide +kernel)
    rcases hx1 E h1 with rfl
    · have hca : (Cond.castable xR "java/lang/IllegalArgumentException").before args s = true := va_Nw.use rfl (hG.2.2.1.2.1 "java/lang/IllegalArgumentException" (by decide +kernel))
      refine vx_catch (own := RL) (name := "java/lang/IllegalArgumentException") hown [] ⟨0, 6, 7, 15⟩ [] (htab.trans rfl) (fun z hz => by cases hz) rfl (by decide) w_15 hca hce hcv hcl ?_
      refine lv_astore_n (lv' := [(2, .ref q9), (0, .ref x), (1, .int p1)]) hx hb dL_about_7 rfl hl (by decide) rfl (fun ls hl => ?_)
      refine lv_ldc2 (v := (-9000000000000000002)) hx hb hown (hts (.constantLong RL 17 (-9000000000000000002)) (by decide +kernel)) dL_about_8 ?_
      exact Cx_lret hO (Or.inl ⟨h1, rfl, rfl⟩) (Nat.le_of_ble_eq_true rfl) (Nat.le_of_ble_eq_true rfl) hx hb hr hP1 hD1 hS1 dL_about_11 hlocks
  · intro ov B w1 H locs h1 hB hP hD hS
    obtain ⟨v, rfl⟩ := hvv B ov w1 h1 hB
    refine W.eq (g2 := F0 m 5 ls [.int v]) rfl ?_
    refine lv_i2l hx hb dL_about_5 rfl ?_
    exact Cx_lret hO (Or.inr (⟨B, v, w1, h1, hB, rfl, rfl⟩)) (Nat.le_of_ble_eq_true rfl) (Nat.le_of_ble_eq_true rfl) hx hb hr hP hD hS dL_about_6 hlocks
set_option maxRecDepth 100000 in
set_option maxHeartbeats 4000000 in
theorem c_L_total (l : Launch) (D : va_G) (k : Nat → ClassId) (x : Nat) (p1 : Int32) (wc wx wr : va_W) (oc : Oc) (fs : List Value) (he : wc[0]? = some (x, .inr (1, fs))) (hfx : wx.map Prod.fst = wc.map Prod.fst) (hx1 : ∀ E, oc = .inl E → E = xR) (hvv : ∀ (B : Option Value → va_W → Prop) (ov : Option Value) (w : va_W), oc = .inr B → B ov w → ∃ v, ov = some (.int v)) (hCx : Cx l D (tyK k) yX1_total wsX1_total ({ frames := 7, cells := 1, slots := 6, locals := 104 } : Room) [.ref x, .int p1] wc wx oc) : Cl l D (tyK k) yL_total wsL_total ({ frames := 8, cells := 1, slots := 6, locals := 125 } : Room) [.ref x, .int p1] (wc ++ wr) (.inr (fun (ov : Option Value) (w : va_W) => (oc = .inl xR ∧ ov = some (.long (-9000000000000000002)) ∧ w = wx ++ wr) ∨ ∃ (B : Option Value → va_W → Prop) (v : Int32) (w2 : va_W), oc = .inr B ∧ B (some (.int v)) w2 ∧ ov = some (.long v.toInt64) ∧ w = w2 ++ wr)) := by
  obtain ⟨O, hO⟩ : ∃ O : Oc, O = .inr (fun (ov : Option Value) (w : va_W) => (oc = .inl xR ∧ ov = some (.long (-9000000000000000002)) ∧ w = wx ++ wr) ∨ ∃ (B : Option Value → va_W → Prop) (v : Int32) (w2 : va_W), oc = .inr B ∧ B (some (.int v)) w2 ∧ ov = some (.long v.toInt64) ∧ w = w2 ++ wr) := ⟨_, rfl⟩
  rw [← hO]
  refine Cl_of (cc := cL_total) (maxL := 3) (ret := (some .long)) (hh := [(0, 6, 7, 15)]) (by decide) rfl (Nat.le_of_ble_eq_true rfl) ?_
  intro p e s m args below meth c A ls hx hb hr hml hts hown hlocks htab hK hG hC hA hP hD hS hl
  have hl : lv_has ls 3 [(0, .ref x), (1, .int p1)] := hl
  refine lv_aload_n hx hb dL_total_0 rfl (lv_at hl 0 rfl) ?_
  refine lv_iload_n hx hb dL_total_1 rfl (lv_at hl 1 rfl) ?_
  refine Cx_goF (wc := wc) (wx := wx) (wr := wr) (vx_runV (As := [.int p1]) (rest := []) ⟨hx, hb, hml, hown, hts⟩ (hCx _) (cwV 1 hts gL_total_X1_total rfl rfl rfl (by decide +kernel) ⟨(Nat.le_of_ble_eq_true rfl), (Nat.le_of_ble_eq_true rfl)⟩) ⟨Px_blind, va_recv (q0 := 0) (ci := 1) hK hP rfl (by rw [List.getElem?_append_left (List.getElem?_eq_some_iff.mp he).1]; exact he), Px_at (wc := wc) hK hG hP hD hS hA (List.range wc.length) (rg_hi _ _) (rg_nd _)⟩ rfl rfl hl.1 rfl (Nat.le_of_ble_eq_true rfl) dL_total_2 ⟨(Nat.le_of_ble_eq_true rfl), (Nat.le_of_ble_eq_true rfl)⟩) hP hD hS hA hfx ?_ ?_
  · intro E ce q9 H1 locs1 h1 hP1 hD1 hS1 hce hcv hcl
    have w_15 := hts (.classLink RL 15 "java/lang/IllegalArgumentException") (by decide +kernel)
    rcases hx1 E h1 with rfl
    · have hca : (Cond.castable xR "java/lang/IllegalArgumentException").before args s = true := va_Nw.use rfl (hG.2.2.1.2.1 "java/lang/IllegalArgumentException" (by decide +kernel))
      refine vx_catch (own := RL) (name := "java/lang/IllegalArgumentException") hown [] ⟨0, 6, 7, 15⟩ [] (htab.trans rfl) (fun z hz => by cases hz) rfl (by decide) w_15 hca hce hcv hcl ?_
      refine lv_astore_n (lv' := [(2, .ref q9), (0, .ref x), (1, .int p1)]) hx hb dL_total_7 rfl hl (by decide) rfl (fun ls hl => ?_)
      refine lv_ldc2 (v := (-9000000000000000002)) hx hb hown (hts (.constantLong RL 17 (-9000000000000000002)) (by decide +kernel)) dL_total_8 ?_
      exact Cx_lret hO (Or.inl ⟨h1, rfl, rfl⟩) (Nat.le_of_ble_eq_true rfl) (Nat.le_of_ble_eq_true rfl) hx hb hr hP1 hD1 hS1 dL_total_11 hlocks
  · intro ov B w1 H locs h1 hB hP hD hS
    obtain ⟨v, rfl⟩ := hvv B ov w1 h1 hB
    refine W.eq (g2 := F0 m 5 ls [.int v]) rfl ?_
    refine lv_i2l hx hb dL_total_5 rfl ?_
    exact Cx_lret hO (Or.inr (⟨B, v, w1, h1, hB, rfl, rfl⟩)) (Nat.le_of_ble_eq_true rfl) (Nat.le_of_ble_eq_true rfl) hx hb hr hP hD hS dL_total_6 hlocks
set_option maxRecDepth 100000 in
set_option maxHeartbeats 4000000 in
theorem c_L_effect (l : Launch) (D : va_G) (k : Nat → ClassId) (x : Nat) (p1 : Int32) (p2 : Int32) (wc wx wr : va_W) (oc : Oc) (fs : List Value) (he : wc[0]? = some (x, .inr (1, fs))) (hfx : wx.map Prod.fst = wc.map Prod.fst) (hx1 : ∀ E, oc = .inl E → E = xB ∨ E = xR) (hvv : ∀ (B : Option Value → va_W → Prop) (ov : Option Value) (w : va_W), oc = .inr B → B ov w → ∃ v, ov = some (.int v)) (hCx : Cx l D (tyK k) yX1_effect wsX1_effect ({ frames := 7, cells := 2, slots := 12, locals := 104 } : Room) [.ref x, .int p1, .int p2] wc wx oc) : Cl l D (tyK k) yL_effect wsL_effect ({ frames := 8, cells := 2, slots := 12, locals := 126 } : Room) [.ref x, .int p1, .int p2] (wc ++ wr) (.inr (fun (ov : Option Value) (w : va_W) => (oc = .inl xB ∧ ov = some (.long (-9000000000000000001)) ∧ w = wx ++ wr) ∨ (oc = .inl xR ∧ ov = some (.long (-9000000000000000002)) ∧ w = wx ++ wr) ∨ ∃ (B : Option Value → va_W → Prop) (v : Int32) (w2 : va_W), oc = .inr B ∧ B (some (.int v)) w2 ∧ ov = some (.long v.toInt64) ∧ w = w2 ++ wr)) := by
  obtain ⟨O, hO⟩ : ∃ O : Oc, O = .inr (fun (ov : Option Value) (w : va_W) => (oc = .inl xB ∧ ov = some (.long (-9000000000000000001)) ∧ w = wx ++ wr) ∨ (oc = .inl xR ∧ ov = some (.long (-9000000000000000002)) ∧ w = wx ++ wr) ∨ ∃ (B : Option Value → va_W → Prop) (v : Int32) (w2 : va_W), oc = .inr B ∧ B (some (.int v)) w2 ∧ ov = some (.long v.toInt64) ∧ w = w2 ++ wr) := ⟨_, rfl⟩
  rw [← hO]
  refine Cl_of (cc := cL_effect) (maxL := 4) (ret := (some .long)) (hh := [(0, 7, 8, 37), (0, 7, 13, 15)]) (by decide) rfl (Nat.le_of_ble_eq_true rfl) ?_
  intro p e s m args below meth c A ls hx hb hr hml hts hown hlocks htab hK hG hC hA hP hD hS hl
  have hl : lv_has ls 4 [(0, .ref x), (1, .int p1), (2, .int p2)] := hl
  refine lv_aload_n hx hb dL_effect_0 rfl (lv_at hl 0 rfl) ?_
  refine lv_iload_n hx hb dL_effect_1 rfl (lv_at hl 1 rfl) ?_
  refine lv_iload_n hx hb dL_effect_2 rfl (lv_at hl 2 rfl) ?_
  refine Cx_goF (wc := wc) (wx := wx) (wr := wr) (vx_runV (As := [.int p1, .int p2]) (rest := []) ⟨hx, hb, hml, hown, hts⟩ (hCx _) (cwV 2 hts gL_effect_X1_effect rfl rfl rfl (by decide +kernel) ⟨(Nat.le_of_ble_eq_true rfl), (Nat.le_of_ble_eq_true rfl)⟩) ⟨Px_blind, va_recv (q0 := 0) (ci := 1) hK hP rfl (by rw [List.getElem?_append_left (List.getElem?_eq_some_iff.mp he).1]; exact he), Px_at (wc := wc) hK hG hP hD hS hA (List.range wc.length) (rg_hi _ _) (rg_nd _)⟩ rfl rfl hl.1 rfl (Nat.le_of_ble_eq_true rfl) dL_effect_3 ⟨(Nat.le_of_ble_eq_true rfl), (Nat.le_of_ble_eq_true rfl)⟩) hP hD hS hA hfx ?_ ?_
  · intro E ce q9 H1 locs1 h1 hP1 hD1 hS1 hce hcv hcl
    have w_37 := hts (.classLink RL 37 "java/lang/IndexOutOfBoundsException") (by decide +kernel)
    have w_15 := hts (.classLink RL 15 "java/lang/IllegalArgumentException") (by decide +kernel)
    rcases hx1 E h1 with rfl | rfl
    · have hca : (Cond.castable xB "java/lang/IndexOutOfBoundsException").before args s = true := va_Nw.use rfl (hG.2.2.1.2.1 "java/lang/IndexOutOfBoundsException" (by decide +kernel))
      refine vx_catch (own := RL) (name := "java/lang/IndexOutOfBoundsException") hown [] ⟨0, 7, 8, 37⟩ [⟨0, 7, 13, 15⟩] (htab.trans rfl) (fun z hz => by cases hz) rfl (by decide) w_37 hca hce hcv hcl ?_
      refine lv_astore_n (lv' := [(3, .ref q9), (0, .ref x), (1, .int p1), (2, .int p2)]) hx hb dL_effect_8 rfl hl (by decide) rfl (fun ls hl => ?_)
      refine lv_ldc2 (v := (-9000000000000000001)) hx hb hown (hts (.constantLong RL 39 (-9000000000000000001)) (by decide +kernel)) dL_effect_9 ?_
      exact Cx_lret hO (Or.inl ⟨h1, rfl, rfl⟩) (Nat.le_of_ble_eq_true rfl) (Nat.le_of_ble_eq_true rfl) hx hb hr hP1 hD1 hS1 dL_effect_12 hlocks
    · have hca : (Cond.castable xR "java/lang/IllegalArgumentException").before args s = true := va_Nw.use rfl (hG.2.2.1.2.1 "java/lang/IllegalArgumentException" (by decide +kernel))
      refine vx_catch (own := RL) (name := "java/lang/IllegalArgumentException") hown [⟨0, 7, 8, 37⟩] ⟨0, 7, 13, 15⟩ [] (htab.trans rfl) (List.forall_mem_cons.mpr ⟨Or.inr ⟨by decide, "java/lang/IndexOutOfBoundsException", w_37, hC.1⟩, (fun z hz => by cases hz)⟩) rfl (by decide) w_15 hca hce hcv hcl ?_
      refine lv_astore_n (lv' := [(3, .ref q9), (0, .ref x), (1, .int p1), (2, .int p2)]) hx hb dL_effect_13 rfl hl (by decide) rfl (fun ls hl => ?_)
      refine lv_ldc2 (v := (-9000000000000000002)) hx hb hown (hts (.constantLong RL 17 (-9000000000000000002)) (by decide +kernel)) dL_effect_14 ?_
      exact Cx_lret hO (Or.inr (Or.inl ⟨h1, rfl, rfl⟩)) (Nat.le_of_ble_eq_true rfl) (Nat.le_of_ble_eq_true rfl) hx hb hr hP1 hD1 hS1 dL_effect_17 hlocks
  · intro ov B w1 H locs h1 hB hP hD hS
    obtain ⟨v, rfl⟩ := hvv B ov w1 h1 hB
    refine W.eq (g2 := F0 m 6 ls [.int v]) rfl ?_
    refine lv_i2l hx hb dL_effect_6 rfl ?_
    exact Cx_lret hO (Or.inr (Or.inr (⟨B, v, w1, h1, hB, rfl, rfl⟩))) (Nat.le_of_ble_eq_true rfl) (Nat.le_of_ble_eq_true rfl) hx hb hr hP hD hS dL_effect_7 hlocks
set_option maxRecDepth 100000 in
set_option maxHeartbeats 4000000 in
theorem c_L_neighbor (l : Launch) (D : va_G) (k : Nat → ClassId) (x : Nat) (p1 : Int32) (p2 : Int32) (wc wx wr : va_W) (oc : Oc) (fs : List Value) (he : wc[0]? = some (x, .inr (1, fs))) (hfx : wx.map Prod.fst = wc.map Prod.fst) (hx1 : ∀ E, oc = .inl E → E = xB) (hvv : ∀ (B : Option Value → va_W → Prop) (ov : Option Value) (w : va_W), oc = .inr B → B ov w → ∃ v, ov = some (.int v)) (hCx : Cx l D (tyK k) yX1_neighbor wsX1_neighbor ({ frames := 7, cells := 1, slots := 6, locals := 103 } : Room) [.ref x, .int p1, .int p2] wc wx oc) : Cl l D (tyK k) yL_neighbor wsL_neighbor ({ frames := 8, cells := 1, slots := 6, locals := 125 } : Room) [.ref x, .int p1, .int p2] (wc ++ wr) (.inr (fun (ov : Option Value) (w : va_W) => (oc = .inl xB ∧ ov = some (.long (-9000000000000000001)) ∧ w = wx ++ wr) ∨ ∃ (B : Option Value → va_W → Prop) (v : Int32) (w2 : va_W), oc = .inr B ∧ B (some (.int v)) w2 ∧ ov = some (.long v.toInt64) ∧ w = w2 ++ wr)) := by
  obtain ⟨O, hO⟩ : ∃ O : Oc, O = .inr (fun (ov : Option Value) (w : va_W) => (oc = .inl xB ∧ ov = some (.long (-9000000000000000001)) ∧ w = wx ++ wr) ∨ ∃ (B : Option Value → va_W → Prop) (v : Int32) (w2 : va_W), oc = .inr B ∧ B (some (.int v)) w2 ∧ ov = some (.long v.toInt64) ∧ w = w2 ++ wr) := ⟨_, rfl⟩
  rw [← hO]
  refine Cl_of (cc := cL_neighbor) (maxL := 4) (ret := (some .long)) (hh := [(0, 7, 8, 37)]) (by decide) rfl (Nat.le_of_ble_eq_true rfl) ?_
  intro p e s m args below meth c A ls hx hb hr hml hts hown hlocks htab hK hG hC hA hP hD hS hl
  have hl : lv_has ls 4 [(0, .ref x), (1, .int p1), (2, .int p2)] := hl
  refine lv_aload_n hx hb dL_neighbor_0 rfl (lv_at hl 0 rfl) ?_
  refine lv_iload_n hx hb dL_neighbor_1 rfl (lv_at hl 1 rfl) ?_
  refine lv_iload_n hx hb dL_neighbor_2 rfl (lv_at hl 2 rfl) ?_
  refine Cx_goF (wc := wc) (wx := wx) (wr := wr) (vx_runV (As := [.int p1, .int p2]) (rest := []) ⟨hx, hb, hml, hown, hts⟩ (hCx _) (cwV 2 hts gL_neighbor_X1_neighbor rfl rfl rfl (by decide +kernel) ⟨(Nat.le_of_ble_eq_true rfl), (Nat.le_of_ble_eq_true rfl)⟩) ⟨Px_blind, va_recv (q0 := 0) (ci := 1) hK hP rfl (by rw [List.getElem?_append_left (List.getElem?_eq_some_iff.mp he).1]; exact he), Px_at (wc := wc) hK hG hP hD hS hA (List.range wc.length) (rg_hi _ _) (rg_nd _)⟩ rfl rfl hl.1 rfl (Nat.le_of_ble_eq_true rfl) dL_neighbor_3 ⟨(Nat.le_of_ble_eq_true rfl), (Nat.le_of_ble_eq_true rfl)⟩) hP hD hS hA hfx ?_ ?_
  · intro E ce q9 H1 locs1 h1 hP1 hD1 hS1 hce hcv hcl
    have w_37 := hts (.classLink RL 37 "java/lang/IndexOutOfBoundsException") (by decide +kernel)
    rcases hx1 E h1 with rfl
    · have hca : (Cond.castable xB "java/lang/IndexOutOfBoundsException").before args s = true := va_Nw.use rfl (hG.2.2.1.2.1 "java/lang/IndexOutOfBoundsException" (by decide +kernel))
      refine vx_catch (own := RL) (name := "java/lang/IndexOutOfBoundsException") hown [] ⟨0, 7, 8, 37⟩ [] (htab.trans rfl) (fun z hz => by cases hz) rfl (by decide) w_37 hca hce hcv hcl ?_
      refine lv_astore_n (lv' := [(3, .ref q9), (0, .ref x), (1, .int p1), (2, .int p2)]) hx hb dL_neighbor_8 rfl hl (by decide) rfl (fun ls hl => ?_)
      refine lv_ldc2 (v := (-9000000000000000001)) hx hb hown (hts (.constantLong RL 39 (-9000000000000000001)) (by decide +kernel)) dL_neighbor_9 ?_
      exact Cx_lret hO (Or.inl ⟨h1, rfl, rfl⟩) (Nat.le_of_ble_eq_true rfl) (Nat.le_of_ble_eq_true rfl) hx hb hr hP1 hD1 hS1 dL_neighbor_12 hlocks
  · intro ov B w1 H locs h1 hB hP hD hS
    obtain ⟨v, rfl⟩ := hvv B ov w1 h1 hB
    refine W.eq (g2 := F0 m 6 ls [.int v]) rfl ?_
    refine lv_i2l hx hb dL_neighbor_6 rfl ?_
    exact Cx_lret hO (Or.inr (⟨B, v, w1, h1, hB, rfl, rfl⟩)) (Nat.le_of_ble_eq_true rfl) (Nat.le_of_ble_eq_true rfl) hx hb hr hP hD hS dL_neighbor_7 hlocks
set_option maxRecDepth 100000 in
set_option maxHeartbeats 4000000 in
theorem c_L_tick (l : Launch) (D : va_G) (k : Nat → ClassId) (x : Nat) (p1 : Int32) (wc wx wr : va_W) (oc : Oc) (fs : List Value) (he : wc[0]? = some (x, .inr (1, fs))) (hfx : wx.map Prod.fst = wc.map Prod.fst) (hx1 : ∀ E, oc = .inl E → E = xR) (hvv : ∀ (B : Option Value → va_W → Prop) (ov : Option Value) (w : va_W), oc = .inr B → B ov w → ∃ v, ov = some (.int v)) (hCx : Cx l D (tyK k) yX1_tick wsX1_tick ({ frames := 7, cells := 12, slots := 81, locals := 104 } : Room) [.ref x, .int p1] wc wx oc) : Cl l D (tyK k) yL_tick wsL_tick ({ frames := 8, cells := 12, slots := 81, locals := 125 } : Room) [.ref x, .int p1] (wc ++ wr) (.inr (fun (ov : Option Value) (w : va_W) => (oc = .inl xR ∧ ov = some (.long (-9000000000000000002)) ∧ w = wx ++ wr) ∨ ∃ (B : Option Value → va_W → Prop) (v : Int32) (w2 : va_W), oc = .inr B ∧ B (some (.int v)) w2 ∧ ov = some (.long v.toInt64) ∧ w = w2 ++ wr)) := by
  obtain ⟨O, hO⟩ : ∃ O : Oc, O = .inr (fun (ov : Option Value) (w : va_W) => (oc = .inl xR ∧ ov = some (.long (-9000000000000000002)) ∧ w = wx ++ wr) ∨ ∃ (B : Option Value → va_W → Prop) (v : Int32) (w2 : va_W), oc = .inr B ∧ B (some (.int v)) w2 ∧ ov = some (.long v.toInt64) ∧ w = w2 ++ wr) := ⟨_, rfl⟩
  rw [← hO]
  refine Cl_of (cc := cL_tick) (maxL := 3) (ret := (some .long)) (hh := [(0, 6, 7, 15)]) (by decide) rfl (Nat.le_of_ble_eq_true rfl) ?_
  intro p e s m args below meth c A ls hx hb hr hml hts hown hlocks htab hK hG hC hA hP hD hS hl
  have hl : lv_has ls 3 [(0, .ref x), (1, .int p1)] := hl
  refine lv_aload_n hx hb dL_tick_0 rfl (lv_at hl 0 rfl) ?_
  refine lv_iload_n hx hb dL_tick_1 rfl (lv_at hl 1 rfl) ?_
  refine Cx_goF (wc := wc) (wx := wx) (wr := wr) (vx_runV (As := [.int p1]) (rest := []) ⟨hx, hb, hml, hown, hts⟩ (hCx _) (cwV 1 hts gL_tick_X1_tick rfl rfl rfl (by decide +kernel) ⟨(Nat.le_of_ble_eq_true rfl), (Nat.le_of_ble_eq_true rfl)⟩) ⟨Px_blind, va_recv (q0 := 0) (ci := 1) hK hP rfl (by rw [List.getElem?_append_left (List.getElem?_eq_some_iff.mp he).1]; exact he), Px_at (wc := wc) hK hG hP hD hS hA (List.range wc.length) (rg_hi _ _) (rg_nd _)⟩ rfl rfl hl.1 rfl (Nat.le_of_ble_eq_true rfl) dL_tick_2 ⟨(Nat.le_of_ble_eq_true rfl), (Nat.le_of_ble_eq_true rfl)⟩) hP hD hS hA hfx ?_ ?_
  · intro E ce q9 H1 locs1 h1 hP1 hD1 hS1 hce hcv hcl
    have w_15 := hts (.classLink RL 15 "java/lang/IllegalArgumentException") (by decide +kernel)
    rcases hx1 E h1 with rfl
    · have hca : (Cond.castable xR "java/lang/IllegalArgumentException").before args s = true := va_Nw.use rfl (hG.2.2.1.2.1 "java/lang/IllegalArgumentException" (by decide +kernel))
      refine vx_catch (own := RL) (name := "java/lang/IllegalArgumentException") hown [] ⟨0, 6, 7, 15⟩ [] (htab.trans rfl) (fun z hz => by cases hz) rfl (by decide) w_15 hca hce hcv hcl ?_
      refine lv_astore_n (lv' := [(2, .ref q9), (0, .ref x), (1, .int p1)]) hx hb dL_tick_7 rfl hl (by decide) rfl (fun ls hl => ?_)
      refine lv_ldc2 (v := (-9000000000000000002)) hx hb hown (hts (.constantLong RL 17 (-9000000000000000002)) (by decide +kernel)) dL_tick_8 ?_
      exact Cx_lret hO (Or.inl ⟨h1, rfl, rfl⟩) (Nat.le_of_ble_eq_true rfl) (Nat.le_of_ble_eq_true rfl) hx hb hr hP1 hD1 hS1 dL_tick_11 hlocks
  · intro ov B w1 H locs h1 hB hP hD hS
    obtain ⟨v, rfl⟩ := hvv B ov w1 h1 hB
    refine W.eq (g2 := F0 m 5 ls [.int v]) rfl ?_
    refine lv_i2l hx hb dL_tick_5 rfl ?_
    exact Cx_lret hO (Or.inr (⟨B, v, w1, h1, hB, rfl, rfl⟩)) (Nat.le_of_ble_eq_true rfl) (Nat.le_of_ble_eq_true rfl) hx hb hr hP hD hS dL_tick_6 hlocks
set_option maxRecDepth 100000 in
set_option maxHeartbeats 4000000 in
theorem c_L_set (l : Launch) (D : va_G) (k : Nat → ClassId) (x : Nat) (p1 : Int32) (p2 : Int32) (wc wx wr : va_W) (oc : Oc) (fs : List Value) (he : wc[0]? = some (x, .inr (1, fs))) (hfx : wx.map Prod.fst = wc.map Prod.fst) (hx1 : ∀ E, oc = .inl E → E = xR) (hvv : ∀ (B : Option Value → va_W → Prop) (ov : Option Value) (w : va_W), oc = .inr B → B ov w → ∃ v, ov = some (.int v)) (hCx : Cx l D (tyK k) yX1_set wsX1_set ({ frames := 7, cells := 13, slots := 87, locals := 104 } : Room) [.ref x, .int p1, .int p2] wc wx oc) : Cl l D (tyK k) yL_set wsL_set ({ frames := 8, cells := 13, slots := 87, locals := 127 } : Room) [.ref x, .int p1, .int p2] (wc ++ wr) (.inr (fun (ov : Option Value) (w : va_W) => (oc = .inl xR ∧ ov = some (.long (-9000000000000000002)) ∧ w = wx ++ wr) ∨ ∃ (B : Option Value → va_W → Prop) (v : Int32) (w2 : va_W), oc = .inr B ∧ B (some (.int v)) w2 ∧ ov = some (.long v.toInt64) ∧ w = w2 ++ wr)) := by
  obtain ⟨O, hO⟩ : ∃ O : Oc, O = .inr (fun (ov : Option Value) (w : va_W) => (oc = .inl xR ∧ ov = some (.long (-9000000000000000002)) ∧ w = wx ++ wr) ∨ ∃ (B : Option Value → va_W → Prop) (v : Int32) (w2 : va_W), oc = .inr B ∧ B (some (.int v)) w2 ∧ ov = some (.long v.toInt64) ∧ w = w2 ++ wr) := ⟨_, rfl⟩
  rw [← hO]
  refine Cl_of (cc := cL_set) (maxL := 4) (ret := (some .long)) (hh := [(0, 7, 8, 15)]) (by decide) rfl (Nat.le_of_ble_eq_true rfl) ?_
  intro p e s m args below meth c A ls hx hb hr hml hts hown hlocks htab hK hG hC hA hP hD hS hl
  have hl : lv_has ls 4 [(0, .ref x), (1, .int p1), (2, .int p2)] := hl
  refine lv_aload_n hx hb dL_set_0 rfl (lv_at hl 0 rfl) ?_
  refine lv_iload_n hx hb dL_set_1 rfl (lv_at hl 1 rfl) ?_
  refine lv_iload_n hx hb dL_set_2 rfl (lv_at hl 2 rfl) ?_
  refine Cx_goF (wc := wc) (wx := wx) (wr := wr) (vx_runV (As := [.int p1, .int p2]) (rest := []) ⟨hx, hb, hml, hown, hts⟩ (hCx _) (cwV 2 hts gL_set_X1_set rfl rfl rfl (by decide +kernel) ⟨(Nat.le_of_ble_eq_true rfl), (Nat.le_of_ble_eq_true rfl)⟩) ⟨Px_blind, va_recv (q0 := 0) (ci := 1) hK hP rfl (by rw [List.getElem?_append_left (List.getElem?_eq_some_iff.mp he).1]; exact he), Px_at (wc := wc) hK hG hP hD hS hA (List.range wc.length) (rg_hi _ _) (rg_nd _)⟩ rfl rfl hl.1 rfl (Nat.le_of_ble_eq_true rfl) dL_set_3 ⟨(Nat.le_of_ble_eq_true rfl), (Nat.le_of_ble_eq_true rfl)⟩) hP hD hS hA hfx ?_ ?_
  · intro E ce q9 H1 locs1 h1 hP1 hD1 hS1 hce hcv hcl
    have w_15 := hts (.classLink RL 15 "java/lang/IllegalArgumentException") (by decide +kernel)
    rcases hx1 E h1 with rfl
    · have hca : (Cond.castable xR "java/lang/IllegalArgumentException").before args s = true := va_Nw.use rfl (hG.2.2.1.2.1 "java/lang/IllegalArgumentException" (by decide +kernel))
      refine vx_catch (own := RL) (name := "java/lang/IllegalArgumentException") hown [] ⟨0, 7, 8, 15⟩ [] (htab.trans rfl) (fun z hz => by cases hz) rfl (by decide) w_15 hca hce hcv hcl ?_
      refine lv_astore_n (lv' := [(3, .ref q9), (0, .ref x), (1, .int p1), (2, .int p2)]) hx hb dL_set_8 rfl hl (by decide) rfl (fun ls hl => ?_)
      refine lv_ldc2 (v := (-9000000000000000002)) hx hb hown (hts (.constantLong RL 17 (-9000000000000000002)) (by decide +kernel)) dL_set_9 ?_
      exact Cx_lret hO (Or.inl ⟨h1, rfl, rfl⟩) (Nat.le_of_ble_eq_true rfl) (Nat.le_of_ble_eq_true rfl) hx hb hr hP1 hD1 hS1 dL_set_12 hlocks
  · intro ov B w1 H locs h1 hB hP hD hS
    obtain ⟨v, rfl⟩ := hvv B ov w1 h1 hB
    refine W.eq (g2 := F0 m 6 ls [.int v]) rfl ?_
    refine lv_i2l hx hb dL_set_6 rfl ?_
    exact Cx_lret hO (Or.inr (⟨B, v, w1, h1, hB, rfl, rfl⟩)) (Nat.le_of_ble_eq_true rfl) (Nat.le_of_ble_eq_true rfl) hx hb hr hP hD hS dL_set_7 hlocks
set_option maxRecDepth 100000 in
set_option maxHeartbeats 4000000 in
theorem c_L_setValve (l : Launch) (D : va_G) (k : Nat → ClassId) (x : Nat) (p1 : Int32) (p2 : Int32) (wc wx wr : va_W) (oc : Oc) (fs : List Value) (he : wc[0]? = some (x, .inr (1, fs))) (hfx : wx.map Prod.fst = wc.map Prod.fst) (hx1 : ∀ E, oc = .inl E → E = xB ∨ E = xR) (hvv : ∀ (B : Option Value → va_W → Prop) (ov : Option Value) (w : va_W), oc = .inr B → B ov w → ∃ v, ov = some (.int v)) (hCx : Cx l D (tyK k) yX1_setValve wsX1_setValve ({ frames := 7, cells := 13, slots := 87, locals := 104 } : Room) [.ref x, .int p1, .int p2] wc wx oc) : Cl l D (tyK k) yL_setValve wsL_setValve ({ frames := 8, cells := 13, slots := 87, locals := 127 } : Room) [.ref x, .int p1, .int p2] (wc ++ wr) (.inr (fun (ov : Option Value) (w : va_W) => (oc = .inl xB ∧ ov = some (.long (-9000000000000000001)) ∧ w = wx ++ wr) ∨ (oc = .inl xR ∧ ov = some (.long (-9000000000000000002)) ∧ w = wx ++ wr) ∨ ∃ (B : Option Value → va_W → Prop) (v : Int32) (w2 : va_W), oc = .inr B ∧ B (some (.int v)) w2 ∧ ov = some (.long v.toInt64) ∧ w = w2 ++ wr)) := by
  obtain ⟨O, hO⟩ : ∃ O : Oc, O = .inr (fun (ov : Option Value) (w : va_W) => (oc = .inl xB ∧ ov = some (.long (-9000000000000000001)) ∧ w = wx ++ wr) ∨ (oc = .inl xR ∧ ov = some (.long (-9000000000000000002)) ∧ w = wx ++ wr) ∨ ∃ (B : Option Value → va_W → Prop) (v : Int32) (w2 : va_W), oc = .inr B ∧ B (some (.int v)) w2 ∧ ov = some (.long v.toInt64) ∧ w = w2 ++ wr) := ⟨_, rfl⟩
  rw [← hO]
  refine Cl_of (cc := cL_setValve) (maxL := 4) (ret := (some .long)) (hh := [(0, 7, 8, 37), (0, 7, 13, 15)]) (by decide) rfl (Nat.le_of_ble_eq_true rfl) ?_
  intro p e s m args below meth c A ls hx hb hr hml hts hown hlocks htab hK hG hC hA hP hD hS hl
  have hl : lv_has ls 4 [(0, .ref x), (1, .int p1), (2, .int p2)] := hl
  refine lv_aload_n hx hb dL_setValve_0 rfl (lv_at hl 0 rfl) ?_
  refine lv_iload_n hx hb dL_setValve_1 rfl (lv_at hl 1 rfl) ?_
  refine lv_iload_n hx hb dL_setValve_2 rfl (lv_at hl 2 rfl) ?_
  refine Cx_goF (wc := wc) (wx := wx) (wr := wr) (vx_runV (As := [.int p1, .int p2]) (rest := []) ⟨hx, hb, hml, hown, hts⟩ (hCx _) (cwV 2 hts gL_setValve_X1_setValve rfl rfl rfl (by decide +kernel) ⟨(Nat.le_of_ble_eq_true rfl), (Nat.le_of_ble_eq_true rfl)⟩) ⟨Px_blind, va_recv (q0 := 0) (ci := 1) hK hP rfl (by rw [List.getElem?_append_left (List.getElem?_eq_some_iff.mp he).1]; exact he), Px_at (wc := wc) hK hG hP hD hS hA (List.range wc.length) (rg_hi _ _) (rg_nd _)⟩ rfl rfl hl.1 rfl (Nat.le_of_ble_eq_true rfl) dL_setValve_3 ⟨(Nat.le_of_ble_eq_true rfl), (Nat.le_of_ble_eq_true rfl)⟩) hP hD hS hA hfx ?_ ?_
  · intro E ce q9 H1 locs1 h1 hP1 hD1 hS1 hce hcv hcl
    have w_37 := hts (.classLink RL 37 "java/lang/IndexOutOfBoundsException") (by decide +kernel)
    have w_15 := hts (.classLink RL 15 "java/lang/IllegalArgumentException") (by decide +kernel)
    rcases hx1 E h1 with rfl | rfl
    · have hca : (Cond.castable xB "java/lang/IndexOutOfBoundsException").before args s = true := va_Nw.use rfl (hG.2.2.1.2.1 "java/lang/IndexOutOfBoundsException" (by decide +kernel))
      refine vx_catch (own := RL) (name := "java/lang/IndexOutOfBoundsException") hown [] ⟨0, 7, 8, 37⟩ [⟨0, 7, 13, 15⟩] (htab.trans rfl) (fun z hz => by cases hz) rfl (by decide) w_37 hca hce hcv hcl ?_
      refine lv_astore_n (lv' := [(3, .ref q9), (0, .ref x), (1, .int p1), (2, .int p2)]) hx hb dL_setValve_8 rfl hl (by decide) rfl (fun ls hl => ?_)
      refine lv_ldc2 (v := (-9000000000000000001)) hx hb hown (hts (.constantLong RL 39 (-9000000000000000001)) (by decide +kernel)) dL_setValve_9 ?_
      exact Cx_lret hO (Or.inl ⟨h1, rfl, rfl⟩) (Nat.le_of_ble_eq_true rfl) (Nat.le_of_ble_eq_true rfl) hx hb hr hP1 hD1 hS1 dL_setValve_12 hlocks
    · have hca : (Cond.castable xR "java/lang/IllegalArgumentException").before args s = true := va_Nw.use rfl (hG.2.2.1.2.1 "java/lang/IllegalArgumentException" (by decide +kernel))
      refine vx_catch (own := RL) (name := "java/lang/IllegalArgumentException") hown [⟨0, 7, 8, 37⟩] ⟨0, 7, 13, 15⟩ [] (htab.trans rfl) (List.forall_mem_cons.mpr ⟨Or.inr ⟨by decide, "java/lang/IndexOutOfBoundsException", w_37, hC.1⟩, (fun z hz => by cases hz)⟩) rfl (by decide) w_15 hca hce hcv hcl ?_
      refine lv_astore_n (lv' := [(3, .ref q9), (0, .ref x), (1, .int p1), (2, .int p2)]) hx hb dL_setValve_13 rfl hl (by decide) rfl (fun ls hl => ?_)
      refine lv_ldc2 (v := (-9000000000000000002)) hx hb hown (hts (.constantLong RL 17 (-9000000000000000002)) (by decide +kernel)) dL_setValve_14 ?_
      exact Cx_lret hO (Or.inr (Or.inl ⟨h1, rfl, rfl⟩)) (Nat.le_of_ble_eq_true rfl) (Nat.le_of_ble_eq_true rfl) hx hb hr hP1 hD1 hS1 dL_setValve_17 hlocks
  · intro ov B w1 H locs h1 hB hP hD hS
    obtain ⟨v, rfl⟩ := hvv B ov w1 h1 hB
    refine W.eq (g2 := F0 m 6 ls [.int v]) rfl ?_
    refine lv_i2l hx hb dL_setValve_6 rfl ?_
    exact Cx_lret hO (Or.inr (Or.inr (⟨B, v, w1, h1, hB, rfl, rfl⟩))) (Nat.le_of_ble_eq_true rfl) (Nat.le_of_ble_eq_true rfl) hx hb hr hP hD hS dL_setValve_7 hlocks
set_option maxRecDepth 100000 in
set_option maxHeartbeats 4000000 in
theorem c_L_setBleed (l : Launch) (D : va_G) (k : Nat → ClassId) (x : Nat) (p1 : Int32) (p2 : Int32) (wc wx wr : va_W) (oc : Oc) (fs : List Value) (he : wc[0]? = some (x, .inr (1, fs))) (hfx : wx.map Prod.fst = wc.map Prod.fst) (hx1 : ∀ E, oc = .inl E → E = xB ∨ E = xR) (hvv : ∀ (B : Option Value → va_W → Prop) (ov : Option Value) (w : va_W), oc = .inr B → B ov w → ∃ v, ov = some (.int v)) (hCx : Cx l D (tyK k) yX1_setBleed wsX1_setBleed ({ frames := 7, cells := 13, slots := 87, locals := 104 } : Room) [.ref x, .int p1, .int p2] wc wx oc) : Cl l D (tyK k) yL_setBleed wsL_setBleed ({ frames := 8, cells := 13, slots := 87, locals := 127 } : Room) [.ref x, .int p1, .int p2] (wc ++ wr) (.inr (fun (ov : Option Value) (w : va_W) => (oc = .inl xB ∧ ov = some (.long (-9000000000000000001)) ∧ w = wx ++ wr) ∨ (oc = .inl xR ∧ ov = some (.long (-9000000000000000002)) ∧ w = wx ++ wr) ∨ ∃ (B : Option Value → va_W → Prop) (v : Int32) (w2 : va_W), oc = .inr B ∧ B (some (.int v)) w2 ∧ ov = some (.long v.toInt64) ∧ w = w2 ++ wr)) := by
  obtain ⟨O, hO⟩ : ∃ O : Oc, O = .inr (fun (ov : Option Value) (w : va_W) => (oc = .inl xB ∧ ov = some (.long (-9000000000000000001)) ∧ w = wx ++ wr) ∨ (oc = .inl xR ∧ ov = some (.long (-9000000000000000002)) ∧ w = wx ++ wr) ∨ ∃ (B : Option Value → va_W → Prop) (v : Int32) (w2 : va_W), oc = .inr B ∧ B (some (.int v)) w2 ∧ ov = some (.long v.toInt64) ∧ w = w2 ++ wr) := ⟨_, rfl⟩
  rw [← hO]
  refine Cl_of (cc := cL_setBleed) (maxL := 4) (ret := (some .long)) (hh := [(0, 7, 8, 37), (0, 7, 13, 15)]) (by decide) rfl (Nat.le_of_ble_eq_true rfl) ?_
  intro p e s m args below meth c A ls hx hb hr hml hts hown hlocks htab hK hG hC hA hP hD hS hl
  have hl : lv_has ls 4 [(0, .ref x), (1, .int p1), (2, .int p2)] := hl
  refine lv_aload_n hx hb dL_setBleed_0 rfl (lv_at hl 0 rfl) ?_
  refine lv_iload_n hx hb dL_setBleed_1 rfl (lv_at hl 1 rfl) ?_
  refine lv_iload_n hx hb dL_setBleed_2 rfl (lv_at hl 2 rfl) ?_
  refine Cx_goF (wc := wc) (wx := wx) (wr := wr) (vx_runV (As := [.int p1, .int p2]) (rest := []) ⟨hx, hb, hml, hown, hts⟩ (hCx _) (cwV 2 hts gL_setBleed_X1_setBleed rfl rfl rfl (by decide +kernel) ⟨(Nat.le_of_ble_eq_true rfl), (Nat.le_of_ble_eq_true rfl)⟩) ⟨Px_blind, va_recv (q0 := 0) (ci := 1) hK hP rfl (by rw [List.getElem?_append_left (List.getElem?_eq_some_iff.mp he).1]; exact he), Px_at (wc := wc) hK hG hP hD hS hA (List.range wc.length) (rg_hi _ _) (rg_nd _)⟩ rfl rfl hl.1 rfl (Nat.le_of_ble_eq_true rfl) dL_setBleed_3 ⟨(Nat.le_of_ble_eq_true rfl), (Nat.le_of_ble_eq_true rfl)⟩) hP hD hS hA hfx ?_ ?_
  · intro E ce q9 H1 locs1 h1 hP1 hD1 hS1 hce hcv hcl
    have w_37 := hts (.classLink RL 37 "java/lang/IndexOutOfBoundsException") (by decide +kernel)
    have w_15 := hts (.classLink RL 15 "java/lang/IllegalArgumentException") (by decide +kernel)
    rcases hx1 E h1 with rfl | rfl
    · have hca : (Cond.castable xB "java/lang/IndexOutOfBoundsException").before args s = true := va_Nw.use rfl (hG.2.2.1.2.1 "java/lang/IndexOutOfBoundsException" (by decide +kernel))
      refine vx_catch (own := RL) (name := "java/lang/IndexOutOfBoundsException") hown [] ⟨0, 7, 8, 37⟩ [⟨0, 7, 13, 15⟩] (htab.trans rfl) (fun z hz => by cases hz) rfl (by decide) w_37 hca hce hcv hcl ?_
      refine lv_astore_n (lv' := [(3, .ref q9), (0, .ref x), (1, .int p1), (2, .int p2)]) hx hb dL_setBleed_8 rfl hl (by decide) rfl (fun ls hl => ?_)
      refine lv_ldc2 (v := (-9000000000000000001)) hx hb hown (hts (.constantLong RL 39 (-9000000000000000001)) (by decide +kernel)) dL_setBleed_9 ?_
      exact Cx_lret hO (Or.inl ⟨h1, rfl, rfl⟩) (Nat.le_of_ble_eq_true rfl) (Nat.le_of_ble_eq_true rfl) hx hb hr hP1 hD1 hS1 dL_setBleed_12 hlocks
    · have hca : (Cond.castable xR "java/lang/IllegalArgumentException").before args s = true := va_Nw.use rfl (hG.2.2.1.2.1 "java/lang/IllegalArgumentException" (by decide +kernel))
      refine vx_catch (own := RL) (name := "java/lang/IllegalArgumentException") hown [⟨0, 7, 8, 37⟩] ⟨0, 7, 13, 15⟩ [] (htab.trans rfl) (List.forall_mem_cons.mpr ⟨Or.inr ⟨by decide, "java/lang/IndexOutOfBoundsException", w_37, hC.1⟩, (fun z hz => by cases hz)⟩) rfl (by decide) w_15 hca hce hcv hcl ?_
      refine lv_astore_n (lv' := [(3, .ref q9), (0, .ref x), (1, .int p1), (2, .int p2)]) hx hb dL_setBleed_13 rfl hl (by decide) rfl (fun ls hl => ?_)
      refine lv_ldc2 (v := (-9000000000000000002)) hx hb hown (hts (.constantLong RL 17 (-9000000000000000002)) (by decide +kernel)) dL_setBleed_14 ?_
      exact Cx_lret hO (Or.inr (Or.inl ⟨h1, rfl, rfl⟩)) (Nat.le_of_ble_eq_true rfl) (Nat.le_of_ble_eq_true rfl) hx hb hr hP1 hD1 hS1 dL_setBleed_17 hlocks
  · intro ov B w1 H locs h1 hB hP hD hS
    obtain ⟨v, rfl⟩ := hvv B ov w1 h1 hB
    refine W.eq (g2 := F0 m 6 ls [.int v]) rfl ?_
    refine lv_i2l hx hb dL_setBleed_6 rfl ?_
    exact Cx_lret hO (Or.inr (Or.inr (⟨B, v, w1, h1, hB, rfl, rfl⟩))) (Nat.le_of_ble_eq_true rfl) (Nat.le_of_ble_eq_true rfl) hx hb hr hP hD hS dL_setBleed_7 hlocks
set_option maxRecDepth 100000 in
set_option maxHeartbeats 4000000 in
theorem c_L_wash (l : Launch) (D : va_G) (k : Nat → ClassId) (x : Nat) (p1 : Int32) (p2 : Int32) (wc wx wr : va_W) (oc : Oc) (fs : List Value) (he : wc[0]? = some (x, .inr (1, fs))) (hfx : wx.map Prod.fst = wc.map Prod.fst) (hx1 : ∀ E, oc = .inl E → E = xB ∨ E = xR ∨ E = xS) (hvv : ∀ (B : Option Value → va_W → Prop) (ov : Option Value) (w : va_W), oc = .inr B → B ov w → ∃ v, ov = some (.int v)) (hCx : Cx l D (tyK k) yX1_wash wsX1_wash ({ frames := 7, cells := 14, slots := 93, locals := 104 } : Room) [.ref x, .int p1, .int p2] wc wx oc) : Cl l D (tyK k) yL_wash wsL_wash ({ frames := 8, cells := 14, slots := 93, locals := 126 } : Room) [.ref x, .int p1, .int p2] (wc ++ wr) (.inr (fun (ov : Option Value) (w : va_W) => (oc = .inl xB ∧ ov = some (.long (-9000000000000000001)) ∧ w = wx ++ wr) ∨ (oc = .inl xR ∧ ov = some (.long (-9000000000000000002)) ∧ w = wx ++ wr) ∨ (oc = .inl xS ∧ ov = some (.long (-9000000000000000003)) ∧ w = wx ++ wr) ∨ ∃ (B : Option Value → va_W → Prop) (v : Int32) (w2 : va_W), oc = .inr B ∧ B (some (.int v)) w2 ∧ ov = some (.long v.toInt64) ∧ w = w2 ++ wr)) := by
  obtain ⟨O, hO⟩ : ∃ O : Oc, O = .inr (fun (ov : Option Value) (w : va_W) => (oc = .inl xB ∧ ov = some (.long (-9000000000000000001)) ∧ w = wx ++ wr) ∨ (oc = .inl xR ∧ ov = some (.long (-9000000000000000002)) ∧ w = wx ++ wr) ∨ (oc = .inl xS ∧ ov = some (.long (-9000000000000000003)) ∧ w = wx ++ wr) ∨ ∃ (B : Option Value → va_W → Prop) (v : Int32) (w2 : va_W), oc = .inr B ∧ B (some (.int v)) w2 ∧ ov = some (.long v.toInt64) ∧ w = w2 ++ wr) := ⟨_, rfl⟩
  rw [← hO]
  refine Cl_of (cc := cL_wash) (maxL := 4) (ret := (some .long)) (hh := [(0, 7, 8, 37), (0, 7, 13, 15), (0, 7, 18, 19)]) (by decide) rfl (Nat.le_of_ble_eq_true rfl) ?_
  intro p e s m args below meth c A ls hx hb hr hml hts hown hlocks htab hK hG hC hA hP hD hS hl
  have hl : lv_has ls 4 [(0, .ref x), (1, .int p1), (2, .int p2)] := hl
  refine lv_aload_n hx hb dL_wash_0 rfl (lv_at hl 0 rfl) ?_
  refine lv_iload_n hx hb dL_wash_1 rfl (lv_at hl 1 rfl) ?_
  refine lv_iload_n hx hb dL_wash_2 rfl (lv_at hl 2 rfl) ?_
  refine Cx_goF (wc := wc) (wx := wx) (wr := wr) (vx_runV (As := [.int p1, .int p2]) (rest := []) ⟨hx, hb, hml, hown, hts⟩ (hCx _) (cwV 2 hts gL_wash_X1_wash rfl rfl rfl (by decide +kernel) ⟨(Nat.le_of_ble_eq_true rfl), (Nat.le_of_ble_eq_true rfl)⟩) ⟨Px_blind, va_recv (q0 := 0) (ci := 1) hK hP rfl (by rw [List.getElem?_append_left (List.getElem?_eq_some_iff.mp he).1]; exact he), Px_at (wc := wc) hK hG hP hD hS hA (List.range wc.length) (rg_hi _ _) (rg_nd _)⟩ rfl rfl hl.1 rfl (Nat.le_of_ble_eq_true rfl) dL_wash_3 ⟨(Nat.le_of_ble_eq_true rfl), (Nat.le_of_ble_eq_true rfl)⟩) hP hD hS hA hfx ?_ ?_
  · intro E ce q9 H1 locs1 h1 hP1 hD1 hS1 hce hcv hcl
    have w_37 := hts (.classLink RL 37 "java/lang/IndexOutOfBoundsException") (by decide +kernel)
    have w_15 := hts (.classLink RL 15 "java/lang/IllegalArgumentException") (by decide +kernel)
    have w_19 := hts (.classLink RL 19 "java/lang/IllegalStateException") (by decide +kernel)
    rcases hx1 E h1 with rfl | rfl | rfl
    · have hca : (Cond.castable xB "java/lang/IndexOutOfBoundsException").before args s = true := va_Nw.use rfl (hG.2.2.1.2.1 "java/lang/IndexOutOfBoundsException" (by decide +kernel))
      refine vx_catch (own := RL) (name := "java/lang/IndexOutOfBoundsException") hown [] ⟨0, 7, 8, 37⟩ [⟨0, 7, 13, 15⟩, ⟨0, 7, 18, 19⟩] (htab.trans rfl) (fun z hz => by cases hz) rfl (by decide) w_37 hca hce hcv hcl ?_
      refine lv_astore_n (lv' := [(3, .ref q9), (0, .ref x), (1, .int p1), (2, .int p2)]) hx hb dL_wash_8 rfl hl (by decide) rfl (fun ls hl => ?_)
      refine lv_ldc2 (v := (-9000000000000000001)) hx hb hown (hts (.constantLong RL 39 (-9000000000000000001)) (by decide +kernel)) dL_wash_9 ?_
      exact Cx_lret hO (Or.inl ⟨h1, rfl, rfl⟩) (Nat.le_of_ble_eq_true rfl) (Nat.le_of_ble_eq_true rfl) hx hb hr hP1 hD1 hS1 dL_wash_12 hlocks
    · have hca : (Cond.castable xR "java/lang/IllegalArgumentException").before args s = true := va_Nw.use rfl (hG.2.2.1.2.1 "java/lang/IllegalArgumentException" (by decide +kernel))
      refine vx_catch (own := RL) (name := "java/lang/IllegalArgumentException") hown [⟨0, 7, 8, 37⟩] ⟨0, 7, 13, 15⟩ [⟨0, 7, 18, 19⟩] (htab.trans rfl) (List.forall_mem_cons.mpr ⟨Or.inr ⟨by decide, "java/lang/IndexOutOfBoundsException", w_37, hC.1⟩, (fun z hz => by cases hz)⟩) rfl (by decide) w_15 hca hce hcv hcl ?_
      refine lv_astore_n (lv' := [(3, .ref q9), (0, .ref x), (1, .int p1), (2, .int p2)]) hx hb dL_wash_13 rfl hl (by decide) rfl (fun ls hl => ?_)
      refine lv_ldc2 (v := (-9000000000000000002)) hx hb hown (hts (.constantLong RL 17 (-9000000000000000002)) (by decide +kernel)) dL_wash_14 ?_
      exact Cx_lret hO (Or.inr (Or.inl ⟨h1, rfl, rfl⟩)) (Nat.le_of_ble_eq_true rfl) (Nat.le_of_ble_eq_true rfl) hx hb hr hP1 hD1 hS1 dL_wash_17 hlocks
    · have hca : (Cond.castable xS "java/lang/IllegalStateException").before args s = true := va_Nw.use rfl (hG.2.2.1.2.1 "java/lang/IllegalStateException" (by decide +kernel))
      refine vx_catch (own := RL) (name := "java/lang/IllegalStateException") hown [⟨0, 7, 8, 37⟩, ⟨0, 7, 13, 15⟩] ⟨0, 7, 18, 19⟩ [] (htab.trans rfl) (List.forall_mem_cons.mpr ⟨Or.inr ⟨by decide, "java/lang/IndexOutOfBoundsException", w_37, hC.2.1⟩, (List.forall_mem_cons.mpr ⟨Or.inr ⟨by decide, "java/lang/IllegalArgumentException", w_15, hC.2.2⟩, (fun z hz => by cases hz)⟩)⟩) rfl (by decide) w_19 hca hce hcv hcl ?_
      refine lv_astore_n (lv' := [(3, .ref q9), (0, .ref x), (1, .int p1), (2, .int p2)]) hx hb dL_wash_18 rfl hl (by decide) rfl (fun ls hl => ?_)
      refine lv_ldc2 (v := (-9000000000000000003)) hx hb hown (hts (.constantLong RL 21 (-9000000000000000003)) (by decide +kernel)) dL_wash_19 ?_
      exact Cx_lret hO (Or.inr (Or.inr (Or.inl ⟨h1, rfl, rfl⟩))) (Nat.le_of_ble_eq_true rfl) (Nat.le_of_ble_eq_true rfl) hx hb hr hP1 hD1 hS1 dL_wash_22 hlocks
  · intro ov B w1 H locs h1 hB hP hD hS
    obtain ⟨v, rfl⟩ := hvv B ov w1 h1 hB
    refine W.eq (g2 := F0 m 6 ls [.int v]) rfl ?_
    refine lv_i2l hx hb dL_wash_6 rfl ?_
    exact Cx_lret hO (Or.inr (Or.inr (Or.inr (⟨B, v, w1, h1, hB, rfl, rfl⟩)))) (Nat.le_of_ble_eq_true rfl) (Nat.le_of_ble_eq_true rfl) hx hb hr hP hD hS dL_wash_7 hlocks
set_option maxRecDepth 100000 in
set_option maxHeartbeats 4000000 in
theorem c_L_endWash (l : Launch) (D : va_G) (k : Nat → ClassId) (x : Nat) (p1 : Int32) (wc wx wr : va_W) (oc : Oc) (fs : List Value) (he : wc[0]? = some (x, .inr (1, fs))) (hfx : wx.map Prod.fst = wc.map Prod.fst) (hx1 : ∀ E, oc = .inl E → E = xB ∨ E = xS) (hvv : ∀ (B : Option Value → va_W → Prop) (ov : Option Value) (w : va_W), oc = .inr B → B ov w → ∃ v, ov = some (.int v)) (hCx : Cx l D (tyK k) yX1_endWash wsX1_endWash ({ frames := 7, cells := 12, slots := 81, locals := 103 } : Room) [.ref x, .int p1] wc wx oc) : Cl l D (tyK k) yL_endWash wsL_endWash ({ frames := 8, cells := 12, slots := 81, locals := 125 } : Room) [.ref x, .int p1] (wc ++ wr) (.inr (fun (ov : Option Value) (w : va_W) => (oc = .inl xB ∧ ov = some (.long (-9000000000000000001)) ∧ w = wx ++ wr) ∨ (oc = .inl xS ∧ ov = some (.long (-9000000000000000003)) ∧ w = wx ++ wr) ∨ ∃ (B : Option Value → va_W → Prop) (v : Int32) (w2 : va_W), oc = .inr B ∧ B (some (.int v)) w2 ∧ ov = some (.long v.toInt64) ∧ w = w2 ++ wr)) := by
  obtain ⟨O, hO⟩ : ∃ O : Oc, O = .inr (fun (ov : Option Value) (w : va_W) => (oc = .inl xB ∧ ov = some (.long (-9000000000000000001)) ∧ w = wx ++ wr) ∨ (oc = .inl xS ∧ ov = some (.long (-9000000000000000003)) ∧ w = wx ++ wr) ∨ ∃ (B : Option Value → va_W → Prop) (v : Int32) (w2 : va_W), oc = .inr B ∧ B (some (.int v)) w2 ∧ ov = some (.long v.toInt64) ∧ w = w2 ++ wr) := ⟨_, rfl⟩
  rw [← hO]
  refine Cl_of (cc := cL_endWash) (maxL := 3) (ret := (some .long)) (hh := [(0, 6, 7, 37), (0, 6, 12, 19)]) (by decide) rfl (Nat.le_of_ble_eq_true rfl) ?_
  intro p e s m args below meth c A ls hx hb hr hml hts hown hlocks htab hK hG hC hA hP hD hS hl
  have hl : lv_has ls 3 [(0, .ref x), (1, .int p1)] := hl
  refine lv_aload_n hx hb dL_endWash_0 rfl (lv_at hl 0 rfl) ?_
  refine lv_iload_n hx hb dL_endWash_1 rfl (lv_at hl 1 rfl) ?_
  refine Cx_goF (wc := wc) (wx := wx) (wr := wr) (vx_runV (As := [.int p1]) (rest := []) ⟨hx, hb, hml, hown, hts⟩ (hCx _) (cwV 1 hts gL_endWash_X1_endWash rfl rfl rfl (by decide +kernel) ⟨(Nat.le_of_ble_eq_true rfl), (Nat.le_of_ble_eq_true rfl)⟩) ⟨Px_blind, va_recv (q0 := 0) (ci := 1) hK hP rfl (by rw [List.getElem?_append_left (List.getElem?_eq_some_iff.mp he).1]; exact he), Px_at (wc := wc) hK hG hP hD hS hA (List.range wc.length) (rg_hi _ _) (rg_nd _)⟩ rfl rfl hl.1 rfl (Nat.le_of_ble_eq_true rfl) dL_endWash_2 ⟨(Nat.le_of_ble_eq_true rfl), (Nat.le_of_ble_eq_true rfl)⟩) hP hD hS hA hfx ?_ ?_
  · intro E ce q9 H1 locs1 h1 hP1 hD1 hS1 hce hcv hcl
    have w_37 := hts (.classLink RL 37 "java/lang/IndexOutOfBoundsException") (by decide +kernel)
    have w_19 := hts (.classLink RL 19 "java/lang/IllegalStateException") (by decide +kernel)
    rcases hx1 E h1 with rfl | rfl
    · have hca : (Cond.castable xB "java/lang/IndexOutOfBoundsException").before args s = true := va_Nw.use rfl (hG.2.2.1.2.1 "java/lang/IndexOutOfBoundsException" (by decide +kernel))
      refine vx_catch (own := RL) (name := "java/lang/IndexOutOfBoundsException") hown [] ⟨0, 6, 7, 37⟩ [⟨0, 6, 12, 19⟩] (htab.trans rfl) (fun z hz => by cases hz) rfl (by decide) w_37 hca hce hcv hcl ?_
      refine lv_astore_n (lv' := [(2, .ref q9), (0, .ref x), (1, .int p1)]) hx hb dL_endWash_7 rfl hl (by decide) rfl (fun ls hl => ?_)
      refine lv_ldc2 (v := (-9000000000000000001)) hx hb hown (hts (.constantLong RL 39 (-9000000000000000001)) (by decide +kernel)) dL_endWash_8 ?_
      exact Cx_lret hO (Or.inl ⟨h1, rfl, rfl⟩) (Nat.le_of_ble_eq_true rfl) (Nat.le_of_ble_eq_true rfl) hx hb hr hP1 hD1 hS1 dL_endWash_11 hlocks
    · have hca : (Cond.castable xS "java/lang/IllegalStateException").before args s = true := va_Nw.use rfl (hG.2.2.1.2.1 "java/lang/IllegalStateException" (by decide +kernel))
      refine vx_catch (own := RL) (name := "java/lang/IllegalStateException") hown [⟨0, 6, 7, 37⟩] ⟨0, 6, 12, 19⟩ [] (htab.trans rfl) (List.forall_mem_cons.mpr ⟨Or.inr ⟨by decide, "java/lang/IndexOutOfBoundsException", w_37, hC.2.1⟩, (fun z hz => by cases hz)⟩) rfl (by decide) w_19 hca hce hcv hcl ?_
      refine lv_astore_n (lv' := [(2, .ref q9), (0, .ref x), (1, .int p1)]) hx hb dL_endWash_12 rfl hl (by decide) rfl (fun ls hl => ?_)
      refine lv_ldc2 (v := (-9000000000000000003)) hx hb hown (hts (.constantLong RL 21 (-9000000000000000003)) (by decide +kernel)) dL_endWash_13 ?_
      exact Cx_lret hO (Or.inr (Or.inl ⟨h1, rfl, rfl⟩)) (Nat.le_of_ble_eq_true rfl) (Nat.le_of_ble_eq_true rfl) hx hb hr hP1 hD1 hS1 dL_endWash_16 hlocks
  · intro ov B w1 H locs h1 hB hP hD hS
    obtain ⟨v, rfl⟩ := hvv B ov w1 h1 hB
    refine W.eq (g2 := F0 m 5 ls [.int v]) rfl ?_
    refine lv_i2l hx hb dL_endWash_5 rfl ?_
    exact Cx_lret hO (Or.inr (Or.inr (⟨B, v, w1, h1, hB, rfl, rfl⟩))) (Nat.le_of_ble_eq_true rfl) (Nat.le_of_ble_eq_true rfl) hx hb hr hP hD hS dL_endWash_6 hlocks
set_option maxRecDepth 100000 in
set_option maxHeartbeats 4000000 in
theorem c_L_undo (l : Launch) (D : va_G) (k : Nat → ClassId) (x : Nat) (wc wx wr : va_W) (oc : Oc) (fs : List Value) (he : wc[0]? = some (x, .inr (1, fs))) (hfx : wx.map Prod.fst = wc.map Prod.fst) (hx1 : ∀ E, oc = .inl E → E = xS) (hvv : ∀ (B : Option Value → va_W → Prop) (ov : Option Value) (w : va_W), oc = .inr B → B ov w → ∃ v, ov = some (.int v)) (hCx : Cx l D (tyK k) yX1_undo wsX1_undo ({ frames := 6, cells := 11, slots := 75, locals := 82 } : Room) [.ref x] wc wx oc) : Cl l D (tyK k) yL_undo wsL_undo ({ frames := 7, cells := 11, slots := 75, locals := 102 } : Room) [.ref x] (wc ++ wr) (.inr (fun (ov : Option Value) (w : va_W) => (oc = .inl xS ∧ ov = some (.long (-9000000000000000003)) ∧ w = wx ++ wr) ∨ ∃ (B : Option Value → va_W → Prop) (v : Int32) (w2 : va_W), oc = .inr B ∧ B (some (.int v)) w2 ∧ ov = some (.long v.toInt64) ∧ w = w2 ++ wr)) := by
  obtain ⟨O, hO⟩ : ∃ O : Oc, O = .inr (fun (ov : Option Value) (w : va_W) => (oc = .inl xS ∧ ov = some (.long (-9000000000000000003)) ∧ w = wx ++ wr) ∨ ∃ (B : Option Value → va_W → Prop) (v : Int32) (w2 : va_W), oc = .inr B ∧ B (some (.int v)) w2 ∧ ov = some (.long v.toInt64) ∧ w = w2 ++ wr) := ⟨_, rfl⟩
  rw [← hO]
  refine Cl_of (cc := cL_undo) (maxL := 2) (ret := (some .long)) (hh := [(0, 5, 6, 19)]) (by decide) rfl (Nat.le_of_ble_eq_true rfl) ?_
  intro p e s m args below meth c A ls hx hb hr hml hts hown hlocks htab hK hG hC hA hP hD hS hl
  have hl : lv_has ls 2 [(0, .ref x)] := hl
  refine lv_aload_n hx hb dL_undo_0 rfl (lv_at hl 0 rfl) ?_
  refine Cx_goF (wc := wc) (wx := wx) (wr := wr) (vx_runV (As := []) (rest := []) ⟨hx, hb, hml, hown, hts⟩ (hCx _) (cwV 0 hts gL_undo_X1_undo rfl rfl rfl (by decide +kernel) ⟨(Nat.le_of_ble_eq_true rfl), (Nat.le_of_ble_eq_true rfl)⟩) ⟨Px_blind, va_recv (q0 := 0) (ci := 1) hK hP rfl (by rw [List.getElem?_append_left (List.getElem?_eq_some_iff.mp he).1]; exact he), Px_at (wc := wc) hK hG hP hD hS hA (List.range wc.length) (rg_hi _ _) (rg_nd _)⟩ rfl rfl hl.1 rfl (Nat.le_of_ble_eq_true rfl) dL_undo_1 ⟨(Nat.le_of_ble_eq_true rfl), (Nat.le_of_ble_eq_true rfl)⟩) hP hD hS hA hfx ?_ ?_
  · intro E ce q9 H1 locs1 h1 hP1 hD1 hS1 hce hcv hcl
    have w_19 := hts (.classLink RL 19 "java/lang/IllegalStateException") (by decide +kernel)
    rcases hx1 E h1 with rfl
    · have hca : (Cond.castable xS "java/lang/IllegalStateException").before args s = true := va_Nw.use rfl (hG.2.2.1.2.1 "java/lang/IllegalStateException" (by decide +kernel))
      refine vx_catch (own := RL) (name := "java/lang/IllegalStateException") hown [] ⟨0, 5, 6, 19⟩ [] (htab.trans rfl) (fun z hz => by cases hz) rfl (by decide) w_19 hca hce hcv hcl ?_
      refine lv_astore_n (lv' := [(1, .ref q9), (0, .ref x)]) hx hb dL_undo_6 rfl hl (by decide) rfl (fun ls hl => ?_)
      refine lv_ldc2 (v := (-9000000000000000003)) hx hb hown (hts (.constantLong RL 21 (-9000000000000000003)) (by decide +kernel)) dL_undo_7 ?_
      exact Cx_lret hO (Or.inl ⟨h1, rfl, rfl⟩) (Nat.le_of_ble_eq_true rfl) (Nat.le_of_ble_eq_true rfl) hx hb hr hP1 hD1 hS1 dL_undo_10 hlocks
  · intro ov B w1 H locs h1 hB hP hD hS
    obtain ⟨v, rfl⟩ := hvv B ov w1 h1 hB
    refine W.eq (g2 := F0 m 4 ls [.int v]) rfl ?_
    refine lv_i2l hx hb dL_undo_4 rfl ?_
    exact Cx_lret hO (Or.inr (⟨B, v, w1, h1, hB, rfl, rfl⟩)) (Nat.le_of_ble_eq_true rfl) (Nat.le_of_ble_eq_true rfl) hx hb hr hP hD hS dL_undo_5 hlocks
set_option maxRecDepth 100000 in
set_option maxHeartbeats 4000000 in
theorem c_L_ahead (l : Launch) (D : va_G) (k : Nat → ClassId) (x : Nat) (p1 : Int32) (p2 : Int32) (p3 : Int32) (wc wx wr : va_W) (oc : Oc) (fs : List Value) (he : wc[0]? = some (x, .inr (1, fs))) (hfx : wx.map Prod.fst = wc.map Prod.fst) (hx1 : ∀ E, oc = .inl E → E = xB ∨ E = xR) (hvv : ∀ (B : Option Value → va_W → Prop) (ov : Option Value) (w : va_W), oc = .inr B → B ov w → ∃ v, ov = some (.int v)) (hCx : Cx l D (tyK k) yX1_ahead wsX1_ahead ({ frames := 7, cells := 3, slots := 18, locals := 104 } : Room) [.ref x, .int p1, .int p2, .int p3] wc wx oc) : Cl l D (tyK k) yL_ahead wsL_ahead ({ frames := 8, cells := 3, slots := 18, locals := 127 } : Room) [.ref x, .int p1, .int p2, .int p3] (wc ++ wr) (.inr (fun (ov : Option Value) (w : va_W) => (oc = .inl xB ∧ ov = some (.long (-9000000000000000001)) ∧ w = wx ++ wr) ∨ (oc = .inl xR ∧ ov = some (.long (-9000000000000000002)) ∧ w = wx ++ wr) ∨ ∃ (B : Option Value → va_W → Prop) (v : Int32) (w2 : va_W), oc = .inr B ∧ B (some (.int v)) w2 ∧ ov = some (.long v.toInt64) ∧ w = w2 ++ wr)) := by
  obtain ⟨O, hO⟩ : ∃ O : Oc, O = .inr (fun (ov : Option Value) (w : va_W) => (oc = .inl xB ∧ ov = some (.long (-9000000000000000001)) ∧ w = wx ++ wr) ∨ (oc = .inl xR ∧ ov = some (.long (-9000000000000000002)) ∧ w = wx ++ wr) ∨ ∃ (B : Option Value → va_W → Prop) (v : Int32) (w2 : va_W), oc = .inr B ∧ B (some (.int v)) w2 ∧ ov = some (.long v.toInt64) ∧ w = w2 ++ wr) := ⟨_, rfl⟩
  rw [← hO]
  refine Cl_of (cc := cL_ahead) (maxL := 5) (ret := (some .long)) (hh := [(0, 8, 9, 37), (0, 8, 15, 15)]) (by decide) rfl (Nat.le_of_ble_eq_true rfl) ?_
  intro p e s m args below meth c A ls hx hb hr hml hts hown hlocks htab hK hG hC hA hP hD hS hl
  have hl : lv_has ls 5 [(0, .ref x), (1, .int p1), (2, .int p2), (3, .int p3)] := hl
  refine lv_aload_n hx hb dL_ahead_0 rfl (lv_at hl 0 rfl) ?_
  refine lv_iload_n hx hb dL_ahead_1 rfl (lv_at hl 1 rfl) ?_
  refine lv_iload_n hx hb dL_ahead_2 rfl (lv_at hl 2 rfl) ?_
  refine lv_iload_n hx hb dL_ahead_3 rfl (lv_at hl 3 rfl) ?_
  refine Cx_goF (wc := wc) (wx := wx) (wr := wr) (vx_runV (As := [.int p1, .int p2, .int p3]) (rest := []) ⟨hx, hb, hml, hown, hts⟩ (hCx _) (cwV 3 hts gL_ahead_X1_ahead rfl rfl rfl (by decide +kernel) ⟨(Nat.le_of_ble_eq_true rfl), (Nat.le_of_ble_eq_true rfl)⟩) ⟨Px_blind, va_recv (q0 := 0) (ci := 1) hK hP rfl (by rw [List.getElem?_append_left (List.getElem?_eq_some_iff.mp he).1]; exact he), Px_at (wc := wc) hK hG hP hD hS hA (List.range wc.length) (rg_hi _ _) (rg_nd _)⟩ rfl rfl hl.1 rfl (Nat.le_of_ble_eq_true rfl) dL_ahead_4 ⟨(Nat.le_of_ble_eq_true rfl), (Nat.le_of_ble_eq_true rfl)⟩) hP hD hS hA hfx ?_ ?_
  · intro E ce q9 H1 locs1 h1 hP1 hD1 hS1 hce hcv hcl
    have w_37 := hts (.classLink RL 37 "java/lang/IndexOutOfBoundsException") (by decide +kernel)
    have w_15 := hts (.classLink RL 15 "java/lang/IllegalArgumentException") (by decide +kernel)
    rcases hx1 E h1 with rfl | rfl
    · have hca : (Cond.castable xB "java/lang/IndexOutOfBoundsException").before args s = true := va_Nw.use rfl (hG.2.2.1.2.1 "java/lang/IndexOutOfBoundsException" (by decide +kernel))
      refine vx_catch (own := RL) (name := "java/lang/IndexOutOfBoundsException") hown [] ⟨0, 8, 9, 37⟩ [⟨0, 8, 15, 15⟩] (htab.trans rfl) (fun z hz => by cases hz) rfl (by decide) w_37 hca hce hcv hcl ?_
      refine lv_astore (lv' := [(4, .ref q9), (0, .ref x), (1, .int p1), (2, .int p2), (3, .int p3)]) hx hb dL_ahead_9 hl (by decide) rfl (fun ls hl => ?_)
      refine lv_ldc2 (v := (-9000000000000000001)) hx hb hown (hts (.constantLong RL 39 (-9000000000000000001)) (by decide +kernel)) dL_ahead_11 ?_
      exact Cx_lret hO (Or.inl ⟨h1, rfl, rfl⟩) (Nat.le_of_ble_eq_true rfl) (Nat.le_of_ble_eq_true rfl) hx hb hr hP1 hD1 hS1 dL_ahead_14 hlocks
    · have hca : (Cond.castable xR "java/lang/IllegalArgumentException").before args s = true := va_Nw.use rfl (hG.2.2.1.2.1 "java/lang/IllegalArgumentException" (by decide +kernel))
      refine vx_catch (own := RL) (name := "java/lang/IllegalArgumentException") hown [⟨0, 8, 9, 37⟩] ⟨0, 8, 15, 15⟩ [] (htab.trans rfl) (List.forall_mem_cons.mpr ⟨Or.inr ⟨by decide, "java/lang/IndexOutOfBoundsException", w_37, hC.1⟩, (fun z hz => by cases hz)⟩) rfl (by decide) w_15 hca hce hcv hcl ?_
      refine lv_astore (lv' := [(4, .ref q9), (0, .ref x), (1, .int p1), (2, .int p2), (3, .int p3)]) hx hb dL_ahead_15 hl (by decide) rfl (fun ls hl => ?_)
      refine lv_ldc2 (v := (-9000000000000000002)) hx hb hown (hts (.constantLong RL 17 (-9000000000000000002)) (by decide +kernel)) dL_ahead_17 ?_
      exact Cx_lret hO (Or.inr (Or.inl ⟨h1, rfl, rfl⟩)) (Nat.le_of_ble_eq_true rfl) (Nat.le_of_ble_eq_true rfl) hx hb hr hP1 hD1 hS1 dL_ahead_20 hlocks
  · intro ov B w1 H locs h1 hB hP hD hS
    obtain ⟨v, rfl⟩ := hvv B ov w1 h1 hB
    refine W.eq (g2 := F0 m 7 ls [.int v]) rfl ?_
    refine lv_i2l hx hb dL_ahead_7 rfl ?_
    exact Cx_lret hO (Or.inr (Or.inr (⟨B, v, w1, h1, hB, rfl, rfl⟩))) (Nat.le_of_ble_eq_true rfl) (Nat.le_of_ble_eq_true rfl) hx hb hr hP hD hS dL_ahead_8 hlocks
set_option maxRecDepth 100000 in
set_option maxHeartbeats 4000000 in
theorem c_L_growth (l : Launch) (D : va_G) (k : Nat → ClassId) (x : Nat) (p1 : Int32) (p2 : Int32) (wc wx wr : va_W) (oc : Oc) (fs : List Value) (he : wc[0]? = some (x, .inr (1, fs))) (hfx : wx.map Prod.fst = wc.map Prod.fst) (hx1 : ∀ E, oc = .inl E → E = xR) (hvv : ∀ (B : Option Value → va_W → Prop) (ov : Option Value) (w : va_W), oc = .inr B → B ov w → ∃ v, ov = some (.int v)) (hCx : Cx l D (tyK k) yX1_growth wsX1_growth ({ frames := 7, cells := 2, slots := 12, locals := 104 } : Room) [.ref x, .int p1, .int p2] wc wx oc) : Cl l D (tyK k) yL_growth wsL_growth ({ frames := 8, cells := 2, slots := 12, locals := 126 } : Room) [.ref x, .int p1, .int p2] (wc ++ wr) (.inr (fun (ov : Option Value) (w : va_W) => (oc = .inl xR ∧ ov = some (.long (-9000000000000000002)) ∧ w = wx ++ wr) ∨ ∃ (B : Option Value → va_W → Prop) (v : Int32) (w2 : va_W), oc = .inr B ∧ B (some (.int v)) w2 ∧ ov = some (.long v.toInt64) ∧ w = w2 ++ wr)) := by
  obtain ⟨O, hO⟩ : ∃ O : Oc, O = .inr (fun (ov : Option Value) (w : va_W) => (oc = .inl xR ∧ ov = some (.long (-9000000000000000002)) ∧ w = wx ++ wr) ∨ ∃ (B : Option Value → va_W → Prop) (v : Int32) (w2 : va_W), oc = .inr B ∧ B (some (.int v)) w2 ∧ ov = some (.long v.toInt64) ∧ w = w2 ++ wr) := ⟨_, rfl⟩
  rw [← hO]
  refine Cl_of (cc := cL_growth) (maxL := 4) (ret := (some .long)) (hh := [(0, 7, 8, 15)]) (by decide) rfl (Nat.le_of_ble_eq_true rfl) ?_
  intro p e s m args below meth c A ls hx hb hr hml hts hown hlocks htab hK hG hC hA hP hD hS hl
  have hl : lv_has ls 4 [(0, .ref x), (1, .int p1), (2, .int p2)] := hl
  refine lv_aload_n hx hb dL_growth_0 rfl (lv_at hl 0 rfl) ?_
  refine lv_iload_n hx hb dL_growth_1 rfl (lv_at hl 1 rfl) ?_
  refine lv_iload_n hx hb dL_growth_2 rfl (lv_at hl 2 rfl) ?_
  refine Cx_goF (wc := wc) (wx := wx) (wr := wr) (vx_runV (As := [.int p1, .int p2]) (rest := []) ⟨hx, hb, hml, hown, hts⟩ (hCx _) (cwV 2 hts gL_growth_X1_growth rfl rfl rfl (by decide +kernel) ⟨(Nat.le_of_ble_eq_true rfl), (Nat.le_of_ble_eq_true rfl)⟩) ⟨Px_blind, va_recv (q0 := 0) (ci := 1) hK hP rfl (by rw [List.getElem?_append_left (List.getElem?_eq_some_iff.mp he).1]; exact he), Px_at (wc := wc) hK hG hP hD hS hA (List.range wc.length) (rg_hi _ _) (rg_nd _)⟩ rfl rfl hl.1 rfl (Nat.le_of_ble_eq_true rfl) dL_growth_3 ⟨(Nat.le_of_ble_eq_true rfl), (Nat.le_of_ble_eq_true rfl)⟩) hP hD hS hA hfx ?_ ?_
  · intro E ce q9 H1 locs1 h1 hP1 hD1 hS1 hce hcv hcl
    have w_15 := hts (.classLink RL 15 "java/lang/IllegalArgumentException") (by decide +kernel)
    rcases hx1 E h1 with rfl
    · have hca : (Cond.castable xR "java/lang/IllegalArgumentException").before args s = true := va_Nw.use rfl (hG.2.2.1.2.1 "java/lang/IllegalArgumentException" (by decide +kernel))
      refine vx_catch (own := RL) (name := "java/lang/IllegalArgumentException") hown [] ⟨0, 7, 8, 15⟩ [] (htab.trans rfl) (fun z hz => by cases hz) rfl (by decide) w_15 hca hce hcv hcl ?_
      refine lv_astore_n (lv' := [(3, .ref q9), (0, .ref x), (1, .int p1), (2, .int p2)]) hx hb dL_growth_8 rfl hl (by decide) rfl (fun ls hl => ?_)
      refine lv_ldc2 (v := (-9000000000000000002)) hx hb hown (hts (.constantLong RL 17 (-9000000000000000002)) (by decide +kernel)) dL_growth_9 ?_
      exact Cx_lret hO (Or.inl ⟨h1, rfl, rfl⟩) (Nat.le_of_ble_eq_true rfl) (Nat.le_of_ble_eq_true rfl) hx hb hr hP1 hD1 hS1 dL_growth_12 hlocks
  · intro ov B w1 H locs h1 hB hP hD hS
    obtain ⟨v, rfl⟩ := hvv B ov w1 h1 hB
    refine W.eq (g2 := F0 m 6 ls [.int v]) rfl ?_
    refine lv_i2l hx hb dL_growth_6 rfl ?_
    exact Cx_lret hO (Or.inr (⟨B, v, w1, h1, hB, rfl, rfl⟩)) (Nat.le_of_ble_eq_true rfl) (Nat.le_of_ble_eq_true rfl) hx hb hr hP hD hS dL_growth_7 hlocks
set_option maxRecDepth 100000 in
set_option maxHeartbeats 4000000 in
theorem c_L_washGain (l : Launch) (D : va_G) (k : Nat → ClassId) (x : Nat) (p1 : Int32) (p2 : Int32) (p3 : Int32) (wc wx wr : va_W) (oc : Oc) (fs : List Value) (he : wc[0]? = some (x, .inr (1, fs))) (hfx : wx.map Prod.fst = wc.map Prod.fst) (hx1 : ∀ E, oc = .inl E → E = xB ∨ E = xR ∨ E = xS) (hvv : ∀ (B : Option Value → va_W → Prop) (ov : Option Value) (w : va_W), oc = .inr B → B ov w → ∃ v, ov = some (.int v)) (hCx : Cx l D (tyK k) yX1_washGain wsX1_washGain ({ frames := 7, cells := 4, slots := 24, locals := 104 } : Room) [.ref x, .int p1, .int p2, .int p3] wc wx oc) : Cl l D (tyK k) yL_washGain wsL_washGain ({ frames := 8, cells := 4, slots := 24, locals := 128 } : Room) [.ref x, .int p1, .int p2, .int p3] (wc ++ wr) (.inr (fun (ov : Option Value) (w : va_W) => (oc = .inl xB ∧ ov = some (.long (-9000000000000000001)) ∧ w = wx ++ wr) ∨ (oc = .inl xR ∧ ov = some (.long (-9000000000000000002)) ∧ w = wx ++ wr) ∨ (oc = .inl xS ∧ ov = some (.long (-9000000000000000003)) ∧ w = wx ++ wr) ∨ ∃ (B : Option Value → va_W → Prop) (v : Int32) (w2 : va_W), oc = .inr B ∧ B (some (.int v)) w2 ∧ ov = some (.long v.toInt64) ∧ w = w2 ++ wr)) := by
  obtain ⟨O, hO⟩ : ∃ O : Oc, O = .inr (fun (ov : Option Value) (w : va_W) => (oc = .inl xB ∧ ov = some (.long (-9000000000000000001)) ∧ w = wx ++ wr) ∨ (oc = .inl xR ∧ ov = some (.long (-9000000000000000002)) ∧ w = wx ++ wr) ∨ (oc = .inl xS ∧ ov = some (.long (-9000000000000000003)) ∧ w = wx ++ wr) ∨ ∃ (B : Option Value → va_W → Prop) (v : Int32) (w2 : va_W), oc = .inr B ∧ B (some (.int v)) w2 ∧ ov = some (.long v.toInt64) ∧ w = w2 ++ wr) := ⟨_, rfl⟩
  rw [← hO]
  refine Cl_of (cc := cL_washGain) (maxL := 5) (ret := (some .long)) (hh := [(0, 8, 9, 37), (0, 8, 15, 15), (0, 8, 21, 19)]) (by decide) rfl (Nat.le_of_ble_eq_true rfl) ?_
  intro p e s m args below meth c A ls hx hb hr hml hts hown hlocks htab hK hG hC hA hP hD hS hl
  have hl : lv_has ls 5 [(0, .ref x), (1, .int p1), (2, .int p2), (3, .int p3)] := hl
  refine lv_aload_n hx hb dL_washGain_0 rfl (lv_at hl 0 rfl) ?_
  refine lv_iload_n hx hb dL_washGain_1 rfl (lv_at hl 1 rfl) ?_
  refine lv_iload_n hx hb dL_washGain_2 rfl (lv_at hl 2 rfl) ?_
  refine lv_iload_n hx hb dL_washGain_3 rfl (lv_at hl 3 rfl) ?_
  refine Cx_goF (wc := wc) (wx := wx) (wr := wr) (vx_runV (As := [.int p1, .int p2, .int p3]) (rest := []) ⟨hx, hb, hml, hown, hts⟩ (hCx _) (cwV 3 hts gL_washGain_X1_washGain rfl rfl rfl (by decide +kernel) ⟨(Nat.le_of_ble_eq_true rfl), (Nat.le_of_ble_eq_true rfl)⟩) ⟨Px_blind, va_recv (q0 := 0) (ci := 1) hK hP rfl (by rw [List.getElem?_append_left (List.getElem?_eq_some_iff.mp he).1]; exact he), Px_at (wc := wc) hK hG hP hD hS hA (List.range wc.length) (rg_hi _ _) (rg_nd _)⟩ rfl rfl hl.1 rfl (Nat.le_of_ble_eq_true rfl) dL_washGain_4 ⟨(Nat.le_of_ble_eq_true rfl), (Nat.le_of_ble_eq_true rfl)⟩) hP hD hS hA hfx ?_ ?_
  · intro E ce q9 H1 locs1 h1 hP1 hD1 hS1 hce hcv hcl
    have w_37 := hts (.classLink RL 37 "java/lang/IndexOutOfBoundsException") (by decide +kernel)
    have w_15 := hts (.classLink RL 15 "java/lang/IllegalArgumentException") (by decide +kernel)
    have w_19 := hts (.classLink RL 19 "java/lang/IllegalStateException") (by decide +kernel)
    rcases hx1 E h1 with rfl | rfl | rfl
    · have hca : (Cond.castable xB "java/lang/IndexOutOfBoundsException").before args s = true := va_Nw.use rfl (hG.2.2.1.2.1 "java/lang/IndexOutOfBoundsException" (by decide +kernel))
      refine vx_catch (own := RL) (name := "java/lang/IndexOutOfBoundsException") hown [] ⟨0, 8, 9, 37⟩ [⟨0, 8, 15, 15⟩, ⟨0, 8, 21, 19⟩] (htab.trans rfl) (fun z hz => by cases hz) rfl (by decide) w_37 hca hce hcv hcl ?_
      refine lv_astore (lv' := [(4, .ref q9), (0, .ref x), (1, .int p1), (2, .int p2), (3, .int p3)]) hx hb dL_washGain_9 hl (by decide) rfl (fun ls hl => ?_)
      refine lv_ldc2 (v := (-9000000000000000001)) hx hb hown (hts (.constantLong RL 39 (-9000000000000000001)) (by decide +kernel)) dL_washGain_11 ?_
      exact Cx_lret hO (Or.inl ⟨h1, rfl, rfl⟩) (Nat.le_of_ble_eq_true rfl) (Nat.le_of_ble_eq_true rfl) hx hb hr hP1 hD1 hS1 dL_washGain_14 hlocks
    · have hca : (Cond.castable xR "java/lang/IllegalArgumentException").before args s = true := va_Nw.use rfl (hG.2.2.1.2.1 "java/lang/IllegalArgumentException" (by decide +kernel))
      refine vx_catch (own := RL) (name := "java/lang/IllegalArgumentException") hown [⟨0, 8, 9, 37⟩] ⟨0, 8, 15, 15⟩ [⟨0, 8, 21, 19⟩] (htab.trans rfl) (List.forall_mem_cons.mpr ⟨Or.inr ⟨by decide, "java/lang/IndexOutOfBoundsException", w_37, hC.1⟩, (fun z hz => by cases hz)⟩) rfl (by decide) w_15 hca hce hcv hcl ?_
      refine lv_astore (lv' := [(4, .ref q9), (0, .ref x), (1, .int p1), (2, .int p2), (3, .int p3)]) hx hb dL_washGain_15 hl (by decide) rfl (fun ls hl => ?_)
      refine lv_ldc2 (v := (-9000000000000000002)) hx hb hown (hts (.constantLong RL 17 (-9000000000000000002)) (by decide +kernel)) dL_washGain_17 ?_
      exact Cx_lret hO (Or.inr (Or.inl ⟨h1, rfl, rfl⟩)) (Nat.le_of_ble_eq_true rfl) (Nat.le_of_ble_eq_true rfl) hx hb hr hP1 hD1 hS1 dL_washGain_20 hlocks
    · have hca : (Cond.castable xS "java/lang/IllegalStateException").before args s = true := va_Nw.use rfl (hG.2.2.1.2.1 "java/lang/IllegalStateException" (by decide +kernel))
      refine vx_catch (own := RL) (name := "java/lang/IllegalStateException") hown [⟨0, 8, 9, 37⟩, ⟨0, 8, 15, 15⟩] ⟨0, 8, 21, 19⟩ [] (htab.trans rfl) (List.forall_mem_cons.mpr ⟨Or.inr ⟨by decide, "java/lang/IndexOutOfBoundsException", w_37, hC.2.1⟩, (List.forall_mem_cons.mpr ⟨Or.inr ⟨by decide, "java/lang/IllegalArgumentException", w_15, hC.2.2⟩, (fun z hz => by cases hz)⟩)⟩) rfl (by decide) w_19 hca hce hcv hcl ?_
      refine lv_astore (lv' := [(4, .ref q9), (0, .ref x), (1, .int p1), (2, .int p2), (3, .int p3)]) hx hb dL_washGain_21 hl (by decide) rfl (fun ls hl => ?_)
      refine lv_ldc2 (v := (-9000000000000000003)) hx hb hown (hts (.constantLong RL 21 (-9000000000000000003)) (by decide +kernel)) dL_washGain_23 ?_
      exact Cx_lret hO (Or.inr (Or.inr (Or.inl ⟨h1, rfl, rfl⟩))) (Nat.le_of_ble_eq_true rfl) (Nat.le_of_ble_eq_true rfl) hx hb hr hP1 hD1 hS1 dL_washGain_26 hlocks
  · intro ov B w1 H locs h1 hB hP hD hS
    obtain ⟨v, rfl⟩ := hvv B ov w1 h1 hB
    refine W.eq (g2 := F0 m 7 ls [.int v]) rfl ?_
    refine lv_i2l hx hb dL_washGain_7 rfl ?_
    exact Cx_lret hO (Or.inr (Or.inr (Or.inr (⟨B, v, w1, h1, hB, rfl, rfl⟩)))) (Nat.le_of_ble_eq_true rfl) (Nat.le_of_ble_eq_true rfl) hx hb hr hP hD hS dL_washGain_8 hlocks
set_option maxRecDepth 100000 in
set_option maxHeartbeats 4000000 in
theorem c_L_bestTurns (l : Launch) (D : va_G) (k : Nat → ClassId) (x : Nat) (p1 : Int32) (p2 : Int32) (wc wx wr : va_W) (oc : Oc) (fs : List Value) (he : wc[0]? = some (x, .inr (1, fs))) (hfx : wx.map Prod.fst = wc.map Prod.fst) (hx1 : ∀ E, oc = .inl E → E = xR) (hvv : ∀ (B : Option Value → va_W → Prop) (ov : Option Value) (w : va_W), oc = .inr B → B ov w → ∃ v, ov = some (.int v)) (hCx : Cx l D (tyK k) yX1_bestTurns wsX1_bestTurns ({ frames := 12, cells := 34, slots := 231, locals := 700 } : Room) [.ref x, .int p1, .int p2] wc wx oc) : Cl l D (tyK k) yL_bestTurns wsL_bestTurns ({ frames := 13, cells := 34, slots := 231, locals := 726 } : Room) [.ref x, .int p1, .int p2] (wc ++ wr) (.inr (fun (ov : Option Value) (w : va_W) => (oc = .inl xR ∧ ov = some (.long (-9000000000000000002)) ∧ w = wx ++ wr) ∨ ∃ (B : Option Value → va_W → Prop) (v : Int32) (w2 : va_W), oc = .inr B ∧ B (some (.int v)) w2 ∧ ov = some (.long v.toInt64) ∧ w = w2 ++ wr)) := by
  obtain ⟨O, hO⟩ : ∃ O : Oc, O = .inr (fun (ov : Option Value) (w : va_W) => (oc = .inl xR ∧ ov = some (.long (-9000000000000000002)) ∧ w = wx ++ wr) ∨ ∃ (B : Option Value → va_W → Prop) (v : Int32) (w2 : va_W), oc = .inr B ∧ B (some (.int v)) w2 ∧ ov = some (.long v.toInt64) ∧ w = w2 ++ wr) := ⟨_, rfl⟩
  rw [← hO]
  refine Cl_of (cc := cL_bestTurns) (maxL := 4) (ret := (some .long)) (hh := [(0, 7, 8, 15)]) (by decide) rfl (Nat.le_of_ble_eq_true rfl) ?_
  intro p e s m args below meth c A ls hx hb hr hml hts hown hlocks htab hK hG hC hA hP hD hS hl
  have hl : lv_has ls 4 [(0, .ref x), (1, .int p1), (2, .int p2)] := hl
  refine lv_aload_n hx hb dL_bestTurns_0 rfl (lv_at hl 0 rfl) ?_
  refine lv_iload_n hx hb dL_bestTurns_1 rfl (lv_at hl 1 rfl) ?_
  refine lv_iload_n hx hb dL_bestTurns_2 rfl (lv_at hl 2 rfl) ?_
  refine Cx_goF (wc := wc) (wx := wx) (wr := wr) (vx_runV (As := [.int p1, .int p2]) (rest := []) ⟨hx, hb, hml, hown, hts⟩ (hCx _) (cwV 2 hts gL_bestTurns_X1_bestTurns rfl rfl rfl (by decide +kernel) ⟨(Nat.le_of_ble_eq_true rfl), (Nat.le_of_ble_eq_true rfl)⟩) ⟨Px_blind, va_recv (q0 := 0) (ci := 1) hK hP rfl (by rw [List.getElem?_append_left (List.getElem?_eq_some_iff.mp he).1]; exact he), Px_at (wc := wc) hK hG hP hD hS hA (List.range wc.length) (rg_hi _ _) (rg_nd _)⟩ rfl rfl hl.1 rfl (Nat.le_of_ble_eq_true rfl) dL_bestTurns_3 ⟨(Nat.le_of_ble_eq_true rfl), (Nat.le_of_ble_eq_true rfl)⟩) hP hD hS hA hfx ?_ ?_
  · intro E ce q9 H1 locs1 h1 hP1 hD1 hS1 hce hcv hcl
    have w_15 := hts (.classLink RL 15 "java/lang/IllegalArgumentException") (by decide +kernel)
    rcases hx1 E h1 with rfl
    · have hca : (Cond.castable xR "java/lang/IllegalArgumentException").before args s = true := va_Nw.use rfl (hG.2.2.1.2.1 "java/lang/IllegalArgumentException" (by decide +kernel))
      refine vx_catch (own := RL) (name := "java/lang/IllegalArgumentException") hown [] ⟨0, 7, 8, 15⟩ [] (htab.trans rfl) (fun z hz => by cases hz) rfl (by decide) w_15 hca hce hcv hcl ?_
      refine lv_astore_n (lv' := [(3, .ref q9), (0, .ref x), (1, .int p1), (2, .int p2)]) hx hb dL_bestTurns_8 rfl hl (by decide) rfl (fun ls hl => ?_)
      refine lv_ldc2 (v := (-9000000000000000002)) hx hb hown (hts (.constantLong RL 17 (-9000000000000000002)) (by decide +kernel)) dL_bestTurns_9 ?_
      exact Cx_lret hO (Or.inl ⟨h1, rfl, rfl⟩) (Nat.le_of_ble_eq_true rfl) (Nat.le_of_ble_eq_true rfl) hx hb hr hP1 hD1 hS1 dL_bestTurns_12 hlocks
  · intro ov B w1 H locs h1 hB hP hD hS
    obtain ⟨v, rfl⟩ := hvv B ov w1 h1 hB
    refine W.eq (g2 := F0 m 6 ls [.int v]) rfl ?_
    refine lv_i2l hx hb dL_bestTurns_6 rfl ?_
    exact Cx_lret hO (Or.inr (⟨B, v, w1, h1, hB, rfl, rfl⟩)) (Nat.le_of_ble_eq_true rfl) (Nat.le_of_ble_eq_true rfl) hx hb hr hP hD hS dL_bestTurns_7 hlocks
set_option maxRecDepth 100000 in
set_option maxHeartbeats 4000000 in
theorem c_L_scaledAfter (l : Launch) (D : va_G) (k : Nat → ClassId) (x : Nat) (p1 : Int32) (p2 : Int32) (wc wx wr : va_W) (oc : Oc) (fs : List Value) (he : wc[0]? = some (x, .inr (1, fs))) (hfx : wx.map Prod.fst = wc.map Prod.fst) (hx1 : ∀ E, oc = .inl E → E = xB ∨ E = xR) (hvv : ∀ (B : Option Value → va_W → Prop) (ov : Option Value) (w : va_W), oc = .inr B → B ov w → ∃ v, ov = some (.int v)) (hCx : Cx l D (tyK k) yX1_scaledAfter wsX1_scaledAfter ({ frames := 7, cells := 7, slots := 42, locals := 104 } : Room) [.ref x, .int p1, .int p2] wc wx oc) : Cl l D (tyK k) yL_scaledAfter wsL_scaledAfter ({ frames := 8, cells := 7, slots := 42, locals := 127 } : Room) [.ref x, .int p1, .int p2] (wc ++ wr) (.inr (fun (ov : Option Value) (w : va_W) => (oc = .inl xB ∧ ov = some (.long (-9000000000000000001)) ∧ w = wx ++ wr) ∨ (oc = .inl xR ∧ ov = some (.long (-9000000000000000002)) ∧ w = wx ++ wr) ∨ ∃ (B : Option Value → va_W → Prop) (v : Int32) (w2 : va_W), oc = .inr B ∧ B (some (.int v)) w2 ∧ ov = some (.long v.toInt64) ∧ w = w2 ++ wr)) := by
  obtain ⟨O, hO⟩ : ∃ O : Oc, O = .inr (fun (ov : Option Value) (w : va_W) => (oc = .inl xB ∧ ov = some (.long (-9000000000000000001)) ∧ w = wx ++ wr) ∨ (oc = .inl xR ∧ ov = some (.long (-9000000000000000002)) ∧ w = wx ++ wr) ∨ ∃ (B : Option Value → va_W → Prop) (v : Int32) (w2 : va_W), oc = .inr B ∧ B (some (.int v)) w2 ∧ ov = some (.long v.toInt64) ∧ w = w2 ++ wr) := ⟨_, rfl⟩
  rw [← hO]
  refine Cl_of (cc := cL_scaledAfter) (maxL := 4) (ret := (some .long)) (hh := [(0, 7, 8, 37), (0, 7, 13, 15)]) (by decide) rfl (Nat.le_of_ble_eq_true rfl) ?_
  intro p e s m args below meth c A ls hx hb hr hml hts hown hlocks htab hK hG hC hA hP hD hS hl
  have hl : lv_has ls 4 [(0, .ref x), (1, .int p1), (2, .int p2)] := hl
  refine lv_aload_n hx hb dL_scaledAfter_0 rfl (lv_at hl 0 rfl) ?_
  refine lv_iload_n hx hb dL_scaledAfter_1 rfl (lv_at hl 1 rfl) ?_
  refine lv_iload_n hx hb dL_scaledAfter_2 rfl (lv_at hl 2 rfl) ?_
  refine Cx_goF (wc := wc) (wx := wx) (wr := wr) (vx_runV (As := [.int p1, .int p2]) (rest := []) ⟨hx, hb, hml, hown, hts⟩ (hCx _) (cwV 2 hts gL_scaledAfter_X1_scaledAfter rfl rfl rfl (by decide +kernel) ⟨(Nat.le_of_ble_eq_true rfl), (Nat.le_of_ble_eq_true rfl)⟩) ⟨Px_blind, va_recv (q0 := 0) (ci := 1) hK hP rfl (by rw [List.getElem?_append_left (List.getElem?_eq_some_iff.mp he).1]; exact he), Px_at (wc := wc) hK hG hP hD hS hA (List.range wc.length) (rg_hi _ _) (rg_nd _)⟩ rfl rfl hl.1 rfl (Nat.le_of_ble_eq_true rfl) dL_scaledAfter_3 ⟨(Nat.le_of_ble_eq_true rfl), (Nat.le_of_ble_eq_true rfl)⟩) hP hD hS hA hfx ?_ ?_
  · intro E ce q9 H1 locs1 h1 hP1 hD1 hS1 hce hcv hcl
    have w_37 := hts (.classLink RL 37 "java/lang/IndexOutOfBoundsException") (by decide +kernel)
    have w_15 := hts (.classLink RL 15 "java/lang/IllegalArgumentException") (by decide +kernel)
    rcases hx1 E h1 with rfl | rfl
    · have hca : (Cond.castable xB "java/lang/IndexOutOfBoundsException").before args s = true := va_Nw.use rfl (hG.2.2.1.2.1 "java/lang/IndexOutOfBoundsException" (by decide +kernel))
      refine vx_catch (own := RL) (name := "java/lang/IndexOutOfBoundsException") hown [] ⟨0, 7, 8, 37⟩ [⟨0, 7, 13, 15⟩] (htab.trans rfl) (fun z hz => by cases hz) rfl (by decide) w_37 hca hce hcv hcl ?_
      refine lv_astore_n (lv' := [(3, .ref q9), (0, .ref x), (1, .int p1), (2, .int p2)]) hx hb dL_scaledAfter_8 rfl hl (by decide) rfl (fun ls hl => ?_)
      refine lv_ldc2 (v := (-9000000000000000001)) hx hb hown (hts (.constantLong RL 39 (-9000000000000000001)) (by decide +kernel)) dL_scaledAfter_9 ?_
      exact Cx_lret hO (Or.inl ⟨h1, rfl, rfl⟩) (Nat.le_of_ble_eq_true rfl) (Nat.le_of_ble_eq_true rfl) hx hb hr hP1 hD1 hS1 dL_scaledAfter_12 hlocks
    · have hca : (Cond.castable xR "java/lang/IllegalArgumentException").before args s = true := va_Nw.use rfl (hG.2.2.1.2.1 "java/lang/IllegalArgumentException" (by decide +kernel))
      refine vx_catch (own := RL) (name := "java/lang/IllegalArgumentException") hown [⟨0, 7, 8, 37⟩] ⟨0, 7, 13, 15⟩ [] (htab.trans rfl) (List.forall_mem_cons.mpr ⟨Or.inr ⟨by decide, "java/lang/IndexOutOfBoundsException", w_37, hC.1⟩, (fun z hz => by cases hz)⟩) rfl (by decide) w_15 hca hce hcv hcl ?_
      refine lv_astore_n (lv' := [(3, .ref q9), (0, .ref x), (1, .int p1), (2, .int p2)]) hx hb dL_scaledAfter_13 rfl hl (by decide) rfl (fun ls hl => ?_)
      refine lv_ldc2 (v := (-9000000000000000002)) hx hb hown (hts (.constantLong RL 17 (-9000000000000000002)) (by decide +kernel)) dL_scaledAfter_14 ?_
      exact Cx_lret hO (Or.inr (Or.inl ⟨h1, rfl, rfl⟩)) (Nat.le_of_ble_eq_true rfl) (Nat.le_of_ble_eq_true rfl) hx hb hr hP1 hD1 hS1 dL_scaledAfter_17 hlocks
  · intro ov B w1 H locs h1 hB hP hD hS
    obtain ⟨v, rfl⟩ := hvv B ov w1 h1 hB
    refine W.eq (g2 := F0 m 6 ls [.int v]) rfl ?_
    refine lv_i2l hx hb dL_scaledAfter_6 rfl ?_
    exact Cx_lret hO (Or.inr (Or.inr (⟨B, v, w1, h1, hB, rfl, rfl⟩))) (Nat.le_of_ble_eq_true rfl) (Nat.le_of_ble_eq_true rfl) hx hb hr hP hD hS dL_scaledAfter_7 hlocks
set_option maxRecDepth 100000 in
set_option maxHeartbeats 4000000 in
theorem c_L_steamFor (l : Launch) (D : va_G) (k : Nat → ClassId) (x : Nat) (p1 : Int32) (p2 : Int32) (wc wx wr : va_W) (oc : Oc) (fs : List Value) (he : wc[0]? = some (x, .inr (1, fs))) (hfx : wx.map Prod.fst = wc.map Prod.fst) (hx1 : ∀ E, oc = .inl E → E = xR) (hvv : ∀ (B : Option Value → va_W → Prop) (ov : Option Value) (w : va_W), oc = .inr B → B ov w → ∃ v, ov = some (.int v)) (hCx : Cx l D (tyK k) yX1_steamFor wsX1_steamFor ({ frames := 7, cells := 7, slots := 42, locals := 104 } : Room) [.ref x, .int p1, .int p2] wc wx oc) : Cl l D (tyK k) yL_steamFor wsL_steamFor ({ frames := 8, cells := 7, slots := 42, locals := 127 } : Room) [.ref x, .int p1, .int p2] (wc ++ wr) (.inr (fun (ov : Option Value) (w : va_W) => (oc = .inl xR ∧ ov = some (.long (-9000000000000000002)) ∧ w = wx ++ wr) ∨ ∃ (B : Option Value → va_W → Prop) (v : Int32) (w2 : va_W), oc = .inr B ∧ B (some (.int v)) w2 ∧ ov = some (.long v.toInt64) ∧ w = w2 ++ wr)) := by
  obtain ⟨O, hO⟩ : ∃ O : Oc, O = .inr (fun (ov : Option Value) (w : va_W) => (oc = .inl xR ∧ ov = some (.long (-9000000000000000002)) ∧ w = wx ++ wr) ∨ ∃ (B : Option Value → va_W → Prop) (v : Int32) (w2 : va_W), oc = .inr B ∧ B (some (.int v)) w2 ∧ ov = some (.long v.toInt64) ∧ w = w2 ++ wr) := ⟨_, rfl⟩
  rw [← hO]
  refine Cl_of (cc := cL_steamFor) (maxL := 4) (ret := (some .long)) (hh := [(0, 7, 8, 15)]) (by decide) rfl (Nat.le_of_ble_eq_true rfl) ?_
  intro p e s m args below meth c A ls hx hb hr hml hts hown hlocks htab hK hG hC hA hP hD hS hl
  have hl : lv_has ls 4 [(0, .ref x), (1, .int p1), (2, .int p2)] := hl
  refine lv_aload_n hx hb dL_steamFor_0 rfl (lv_at hl 0 rfl) ?_
  refine lv_iload_n hx hb dL_steamFor_1 rfl (lv_at hl 1 rfl) ?_
  refine lv_iload_n hx hb dL_steamFor_2 rfl (lv_at hl 2 rfl) ?_
  refine Cx_goF (wc := wc) (wx := wx) (wr := wr) (vx_runV (As := [.int p1, .int p2]) (rest := []) ⟨hx, hb, hml, hown, hts⟩ (hCx _) (cwV 2 hts gL_steamFor_X1_steamFor rfl rfl rfl (by decide +kernel) ⟨(Nat.le_of_ble_eq_true rfl), (Nat.le_of_ble_eq_true rfl)⟩) ⟨Px_blind, va_recv (q0 := 0) (ci := 1) hK hP rfl (by rw [List.getElem?_append_left (List.getElem?_eq_some_iff.mp he).1]; exact he), Px_at (wc := wc) hK hG hP hD hS hA (List.range wc.length) (rg_hi _ _) (rg_nd _)⟩ rfl rfl hl.1 rfl (Nat.le_of_ble_eq_true rfl) dL_steamFor_3 ⟨(Nat.le_of_ble_eq_true rfl), (Nat.le_of_ble_eq_true rfl)⟩) hP hD hS hA hfx ?_ ?_
  · intro E ce q9 H1 locs1 h1 hP1 hD1 hS1 hce hcv hcl
    have w_15 := hts (.classLink RL 15 "java/lang/IllegalArgumentException") (by decide +kernel)
    rcases hx1 E h1 with rfl
    · have hca : (Cond.castable xR "java/lang/IllegalArgumentException").before args s = true := va_Nw.use rfl (hG.2.2.1.2.1 "java/lang/IllegalArgumentException" (by decide +kernel))
      refine vx_catch (own := RL) (name := "java/lang/IllegalArgumentException") hown [] ⟨0, 7, 8, 15⟩ [] (htab.trans rfl) (fun z hz => by cases hz) rfl (by decide) w_15 hca hce hcv hcl ?_
      refine lv_astore_n (lv' := [(3, .ref q9), (0, .ref x), (1, .int p1), (2, .int p2)]) hx hb dL_steamFor_8 rfl hl (by decide) rfl (fun ls hl => ?_)
      refine lv_ldc2 (v := (-9000000000000000002)) hx hb hown (hts (.constantLong RL 17 (-9000000000000000002)) (by decide +kernel)) dL_steamFor_9 ?_
      exact Cx_lret hO (Or.inl ⟨h1, rfl, rfl⟩) (Nat.le_of_ble_eq_true rfl) (Nat.le_of_ble_eq_true rfl) hx hb hr hP1 hD1 hS1 dL_steamFor_12 hlocks
  · intro ov B w1 H locs h1 hB hP hD hS
    obtain ⟨v, rfl⟩ := hvv B ov w1 h1 hB
    refine W.eq (g2 := F0 m 6 ls [.int v]) rfl ?_
    refine lv_i2l hx hb dL_steamFor_6 rfl ?_
    exact Cx_lret hO (Or.inr (⟨B, v, w1, h1, hB, rfl, rfl⟩)) (Nat.le_of_ble_eq_true rfl) (Nat.le_of_ble_eq_true rfl) hx hb hr hP hD hS dL_steamFor_7 hlocks
set_option maxRecDepth 100000 in
set_option maxHeartbeats 4000000 in
theorem c_L_script (l : Launch) (D : va_G) (k : Nat → ClassId) (x : Nat) (p1 : Int32) (p2 : Int64) (wc wx wr : va_W) (oc : Oc) (fs : List Value) (he : wc[0]? = some (x, .inr (1, fs))) (hfx : wx.map Prod.fst = wc.map Prod.fst) (hx1 : ∀ E, oc = .inl E → E = xR) (hvv : ∀ (B : Option Value → va_W → Prop) (ov : Option Value) (w : va_W), oc = .inr B → B ov w → ∃ v, ov = some (.int v)) (hCx : Cx l D (tyK k) yX1_runScript wsX1_runScript ({ frames := 7, cells := 7, slots := 42, locals := 119 } : Room) [.ref x, .int p1, .long p2] wc wx oc) : Cl l D (tyK k) yL_script wsL_script ({ frames := 8, cells := 7, slots := 42, locals := 144 } : Room) [.ref x, .int p1, .long p2] (wc ++ wr) (.inr (fun (ov : Option Value) (w : va_W) => (oc = .inl xR ∧ ov = some (.long (-9000000000000000002)) ∧ w = wx ++ wr) ∨ ∃ (B : Option Value → va_W → Prop) (v : Int32) (w2 : va_W), oc = .inr B ∧ B (some (.int v)) w2 ∧ ov = some (.long v.toInt64) ∧ w = w2 ++ wr)) := by
  obtain ⟨O, hO⟩ : ∃ O : Oc, O = .inr (fun (ov : Option Value) (w : va_W) => (oc = .inl xR ∧ ov = some (.long (-9000000000000000002)) ∧ w = wx ++ wr) ∨ ∃ (B : Option Value → va_W → Prop) (v : Int32) (w2 : va_W), oc = .inr B ∧ B (some (.int v)) w2 ∧ ov = some (.long v.toInt64) ∧ w = w2 ++ wr) := ⟨_, rfl⟩
  rw [← hO]
  refine Cl_of (cc := cL_script) (maxL := 5) (ret := (some .long)) (hh := [(0, 7, 8, 15)]) (by decide) rfl (Nat.le_of_ble_eq_true rfl) ?_
  intro p e s m args below meth c A ls hx hb hr hml hts hown hlocks htab hK hG hC hA hP hD hS hl
  have hl : lv_has ls 5 [(0, .ref x), (1, .int p1), (2, .long p2)] := hl
  refine lv_aload_n hx hb dL_script_0 rfl (lv_at hl 0 rfl) ?_
  refine lv_iload_n hx hb dL_script_1 rfl (lv_at hl 1 rfl) ?_
  refine lv_lload_n hx hb dL_script_2 rfl (lv_at hl 2 rfl) ?_
  refine Cx_goF (wc := wc) (wx := wx) (wr := wr) (vx_runV (As := [.int p1, .long p2]) (rest := []) ⟨hx, hb, hml, hown, hts⟩ (hCx _) (cwV 2 hts gL_script_X1_runScript rfl rfl rfl (by decide +kernel) ⟨(Nat.le_of_ble_eq_true rfl), (Nat.le_of_ble_eq_true rfl)⟩) ⟨Px_blind, va_recv (q0 := 0) (ci := 1) hK hP rfl (by rw [List.getElem?_append_left (List.getElem?_eq_some_iff.mp he).1]; exact he), Px_at (wc := wc) hK hG hP hD hS hA (List.range wc.length) (rg_hi _ _) (rg_nd _)⟩ rfl rfl hl.1 rfl (Nat.le_of_ble_eq_true rfl) dL_script_3 ⟨(Nat.le_of_ble_eq_true rfl), (Nat.le_of_ble_eq_true rfl)⟩) hP hD hS hA hfx ?_ ?_
  · intro E ce q9 H1 locs1 h1 hP1 hD1 hS1 hce hcv hcl
    have w_15 := hts (.classLink RL 15 "java/lang/IllegalArgumentException") (by decide +kernel)
    rcases hx1 E h1 with rfl
    · have hca : (Cond.castable xR "java/lang/IllegalArgumentException").before args s = true := va_Nw.use rfl (hG.2.2.1.2.1 "java/lang/IllegalArgumentException" (by decide +kernel))
      refine vx_catch (own := RL) (name := "java/lang/IllegalArgumentException") hown [] ⟨0, 7, 8, 15⟩ [] (htab.trans rfl) (fun z hz => by cases hz) rfl (by decide) w_15 hca hce hcv hcl ?_
      refine lv_astore (lv' := [(4, .ref q9), (0, .ref x), (1, .int p1), (2, .long p2)]) hx hb dL_script_8 hl (by decide) rfl (fun ls hl => ?_)
      refine lv_ldc2 (v := (-9000000000000000002)) hx hb hown (hts (.constantLong RL 17 (-9000000000000000002)) (by decide +kernel)) dL_script_10 ?_
      exact Cx_lret hO (Or.inl ⟨h1, rfl, rfl⟩) (Nat.le_of_ble_eq_true rfl) (Nat.le_of_ble_eq_true rfl) hx hb hr hP1 hD1 hS1 dL_script_13 hlocks
  · intro ov B w1 H locs h1 hB hP hD hS
    obtain ⟨v, rfl⟩ := hvv B ov w1 h1 hB
    refine W.eq (g2 := F0 m 6 ls [.int v]) rfl ?_
    refine lv_i2l hx hb dL_script_6 rfl ?_
    exact Cx_lret hO (Or.inr (⟨B, v, w1, h1, hB, rfl, rfl⟩)) (Nat.le_of_ble_eq_true rfl) (Nat.le_of_ble_eq_true rfl) hx hb hr hP hD hS dL_script_7 hlocks
set_option maxRecDepth 100000 in
set_option maxHeartbeats 4000000 in
theorem c_L_simulate (l : Launch) (D : va_G) (k : Nat → ClassId) (x : Nat) (p1 : Int64) (p3 : Int32) (wc wx wr : va_W) (oc : Oc) (fs : List Value) (he : wc[0]? = some (x, .inr (1, fs))) (hfx : wx.map Prod.fst = wc.map Prod.fst) (hx1 : ∀ E, oc = .inl E → E = xR) (hvv : ∀ (B : Option Value → va_W → Prop) (ov : Option Value) (w : va_W), oc = .inr B → B ov w → ∃ v, ov = some (.int v)) (hCx : Cx l D (tyK k) yX1_simulate wsX1_simulate ({ frames := 7, cells := 7, slots := 42, locals := 104 } : Room) [.ref x, .long p1, .int p3] wc wx oc) : Cl l D (tyK k) yL_simulate wsL_simulate ({ frames := 8, cells := 7, slots := 42, locals := 131 } : Room) [.ref x, .long p1, .int p3] (wc ++ wr) (.inr (fun (ov : Option Value) (w : va_W) => (oc = .inl xR ∧ ov = some (.long (-9000000000000000002)) ∧ w = wx ++ wr) ∨ ∃ (B : Option Value → va_W → Prop) (v : Int32) (w2 : va_W), oc = .inr B ∧ B (some (.int v)) w2 ∧ ov = some (.long v.toInt64) ∧ w = w2 ++ wr)) := by
  obtain ⟨O, hO⟩ : ∃ O : Oc, O = .inr (fun (ov : Option Value) (w : va_W) => (oc = .inl xR ∧ ov = some (.long (-9000000000000000002)) ∧ w = wx ++ wr) ∨ ∃ (B : Option Value → va_W → Prop) (v : Int32) (w2 : va_W), oc = .inr B ∧ B (some (.int v)) w2 ∧ ov = some (.long v.toInt64) ∧ w = w2 ++ wr) := ⟨_, rfl⟩
  rw [← hO]
  refine Cl_of (cc := cL_simulate) (maxL := 5) (ret := (some .long)) (hh := [(0, 7, 8, 15)]) (by decide) rfl (Nat.le_of_ble_eq_true rfl) ?_
  intro p e s m args below meth c A ls hx hb hr hml hts hown hlocks htab hK hG hC hA hP hD hS hl
  have hl : lv_has ls 5 [(0, .ref x), (1, .long p1), (3, .int p3)] := hl
  refine lv_aload_n hx hb dL_simulate_0 rfl (lv_at hl 0 rfl) ?_
  refine lv_lload_n hx hb dL_simulate_1 rfl (lv_at hl 1 rfl) ?_
  refine lv_iload_n hx hb dL_simulate_2 rfl (lv_at hl 2 rfl) ?_
  refine Cx_goF (wc := wc) (wx := wx) (wr := wr) (vx_runV (As := [.long p1, .int p3]) (rest := []) ⟨hx, hb, hml, hown, hts⟩ (hCx _) (cwV 2 hts gL_simulate_X1_simulate rfl rfl rfl (by decide +kernel) ⟨(Nat.le_of_ble_eq_true rfl), (Nat.le_of_ble_eq_true rfl)⟩) ⟨Px_blind, va_recv (q0 := 0) (ci := 1) hK hP rfl (by rw [List.getElem?_append_left (List.getElem?_eq_some_iff.mp he).1]; exact he), Px_at (wc := wc) hK hG hP hD hS hA (List.range wc.length) (rg_hi _ _) (rg_nd _)⟩ rfl rfl hl.1 rfl (Nat.le_of_ble_eq_true rfl) dL_simulate_3 ⟨(Nat.le_of_ble_eq_true rfl), (Nat.le_of_ble_eq_true rfl)⟩) hP hD hS hA hfx ?_ ?_
  · intro E ce q9 H1 locs1 h1 hP1 hD1 hS1 hce hcv hcl
    have w_15 := hts (.classLink RL 15 "java/lang/IllegalArgumentException") (by decide +kernel)
    rcases hx1 E h1 with rfl
    · have hca : (Cond.castable xR "java/lang/IllegalArgumentException").before args s = true := va_Nw.use rfl (hG.2.2.1.2.1 "java/lang/IllegalArgumentException" (by decide +kernel))
      refine vx_catch (own := RL) (name := "java/lang/IllegalArgumentException") hown [] ⟨0, 7, 8, 15⟩ [] (htab.trans rfl) (fun z hz => by cases hz) rfl (by decide) w_15 hca hce hcv hcl ?_
      refine lv_astore (lv' := [(4, .ref q9), (0, .ref x), (1, .long p1), (3, .int p3)]) hx hb dL_simulate_8 hl (by decide) rfl (fun ls hl => ?_)
      refine lv_ldc2 (v := (-9000000000000000002)) hx hb hown (hts (.constantLong RL 17 (-9000000000000000002)) (by decide +kernel)) dL_simulate_10 ?_
      exact Cx_lret hO (Or.inl ⟨h1, rfl, rfl⟩) (Nat.le_of_ble_eq_true rfl) (Nat.le_of_ble_eq_true rfl) hx hb hr hP1 hD1 hS1 dL_simulate_13 hlocks
  · intro ov B w1 H locs h1 hB hP hD hS
    obtain ⟨v, rfl⟩ := hvv B ov w1 h1 hB
    refine W.eq (g2 := F0 m 6 ls [.int v]) rfl ?_
    refine lv_i2l hx hb dL_simulate_6 rfl ?_
    exact Cx_lret hO (Or.inr (⟨B, v, w1, h1, hB, rfl, rfl⟩)) (Nat.le_of_ble_eq_true rfl) (Nat.le_of_ble_eq_true rfl) hx hb hr hP hD hS dL_simulate_7 hlocks
set_option maxRecDepth 100000 in
set_option maxHeartbeats 4000000 in
theorem c_L_save (l : Launch) (D : va_G) (k : Nat → ClassId) (x : Nat) (p1 : Int32) (wc wx wr : va_W) (oc : Oc) (fs : List Value) (he : wc[0]? = some (x, .inr (1, fs))) (hfx : wx.map Prod.fst = wc.map Prod.fst) (hx1 : ∀ E, oc = .inl E → E = xB) (hvv : ∀ (B : Option Value → va_W → Prop) (ov : Option Value) (w : va_W), oc = .inr B → B ov w → ∃ v, ov = some (.int v)) (hCx : Cx l D (tyK k) yX1_save wsX1_save ({ frames := 7, cells := 12, slots := 81, locals := 102 } : Room) [.ref x, .int p1] wc wx oc) : Cl l D (tyK k) yL_save wsL_save ({ frames := 8, cells := 12, slots := 81, locals := 123 } : Room) [.ref x, .int p1] (wc ++ wr) (.inr (fun (ov : Option Value) (w : va_W) => (oc = .inl xB ∧ ov = some (.long (-9000000000000000001)) ∧ w = wx ++ wr) ∨ ∃ (B : Option Value → va_W → Prop) (v : Int32) (w2 : va_W), oc = .inr B ∧ B (some (.int v)) w2 ∧ ov = some (.long v.toInt64) ∧ w = w2 ++ wr)) := by
  obtain ⟨O, hO⟩ : ∃ O : Oc, O = .inr (fun (ov : Option Value) (w : va_W) => (oc = .inl xB ∧ ov = some (.long (-9000000000000000001)) ∧ w = wx ++ wr) ∨ ∃ (B : Option Value → va_W → Prop) (v : Int32) (w2 : va_W), oc = .inr B ∧ B (some (.int v)) w2 ∧ ov = some (.long v.toInt64) ∧ w = w2 ++ wr) := ⟨_, rfl⟩
  rw [← hO]
  refine Cl_of (cc := cL_save) (maxL := 3) (ret := (some .long)) (hh := [(0, 6, 7, 37)]) (by decide) rfl (Nat.le_of_ble_eq_true rfl) ?_
  intro p e s m args below meth c A ls hx hb hr hml hts hown hlocks htab hK hG hC hA hP hD hS hl
  have hl : lv_has ls 3 [(0, .ref x), (1, .int p1)] := hl
  refine lv_aload_n hx hb dL_save_0 rfl (lv_at hl 0 rfl) ?_
  refine lv_iload_n hx hb dL_save_1 rfl (lv_at hl 1 rfl) ?_
  refine Cx_goF (wc := wc) (wx := wx) (wr := wr) (vx_runV (As := [.int p1]) (rest := []) ⟨hx, hb, hml, hown, hts⟩ (hCx _) (cwV 1 hts gL_save_X1_save rfl rfl rfl (by decide +kernel) ⟨(Nat.le_of_ble_eq_true rfl), (Nat.le_of_ble_eq_true rfl)⟩) ⟨Px_blind, va_recv (q0 := 0) (ci := 1) hK hP rfl (by rw [List.getElem?_append_left (List.getElem?_eq_some_iff.mp he).1]; exact he), Px_at (wc := wc) hK hG hP hD hS hA (List.range wc.length) (rg_hi _ _) (rg_nd _)⟩ rfl rfl hl.1 rfl (Nat.le_of_ble_eq_true rfl) dL_save_2 ⟨(Nat.le_of_ble_eq_true rfl), (Nat.le_of_ble_eq_true rfl)⟩) hP hD hS hA hfx ?_ ?_
  · intro E ce q9 H1 locs1 h1 hP1 hD1 hS1 hce hcv hcl
    have w_37 := hts (.classLink RL 37 "java/lang/IndexOutOfBoundsException") (by decide +kernel)
    rcases hx1 E h1 with rfl
    · have hca : (Cond.castable xB "java/lang/IndexOutOfBoundsException").before args s = true := va_Nw.use rfl (hG.2.2.1.2.1 "java/lang/IndexOutOfBoundsException" (by decide +kernel))
      refine vx_catch (own := RL) (name := "java/lang/IndexOutOfBoundsException") hown [] ⟨0, 6, 7, 37⟩ [] (htab.trans rfl) (fun z hz => by cases hz) rfl (by decide) w_37 hca hce hcv hcl ?_
      refine lv_astore_n (lv' := [(2, .ref q9), (0, .ref x), (1, .int p1)]) hx hb dL_save_7 rfl hl (by decide) rfl (fun ls hl => ?_)
      refine lv_ldc2 (v := (-9000000000000000001)) hx hb hown (hts (.constantLong RL 39 (-9000000000000000001)) (by decide +kernel)) dL_save_8 ?_
      exact Cx_lret hO (Or.inl ⟨h1, rfl, rfl⟩) (Nat.le_of_ble_eq_true rfl) (Nat.le_of_ble_eq_true rfl) hx hb hr hP1 hD1 hS1 dL_save_11 hlocks
  · intro ov B w1 H locs h1 hB hP hD hS
    obtain ⟨v, rfl⟩ := hvv B ov w1 h1 hB
    refine W.eq (g2 := F0 m 5 ls [.int v]) rfl ?_
    refine lv_i2l hx hb dL_save_5 rfl ?_
    exact Cx_lret hO (Or.inr (⟨B, v, w1, h1, hB, rfl, rfl⟩)) (Nat.le_of_ble_eq_true rfl) (Nat.le_of_ble_eq_true rfl) hx hb hr hP hD hS dL_save_6 hlocks
set_option maxRecDepth 100000 in
set_option maxHeartbeats 4000000 in
theorem c_L_restore (l : Launch) (D : va_G) (k : Nat → ClassId) (x : Nat) (p1 : Int32) (wc wx wr : va_W) (oc : Oc) (fs : List Value) (he : wc[0]? = some (x, .inr (1, fs))) (hfx : wx.map Prod.fst = wc.map Prod.fst) (hx1 : ∀ E, oc = .inl E → E = xB ∨ E = xS) (hvv : ∀ (B : Option Value → va_W → Prop) (ov : Option Value) (w : va_W), oc = .inr B → B ov w → ∃ v, ov = some (.int v)) (hCx : Cx l D (tyK k) yX1_restore wsX1_restore ({ frames := 7, cells := 12, slots := 81, locals := 102 } : Room) [.ref x, .int p1] wc wx oc) : Cl l D (tyK k) yL_restore wsL_restore ({ frames := 8, cells := 12, slots := 81, locals := 123 } : Room) [.ref x, .int p1] (wc ++ wr) (.inr (fun (ov : Option Value) (w : va_W) => (oc = .inl xB ∧ ov = some (.long (-9000000000000000001)) ∧ w = wx ++ wr) ∨ (oc = .inl xS ∧ ov = some (.long (-9000000000000000003)) ∧ w = wx ++ wr) ∨ ∃ (B : Option Value → va_W → Prop) (v : Int32) (w2 : va_W), oc = .inr B ∧ B (some (.int v)) w2 ∧ ov = some (.long v.toInt64) ∧ w = w2 ++ wr)) := by
  obtain ⟨O, hO⟩ : ∃ O : Oc, O = .inr (fun (ov : Option Value) (w : va_W) => (oc = .inl xB ∧ ov = some (.long (-9000000000000000001)) ∧ w = wx ++ wr) ∨ (oc = .inl xS ∧ ov = some (.long (-9000000000000000003)) ∧ w = wx ++ wr) ∨ ∃ (B : Option Value → va_W → Prop) (v : Int32) (w2 : va_W), oc = .inr B ∧ B (some (.int v)) w2 ∧ ov = some (.long v.toInt64) ∧ w = w2 ++ wr) := ⟨_, rfl⟩
  rw [← hO]
  refine Cl_of (cc := cL_restore) (maxL := 3) (ret := (some .long)) (hh := [(0, 6, 7, 37), (0, 6, 12, 19)]) (by decide) rfl (Nat.le_of_ble_eq_true rfl) ?_
  intro p e s m args below meth c A ls hx hb hr hml hts hown hlocks htab hK hG hC hA hP hD hS hl
  have hl : lv_has ls 3 [(0, .ref x), (1, .int p1)] := hl
  refine lv_aload_n hx hb dL_restore_0 rfl (lv_at hl 0 rfl) ?_
  refine lv_iload_n hx hb dL_restore_1 rfl (lv_at hl 1 rfl) ?_
  refine Cx_goF (wc := wc) (wx := wx) (wr := wr) (vx_runV (As := [.int p1]) (rest := []) ⟨hx, hb, hml, hown, hts⟩ (hCx _) (cwV 1 hts gL_restore_X1_restore rfl rfl rfl (by decide +kernel) ⟨(Nat.le_of_ble_eq_true rfl), (Nat.le_of_ble_eq_true rfl)⟩) ⟨Px_blind, va_recv (q0 := 0) (ci := 1) hK hP rfl (by rw [List.getElem?_append_left (List.getElem?_eq_some_iff.mp he).1]; exact he), Px_at (wc := wc) hK hG hP hD hS hA (List.range wc.length) (rg_hi _ _) (rg_nd _)⟩ rfl rfl hl.1 rfl (Nat.le_of_ble_eq_true rfl) dL_restore_2 ⟨(Nat.le_of_ble_eq_true rfl), (Nat.le_of_ble_eq_true rfl)⟩) hP hD hS hA hfx ?_ ?_
  · intro E ce q9 H1 locs1 h1 hP1 hD1 hS1 hce hcv hcl
    have w_37 := hts (.classLink RL 37 "java/lang/IndexOutOfBoundsException") (by decide +kernel)
    have w_19 := hts (.classLink RL 19 "java/lang/IllegalStateException") (by decide +kernel)
    rcases hx1 E h1 with rfl | rfl
    · have hca : (Cond.castable xB "java/lang/IndexOutOfBoundsException").before args s = true := va_Nw.use rfl (hG.2.2.1.2.1 "java/lang/IndexOutOfBoundsException" (by decide +kernel))
      refine vx_catch (own := RL) (name := "java/lang/IndexOutOfBoundsException") hown [] ⟨0, 6, 7, 37⟩ [⟨0, 6, 12, 19⟩] (htab.trans rfl) (fun z hz => by cases hz) rfl (by decide) w_37 hca hce hcv hcl ?_
      refine lv_astore_n (lv' := [(2, .ref q9), (0, .ref x), (1, .int p1)]) hx hb dL_restore_7 rfl hl (by decide) rfl (fun ls hl => ?_)
      refine lv_ldc2 (v := (-9000000000000000001)) hx hb hown (hts (.constantLong RL 39 (-9000000000000000001)) (by decide +kernel)) dL_restore_8 ?_
      exact Cx_lret hO (Or.inl ⟨h1, rfl, rfl⟩) (Nat.le_of_ble_eq_true rfl) (Nat.le_of_ble_eq_true rfl) hx hb hr hP1 hD1 hS1 dL_restore_11 hlocks
    · have hca : (Cond.castable xS "java/lang/IllegalStateException").before args s = true := va_Nw.use rfl (hG.2.2.1.2.1 "java/lang/IllegalStateException" (by decide +kernel))
      refine vx_catch (own := RL) (name := "java/lang/IllegalStateException") hown [⟨0, 6, 7, 37⟩] ⟨0, 6, 12, 19⟩ [] (htab.trans rfl) (List.forall_mem_cons.mpr ⟨Or.inr ⟨by decide, "java/lang/IndexOutOfBoundsException", w_37, hC.2.1⟩, (fun z hz => by cases hz)⟩) rfl (by decide) w_19 hca hce hcv hcl ?_
      refine lv_astore_n (lv' := [(2, .ref q9), (0, .ref x), (1, .int p1)]) hx hb dL_restore_12 rfl hl (by decide) rfl (fun ls hl => ?_)
      refine lv_ldc2 (v := (-9000000000000000003)) hx hb hown (hts (.constantLong RL 21 (-9000000000000000003)) (by decide +kernel)) dL_restore_13 ?_
      exact Cx_lret hO (Or.inr (Or.inl ⟨h1, rfl, rfl⟩)) (Nat.le_of_ble_eq_true rfl) (Nat.le_of_ble_eq_true rfl) hx hb hr hP1 hD1 hS1 dL_restore_16 hlocks
  · intro ov B w1 H locs h1 hB hP hD hS
    obtain ⟨v, rfl⟩ := hvv B ov w1 h1 hB
    refine W.eq (g2 := F0 m 5 ls [.int v]) rfl ?_
    refine lv_i2l hx hb dL_restore_5 rfl ?_
    exact Cx_lret hO (Or.inr (Or.inr (⟨B, v, w1, h1, hB, rfl, rfl⟩))) (Nat.le_of_ble_eq_true rfl) (Nat.le_of_ble_eq_true rfl) hx hb hr hP hD hS dL_restore_6 hlocks
set_option maxRecDepth 100000 in
set_option maxHeartbeats 4000000 in
theorem c_L_share (l : Launch) (D : va_G) (k : Nat → ClassId) (x : Nat) (p1 : Int32) (wc wx wr : va_W) (oc : Oc) (fs : List Value) (he : wc[0]? = some (x, .inr (1, fs))) (hfx : wx.map Prod.fst = wc.map Prod.fst) (hx1 : ∀ E, oc = .inl E → E = xB) (hvv : ∀ (B : Option Value → va_W → Prop) (ov : Option Value) (w : va_W), oc = .inr B → B ov w → ∃ v, ov = some (.float v)) (hCx : Cx l D (tyK k) yX1_share wsX1_share ({ frames := 7, cells := 1, slots := 6, locals := 103 } : Room) [.ref x, .int p1] wc wx oc) : Cl l D (tyK k) yL_share wsL_share ({ frames := 8, cells := 1, slots := 6, locals := 125 } : Room) [.ref x, .int p1] (wc ++ wr) (.inr (fun (ov : Option Value) (w : va_W) => (oc = .inl xB ∧ ov = some (.float 3239051264) ∧ w = wx ++ wr) ∨ ∃ (B : Option Value → va_W → Prop) (v : UInt32) (w2 : va_W), oc = .inr B ∧ B (some (.float v)) w2 ∧ ov = some (.float v) ∧ w = w2 ++ wr)) := by
  obtain ⟨O, hO⟩ : ∃ O : Oc, O = .inr (fun (ov : Option Value) (w : va_W) => (oc = .inl xB ∧ ov = some (.float 3239051264) ∧ w = wx ++ wr) ∨ ∃ (B : Option Value → va_W → Prop) (v : UInt32) (w2 : va_W), oc = .inr B ∧ B (some (.float v)) w2 ∧ ov = some (.float v) ∧ w = w2 ++ wr) := ⟨_, rfl⟩
  rw [← hO]
  refine Cl_of (cc := cL_share) (maxL := 3) (ret := (some .float)) (hh := [(0, 5, 6, 37)]) (by decide) rfl (Nat.le_of_ble_eq_true rfl) ?_
  intro p e s m args below meth c A ls hx hb hr hml hts hown hlocks htab hK hG hC hA hP hD hS hl
  have hl : lv_has ls 3 [(0, .ref x), (1, .int p1)] := hl
  refine lv_aload_n hx hb dL_share_0 rfl (lv_at hl 0 rfl) ?_
  refine lv_iload_n hx hb dL_share_1 rfl (lv_at hl 1 rfl) ?_
  refine Cx_goF (wc := wc) (wx := wx) (wr := wr) (vx_runV (As := [.int p1]) (rest := []) ⟨hx, hb, hml, hown, hts⟩ (hCx _) (cwV 1 hts gL_share_X1_share rfl rfl rfl (by decide +kernel) ⟨(Nat.le_of_ble_eq_true rfl), (Nat.le_of_ble_eq_true rfl)⟩) ⟨Px_blind, va_recv (q0 := 0) (ci := 1) hK hP rfl (by rw [List.getElem?_append_left (List.getElem?_eq_some_iff.mp he).1]; exact he), Px_at (wc := wc) hK hG hP hD hS hA (List.range wc.length) (rg_hi _ _) (rg_nd _)⟩ rfl rfl hl.1 rfl (Nat.le_of_ble_eq_true rfl) dL_share_2 ⟨(Nat.le_of_ble_eq_true rfl), (Nat.le_of_ble_eq_true rfl)⟩) hP hD hS hA hfx ?_ ?_
  · intro E ce q9 H1 locs1 h1 hP1 hD1 hS1 hce hcv hcl
    have w_37 := hts (.classLink RL 37 "java/lang/IndexOutOfBoundsException") (by decide +kernel)
    rcases hx1 E h1 with rfl
    · have hca : (Cond.castable xB "java/lang/IndexOutOfBoundsException").before args s = true := va_Nw.use rfl (hG.2.2.1.2.1 "java/lang/IndexOutOfBoundsException" (by decide +kernel))
      refine vx_catch (own := RL) (name := "java/lang/IndexOutOfBoundsException") hown [] ⟨0, 5, 6, 37⟩ [] (htab.trans rfl) (fun z hz => by cases hz) rfl (by decide) w_37 hca hce hcv hcl ?_
      refine lv_astore_n (lv' := [(2, .ref q9), (0, .ref x), (1, .int p1)]) hx hb dL_share_6 rfl hl (by decide) rfl (fun ls hl => ?_)
      refine lv_ldcf (v := 3239051264) hx hb hown (hts (.constantFloat RL 103 3239051264) (by decide +kernel)) dL_share_7 ?_
      exact Cx_fret hO (Or.inl ⟨h1, rfl, rfl⟩) (Nat.le_of_ble_eq_true rfl) (Nat.le_of_ble_eq_true rfl) hx hb hr hP1 hD1 hS1 dL_share_9 hlocks
  · intro ov B w1 H locs h1 hB hP hD hS
    obtain ⟨v, rfl⟩ := hvv B ov w1 h1 hB
    refine W.eq (g2 := F0 m 5 ls [.float v]) rfl ?_
    exact Cx_fret hO (Or.inr (⟨B, v, w1, h1, hB, rfl, rfl⟩)) (Nat.le_of_ble_eq_true rfl) (Nat.le_of_ble_eq_true rfl) hx hb hr hP hD hS dL_share_5 hlocks
