set_option maxRecDepth 100000 in
set_option maxHeartbeats 4000000 in
theorem c_L_append (l : Launch) (D : va_G) (k : Nat → ClassId) (x oA : Nat) (p1 : Int32) (g : Nat → Int64) (wc wx wr : va_W) (oc : Oc) (fs : List Value) (rm : Room) (hfit : fitL rm) (he : wc[0]? = some (x, .inr (1, fs))) (hfx : wx.map Prod.fst = wc.map Prod.fst) (hx1 : ∀ E, oc = .inl E → E = xR ∨ E = xS) (hvv : ∀ (B : Option Value → va_W → Prop) (ov : Option Value) (w : va_W), oc = .inr B → B ov w → ∃ v, ov = some (.int v)) (hCx : Cx l D (tyK k) yX1_append wsX1_append rm [.ref x, .int p1] wc wx oc) : Cl l D (tyK k) yL_append wsL_append rmL [.ref x, .int p1, .ref oA] (wc ++ (wr ++ ouW k oA g)) (.inr (fun (ov : Option Value) (w : va_W) => (oc = .inl xR ∧ ov = some (.int 1) ∧ w = wx ++ (wr ++ ouW k oA g)) ∨ (oc = .inl xS ∧ ov = some (.int 2) ∧ w = wx ++ (wr ++ ouW k oA g)) ∨ ∃ (B : Option Value → va_W → Prop) (v : Int32) (w2 : va_W), oc = .inr B ∧ B (some (.int v)) w2 ∧ ov = some (.int 0) ∧ w = w2 ++ (wr ++ ouW k oA (vp_updL g 0 v.toInt64)))) := by
  obtain ⟨O, hO⟩ : ∃ O : Oc, O = .inr (fun (ov : Option Value) (w : va_W) => (oc = .inl xR ∧ ov = some (.int 1) ∧ w = wx ++ (wr ++ ouW k oA g)) ∨ (oc = .inl xS ∧ ov = some (.int 2) ∧ w = wx ++ (wr ++ ouW k oA g)) ∨ ∃ (B : Option Value → va_W → Prop) (v : Int32) (w2 : va_W), oc = .inr B ∧ B (some (.int v)) w2 ∧ ov = some (.int 0) ∧ w = w2 ++ (wr ++ ouW k oA (vp_updL g 0 v.toInt64))) := ⟨_, rfl⟩
  rw [← hO]
  refine Cl_of (cc := cL_append) (maxL := 4) (ret := (some .int)) (hh := [(0, 9, 12, 13), (0, 9, 15, 15)]) (by decide) rfl (Nat.le_of_ble_eq_true rfl) ?_
  intro p e s m args below meth c A ls hx hb hr hml hts hown hlocks htab hK hG hC hA hP hD hS hl
  have hl : lv_has ls 4 [(0, .ref x), (1, .int p1), (2, .ref oA)] := hl
  refine lv_aload_n hx hb dL_append_0 rfl (lv_at hl 2 rfl) ?_
  refine lv_iconst (v := 0) hx hb dL_append_1 (by decide) ?_
  refine lv_aload_n hx hb dL_append_2 rfl (lv_at hl 0 rfl) ?_
  refine lv_iload_n hx hb dL_append_3 rfl (lv_at hl 1 rfl) ?_
  obtain ⟨f1, f2, f3, f4⟩ := hfit
  refine Cx_goF (wc := wc) (wx := wx) (wr := wr ++ ouW k oA g) (vx_runV (As := [.int p1]) (rest := [.int 0, .ref oA]) ⟨hx, hb, hml, hown, hts⟩ (hCx _) (cwV 1 hts gL_append_X1_append rfl rfl rfl (by decide +kernel) ⟨Nat.succ_le_succ f1, (by show 8 + (2 + 11) + rm.locals ≤ 800; omega)⟩) ⟨Px_blind, va_recv (q0 := 0) (ci := 1) hK hP rfl (by rw [List.getElem?_append_left (List.getElem?_eq_some_iff.mp he).1]; exact he), Px_at (wc := wc) hK hG hP hD hS hA (List.range wc.length) (rg_hi _ _) (rg_nd _)⟩ rfl rfl hl.1 rfl (Nat.le_of_ble_eq_true rfl) dL_append_4 ⟨(by show 0 + rm.cells ≤ 40; omega), (by show 0 + rm.slots ≤ 300; omega)⟩) hP hD hS hA hfx ?_ ?_
  · intro E ce q9 H1 locs1 h1 hP1 hD1 hS1 hce hcv hcl
    have w_13 := hts (.classLink RL 13 "java/lang/IllegalArgumentException") (by decide +kernel)
    have w_15 := hts (.classLink RL 15 "java/lang/IllegalStateException") (by decide +kernel)
    rcases hx1 E h1 with rfl | rfl
    · have hca : (Cond.castable xR "java/lang/IllegalArgumentException").before args s = true := va_Nw.use rfl (hG.2.2.1.2.1 "java/lang/IllegalArgumentException" (by decide +kernel))
      refine vx_catch (own := RL) (name := "java/lang/IllegalArgumentException") hown [] ⟨0, 9, 12, 13⟩ [⟨0, 9, 15, 15⟩] (htab.trans rfl) (fun z hz => by cases hz) rfl (by decide) w_13 hca hce hcv hcl ?_
      refine lv_astore_n (lv' := [(3, .ref q9), (0, .ref x), (1, .int p1), (2, .ref oA)]) hx hb dL_append_12 rfl hl (by decide) rfl (fun ls hl => ?_)
      refine lv_iconst (v := 1) hx hb dL_append_13 (by decide) ?_
      exact Cx_iret hO (Or.inl ⟨h1, rfl, rfl⟩) (by show 0 + rm.cells ≤ 40; omega) (by show 0 + rm.slots ≤ 300; omega) hx hb hr hP1 hD1 hS1 dL_append_14 hlocks
    · have hca : (Cond.castable xS "java/lang/IllegalStateException").before args s = true := va_Nw.use rfl (hG.2.2.1.2.1 "java/lang/IllegalStateException" (by decide +kernel))
      refine vx_catch (own := RL) (name := "java/lang/IllegalStateException") hown [⟨0, 9, 12, 13⟩] ⟨0, 9, 15, 15⟩ [] (htab.trans rfl) (List.forall_mem_cons.mpr ⟨Or.inr ⟨by decide, "java/lang/IllegalArgumentException", w_13, hC.2.2⟩, (fun z hz => by cases hz)⟩) rfl (by decide) w_15 hca hce hcv hcl ?_
      refine lv_astore_n (lv' := [(3, .ref q9), (0, .ref x), (1, .int p1), (2, .ref oA)]) hx hb dL_append_15 rfl hl (by decide) rfl (fun ls hl => ?_)
      refine lv_iconst (v := 2) hx hb dL_append_16 (by decide) ?_
      exact Cx_iret hO (Or.inr (Or.inl ⟨h1, rfl, rfl⟩)) (by show 0 + rm.cells ≤ 40; omega) (by show 0 + rm.slots ≤ 300; omega) hx hb hr hP1 hD1 hS1 dL_append_17 hlocks
  · intro ov B w1 H locs h1 hB hP hD hS
    obtain ⟨v, rfl⟩ := hvv B ov w1 h1 hB
    refine W.eq (g2 := F0 m 7 ls [.int v, .int 0, .ref oA]) rfl ?_
    refine lv_i2l hx hb dL_append_7 rfl ?_
    have hq : (w1 ++ (wr ++ ouW k oA g))[w1.length + wr.length]? = some (oA, (ouW k oA g)[0].2) := by rw [List.getElem?_append_right (by omega), Nat.add_sub_cancel_left, List.getElem?_append_right (Nat.le_refl _), Nat.sub_self]; rfl
    refine va_last hx hb hK hP hD hS (w1.length + wr.length) 4 hq rfl (inb_vp (by decide)) dL_append_8 (fun H locs hP hD hS => ?_)
    have e9 : ∀ y, (w1 ++ (wr ++ ouW k oA g)).set (w1.length + wr.length) y = w1 ++ (wr ++ [y]) := fun y => by rw [List.set_append_right _ _ (by omega), Nat.add_sub_cancel_left, List.set_append_right _ _ (Nat.le_refl _), Nat.sub_self]; rfl
    rw [e9] at hP hD
    refine lv_goto (tgt := 18) hx hb dL_append_9 (by decide) ?_
    refine lv_iconst (v := 0) hx hb dL_append_18 (by decide) ?_
    exact Cx_iret hO (Or.inr (Or.inr (⟨B, v, w1, h1, hB, rfl, rfl⟩))) (by show 0 + rm.cells ≤ 40; omega) (by show 0 + rm.slots ≤ 300; omega) hx hb hr hP hD hS dL_append_19 hlocks
set_option maxRecDepth 100000 in
set_option maxHeartbeats 4000000 in
theorem c_L_load (l : Launch) (D : va_G) (k : Nat → ClassId) (x oA : Nat) (g : Nat → Int64) (wc wx wr : va_W) (oc : Oc) (fs : List Value) (rm : Room) (hfit : fitL rm) (he : wc[0]? = some (x, .inr (1, fs))) (hfx : wx.map Prod.fst = wc.map Prod.fst) (hx1 : ∀ E, oc = .inl E → E = xS) (hvv : ∀ (B : Option Value → va_W → Prop) (ov : Option Value) (w : va_W), oc = .inr B → B ov w → ∃ v, ov = some (.int v)) (hCx : Cx l D (tyK k) yX1_load wsX1_load rm [.ref x] wc wx oc) : Cl l D (tyK k) yL_load wsL_load rmL [.ref x, .ref oA] (wc ++ (wr ++ ouW k oA g)) (.inr (fun (ov : Option Value) (w : va_W) => (oc = .inl xS ∧ ov = some (.int 1) ∧ w = wx ++ (wr ++ ouW k oA g)) ∨ ∃ (B : Option Value → va_W → Prop) (v : Int32) (w2 : va_W), oc = .inr B ∧ B (some (.int v)) w2 ∧ ov = some (.int 0) ∧ w = w2 ++ (wr ++ ouW k oA (vp_updL g 0 v.toInt64)))) := by
  obtain ⟨O, hO⟩ : ∃ O : Oc, O = .inr (fun (ov : Option Value) (w : va_W) => (oc = .inl xS ∧ ov = some (.int 1) ∧ w = wx ++ (wr ++ ouW k oA g)) ∨ ∃ (B : Option Value → va_W → Prop) (v : Int32) (w2 : va_W), oc = .inr B ∧ B (some (.int v)) w2 ∧ ov = some (.int 0) ∧ w = w2 ++ (wr ++ ouW k oA (vp_updL g 0 v.toInt64))) := ⟨_, rfl⟩
  rw [← hO]
  refine Cl_of (cc := cL_load) (maxL := 3) (ret := (some .int)) (hh := [(0, 8, 11, 15)]) (by decide) rfl (Nat.le_of_ble_eq_true rfl) ?_
  intro p e s m args below meth c A ls hx hb hr hml hts hown hlocks htab hK hG hC hA hP hD hS hl
  have hl : lv_has ls 3 [(0, .ref x), (1, .ref oA)] := hl
  refine lv_aload_n hx hb dL_load_0 rfl (lv_at hl 1 rfl) ?_
  refine lv_iconst (v := 0) hx hb dL_load_1 (by decide) ?_
  refine lv_aload_n hx hb dL_load_2 rfl (lv_at hl 0 rfl) ?_
  obtain ⟨f1, f2, f3, f4⟩ := hfit
  refine Cx_goF (wc := wc) (wx := wx) (wr := wr ++ ouW k oA g) (vx_runV (As := []) (rest := [.int 0, .ref oA]) ⟨hx, hb, hml, hown, hts⟩ (hCx _) (cwV 0 hts gL_load_X1_load rfl rfl rfl (by decide +kernel) ⟨Nat.succ_le_succ f1, (by show 8 + (2 + 11) + rm.locals ≤ 800; omega)⟩) ⟨Px_blind, va_recv (q0 := 0) (ci := 1) hK hP rfl (by rw [List.getElem?_append_left (List.getElem?_eq_some_iff.mp he).1]; exact he), Px_at (wc := wc) hK hG hP hD hS hA (List.range wc.length) (rg_hi _ _) (rg_nd _)⟩ rfl rfl hl.1 rfl (Nat.le_of_ble_eq_true rfl) dL_load_3 ⟨(by show 0 + rm.cells ≤ 40; omega), (by show 0 + rm.slots ≤ 300; omega)⟩) hP hD hS hA hfx ?_ ?_
  · intro E ce q9 H1 locs1 h1 hP1 hD1 hS1 hce hcv hcl
    have w_15 := hts (.classLink RL 15 "java/lang/IllegalStateException") (by decide +kernel)
    rcases hx1 E h1 with rfl
    · have hca : (Cond.castable xS "java/lang/IllegalStateException").before args s = true := va_Nw.use rfl (hG.2.2.1.2.1 "java/lang/IllegalStateException" (by decide +kernel))
      refine vx_catch (own := RL) (name := "java/lang/IllegalStateException") hown [] ⟨0, 8, 11, 15⟩ [] (htab.trans rfl) (fun z hz => by cases hz) rfl (by decide) w_15 hca hce hcv hcl ?_
      refine lv_astore_n (lv' := [(2, .ref q9), (0, .ref x), (1, .ref oA)]) hx hb dL_load_11 rfl hl (by decide) rfl (fun ls hl => ?_)
      refine lv_iconst (v := 1) hx hb dL_load_12 (by decide) ?_
      exact Cx_iret hO (Or.inl ⟨h1, rfl, rfl⟩) (by show 0 + rm.cells ≤ 40; omega) (by show 0 + rm.slots ≤ 300; omega) hx hb hr hP1 hD1 hS1 dL_load_13 hlocks
  · intro ov B w1 H locs h1 hB hP hD hS
    obtain ⟨v, rfl⟩ := hvv B ov w1 h1 hB
    refine W.eq (g2 := F0 m 6 ls [.int v, .int 0, .ref oA]) rfl ?_
    refine lv_i2l hx hb dL_load_6 rfl ?_
    have hq : (w1 ++ (wr ++ ouW k oA g))[w1.length + wr.length]? = some (oA, (ouW k oA g)[0].2) := by rw [List.getElem?_append_right (by omega), Nat.add_sub_cancel_left, List.getElem?_append_right (Nat.le_refl _), Nat.sub_self]; rfl
    refine va_last hx hb hK hP hD hS (w1.length + wr.length) 4 hq rfl (inb_vp (by decide)) dL_load_7 (fun H locs hP hD hS => ?_)
    have e9 : ∀ y, (w1 ++ (wr ++ ouW k oA g)).set (w1.length + wr.length) y = w1 ++ (wr ++ [y]) := fun y => by rw [List.set_append_right _ _ (by omega), Nat.add_sub_cancel_left, List.set_append_right _ _ (Nat.le_refl _), Nat.sub_self]; rfl
    rw [e9] at hP hD
    refine lv_goto (tgt := 14) hx hb dL_load_8 (by decide) ?_
    refine lv_iconst (v := 0) hx hb dL_load_14 (by decide) ?_
    exact Cx_iret hO (Or.inr (⟨B, v, w1, h1, hB, rfl, rfl⟩)) (by show 0 + rm.cells ≤ 40; omega) (by show 0 + rm.slots ≤ 300; omega) hx hb hr hP hD hS dL_load_15 hlocks
set_option maxRecDepth 100000 in
set_option maxHeartbeats 4000000 in
theorem c_L_about (l : Launch) (D : va_G) (k : Nat → ClassId) (x oA : Nat) (p1 : Int32) (g : Nat → Int64) (wc wx wr : va_W) (oc : Oc) (fs : List Value) (rm : Room) (hfit : fitL rm) (he : wc[0]? = some (x, .inr (1, fs))) (hfx : wx.map Prod.fst = wc.map Prod.fst) (hx1 : ∀ E, oc = .inl E → E = xR) (hvv : ∀ (B : Option Value → va_W → Prop) (ov : Option Value) (w : va_W), oc = .inr B → B ov w → ∃ v, ov = some (.int v)) (hCx : Cx l D (tyK k) yX1_about wsX1_about rm [.ref x, .int p1] wc wx oc) : Cl l D (tyK k) yL_about wsL_about rmL [.ref x, .int p1, .ref oA] (wc ++ (wr ++ ouW k oA g)) (.inr (fun (ov : Option Value) (w : va_W) => (oc = .inl xR ∧ ov = some (.int 1) ∧ w = wx ++ (wr ++ ouW k oA g)) ∨ ∃ (B : Option Value → va_W → Prop) (v : Int32) (w2 : va_W), oc = .inr B ∧ B (some (.int v)) w2 ∧ ov = some (.int 0) ∧ w = w2 ++ (wr ++ ouW k oA (vp_updL g 0 v.toInt64)))) := by
  obtain ⟨O, hO⟩ : ∃ O : Oc, O = .inr (fun (ov : Option Value) (w : va_W) => (oc = .inl xR ∧ ov = some (.int 1) ∧ w = wx ++ (wr ++ ouW k oA g)) ∨ ∃ (B : Option Value → va_W → Prop) (v : Int32) (w2 : va_W), oc = .inr B ∧ B (some (.int v)) w2 ∧ ov = some (.int 0) ∧ w = w2 ++ (wr ++ ouW k oA (vp_updL g 0 v.toInt64))) := ⟨_, rfl⟩
  rw [← hO]
  refine Cl_of (cc := cL_about) (maxL := 4) (ret := (some .int)) (hh := [(0, 9, 12, 13)]) (by decide) rfl (Nat.le_of_ble_eq_true rfl) ?_
  intro p e s m args below meth c A ls hx hb hr hml hts hown hlocks htab hK hG hC hA hP hD hS hl
  have hl : lv_has ls 4 [(0, .ref x), (1, .int p1), (2, .ref oA)] := hl
  refine lv_aload_n hx hb dL_about_0 rfl (lv_at hl 2 rfl) ?_
  refine lv_iconst (v := 0) hx hb dL_about_1 (by decide) ?_
  refine lv_aload_n hx hb dL_about_2 rfl (lv_at hl 0 rfl) ?_
  refine lv_iload_n hx hb dL_about_3 rfl (lv_at hl 1 rfl) ?_
  obtain ⟨f1, f2, f3, f4⟩ := hfit
  refine Cx_goF (wc := wc) (wx := wx) (wr := wr ++ ouW k oA g) (vx_runV (As := [.int p1]) (rest := [.int 0, .ref oA]) ⟨hx, hb, hml, hown, hts⟩ (hCx _) (cwV 1 hts gL_about_X1_about rfl rfl rfl (by decide +kernel) ⟨Nat.succ_le_succ f1, (by show 8 + (2 + 11) + rm.locals ≤ 800; omega)⟩) ⟨Px_blind, va_recv (q0 := 0) (ci := 1) hK hP rfl (by rw [List.getElem?_append_left (List.getElem?_eq_some_iff.mp he).1]; exact he), Px_at (wc := wc) hK hG hP hD hS hA (List.range wc.length) (rg_hi _ _) (rg_nd _)⟩ rfl rfl hl.1 rfl (Nat.le_of_ble_eq_true rfl) dL_about_4 ⟨(by show 0 + rm.cells ≤ 40; omega), (by show 0 + rm.slots ≤ 300; omega)⟩) hP hD hS hA hfx ?_ ?_
  · intro E ce q9 H1 locs1 h1 hP1 hD1 hS1 hce hcv hcl
    have w_13 := hts (.classLink RL 13 "java/lang/IllegalArgumentException") (by decide +kernel)
    rcases hx1 E h1 with rfl
    · have hca : (Cond.castable xR "java/lang/IllegalArgumentException").before args s = true := va_Nw.use rfl (hG.2.2.1.2.1 "java/lang/IllegalArgumentException" (by decide +kernel))
      refine vx_catch (own := RL) (name := "java/lang/IllegalArgumentException") hown [] ⟨0, 9, 12, 13⟩ [] (htab.trans rfl) (fun z hz => by cases hz) rfl (by decide) w_13 hca hce hcv hcl ?_
      refine lv_astore_n (lv' := [(3, .ref q9), (0, .ref x), (1, .int p1), (2, .ref oA)]) hx hb dL_about_12 rfl hl (by decide) rfl (fun ls hl => ?_)
      refine lv_iconst (v := 1) hx hb dL_about_13 (by decide) ?_
      exact Cx_iret hO (Or.inl ⟨h1, rfl, rfl⟩) (by show 0 + rm.cells ≤ 40; omega) (by show 0 + rm.slots ≤ 300; omega) hx hb hr hP1 hD1 hS1 dL_about_14 hlocks
  · intro ov B w1 H locs h1 hB hP hD hS
    obtain ⟨v, rfl⟩ := hvv B ov w1 h1 hB
    refine W.eq (g2 := F0 m 7 ls [.int v, .int 0, .ref oA]) rfl ?_
    refine lv_i2l hx hb dL_about_7 rfl ?_
    have hq : (w1 ++ (wr ++ ouW k oA g))[w1.length + wr.length]? = some (oA, (ouW k oA g)[0].2) := by rw [List.getElem?_append_right (by omega), Nat.add_sub_cancel_left, List.getElem?_append_right (Nat.le_refl _), Nat.sub_self]; rfl
    refine va_last hx hb hK hP hD hS (w1.length + wr.length) 4 hq rfl (inb_vp (by decide)) dL_about_8 (fun H locs hP hD hS => ?_)
    have e9 : ∀ y, (w1 ++ (wr ++ ouW k oA g)).set (w1.length + wr.length) y = w1 ++ (wr ++ [y]) := fun y => by rw [List.set_append_right _ _ (by omega), Nat.add_sub_cancel_left, List.set_append_right _ _ (Nat.le_refl _), Nat.sub_self]; rfl
    rw [e9] at hP hD
    refine lv_goto (tgt := 15) hx hb dL_about_9 (by decide) ?_
    refine lv_iconst (v := 0) hx hb dL_about_15 (by decide) ?_
    exact Cx_iret hO (Or.inr (⟨B, v, w1, h1, hB, rfl, rfl⟩)) (by show 0 + rm.cells ≤ 40; omega) (by show 0 + rm.slots ≤ 300; omega) hx hb hr hP hD hS dL_about_16 hlocks
set_option maxRecDepth 100000 in
set_option maxHeartbeats 4000000 in
theorem c_L_total (l : Launch) (D : va_G) (k : Nat → ClassId) (x oA : Nat) (p1 : Int32) (g : Nat → Int64) (wc wx wr : va_W) (oc : Oc) (fs : List Value) (rm : Room) (hfit : fitL rm) (he : wc[0]? = some (x, .inr (1, fs))) (hfx : wx.map Prod.fst = wc.map Prod.fst) (hx1 : ∀ E, oc = .inl E → E = xR) (hvv : ∀ (B : Option Value → va_W → Prop) (ov : Option Value) (w : va_W), oc = .inr B → B ov w → ∃ v, ov = some (.int v)) (hCx : Cx l D (tyK k) yX1_total wsX1_total rm [.ref x, .int p1] wc wx oc) : Cl l D (tyK k) yL_total wsL_total rmL [.ref x, .int p1, .ref oA] (wc ++ (wr ++ ouW k oA g)) (.inr (fun (ov : Option Value) (w : va_W) => (oc = .inl xR ∧ ov = some (.int 1) ∧ w = wx ++ (wr ++ ouW k oA g)) ∨ ∃ (B : Option Value → va_W → Prop) (v : Int32) (w2 : va_W), oc = .inr B ∧ B (some (.int v)) w2 ∧ ov = some (.int 0) ∧ w = w2 ++ (wr ++ ouW k oA (vp_updL g 0 v.toInt64)))) := by
  obtain ⟨O, hO⟩ : ∃ O : Oc, O = .inr (fun (ov : Option Value) (w : va_W) => (oc = .inl xR ∧ ov = some (.int 1) ∧ w = wx ++ (wr ++ ouW k oA g)) ∨ ∃ (B : Option Value → va_W → Prop) (v : Int32) (w2 : va_W), oc = .inr B ∧ B (some (.int v)) w2 ∧ ov = some (.int 0) ∧ w = w2 ++ (wr ++ ouW k oA (vp_updL g 0 v.toInt64))) := ⟨_, rfl⟩
  rw [← hO]
  refine Cl_of (cc := cL_total) (maxL := 4) (ret := (some .int)) (hh := [(0, 9, 12, 13)]) (by decide) rfl (Nat.le_of_ble_eq_true rfl) ?_
  intro p e s m args below meth c A ls hx hb hr hml hts hown hlocks htab hK hG hC hA hP hD hS hl
  have hl : lv_has ls 4 [(0, .ref x), (1, .int p1), (2, .ref oA)] := hl
  refine lv_aload_n hx hb dL_total_0 rfl (lv_at hl 2 rfl) ?_
  refine lv_iconst (v := 0) hx hb dL_total_1 (by decide) ?_
  refine lv_aload_n hx hb dL_total_2 rfl (lv_at hl 0 rfl) ?_
  refine lv_iload_n hx hb dL_total_3 rfl (lv_at hl 1 rfl) ?_
  obtain ⟨f1, f2, f3, f4⟩ := hfit
  refine Cx_goF (wc := wc) (wx := wx) (wr := wr ++ ouW k oA g) (vx_runV (As := [.int p1]) (rest := [.int 0, .ref oA]) ⟨hx, hb, hml, hown, hts⟩ (hCx _) (cwV 1 hts gL_total_X1_total rfl rfl rfl (by decide +kernel) ⟨Nat.succ_le_succ f1, (by show 8 + (2 + 11) + rm.locals ≤ 800; omega)⟩) ⟨Px_blind, va_recv (q0 := 0) (ci := 1) hK hP rfl (by rw [List.getElem?_append_left (List.getElem?_eq_some_iff.mp he).1]; exact he), Px_at (wc := wc) hK hG hP hD hS hA (List.range wc.length) (rg_hi _ _) (rg_nd _)⟩ rfl rfl hl.1 rfl (Nat.le_of_ble_eq_true rfl) dL_total_4 ⟨(by show 0 + rm.cells ≤ 40; omega), (by show 0 + rm.slots ≤ 300; omega)⟩) hP hD hS hA hfx ?_ ?_
  · intro E ce q9 H1 locs1 h1 hP1 hD1 hS1 hce hcv hcl
    have w_13 := hts (.classLink RL 13 "java/lang/IllegalArgumentException") (by decide +kernel)
    rcases hx1 E h1 with rfl
    · have hca : (Cond.castable xR "java/lang/IllegalArgumentException").before args s = true := va_Nw.use rfl (hG.2.2.1.2.1 "java/lang/IllegalArgumentException" (by decide +kernel))
      refine vx_catch (own := RL) (name := "java/lang/IllegalArgumentException") hown [] ⟨0, 9, 12, 13⟩ [] (htab.trans rfl) (fun z hz => by cases hz) rfl (by decide) w_13 hca hce hcv hcl ?_
      refine lv_astore_n (lv' := [(3, .ref q9), (0, .ref x), (1, .int p1), (2, .ref oA)]) hx hb dL_total_12 rfl hl (by decide) rfl (fun ls hl => ?_)
      refine lv_iconst (v := 1) hx hb dL_total_13 (by decide) ?_
      exact Cx_iret hO (Or.inl ⟨h1, rfl, rfl⟩) (by show 0 + rm.cells ≤ 40; omega) (by show 0 + rm.slots ≤ 300; omega) hx hb hr hP1 hD1 hS1 dL_total_14 hlocks
  · intro ov B w1 H locs h1 hB hP hD hS
    obtain ⟨v, rfl⟩ := hvv B ov w1 h1 hB
    refine W.eq (g2 := F0 m 7 ls [.int v, .int 0, .ref oA]) rfl ?_
    refine lv_i2l hx hb dL_total_7 rfl ?_
    have hq : (w1 ++ (wr ++ ouW k oA g))[w1.length + wr.length]? = some (oA, (ouW k oA g)[0].2) := by rw [List.getElem?_append_right (by omega), Nat.add_sub_cancel_left, List.getElem?_append_right (Nat.le_refl _), Nat.sub_self]; rfl
    refine va_last hx hb hK hP hD hS (w1.length + wr.length) 4 hq rfl (inb_vp (by decide)) dL_total_8 (fun H locs hP hD hS => ?_)
    have e9 : ∀ y, (w1 ++ (wr ++ ouW k oA g)).set (w1.length + wr.length) y = w1 ++ (wr ++ [y]) := fun y => by rw [List.set_append_right _ _ (by omega), Nat.add_sub_cancel_left, List.set_append_right _ _ (Nat.le_refl _), Nat.sub_self]; rfl
    rw [e9] at hP hD
    refine lv_goto (tgt := 15) hx hb dL_total_9 (by decide) ?_
    refine lv_iconst (v := 0) hx hb dL_total_15 (by decide) ?_
    exact Cx_iret hO (Or.inr (⟨B, v, w1, h1, hB, rfl, rfl⟩)) (by show 0 + rm.cells ≤ 40; omega) (by show 0 + rm.slots ≤ 300; omega) hx hb hr hP hD hS dL_total_16 hlocks
set_option maxRecDepth 100000 in
set_option maxHeartbeats 4000000 in
theorem c_L_effect (l : Launch) (D : va_G) (k : Nat → ClassId) (x oA : Nat) (p1 : Int32) (p2 : Int32) (g : Nat → Int64) (wc wx wr : va_W) (oc : Oc) (fs : List Value) (rm : Room) (hfit : fitL rm) (he : wc[0]? = some (x, .inr (1, fs))) (hfx : wx.map Prod.fst = wc.map Prod.fst) (hx1 : ∀ E, oc = .inl E → E = xB ∨ E = xR) (hvv : ∀ (B : Option Value → va_W → Prop) (ov : Option Value) (w : va_W), oc = .inr B → B ov w → ∃ v, ov = some (.int v)) (hCx : Cx l D (tyK k) yX1_effect wsX1_effect rm [.ref x, .int p1, .int p2] wc wx oc) : Cl l D (tyK k) yL_effect wsL_effect rmL [.ref x, .int p1, .int p2, .ref oA] (wc ++ (wr ++ ouW k oA g)) (.inr (fun (ov : Option Value) (w : va_W) => (oc = .inl xB ∧ ov = some (.int 1) ∧ w = wx ++ (wr ++ ouW k oA g)) ∨ (oc = .inl xR ∧ ov = some (.int 2) ∧ w = wx ++ (wr ++ ouW k oA g)) ∨ ∃ (B : Option Value → va_W → Prop) (v : Int32) (w2 : va_W), oc = .inr B ∧ B (some (.int v)) w2 ∧ ov = some (.int 0) ∧ w = w2 ++ (wr ++ ouW k oA (vp_updL g 0 v.toInt64)))) := by
  obtain ⟨O, hO⟩ : ∃ O : Oc, O = .inr (fun (ov : Option Value) (w : va_W) => (oc = .inl xB ∧ ov = some (.int 1) ∧ w = wx ++ (wr ++ ouW k oA g)) ∨ (oc = .inl xR ∧ ov = some (.int 2) ∧ w = wx ++ (wr ++ ouW k oA g)) ∨ ∃ (B : Option Value → va_W → Prop) (v : Int32) (w2 : va_W), oc = .inr B ∧ B (some (.int v)) w2 ∧ ov = some (.int 0) ∧ w = w2 ++ (wr ++ ouW k oA (vp_updL g 0 v.toInt64))) := ⟨_, rfl⟩
  rw [← hO]
  refine Cl_of (cc := cL_effect) (maxL := 5) (ret := (some .int)) (hh := [(0, 10, 13, 31), (0, 10, 17, 13)]) (by decide) rfl (Nat.le_of_ble_eq_true rfl) ?_
  intro p e s m args below meth c A ls hx hb hr hml hts hown hlocks htab hK hG hC hA hP hD hS hl
  have hl : lv_has ls 5 [(0, .ref x), (1, .int p1), (2, .int p2), (3, .ref oA)] := hl
  refine lv_aload_n hx hb dL_effect_0 rfl (lv_at hl 3 rfl) ?_
  refine lv_iconst (v := 0) hx hb dL_effect_1 (by decide) ?_
  refine lv_aload_n hx hb dL_effect_2 rfl (lv_at hl 0 rfl) ?_
  refine lv_iload_n hx hb dL_effect_3 rfl (lv_at hl 1 rfl) ?_
  refine lv_iload_n hx hb dL_effect_4 rfl (lv_at hl 2 rfl) ?_
  obtain ⟨f1, f2, f3, f4⟩ := hfit
  refine Cx_goF (wc := wc) (wx := wx) (wr := wr ++ ouW k oA g) (vx_runV (As := [.int p1, .int p2]) (rest := [.int 0, .ref oA]) ⟨hx, hb, hml, hown, hts⟩ (hCx _) (cwV 2 hts gL_effect_X1_effect rfl rfl rfl (by decide +kernel) ⟨Nat.succ_le_succ f1, (by show 8 + (3 + 11) + rm.locals ≤ 800; omega)⟩) ⟨Px_blind, va_recv (q0 := 0) (ci := 1) hK hP rfl (by rw [List.getElem?_append_left (List.getElem?_eq_some_iff.mp he).1]; exact he), Px_at (wc := wc) hK hG hP hD hS hA (List.range wc.length) (rg_hi _ _) (rg_nd _)⟩ rfl rfl hl.1 rfl (Nat.le_of_ble_eq_true rfl) dL_effect_5 ⟨(by show 0 + rm.cells ≤ 40; omega), (by show 0 + rm.slots ≤ 300; omega)⟩) hP hD hS hA hfx ?_ ?_
  · intro E ce q9 H1 locs1 h1 hP1 hD1 hS1 hce hcv hcl
    have w_31 := hts (.classLink RL 31 "java/lang/IndexOutOfBoundsException") (by decide +kernel)
    have w_13 := hts (.classLink RL 13 "java/lang/IllegalArgumentException") (by decide +kernel)
    rcases hx1 E h1 with rfl | rfl
    · have hca : (Cond.castable xB "java/lang/IndexOutOfBoundsException").before args s = true := va_Nw.use rfl (hG.2.2.1.2.1 "java/lang/IndexOutOfBoundsException" (by decide +kernel))
      refine vx_catch (own := RL) (name := "java/lang/IndexOutOfBoundsException") hown [] ⟨0, 10, 13, 31⟩ [⟨0, 10, 17, 13⟩] (htab.trans rfl) (fun z hz => by cases hz) rfl (by decide) w_31 hca hce hcv hcl ?_
      refine lv_astore (lv' := [(4, .ref q9), (0, .ref x), (1, .int p1), (2, .int p2), (3, .ref oA)]) hx hb dL_effect_13 hl (by decide) rfl (fun ls hl => ?_)
      refine lv_iconst (v := 1) hx hb dL_effect_15 (by decide) ?_
      exact Cx_iret hO (Or.inl ⟨h1, rfl, rfl⟩) (by show 0 + rm.cells ≤ 40; omega) (by show 0 + rm.slots ≤ 300; omega) hx hb hr hP1 hD1 hS1 dL_effect_16 hlocks
    · have hca : (Cond.castable xR "java/lang/IllegalArgumentException").before args s = true := va_Nw.use rfl (hG.2.2.1.2.1 "java/lang/IllegalArgumentException" (by decide +kernel))
      refine vx_catch (own := RL) (name := "java/lang/IllegalArgumentException") hown [⟨0, 10, 13, 31⟩] ⟨0, 10, 17, 13⟩ [] (htab.trans rfl) (List.forall_mem_cons.mpr ⟨Or.inr ⟨by decide, "java/lang/IndexOutOfBoundsException", w_31, hC.1⟩, (fun z hz => by cases hz)⟩) rfl (by decide) w_13 hca hce hcv hcl ?_
      refine lv_astore (lv' := [(4, .ref q9), (0, .ref x), (1, .int p1), (2, .int p2), (3, .ref oA)]) hx hb dL_effect_17 hl (by decide) rfl (fun ls hl => ?_)
      refine lv_iconst (v := 2) hx hb dL_effect_19 (by decide) ?_
      exact Cx_iret hO (Or.inr (Or.inl ⟨h1, rfl, rfl⟩)) (by show 0 + rm.cells ≤ 40; omega) (by show 0 + rm.slots ≤ 300; omega) hx hb hr hP1 hD1 hS1 dL_effect_20 hlocks
  · intro ov B w1 H locs h1 hB hP hD hS
    obtain ⟨v, rfl⟩ := hvv B ov w1 h1 hB
    refine W.eq (g2 := F0 m 8 ls [.int v, .int 0, .ref oA]) rfl ?_
    refine lv_i2l hx hb dL_effect_8 rfl ?_
    have hq : (w1 ++ (wr ++ ouW k oA g))[w1.length + wr.length]? = some (oA, (ouW k oA g)[0].2) := by rw [List.getElem?_append_right (by omega), Nat.add_sub_cancel_left, List.getElem?_append_right (Nat.le_refl _), Nat.sub_self]; rfl
    refine va_last hx hb hK hP hD hS (w1.length + wr.length) 4 hq rfl (inb_vp (by decide)) dL_effect_9 (fun H locs hP hD hS => ?_)
    have e9 : ∀ y, (w1 ++ (wr ++ ouW k oA g)).set (w1.length + wr.length) y = w1 ++ (wr ++ [y]) := fun y => by rw [List.set_append_right _ _ (by omega), Nat.add_sub_cancel_left, List.set_append_right _ _ (Nat.le_refl _), Nat.sub_self]; rfl
    rw [e9] at hP hD
    refine lv_goto (tgt := 21) hx hb dL_effect_10 (by decide) ?_
    refine lv_iconst (v := 0) hx hb dL_effect_21 (by decide) ?_
    exact Cx_iret hO (Or.inr (Or.inr (⟨B, v, w1, h1, hB, rfl, rfl⟩))) (by show 0 + rm.cells ≤ 40; omega) (by show 0 + rm.slots ≤ 300; omega) hx hb hr hP hD hS dL_effect_22 hlocks
set_option maxRecDepth 100000 in
set_option maxHeartbeats 4000000 in
theorem c_L_neighbor (l : Launch) (D : va_G) (k : Nat → ClassId) (x oA : Nat) (p1 : Int32) (p2 : Int32) (g : Nat → Int64) (wc wx wr : va_W) (oc : Oc) (fs : List Value) (rm : Room) (hfit : fitL rm) (he : wc[0]? = some (x, .inr (1, fs))) (hfx : wx.map Prod.fst = wc.map Prod.fst) (hx1 : ∀ E, oc = .inl E → E = xB) (hvv : ∀ (B : Option Value → va_W → Prop) (ov : Option Value) (w : va_W), oc = .inr B → B ov w → ∃ v, ov = some (.int v)) (hCx : Cx l D (tyK k) yX1_neighbor wsX1_neighbor rm [.ref x, .int p1, .int p2] wc wx oc) : Cl l D (tyK k) yL_neighbor wsL_neighbor rmL [.ref x, .int p1, .int p2, .ref oA] (wc ++ (wr ++ ouW k oA g)) (.inr (fun (ov : Option Value) (w : va_W) => (oc = .inl xB ∧ ov = some (.int 1) ∧ w = wx ++ (wr ++ ouW k oA g)) ∨ ∃ (B : Option Value → va_W → Prop) (v : Int32) (w2 : va_W), oc = .inr B ∧ B (some (.int v)) w2 ∧ ov = some (.int 0) ∧ w = w2 ++ (wr ++ ouW k oA (vp_updL g 0 v.toInt64)))) := by
  obtain ⟨O, hO⟩ : ∃ O : Oc, O = .inr (fun (ov : Option Value) (w : va_W) => (oc = .inl xB ∧ ov = some (.int 1) ∧ w = wx ++ (wr ++ ouW k oA g)) ∨ ∃ (B : Option Value → va_W → Prop) (v : Int32) (w2 : va_W), oc = .inr B ∧ B (some (.int v)) w2 ∧ ov = some (.int 0) ∧ w = w2 ++ (wr ++ ouW k oA (vp_updL g 0 v.toInt64))) := ⟨_, rfl⟩
  rw [← hO]
  refine Cl_of (cc := cL_neighbor) (maxL := 5) (ret := (some .int)) (hh := [(0, 10, 13, 31)]) (by decide) rfl (Nat.le_of_ble_eq_true rfl) ?_
  intro p e s m args below meth c A ls hx hb hr hml hts hown hlocks htab hK hG hC hA hP hD hS hl
  have hl : lv_has ls 5 [(0, .ref x), (1, .int p1), (2, .int p2), (3, .ref oA)] := hl
  refine lv_aload_n hx hb dL_neighbor_0 rfl (lv_at hl 3 rfl) ?_
  refine lv_iconst (v := 0) hx hb dL_neighbor_1 (by decide) ?_
  refine lv_aload_n hx hb dL_neighbor_2 rfl (lv_at hl 0 rfl) ?_
  refine lv_iload_n hx hb dL_neighbor_3 rfl (lv_at hl 1 rfl) ?_
  refine lv_iload_n hx hb dL_neighbor_4 rfl (lv_at hl 2 rfl) ?_
  obtain ⟨f1, f2, f3, f4⟩ := hfit
  refine Cx_goF (wc := wc) (wx := wx) (wr := wr ++ ouW k oA g) (vx_runV (As := [.int p1, .int p2]) (rest := [.int 0, .ref oA]) ⟨hx, hb, hml, hown, hts⟩ (hCx _) (cwV 2 hts gL_neighbor_X1_neighbor rfl rfl rfl (by decide +kernel) ⟨Nat.succ_le_succ f1, (by show 8 + (3 + 11) + rm.locals ≤ 800; omega)⟩) ⟨Px_blind, va_recv (q0 := 0) (ci := 1) hK hP rfl (by rw [List.getElem?_append_left (List.getElem?_eq_some_iff.mp he).1]; exact he), Px_at (wc := wc) hK hG hP hD hS hA (List.range wc.length) (rg_hi _ _) (rg_nd _)⟩ rfl rfl hl.1 rfl (Nat.le_of_ble_eq_true rfl) dL_neighbor_5 ⟨(by show 0 + rm.cells ≤ 40; omega), (by show 0 + rm.slots ≤ 300; omega)⟩) hP hD hS hA hfx ?_ ?_
  · intro E ce q9 H1 locs1 h1 hP1 hD1 hS1 hce hcv hcl
    have w_31 := hts (.classLink RL 31 "java/lang/IndexOutOfBoundsException") (by decide +kernel)
    rcases hx1 E h1 with rfl
    · have hca : (Cond.castable xB "java/lang/IndexOutOfBoundsException").before args s = true := va_Nw.use rfl (hG.2.2.1.2.1 "java/lang/IndexOutOfBoundsException" (by decide +kernel))
      refine vx_catch (own := RL) (name := "java/lang/IndexOutOfBoundsException") hown [] ⟨0, 10, 13, 31⟩ [] (htab.trans rfl) (fun z hz => by cases hz) rfl (by decide) w_31 hca hce hcv hcl ?_
      refine lv_astore (lv' := [(4, .ref q9), (0, .ref x), (1, .int p1), (2, .int p2), (3, .ref oA)]) hx hb dL_neighbor_13 hl (by decide) rfl (fun ls hl => ?_)
      refine lv_iconst (v := 1) hx hb dL_neighbor_15 (by decide) ?_
      exact Cx_iret hO (Or.inl ⟨h1, rfl, rfl⟩) (by show 0 + rm.cells ≤ 40; omega) (by show 0 + rm.slots ≤ 300; omega) hx hb hr hP1 hD1 hS1 dL_neighbor_16 hlocks
  · intro ov B w1 H locs h1 hB hP hD hS
    obtain ⟨v, rfl⟩ := hvv B ov w1 h1 hB
    refine W.eq (g2 := F0 m 8 ls [.int v, .int 0, .ref oA]) rfl ?_
    refine lv_i2l hx hb dL_neighbor_8 rfl ?_
    have hq : (w1 ++ (wr ++ ouW k oA g))[w1.length + wr.length]? = some (oA, (ouW k oA g)[0].2) := by rw [List.getElem?_append_right (by omega), Nat.add_sub_cancel_left, List.getElem?_append_right (Nat.le_refl _), Nat.sub_self]; rfl
    refine va_last hx hb hK hP hD hS (w1.length + wr.length) 4 hq rfl (inb_vp (by decide)) dL_neighbor_9 (fun H locs hP hD hS => ?_)
    have e9 : ∀ y, (w1 ++ (wr ++ ouW k oA g)).set (w1.length + wr.length) y = w1 ++ (wr ++ [y]) := fun y => by rw [List.set_append_right _ _ (by omega), Nat.add_sub_cancel_left, List.set_append_right _ _ (Nat.le_refl _), Nat.sub_self]; rfl
    rw [e9] at hP hD
    refine lv_goto (tgt := 17) hx hb dL_neighbor_10 (by decide) ?_
    refine lv_iconst (v := 0) hx hb dL_neighbor_17 (by decide) ?_
    exact Cx_iret hO (Or.inr (⟨B, v, w1, h1, hB, rfl, rfl⟩)) (by show 0 + rm.cells ≤ 40; omega) (by show 0 + rm.slots ≤ 300; omega) hx hb hr hP hD hS dL_neighbor_18 hlocks
set_option maxRecDepth 100000 in
set_option maxHeartbeats 4000000 in
theorem c_L_share (l : Launch) (D : va_G) (k : Nat → ClassId) (x oA : Nat) (p1 : Int32) (g : Nat → UInt64) (wc wx wr : va_W) (oc : Oc) (fs : List Value) (rm : Room) (hfit : fitL rm) (he : wc[0]? = some (x, .inr (1, fs))) (hfx : wx.map Prod.fst = wc.map Prod.fst) (hx1 : ∀ E, oc = .inl E → E = xB) (hvv : ∀ (B : Option Value → va_W → Prop) (ov : Option Value) (w : va_W), oc = .inr B → B ov w → ∃ v, ov = some (.float v) ∧ vf_n64 (FP.f2d v)) (hCx : Cx l D (tyK k) yX1_share wsX1_share rm [.ref x, .int p1] wc wx oc) : Cl l D (tyK k) yL_share wsL_share rmL [.ref x, .int p1, .ref oA] (wc ++ (wr ++ duW k oA g)) (.inr (fun (ov : Option Value) (w : va_W) => (oc = .inl xB ∧ ov = some (.int 1) ∧ w = wx ++ (wr ++ duW k oA g)) ∨ ∃ (B : Option Value → va_W → Prop) (v : UInt32) (w2 : va_W), oc = .inr B ∧ B (some (.float v)) w2 ∧ ov = some (.int 0) ∧ w = w2 ++ (wr ++ duW k oA (vf_upd g 0 (FP.f2d v))))) := by
  obtain ⟨O, hO⟩ : ∃ O : Oc, O = .inr (fun (ov : Option Value) (w : va_W) => (oc = .inl xB ∧ ov = some (.int 1) ∧ w = wx ++ (wr ++ duW k oA g)) ∨ ∃ (B : Option Value → va_W → Prop) (v : UInt32) (w2 : va_W), oc = .inr B ∧ B (some (.float v)) w2 ∧ ov = some (.int 0) ∧ w = w2 ++ (wr ++ duW k oA (vf_upd g 0 (FP.f2d v)))) := ⟨_, rfl⟩
  rw [← hO]
  refine Cl_of (cc := cL_share) (maxL := 4) (ret := (some .int)) (hh := [(0, 9, 12, 31)]) (by decide) rfl (Nat.le_of_ble_eq_true rfl) ?_
  intro p e s m args below meth c A ls hx hb hr hml hts hown hlocks htab hK hG hC hA hP hD hS hl
  have hl : lv_has ls 4 [(0, .ref x), (1, .int p1), (2, .ref oA)] := hl
  refine lv_aload_n hx hb dL_share_0 rfl (lv_at hl 2 rfl) ?_
  refine lv_iconst (v := 0) hx hb dL_share_1 (by decide) ?_
  refine lv_aload_n hx hb dL_share_2 rfl (lv_at hl 0 rfl) ?_
  refine lv_iload_n hx hb dL_share_3 rfl (lv_at hl 1 rfl) ?_
  obtain ⟨f1, f2, f3, f4⟩ := hfit
  refine Cx_goF (wc := wc) (wx := wx) (wr := wr ++ duW k oA g) (vx_runV (As := [.int p1]) (rest := [.int 0, .ref oA]) ⟨hx, hb, hml, hown, hts⟩ (hCx _) (cwV 1 hts gL_share_X1_share rfl rfl rfl (by decide +kernel) ⟨Nat.succ_le_succ f1, (by show 8 + (3 + 11) + rm.locals ≤ 800; omega)⟩) ⟨Px_blind, va_recv (q0 := 0) (ci := 1) hK hP rfl (by rw [List.getElem?_append_left (List.getElem?_eq_some_iff.mp he).1]; exact he), Px_at (wc := wc) hK hG hP hD hS hA (List.range wc.length) (rg_hi _ _) (rg_nd _)⟩ rfl rfl hl.1 rfl (Nat.le_of_ble_eq_true rfl) dL_share_4 ⟨(by show 0 + rm.cells ≤ 40; omega), (by show 0 + rm.slots ≤ 300; omega)⟩) hP hD hS hA hfx ?_ ?_
  · intro E ce q9 H1 locs1 h1 hP1 hD1 hS1 hce hcv hcl
    have w_31 := hts (.classLink RL 31 "java/lang/IndexOutOfBoundsException") (by decide +kernel)
    rcases hx1 E h1 with rfl
    · have hca : (Cond.castable xB "java/lang/IndexOutOfBoundsException").before args s = true := va_Nw.use rfl (hG.2.2.1.2.1 "java/lang/IndexOutOfBoundsException" (by decide +kernel))
      refine vx_catch (own := RL) (name := "java/lang/IndexOutOfBoundsException") hown [] ⟨0, 9, 12, 31⟩ [] (htab.trans rfl) (fun z hz => by cases hz) rfl (by decide) w_31 hca hce hcv hcl ?_
      refine lv_astore_n (lv' := [(3, .ref q9), (0, .ref x), (1, .int p1), (2, .ref oA)]) hx hb dL_share_12 rfl hl (by decide) rfl (fun ls hl => ?_)
      refine lv_iconst (v := 1) hx hb dL_share_13 (by decide) ?_
      exact Cx_iret hO (Or.inl ⟨h1, rfl, rfl⟩) (by show 0 + rm.cells ≤ 40; omega) (by show 0 + rm.slots ≤ 300; omega) hx hb hr hP1 hD1 hS1 dL_share_14 hlocks
  · intro ov B w1 H locs h1 hB hP hD hS
    obtain ⟨v, rfl, hnn⟩ := hvv B ov w1 h1 hB
    refine W.eq (g2 := F0 m 7 ls [.float v, .int 0, .ref oA]) rfl ?_
    refine lv_f2d hx hb dL_share_7 hnn ?_
    have hq : (w1 ++ (wr ++ duW k oA g))[w1.length + wr.length]? = some (oA, (duW k oA g)[0].2) := by rw [List.getElem?_append_right (by omega), Nat.add_sub_cancel_left, List.getElem?_append_right (Nat.le_refl _), Nat.sub_self]; rfl
    refine va_dast hx hb hK hP hD hS (w1.length + wr.length) 5 hq rfl (inb_vp (by decide)) dL_share_8 (fun H locs hP hD hS => ?_)
    have e9 : ∀ y, (w1 ++ (wr ++ duW k oA g)).set (w1.length + wr.length) y = w1 ++ (wr ++ [y]) := fun y => by rw [List.set_append_right _ _ (by omega), Nat.add_sub_cancel_left, List.set_append_right _ _ (Nat.le_refl _), Nat.sub_self]; rfl
    rw [e9] at hP hD
    refine lv_goto (tgt := 15) hx hb dL_share_9 (by decide) ?_
    refine lv_iconst (v := 0) hx hb dL_share_15 (by decide) ?_
    exact Cx_iret hO (Or.inr (⟨B, v, w1, h1, hB, rfl, rfl⟩)) (by show 0 + rm.cells ≤ 40; omega) (by show 0 + rm.slots ≤ 300; omega) hx hb hr hP hD hS dL_share_16 hlocks
set_option maxRecDepth 100000 in
set_option maxHeartbeats 4000000 in
theorem c_L_tick (l : Launch) (D : va_G) (k : Nat → ClassId) (x oA : Nat) (p1 : Int32) (g : Nat → Int64) (wc wx wr : va_W) (oc : Oc) (fs : List Value) (rm : Room) (hfit : fitL rm) (he : wc[0]? = some (x, .inr (1, fs))) (hfx : wx.map Prod.fst = wc.map Prod.fst) (hx1 : ∀ E, oc = .inl E → E = xR) (hvv : ∀ (B : Option Value → va_W → Prop) (ov : Option Value) (w : va_W), oc = .inr B → B ov w → ∃ v, ov = some (.int v)) (hCx : Cx l D (tyK k) yX1_tick wsX1_tick rm [.ref x, .int p1] wc wx oc) : Cl l D (tyK k) yL_tick wsL_tick rmL [.ref x, .int p1, .ref oA] (wc ++ (wr ++ ouW k oA g)) (.inr (fun (ov : Option Value) (w : va_W) => (oc = .inl xR ∧ ov = some (.int 1) ∧ w = wx ++ (wr ++ ouW k oA g)) ∨ ∃ (B : Option Value → va_W → Prop) (v : Int32) (w2 : va_W), oc = .inr B ∧ B (some (.int v)) w2 ∧ ov = some (.int 0) ∧ w = w2 ++ (wr ++ ouW k oA (vp_updL g 0 v.toInt64)))) := by
  obtain ⟨O, hO⟩ : ∃ O : Oc, O = .inr (fun (ov : Option Value) (w : va_W) => (oc = .inl xR ∧ ov = some (.int 1) ∧ w = wx ++ (wr ++ ouW k oA g)) ∨ ∃ (B : Option Value → va_W → Prop) (v : Int32) (w2 : va_W), oc = .inr B ∧ B (some (.int v)) w2 ∧ ov = some (.int 0) ∧ w = w2 ++ (wr ++ ouW k oA (vp_updL g 0 v.toInt64))) := ⟨_, rfl⟩
  rw [← hO]
  refine Cl_of (cc := cL_tick) (maxL := 4) (ret := (some .int)) (hh := [(0, 9, 12, 13)]) (by decide) rfl (Nat.le_of_ble_eq_true rfl) ?_
  intro p e s m args below meth c A ls hx hb hr hml hts hown hlocks htab hK hG hC hA hP hD hS hl
  have hl : lv_has ls 4 [(0, .ref x), (1, .int p1), (2, .ref oA)] := hl
  refine lv_aload_n hx hb dL_tick_0 rfl (lv_at hl 2 rfl) ?_
  refine lv_iconst (v := 0) hx hb dL_tick_1 (by decide) ?_
  refine lv_aload_n hx hb dL_tick_2 rfl (lv_at hl 0 rfl) ?_
  refine lv_iload_n hx hb dL_tick_3 rfl (lv_at hl 1 rfl) ?_
  obtain ⟨f1, f2, f3, f4⟩ := hfit
  refine Cx_goF (wc := wc) (wx := wx) (wr := wr ++ ouW k oA g) (vx_runV (As := [.int p1]) (rest := [.int 0, .ref oA]) ⟨hx, hb, hml, hown, hts⟩ (hCx _) (cwV 1 hts gL_tick_X1_tick rfl rfl rfl (by decide +kernel) ⟨Nat.succ_le_succ f1, (by show 8 + (2 + 11) + rm.locals ≤ 800; omega)⟩) ⟨Px_blind, va_recv (q0 := 0) (ci := 1) hK hP rfl (by rw [List.getElem?_append_left (List.getElem?_eq_some_iff.mp he).1]; exact he), Px_at (wc := wc) hK hG hP hD hS hA (List.range wc.length) (rg_hi _ _) (rg_nd _)⟩ rfl rfl hl.1 rfl (Nat.le_of_ble_eq_true rfl) dL_tick_4 ⟨(by show 0 + rm.cells ≤ 40; omega), (by show 0 + rm.slots ≤ 300; omega)⟩) hP hD hS hA hfx ?_ ?_
  · intro E ce q9 H1 locs1 h1 hP1 hD1 hS1 hce hcv hcl
    have w_13 := hts (.classLink RL 13 "java/lang/IllegalArgumentException") (by decide +kernel)
    rcases hx1 E h1 with rfl
    · have hca : (Cond.castable xR "java/lang/IllegalArgumentException").before args s = true := va_Nw.use rfl (hG.2.2.1.2.1 "java/lang/IllegalArgumentException" (by decide +kernel))
      refine vx_catch (own := RL) (name := "java/lang/IllegalArgumentException") hown [] ⟨0, 9, 12, 13⟩ [] (htab.trans rfl) (fun z hz => by cases hz) rfl (by decide) w_13 hca hce hcv hcl ?_
      refine lv_astore_n (lv' := [(3, .ref q9), (0, .ref x), (1, .int p1), (2, .ref oA)]) hx hb dL_tick_12 rfl hl (by decide) rfl (fun ls hl => ?_)
      refine lv_iconst (v := 1) hx hb dL_tick_13 (by decide) ?_
      exact Cx_iret hO (Or.inl ⟨h1, rfl, rfl⟩) (by show 0 + rm.cells ≤ 40; omega) (by show 0 + rm.slots ≤ 300; omega) hx hb hr hP1 hD1 hS1 dL_tick_14 hlocks
  · intro ov B w1 H locs h1 hB hP hD hS
    obtain ⟨v, rfl⟩ := hvv B ov w1 h1 hB
    refine W.eq (g2 := F0 m 7 ls [.int v, .int 0, .ref oA]) rfl ?_
    refine lv_i2l hx hb dL_tick_7 rfl ?_
    have hq : (w1 ++ (wr ++ ouW k oA g))[w1.length + wr.length]? = some (oA, (ouW k oA g)[0].2) := by rw [List.getElem?_append_right (by omega), Nat.add_sub_cancel_left, List.getElem?_append_right (Nat.le_refl _), Nat.sub_self]; rfl
    refine va_last hx hb hK hP hD hS (w1.length + wr.length) 4 hq rfl (inb_vp (by decide)) dL_tick_8 (fun H locs hP hD hS => ?_)
    have e9 : ∀ y, (w1 ++ (wr ++ ouW k oA g)).set (w1.length + wr.length) y = w1 ++ (wr ++ [y]) := fun y => by rw [List.set_append_right _ _ (by omega), Nat.add_sub_cancel_left, List.set_append_right _ _ (Nat.le_refl _), Nat.sub_self]; rfl
    rw [e9] at hP hD
    refine lv_goto (tgt := 15) hx hb dL_tick_9 (by decide) ?_
    refine lv_iconst (v := 0) hx hb dL_tick_15 (by decide) ?_
    exact Cx_iret hO (Or.inr (⟨B, v, w1, h1, hB, rfl, rfl⟩)) (by show 0 + rm.cells ≤ 40; omega) (by show 0 + rm.slots ≤ 300; omega) hx hb hr hP hD hS dL_tick_16 hlocks
set_option maxRecDepth 100000 in
set_option maxHeartbeats 4000000 in
theorem c_L_set (l : Launch) (D : va_G) (k : Nat → ClassId) (x oA : Nat) (p1 : Int32) (p2 : Int32) (g : Nat → Int64) (wc wx wr : va_W) (oc : Oc) (fs : List Value) (rm : Room) (hfit : fitL rm) (he : wc[0]? = some (x, .inr (1, fs))) (hfx : wx.map Prod.fst = wc.map Prod.fst) (hx1 : ∀ E, oc = .inl E → E = xR) (hvv : ∀ (B : Option Value → va_W → Prop) (ov : Option Value) (w : va_W), oc = .inr B → B ov w → ∃ v, ov = some (.int v)) (hCx : Cx l D (tyK k) yX1_set wsX1_set rm [.ref x, .int p1, .int p2] wc wx oc) : Cl l D (tyK k) yL_set wsL_set rmL [.ref x, .int p1, .int p2, .ref oA] (wc ++ (wr ++ ouW k oA g)) (.inr (fun (ov : Option Value) (w : va_W) => (oc = .inl xR ∧ ov = some (.int 1) ∧ w = wx ++ (wr ++ ouW k oA g)) ∨ ∃ (B : Option Value → va_W → Prop) (v : Int32) (w2 : va_W), oc = .inr B ∧ B (some (.int v)) w2 ∧ ov = some (.int 0) ∧ w = w2 ++ (wr ++ ouW k oA (vp_updL g 0 v.toInt64)))) := by
  obtain ⟨O, hO⟩ : ∃ O : Oc, O = .inr (fun (ov : Option Value) (w : va_W) => (oc = .inl xR ∧ ov = some (.int 1) ∧ w = wx ++ (wr ++ ouW k oA g)) ∨ ∃ (B : Option Value → va_W → Prop) (v : Int32) (w2 : va_W), oc = .inr B ∧ B (some (.int v)) w2 ∧ ov = some (.int 0) ∧ w = w2 ++ (wr ++ ouW k oA (vp_updL g 0 v.toInt64))) := ⟨_, rfl⟩
  rw [← hO]
  refine Cl_of (cc := cL_set) (maxL := 5) (ret := (some .int)) (hh := [(0, 10, 13, 13)]) (by decide) rfl (Nat.le_of_ble_eq_true rfl) ?_
  intro p e s m args below meth c A ls hx hb hr hml hts hown hlocks htab hK hG hC hA hP hD hS hl
  have hl : lv_has ls 5 [(0, .ref x), (1, .int p1), (2, .int p2), (3, .ref oA)] := hl
  refine lv_aload_n hx hb dL_set_0 rfl (lv_at hl 3 rfl) ?_
  refine lv_iconst (v := 0) hx hb dL_set_1 (by decide) ?_
  refine lv_aload_n hx hb dL_set_2 rfl (lv_at hl 0 rfl) ?_
  refine lv_iload_n hx hb dL_set_3 rfl (lv_at hl 1 rfl) ?_
  refine lv_iload_n hx hb dL_set_4 rfl (lv_at hl 2 rfl) ?_
  obtain ⟨f1, f2, f3, f4⟩ := hfit
  refine Cx_goF (wc := wc) (wx := wx) (wr := wr ++ ouW k oA g) (vx_runV (As := [.int p1, .int p2]) (rest := [.int 0, .ref oA]) ⟨hx, hb, hml, hown, hts⟩ (hCx _) (cwV 2 hts gL_set_X1_set rfl rfl rfl (by decide +kernel) ⟨Nat.succ_le_succ f1, (by show 8 + (4 + 11) + rm.locals ≤ 800; omega)⟩) ⟨Px_blind, va_recv (q0 := 0) (ci := 1) hK hP rfl (by rw [List.getElem?_append_left (List.getElem?_eq_some_iff.mp he).1]; exact he), Px_at (wc := wc) hK hG hP hD hS hA (List.range wc.length) (rg_hi _ _) (rg_nd _)⟩ rfl rfl hl.1 rfl (Nat.le_of_ble_eq_true rfl) dL_set_5 ⟨(by show 0 + rm.cells ≤ 40; omega), (by show 0 + rm.slots ≤ 300; omega)⟩) hP hD hS hA hfx ?_ ?_
  · intro E ce q9 H1 locs1 h1 hP1 hD1 hS1 hce hcv hcl
    have w_13 := hts (.classLink RL 13 "java/lang/IllegalArgumentException") (by decide +kernel)
    rcases hx1 E h1 with rfl
    · have hca : (Cond.castable xR "java/lang/IllegalArgumentException").before args s = true := va_Nw.use rfl (hG.2.2.1.2.1 "java/lang/IllegalArgumentException" (by decide +kernel))
      refine vx_catch (own := RL) (name := "java/lang/IllegalArgumentException") hown [] ⟨0, 10, 13, 13⟩ [] (htab.trans rfl) (fun z hz => by cases hz) rfl (by decide) w_13 hca hce hcv hcl ?_
      refine lv_astore (lv' := [(4, .ref q9), (0, .ref x), (1, .int p1), (2, .int p2), (3, .ref oA)]) hx hb dL_set_13 hl (by decide) rfl (fun ls hl => ?_)
      refine lv_iconst (v := 1) hx hb dL_set_15 (by decide) ?_
      exact Cx_iret hO (Or.inl ⟨h1, rfl, rfl⟩) (by show 0 + rm.cells ≤ 40; omega) (by show 0 + rm.slots ≤ 300; omega) hx hb hr hP1 hD1 hS1 dL_set_16 hlocks
  · intro ov B w1 H locs h1 hB hP hD hS
    obtain ⟨v, rfl⟩ := hvv B ov w1 h1 hB
    refine W.eq (g2 := F0 m 8 ls [.int v, .int 0, .ref oA]) rfl ?_
    refine lv_i2l hx hb dL_set_8 rfl ?_
    have hq : (w1 ++ (wr ++ ouW k oA g))[w1.length + wr.length]? = some (oA, (ouW k oA g)[0].2) := by rw [List.getElem?_append_right (by omega), Nat.add_sub_cancel_left, List.getElem?_append_right (Nat.le_refl _), Nat.sub_self]; rfl
    refine va_last hx hb hK hP hD hS (w1.length + wr.length) 4 hq rfl (inb_vp (by decide)) dL_set_9 (fun H locs hP hD hS => ?_)
    have e9 : ∀ y, (w1 ++ (wr ++ ouW k oA g)).set (w1.length + wr.length) y = w1 ++ (wr ++ [y]) := fun y => by rw [List.set_append_right _ _ (by omega), Nat.add_sub_cancel_left, List.set_append_right _ _ (Nat.le_refl _), Nat.sub_self]; rfl
    rw [e9] at hP hD
    refine lv_goto (tgt := 17) hx hb dL_set_10 (by decide) ?_
    refine lv_iconst (v := 0) hx hb dL_set_17 (by decide) ?_
    exact Cx_iret hO (Or.inr (⟨B, v, w1, h1, hB, rfl, rfl⟩)) (by show 0 + rm.cells ≤ 40; omega) (by show 0 + rm.slots ≤ 300; omega) hx hb hr hP hD hS dL_set_18 hlocks
set_option maxRecDepth 100000 in
set_option maxHeartbeats 4000000 in
theorem c_L_setValve (l : Launch) (D : va_G) (k : Nat → ClassId) (x oA : Nat) (p1 : Int32) (p2 : Int32) (g : Nat → Int64) (wc wx wr : va_W) (oc : Oc) (fs : List Value) (rm : Room) (hfit : fitL rm) (he : wc[0]? = some (x, .inr (1, fs))) (hfx : wx.map Prod.fst = wc.map Prod.fst) (hx1 : ∀ E, oc = .inl E → E = xB ∨ E = xR) (hvv : ∀ (B : Option Value → va_W → Prop) (ov : Option Value) (w : va_W), oc = .inr B → B ov w → ∃ v, ov = some (.int v)) (hCx : Cx l D (tyK k) yX1_setValve wsX1_setValve rm [.ref x, .int p1, .int p2] wc wx oc) : Cl l D (tyK k) yL_setValve wsL_setValve rmL [.ref x, .int p1, .int p2, .ref oA] (wc ++ (wr ++ ouW k oA g)) (.inr (fun (ov : Option Value) (w : va_W) => (oc = .inl xB ∧ ov = some (.int 1) ∧ w = wx ++ (wr ++ ouW k oA g)) ∨ (oc = .inl xR ∧ ov = some (.int 2) ∧ w = wx ++ (wr ++ ouW k oA g)) ∨ ∃ (B : Option Value → va_W → Prop) (v : Int32) (w2 : va_W), oc = .inr B ∧ B (some (.int v)) w2 ∧ ov = some (.int 0) ∧ w = w2 ++ (wr ++ ouW k oA (vp_updL g 0 v.toInt64)))) := by
  obtain ⟨O, hO⟩ : ∃ O : Oc, O = .inr (fun (ov : Option Value) (w : va_W) => (oc = .inl xB ∧ ov = some (.int 1) ∧ w = wx ++ (wr ++ ouW k oA g)) ∨ (oc = .inl xR ∧ ov = some (.int 2) ∧ w = wx ++ (wr ++ ouW k oA g)) ∨ ∃ (B : Option Value → va_W → Prop) (v : Int32) (w2 : va_W), oc = .inr B ∧ B (some (.int v)) w2 ∧ ov = some (.int 0) ∧ w = w2 ++ (wr ++ ouW k oA (vp_updL g 0 v.toInt64))) := ⟨_, rfl⟩
  rw [← hO]
  refine Cl_of (cc := cL_setValve) (maxL := 5) (ret := (some .int)) (hh := [(0, 10, 13, 31), (0, 10, 17, 13)]) (by decide) rfl (Nat.le_of_ble_eq_true rfl) ?_
  intro p e s m args below meth c A ls hx hb hr hml hts hown hlocks htab hK hG hC hA hP hD hS hl
  have hl : lv_has ls 5 [(0, .ref x), (1, .int p1), (2, .int p2), (3, .ref oA)] := hl
  refine lv_aload_n hx hb dL_setValve_0 rfl (lv_at hl 3 rfl) ?_
  refine lv_iconst (v := 0) hx hb dL_setValve_1 (by decide) ?_
  refine lv_aload_n hx hb dL_setValve_2 rfl (lv_at hl 0 rfl) ?_
  refine lv_iload_n hx hb dL_setValve_3 rfl (lv_at hl 1 rfl) ?_
  refine lv_iload_n hx hb dL_setValve_4 rfl (lv_at hl 2 rfl) ?_
  obtain ⟨f1, f2, f3, f4⟩ := hfit
  refine Cx_goF (wc := wc) (wx := wx) (wr := wr ++ ouW k oA g) (vx_runV (As := [.int p1, .int p2]) (rest := [.int 0, .ref oA]) ⟨hx, hb, hml, hown, hts⟩ (hCx _) (cwV 2 hts gL_setValve_X1_setValve rfl rfl rfl (by decide +kernel) ⟨Nat.succ_le_succ f1, (by show 8 + (4 + 11) + rm.locals ≤ 800; omega)⟩) ⟨Px_blind, va_recv (q0 := 0) (ci := 1) hK hP rfl (by rw [List.getElem?_append_left (List.getElem?_eq_some_iff.mp he).1]; exact he), Px_at (wc := wc) hK hG hP hD hS hA (List.range wc.length) (rg_hi _ _) (rg_nd _)⟩ rfl rfl hl.1 rfl (Nat.le_of_ble_eq_true rfl) dL_setValve_5 ⟨(by show 0 + rm.cells ≤ 40; omega), (by show 0 + rm.slots ≤ 300; omega)⟩) hP hD hS hA hfx ?_ ?_
  · intro E ce q9 H1 locs1 h1 hP1 hD1 hS1 hce hcv hcl
    have w_31 := hts (.classLink RL 31 "java/lang/IndexOutOfBoundsException") (by decide +kernel)
    have w_13 := hts (.classLink RL 13 "java/lang/IllegalArgumentException") (by decide +kernel)
    rcases hx1 E h1 with rfl | rfl
    · have hca : (Cond.castable xB "java/lang/IndexOutOfBoundsException").before args s = true := va_Nw.use rfl (hG.2.2.1.2.1 "java/lang/IndexOutOfBoundsException" (by decide +kernel))
      refine vx_catch (own := RL) (name := "java/lang/IndexOutOfBoundsException") hown [] ⟨0, 10, 13, 31⟩ [⟨0, 10, 17, 13⟩] (htab.trans rfl) (fun z hz => by cases hz) rfl (by decide) w_31 hca hce hcv hcl ?_
      refine lv_astore (lv' := [(4, .ref q9), (0, .ref x), (1, .int p1), (2, .int p2), (3, .ref oA)]) hx hb dL_setValve_13 hl (by decide) rfl (fun ls hl => ?_)
      refine lv_iconst (v := 1) hx hb dL_setValve_15 (by decide) ?_
      exact Cx_iret hO (Or.inl ⟨h1, rfl, rfl⟩) (by show 0 + rm.cells ≤ 40; omega) (by show 0 + rm.slots ≤ 300; omega) hx hb hr hP1 hD1 hS1 dL_setValve_16 hlocks
    · have hca : (Cond.castable xR "java/lang/IllegalArgumentException").before args s = true := va_Nw.use rfl (hG.2.2.1.2.1 "java/lang/IllegalArgumentException" (by decide +kernel))
      refine vx_catch (own := RL) (name := "java/lang/IllegalArgumentException") hown [⟨0, 10, 13, 31⟩] ⟨0, 10, 17, 13⟩ [] (htab.trans rfl) (List.forall_mem_cons.mpr ⟨Or.inr ⟨by decide, "java/lang/IndexOutOfBoundsException", w_31, hC.1⟩, (fun z hz => by cases hz)⟩) rfl (by decide) w_13 hca hce hcv hcl ?_
      refine lv_astore (lv' := [(4, .ref q9), (0, .ref x), (1, .int p1), (2, .int p2), (3, .ref oA)]) hx hb dL_setValve_17 hl (by decide) rfl (fun ls hl => ?_)
      refine lv_iconst (v := 2) hx hb dL_setValve_19 (by decide) ?_
      exact Cx_iret hO (Or.inr (Or.inl ⟨h1, rfl, rfl⟩)) (by show 0 + rm.cells ≤ 40; omega) (by show 0 + rm.slots ≤ 300; omega) hx hb hr hP1 hD1 hS1 dL_setValve_20 hlocks
  · intro ov B w1 H locs h1 hB hP hD hS
    obtain ⟨v, rfl⟩ := hvv B ov w1 h1 hB
    refine W.eq (g2 := F0 m 8 ls [.int v, .int 0, .ref oA]) rfl ?_
    refine lv_i2l hx hb dL_setValve_8 rfl ?_
    have hq : (w1 ++ (wr ++ ouW k oA g))[w1.length + wr.length]? = some (oA, (ouW k oA g)[0].2) := by rw [List.getElem?_append_right (by omega), Nat.add_sub_cancel_left, List.getElem?_append_right (Nat.le_refl _), Nat.sub_self]; rfl
    refine va_last hx hb hK hP hD hS (w1.length + wr.length) 4 hq rfl (inb_vp (by decide)) dL_setValve_9 (fun H locs hP hD hS => ?_)
    have e9 : ∀ y, (w1 ++ (wr ++ ouW k oA g)).set (w1.length + wr.length) y = w1 ++ (wr ++ [y]) := fun y => by rw [List.set_append_right _ _ (by omega), Nat.add_sub_cancel_left, List.set_append_right _ _ (Nat.le_refl _), Nat.sub_self]; rfl
    rw [e9] at hP hD
    refine lv_goto (tgt := 21) hx hb dL_setValve_10 (by decide) ?_
    refine lv_iconst (v := 0) hx hb dL_setValve_21 (by decide) ?_
    exact Cx_iret hO (Or.inr (Or.inr (⟨B, v, w1, h1, hB, rfl, rfl⟩))) (by show 0 + rm.cells ≤ 40; omega) (by show 0 + rm.slots ≤ 300; omega) hx hb hr hP hD hS dL_setValve_22 hlocks
set_option maxRecDepth 100000 in
set_option maxHeartbeats 4000000 in
theorem c_L_setBleed (l : Launch) (D : va_G) (k : Nat → ClassId) (x oA : Nat) (p1 : Int32) (p2 : Int32) (g : Nat → Int64) (wc wx wr : va_W) (oc : Oc) (fs : List Value) (rm : Room) (hfit : fitL rm) (he : wc[0]? = some (x, .inr (1, fs))) (hfx : wx.map Prod.fst = wc.map Prod.fst) (hx1 : ∀ E, oc = .inl E → E = xB ∨ E = xR) (hvv : ∀ (B : Option Value → va_W → Prop) (ov : Option Value) (w : va_W), oc = .inr B → B ov w → ∃ v, ov = some (.int v)) (hCx : Cx l D (tyK k) yX1_setBleed wsX1_setBleed rm [.ref x, .int p1, .int p2] wc wx oc) : Cl l D (tyK k) yL_setBleed wsL_setBleed rmL [.ref x, .int p1, .int p2, .ref oA] (wc ++ (wr ++ ouW k oA g)) (.inr (fun (ov : Option Value) (w : va_W) => (oc = .inl xB ∧ ov = some (.int 1) ∧ w = wx ++ (wr ++ ouW k oA g)) ∨ (oc = .inl xR ∧ ov = some (.int 2) ∧ w = wx ++ (wr ++ ouW k oA g)) ∨ ∃ (B : Option Value → va_W → Prop) (v : Int32) (w2 : va_W), oc = .inr B ∧ B (some (.int v)) w2 ∧ ov = some (.int 0) ∧ w = w2 ++ (wr ++ ouW k oA (vp_updL g 0 v.toInt64)))) := by
  obtain ⟨O, hO⟩ : ∃ O : Oc, O = .inr (fun (ov : Option Value) (w : va_W) => (oc = .inl xB ∧ ov = some (.int 1) ∧ w = wx ++ (wr ++ ouW k oA g)) ∨ (oc = .inl xR ∧ ov = some (.int 2) ∧ w = wx ++ (wr ++ ouW k oA g)) ∨ ∃ (B : Option Value → va_W → Prop) (v : Int32) (w2 : va_W), oc = .inr B ∧ B (some (.int v)) w2 ∧ ov = some (.int 0) ∧ w = w2 ++ (wr ++ ouW k oA (vp_updL g 0 v.toInt64))) := ⟨_, rfl⟩
  rw [← hO]
  refine Cl_of (cc := cL_setBleed) (maxL := 5) (ret := (some .int)) (hh := [(0, 10, 13, 31), (0, 10, 17, 13)]) (by decide) rfl (Nat.le_of_ble_eq_true rfl) ?_
  intro p e s m args below meth c A ls hx hb hr hml hts hown hlocks htab hK hG hC hA hP hD hS hl
  have hl : lv_has ls 5 [(0, .ref x), (1, .int p1), (2, .int p2), (3, .ref oA)] := hl
  refine lv_aload_n hx hb dL_setBleed_0 rfl (lv_at hl 3 rfl) ?_
  refine lv_iconst (v := 0) hx hb dL_setBleed_1 (by decide) ?_
  refine lv_aload_n hx hb dL_setBleed_2 rfl (lv_at hl 0 rfl) ?_
  refine lv_iload_n hx hb dL_setBleed_3 rfl (lv_at hl 1 rfl) ?_
  refine lv_iload_n hx hb dL_setBleed_4 rfl (lv_at hl 2 rfl) ?_
  obtain ⟨f1, f2, f3, f4⟩ := hfit
  refine Cx_goF (wc := wc) (wx := wx) (wr := wr ++ ouW k oA g) (vx_runV (As := [.int p1, .int p2]) (rest := [.int 0, .ref oA]) ⟨hx, hb, hml, hown, hts⟩ (hCx _) (cwV 2 hts gL_setBleed_X1_setBleed rfl rfl rfl (by decide +kernel) ⟨Nat.succ_le_succ f1, (by show 8 + (4 + 11) + rm.locals ≤ 800; omega)⟩) ⟨Px_blind, va_recv (q0 := 0) (ci := 1) hK hP rfl (by rw [List.getElem?_append_left (List.getElem?_eq_some_iff.mp he).1]; exact he), Px_at (wc := wc) hK hG hP hD hS hA (List.range wc.length) (rg_hi _ _) (rg_nd _)⟩ rfl rfl hl.1 rfl (Nat.le_of_ble_eq_true rfl) dL_setBleed_5 ⟨(by show 0 + rm.cells ≤ 40; omega), (by show 0 + rm.slots ≤ 300; omega)⟩) hP hD hS hA hfx ?_ ?_
  · intro E ce q9 H1 locs1 h1 hP1 hD1 hS1 hce hcv hcl
    have w_31 := hts (.classLink RL 31 "java/lang/IndexOutOfBoundsException") (by decide +kernel)
    have w_13 := hts (.classLink RL 13 "java/lang/IllegalArgumentException") (by decide +kernel)
    rcases hx1 E h1 with rfl | rfl
    · have hca : (Cond.castable xB "java/lang/IndexOutOfBoundsException").before args s = true := va_Nw.use rfl (hG.2.2.1.2.1 "java/lang/IndexOutOfBoundsException" (by decide +kernel))
      refine vx_catch (own := RL) (name := "java/lang/IndexOutOfBoundsException") hown [] ⟨0, 10, 13, 31⟩ [⟨0, 10, 17, 13⟩] (htab.trans rfl) (fun z hz => by cases hz) rfl (by decide) w_31 hca hce hcv hcl ?_
      refine lv_astore (lv' := [(4, .ref q9), (0, .ref x), (1, .int p1), (2, .int p2), (3, .ref oA)]) hx hb dL_setBleed_13 hl (by decide) rfl (fun ls hl => ?_)
      refine lv_iconst (v := 1) hx hb dL_setBleed_15 (by decide) ?_
      exact Cx_iret hO (Or.inl ⟨h1, rfl, rfl⟩) (by show 0 + rm.cells ≤ 40; omega) (by show 0 + rm.slots ≤ 300; omega) hx hb hr hP1 hD1 hS1 dL_setBleed_16 hlocks
    · have hca : (Cond.castable xR "java/lang/IllegalArgumentException").before args s = true := va_Nw.use rfl (hG.2.2.1.2.1 "java/lang/IllegalArgumentException" (by decide +kernel))
      refine vx_catch (own := RL) (name := "java/lang/IllegalArgumentException") hown [⟨0, 10, 13, 31⟩] ⟨0, 10, 17, 13⟩ [] (htab.trans rfl) (List.forall_mem_cons.mpr ⟨Or.inr ⟨by decide, "java/lang/IndexOutOfBoundsException", w_31, hC.1⟩, (fun z hz => by cases hz)⟩) rfl (by decide) w_13 hca hce hcv hcl ?_
      refine lv_astore (lv' := [(4, .ref q9), (0, .ref x), (1, .int p1), (2, .int p2), (3, .ref oA)]) hx hb dL_setBleed_17 hl (by decide) rfl (fun ls hl => ?_)
      refine lv_iconst (v := 2) hx hb dL_setBleed_19 (by decide) ?_
      exact Cx_iret hO (Or.inr (Or.inl ⟨h1, rfl, rfl⟩)) (by show 0 + rm.cells ≤ 40; omega) (by show 0 + rm.slots ≤ 300; omega) hx hb hr hP1 hD1 hS1 dL_setBleed_20 hlocks
  · intro ov B w1 H locs h1 hB hP hD hS
    obtain ⟨v, rfl⟩ := hvv B ov w1 h1 hB
    refine W.eq (g2 := F0 m 8 ls [.int v, .int 0, .ref oA]) rfl ?_
    refine lv_i2l hx hb dL_setBleed_8 rfl ?_
    have hq : (w1 ++ (wr ++ ouW k oA g))[w1.length + wr.length]? = some (oA, (ouW k oA g)[0].2) := by rw [List.getElem?_append_right (by omega), Nat.add_sub_cancel_left, List.getElem?_append_right (Nat.le_refl _), Nat.sub_self]; rfl
    refine va_last hx hb hK hP hD hS (w1.length + wr.length) 4 hq rfl (inb_vp (by decide)) dL_setBleed_9 (fun H locs hP hD hS => ?_)
    have e9 : ∀ y, (w1 ++ (wr ++ ouW k oA g)).set (w1.length + wr.length) y = w1 ++ (wr ++ [y]) := fun y => by rw [List.set_append_right _ _ (by omega), Nat.add_sub_cancel_left, List.set_append_right _ _ (Nat.le_refl _), Nat.sub_self]; rfl
    rw [e9] at hP hD
    refine lv_goto (tgt := 21) hx hb dL_setBleed_10 (by decide) ?_
    refine lv_iconst (v := 0) hx hb dL_setBleed_21 (by decide) ?_
    exact Cx_iret hO (Or.inr (Or.inr (⟨B, v, w1, h1, hB, rfl, rfl⟩))) (by show 0 + rm.cells ≤ 40; omega) (by show 0 + rm.slots ≤ 300; omega) hx hb hr hP hD hS dL_setBleed_22 hlocks
set_option maxRecDepth 100000 in
set_option maxHeartbeats 4000000 in
theorem c_L_wash (l : Launch) (D : va_G) (k : Nat → ClassId) (x oA : Nat) (p1 : Int32) (p2 : Int32) (g : Nat → Int64) (wc wx wr : va_W) (oc : Oc) (fs : List Value) (rm : Room) (hfit : fitL rm) (he : wc[0]? = some (x, .inr (1, fs))) (hfx : wx.map Prod.fst = wc.map Prod.fst) (hx1 : ∀ E, oc = .inl E → E = xB ∨ E = xR ∨ E = xS) (hvv : ∀ (B : Option Value → va_W → Prop) (ov : Option Value) (w : va_W), oc = .inr B → B ov w → ∃ v, ov = some (.int v)) (hCx : Cx l D (tyK k) yX1_wash wsX1_wash rm [.ref x, .int p1, .int p2] wc wx oc) : Cl l D (tyK k) yL_wash wsL_wash rmL [.ref x, .int p1, .int p2, .ref oA] (wc ++ (wr ++ ouW k oA g)) (.inr (fun (ov : Option Value) (w : va_W) => (oc = .inl xB ∧ ov = some (.int 1) ∧ w = wx ++ (wr ++ ouW k oA g)) ∨ (oc = .inl xR ∧ ov = some (.int 2) ∧ w = wx ++ (wr ++ ouW k oA g)) ∨ (oc = .inl xS ∧ ov = some (.int 3) ∧ w = wx ++ (wr ++ ouW k oA g)) ∨ ∃ (B : Option Value → va_W → Prop) (v : Int32) (w2 : va_W), oc = .inr B ∧ B (some (.int v)) w2 ∧ ov = some (.int 0) ∧ w = w2 ++ (wr ++ ouW k oA (vp_updL g 0 v.toInt64)))) := by
  obtain ⟨O, hO⟩ : ∃ O : Oc, O = .inr (fun (ov : Option Value) (w : va_W) => (oc = .inl xB ∧ ov = some (.int 1) ∧ w = wx ++ (wr ++ ouW k oA g)) ∨ (oc = .inl xR ∧ ov = some (.int 2) ∧ w = wx ++ (wr ++ ouW k oA g)) ∨ (oc = .inl xS ∧ ov = some (.int 3) ∧ w = wx ++ (wr ++ ouW k oA g)) ∨ ∃ (B : Option Value → va_W → Prop) (v : Int32) (w2 : va_W), oc = .inr B ∧ B (some (.int v)) w2 ∧ ov = some (.int 0) ∧ w = w2 ++ (wr ++ ouW k oA (vp_updL g 0 v.toInt64))) := ⟨_, rfl⟩
  rw [← hO]
  refine Cl_of (cc := cL_wash) (maxL := 5) (ret := (some .int)) (hh := [(0, 10, 13, 31), (0, 10, 17, 13), (0, 10, 21, 15)]) (by decide) rfl (Nat.le_of_ble_eq_true rfl) ?_
  intro p e s m args below meth c A ls hx hb hr hml hts hown hlocks htab hK hG hC hA hP hD hS hl
  have hl : lv_has ls 5 [(0, .ref x), (1, .int p1), (2, .int p2), (3, .ref oA)] := hl
  refine lv_aload_n hx hb dL_wash_0 rfl (lv_at hl 3 rfl) ?_
  refine lv_iconst (v := 0) hx hb dL_wash_1 (by decide) ?_
  refine lv_aload_n hx hb dL_wash_2 rfl (lv_at hl 0 rfl) ?_
  refine lv_iload_n hx hb dL_wash_3 rfl (lv_at hl 1 rfl) ?_
  refine lv_iload_n hx hb dL_wash_4 rfl (lv_at hl 2 rfl) ?_
  obtain ⟨f1, f2, f3, f4⟩ := hfit
  refine Cx_goF (wc := wc) (wx := wx) (wr := wr ++ ouW k oA g) (vx_runV (As := [.int p1, .int p2]) (rest := [.int 0, .ref oA]) ⟨hx, hb, hml, hown, hts⟩ (hCx _) (cwV 2 hts gL_wash_X1_wash rfl rfl rfl (by decide +kernel) ⟨Nat.succ_le_succ f1, (by show 8 + (3 + 11) + rm.locals ≤ 800; omega)⟩) ⟨Px_blind, va_recv (q0 := 0) (ci := 1) hK hP rfl (by rw [List.getElem?_append_left (List.getElem?_eq_some_iff.mp he).1]; exact he), Px_at (wc := wc) hK hG hP hD hS hA (List.range wc.length) (rg_hi _ _) (rg_nd _)⟩ rfl rfl hl.1 rfl (Nat.le_of_ble_eq_true rfl) dL_wash_5 ⟨(by show 0 + rm.cells ≤ 40; omega), (by show 0 + rm.slots ≤ 300; omega)⟩) hP hD hS hA hfx ?_ ?_
  · intro E ce q9 H1 locs1 h1 hP1 hD1 hS1 hce hcv hcl
    have w_31 := hts (.classLink RL 31 "java/lang/IndexOutOfBoundsException") (by decide +kernel)
    have w_13 := hts (.classLink RL 13 "java/lang/IllegalArgumentException") (by decide +kernel)
    have w_15 := hts (.classLink RL 15 "java/lang/IllegalStateException") (by decide +kernel)
    rcases hx1 E h1 with rfl | rfl | rfl
    · have hca : (Cond.castable xB "java/lang/IndexOutOfBoundsException").before args s = true := va_Nw.use rfl (hG.2.2.1.2.1 "java/lang/IndexOutOfBoundsException" (by decide +kernel))
      refine vx_catch (own := RL) (name := "java/lang/IndexOutOfBoundsException") hown [] ⟨0, 10, 13, 31⟩ [⟨0, 10, 17, 13⟩, ⟨0, 10, 21, 15⟩] (htab.trans rfl) (fun z hz => by cases hz) rfl (by decide) w_31 hca hce hcv hcl ?_
      refine lv_astore (lv' := [(4, .ref q9), (0, .ref x), (1, .int p1), (2, .int p2), (3, .ref oA)]) hx hb dL_wash_13 hl (by decide) rfl (fun ls hl => ?_)
      refine lv_iconst (v := 1) hx hb dL_wash_15 (by decide) ?_
      exact Cx_iret hO (Or.inl ⟨h1, rfl, rfl⟩) (by show 0 + rm.cells ≤ 40; omega) (by show 0 + rm.slots ≤ 300; omega) hx hb hr hP1 hD1 hS1 dL_wash_16 hlocks
    · have hca : (Cond.castable xR "java/lang/IllegalArgumentException").before args s = true := va_Nw.use rfl (hG.2.2.1.2.1 "java/lang/IllegalArgumentException" (by decide +kernel))
      refine vx_catch (own := RL) (name := "java/lang/IllegalArgumentException") hown [⟨0, 10, 13, 31⟩] ⟨0, 10, 17, 13⟩ [⟨0, 10, 21, 15⟩] (htab.trans rfl) (List.forall_mem_cons.mpr ⟨Or.inr ⟨by decide, "java/lang/IndexOutOfBoundsException", w_31, hC.1⟩, (fun z hz => by cases hz)⟩) rfl (by decide) w_13 hca hce hcv hcl ?_
      refine lv_astore (lv' := [(4, .ref q9), (0, .ref x), (1, .int p1), (2, .int p2), (3, .ref oA)]) hx hb dL_wash_17 hl (by decide) rfl (fun ls hl => ?_)
      refine lv_iconst (v := 2) hx hb dL_wash_19 (by decide) ?_
      exact Cx_iret hO (Or.inr (Or.inl ⟨h1, rfl, rfl⟩)) (by show 0 + rm.cells ≤ 40; omega) (by show 0 + rm.slots ≤ 300; omega) hx hb hr hP1 hD1 hS1 dL_wash_20 hlocks
    · have hca : (Cond.castable xS "java/lang/IllegalStateException").before args s = true := va_Nw.use rfl (hG.2.2.1.2.1 "java/lang/IllegalStateException" (by decide +kernel))
      refine vx_catch (own := RL) (name := "java/lang/IllegalStateException") hown [⟨0, 10, 13, 31⟩, ⟨0, 10, 17, 13⟩] ⟨0, 10, 21, 15⟩ [] (htab.trans rfl) (List.forall_mem_cons.mpr ⟨Or.inr ⟨by decide, "java/lang/IndexOutOfBoundsException", w_31, hC.2.1⟩, (List.forall_mem_cons.mpr ⟨Or.inr ⟨by decide, "java/lang/IllegalArgumentException", w_13, hC.2.2⟩, (fun z hz => by cases hz)⟩)⟩) rfl (by decide) w_15 hca hce hcv hcl ?_
      refine lv_astore (lv' := [(4, .ref q9), (0, .ref x), (1, .int p1), (2, .int p2), (3, .ref oA)]) hx hb dL_wash_21 hl (by decide) rfl (fun ls hl => ?_)
      refine lv_iconst (v := 3) hx hb dL_wash_23 (by decide) ?_
      exact Cx_iret hO (Or.inr (Or.inr (Or.inl ⟨h1, rfl, rfl⟩))) (by show 0 + rm.cells ≤ 40; omega) (by show 0 + rm.slots ≤ 300; omega) hx hb hr hP1 hD1 hS1 dL_wash_24 hlocks
  · intro ov B w1 H locs h1 hB hP hD hS
    obtain ⟨v, rfl⟩ := hvv B ov w1 h1 hB
    refine W.eq (g2 := F0 m 8 ls [.int v, .int 0, .ref oA]) rfl ?_
    refine lv_i2l hx hb dL_wash_8 rfl ?_
    have hq : (w1 ++ (wr ++ ouW k oA g))[w1.length + wr.length]? = some (oA, (ouW k oA g)[0].2) := by rw [List.getElem?_append_right (by omega), Nat.add_sub_cancel_left, List.getElem?_append_right (Nat.le_refl _), Nat.sub_self]; rfl
    refine va_last hx hb hK hP hD hS (w1.length + wr.length) 4 hq rfl (inb_vp (by decide)) dL_wash_9 (fun H locs hP hD hS => ?_)
    have e9 : ∀ y, (w1 ++ (wr ++ ouW k oA g)).set (w1.length + wr.length) y = w1 ++ (wr ++ [y]) := fun y => by rw [List.set_append_right _ _ (by omega), Nat.add_sub_cancel_left, List.set_append_right _ _ (Nat.le_refl _), Nat.sub_self]; rfl
    rw [e9] at hP hD
    refine lv_goto (tgt := 25) hx hb dL_wash_10 (by decide) ?_
    refine lv_iconst (v := 0) hx hb dL_wash_25 (by decide) ?_
    exact Cx_iret hO (Or.inr (Or.inr (Or.inr (⟨B, v, w1, h1, hB, rfl, rfl⟩)))) (by show 0 + rm.cells ≤ 40; omega) (by show 0 + rm.slots ≤ 300; omega) hx hb hr hP hD hS dL_wash_26 hlocks
set_option maxRecDepth 100000 in
set_option maxHeartbeats 4000000 in
theorem c_L_endWash (l : Launch) (D : va_G) (k : Nat → ClassId) (x oA : Nat) (p1 : Int32) (g : Nat → Int64) (wc wx wr : va_W) (oc : Oc) (fs : List Value) (rm : Room) (hfit : fitL rm) (he : wc[0]? = some (x, .inr (1, fs))) (hfx : wx.map Prod.fst = wc.map Prod.fst) (hx1 : ∀ E, oc = .inl E → E = xB ∨ E = xS) (hvv : ∀ (B : Option Value → va_W → Prop) (ov : Option Value) (w : va_W), oc = .inr B → B ov w → ∃ v, ov = some (.int v)) (hCx : Cx l D (tyK k) yX1_endWash wsX1_endWash rm [.ref x, .int p1] wc wx oc) : Cl l D (tyK k) yL_endWash wsL_endWash rmL [.ref x, .int p1, .ref oA] (wc ++ (wr ++ ouW k oA g)) (.inr (fun (ov : Option Value) (w : va_W) => (oc = .inl xB ∧ ov = some (.int 1) ∧ w = wx ++ (wr ++ ouW k oA g)) ∨ (oc = .inl xS ∧ ov = some (.int 2) ∧ w = wx ++ (wr ++ ouW k oA g)) ∨ ∃ (B : Option Value → va_W → Prop) (v : Int32) (w2 : va_W), oc = .inr B ∧ B (some (.int v)) w2 ∧ ov = some (.int 0) ∧ w = w2 ++ (wr ++ ouW k oA (vp_updL g 0 v.toInt64)))) := by
  obtain ⟨O, hO⟩ : ∃ O : Oc, O = .inr (fun (ov : Option Value) (w : va_W) => (oc = .inl xB ∧ ov = some (.int 1) ∧ w = wx ++ (wr ++ ouW k oA g)) ∨ (oc = .inl xS ∧ ov = some (.int 2) ∧ w = wx ++ (wr ++ ouW k oA g)) ∨ ∃ (B : Option Value → va_W → Prop) (v : Int32) (w2 : va_W), oc = .inr B ∧ B (some (.int v)) w2 ∧ ov = some (.int 0) ∧ w = w2 ++ (wr ++ ouW k oA (vp_updL g 0 v.toInt64))) := ⟨_, rfl⟩
  rw [← hO]
  refine Cl_of (cc := cL_endWash) (maxL := 4) (ret := (some .int)) (hh := [(0, 9, 12, 31), (0, 9, 15, 15)]) (by decide) rfl (Nat.le_of_ble_eq_true rfl) ?_
  intro p e s m args below meth c A ls hx hb hr hml hts hown hlocks htab hK hG hC hA hP hD hS hl
  have hl : lv_has ls 4 [(0, .ref x), (1, .int p1), (2, .ref oA)] := hl
  refine lv_aload_n hx hb dL_endWash_0 rfl (lv_at hl 2 rfl) ?_
  refine lv_iconst (v := 0) hx hb dL_endWash_1 (by decide) ?_
  refine lv_aload_n hx hb dL_endWash_2 rfl (lv_at hl 0 rfl) ?_
  refine lv_iload_n hx hb dL_endWash_3 rfl (lv_at hl 1 rfl) ?_
  obtain ⟨f1, f2, f3, f4⟩ := hfit
  refine Cx_goF (wc := wc) (wx := wx) (wr := wr ++ ouW k oA g) (vx_runV (As := [.int p1]) (rest := [.int 0, .ref oA]) ⟨hx, hb, hml, hown, hts⟩ (hCx _) (cwV 1 hts gL_endWash_X1_endWash rfl rfl rfl (by decide +kernel) ⟨Nat.succ_le_succ f1, (by show 8 + (3 + 11) + rm.locals ≤ 800; omega)⟩) ⟨Px_blind, va_recv (q0 := 0) (ci := 1) hK hP rfl (by rw [List.getElem?_append_left (List.getElem?_eq_some_iff.mp he).1]; exact he), Px_at (wc := wc) hK hG hP hD hS hA (List.range wc.length) (rg_hi _ _) (rg_nd _)⟩ rfl rfl hl.1 rfl (Nat.le_of_ble_eq_true rfl) dL_endWash_4 ⟨(by show 0 + rm.cells ≤ 40; omega), (by show 0 + rm.slots ≤ 300; omega)⟩) hP hD hS hA hfx ?_ ?_
  · intro E ce q9 H1 locs1 h1 hP1 hD1 hS1 hce hcv hcl
    have w_31 := hts (.classLink RL 31 "java/lang/IndexOutOfBoundsException") (by decide +kernel)
    have w_15 := hts (.classLink RL 15 "java/lang/IllegalStateException") (by decide +kernel)
    rcases hx1 E h1 with rfl | rfl
    · have hca : (Cond.castable xB "java/lang/IndexOutOfBoundsException").before args s = true := va_Nw.use rfl (hG.2.2.1.2.1 "java/lang/IndexOutOfBoundsException" (by decide +kernel))
      refine vx_catch (own := RL) (name := "java/lang/IndexOutOfBoundsException") hown [] ⟨0, 9, 12, 31⟩ [⟨0, 9, 15, 15⟩] (htab.trans rfl) (fun z hz => by cases hz) rfl (by decide) w_31 hca hce hcv hcl ?_
      refine lv_astore_n (lv' := [(3, .ref q9), (0, .ref x), (1, .int p1), (2, .ref oA)]) hx hb dL_endWash_12 rfl hl (by decide) rfl (fun ls hl => ?_)
      refine lv_iconst (v := 1) hx hb dL_endWash_13 (by decide) ?_
      exact Cx_iret hO (Or.inl ⟨h1, rfl, rfl⟩) (by show 0 + rm.cells ≤ 40; omega) (by show 0 + rm.slots ≤ 300; omega) hx hb hr hP1 hD1 hS1 dL_endWash_14 hlocks
    · have hca : (Cond.castable xS "java/lang/IllegalStateException").before args s = true := va_Nw.use rfl (hG.2.2.1.2.1 "java/lang/IllegalStateException" (by decide +kernel))
      refine vx_catch (own := RL) (name := "java/lang/IllegalStateException") hown [⟨0, 9, 12, 31⟩] ⟨0, 9, 15, 15⟩ [] (htab.trans rfl) (List.forall_mem_cons.mpr ⟨Or.inr ⟨by decide, "java/lang/IndexOutOfBoundsException", w_31, hC.2.1⟩, (fun z hz => by cases hz)⟩) rfl (by decide) w_15 hca hce hcv hcl ?_
      refine lv_astore_n (lv' := [(3, .ref q9), (0, .ref x), (1, .int p1), (2, .ref oA)]) hx hb dL_endWash_15 rfl hl (by decide) rfl (fun ls hl => ?_)
      refine lv_iconst (v := 2) hx hb dL_endWash_16 (by decide) ?_
      exact Cx_iret hO (Or.inr (Or.inl ⟨h1, rfl, rfl⟩)) (by show 0 + rm.cells ≤ 40; omega) (by show 0 + rm.slots ≤ 300; omega) hx hb hr hP1 hD1 hS1 dL_endWash_17 hlocks
  · intro ov B w1 H locs h1 hB hP hD hS
    obtain ⟨v, rfl⟩ := hvv B ov w1 h1 hB
    refine W.eq (g2 := F0 m 7 ls [.int v, .int 0, .ref oA]) rfl ?_
    refine lv_i2l hx hb dL_endWash_7 rfl ?_
    have hq : (w1 ++ (wr ++ ouW k oA g))[w1.length + wr.length]? = some (oA, (ouW k oA g)[0].2) := by rw [List.getElem?_append_right (by omega), Nat.add_sub_cancel_left, List.getElem?_append_right (Nat.le_refl _), Nat.sub_self]; rfl
    refine va_last hx hb hK hP hD hS (w1.length + wr.length) 4 hq rfl (inb_vp (by decide)) dL_endWash_8 (fun H locs hP hD hS => ?_)
    have e9 : ∀ y, (w1 ++ (wr ++ ouW k oA g)).set (w1.length + wr.length) y = w1 ++ (wr ++ [y]) := fun y => by rw [List.set_append_right _ _ (by omega), Nat.add_sub_cancel_left, List.set_append_right _ _ (Nat.le_refl _), Nat.sub_self]; rfl
    rw [e9] at hP hD
    refine lv_goto (tgt := 18) hx hb dL_endWash_9 (by decide) ?_
    refine lv_iconst (v := 0) hx hb dL_endWash_18 (by decide) ?_
    exact Cx_iret hO (Or.inr (Or.inr (⟨B, v, w1, h1, hB, rfl, rfl⟩))) (by show 0 + rm.cells ≤ 40; omega) (by show 0 + rm.slots ≤ 300; omega) hx hb hr hP hD hS dL_endWash_19 hlocks
set_option maxRecDepth 100000 in
set_option maxHeartbeats 4000000 in
theorem c_L_undo (l : Launch) (D : va_G) (k : Nat → ClassId) (x oA : Nat) (g : Nat → Int64) (wc wx wr : va_W) (oc : Oc) (fs : List Value) (rm : Room) (hfit : fitL rm) (he : wc[0]? = some (x, .inr (1, fs))) (hfx : wx.map Prod.fst = wc.map Prod.fst) (hx1 : ∀ E, oc = .inl E → E = xS) (hvv : ∀ (B : Option Value → va_W → Prop) (ov : Option Value) (w : va_W), oc = .inr B → B ov w → ∃ v, ov = some (.int v)) (hCx : Cx l D (tyK k) yX1_undo wsX1_undo rm [.ref x] wc wx oc) : Cl l D (tyK k) yL_undo wsL_undo rmL [.ref x, .ref oA] (wc ++ (wr ++ ouW k oA g)) (.inr (fun (ov : Option Value) (w : va_W) => (oc = .inl xS ∧ ov = some (.int 1) ∧ w = wx ++ (wr ++ ouW k oA g)) ∨ ∃ (B : Option Value → va_W → Prop) (v : Int32) (w2 : va_W), oc = .inr B ∧ B (some (.int v)) w2 ∧ ov = some (.int 0) ∧ w = w2 ++ (wr ++ ouW k oA (vp_updL g 0 v.toInt64)))) := by
  obtain ⟨O, hO⟩ : ∃ O : Oc, O = .inr (fun (ov : Option Value) (w : va_W) => (oc = .inl xS ∧ ov = some (.int 1) ∧ w = wx ++ (wr ++ ouW k oA g)) ∨ ∃ (B : Option Value → va_W → Prop) (v : Int32) (w2 : va_W), oc = .inr B ∧ B (some (.int v)) w2 ∧ ov = some (.int 0) ∧ w = w2 ++ (wr ++ ouW k oA (vp_updL g 0 v.toInt64))) := ⟨_, rfl⟩
  rw [← hO]
  refine Cl_of (cc := cL_undo) (maxL := 3) (ret := (some .int)) (hh := [(0, 8, 11, 15)]) (by decide) rfl (Nat.le_of_ble_eq_true rfl) ?_
  intro p e s m args below meth c A ls hx hb hr hml hts hown hlocks htab hK hG hC hA hP hD hS hl
  have hl : lv_has ls 3 [(0, .ref x), (1, .ref oA)] := hl
  refine lv_aload_n hx hb dL_undo_0 rfl (lv_at hl 1 rfl) ?_
  refine lv_iconst (v := 0) hx hb dL_undo_1 (by decide) ?_
  refine lv_aload_n hx hb dL_undo_2 rfl (lv_at hl 0 rfl) ?_
  obtain ⟨f1, f2, f3, f4⟩ := hfit
  refine Cx_goF (wc := wc) (wx := wx) (wr := wr ++ ouW k oA g) (vx_runV (As := []) (rest := [.int 0, .ref oA]) ⟨hx, hb, hml, hown, hts⟩ (hCx _) (cwV 0 hts gL_undo_X1_undo rfl rfl rfl (by decide +kernel) ⟨Nat.succ_le_succ f1, (by show 8 + (1 + 11) + rm.locals ≤ 800; omega)⟩) ⟨Px_blind, va_recv (q0 := 0) (ci := 1) hK hP rfl (by rw [List.getElem?_append_left (List.getElem?_eq_some_iff.mp he).1]; exact he), Px_at (wc := wc) hK hG hP hD hS hA (List.range wc.length) (rg_hi _ _) (rg_nd _)⟩ rfl rfl hl.1 rfl (Nat.le_of_ble_eq_true rfl) dL_undo_3 ⟨(by show 0 + rm.cells ≤ 40; omega), (by show 0 + rm.slots ≤ 300; omega)⟩) hP hD hS hA hfx ?_ ?_
  · intro E ce q9 H1 locs1 h1 hP1 hD1 hS1 hce hcv hcl
    have w_15 := hts (.classLink RL 15 "java/lang/IllegalStateException") (by decide +kernel)
    rcases hx1 E h1 with rfl
    · have hca : (Cond.castable xS "java/lang/IllegalStateException").before args s = true := va_Nw.use rfl (hG.2.2.1.2.1 "java/lang/IllegalStateException" (by decide +kernel))
      refine vx_catch (own := RL) (name := "java/lang/IllegalStateException") hown [] ⟨0, 8, 11, 15⟩ [] (htab.trans rfl) (fun z hz => by cases hz) rfl (by decide) w_15 hca hce hcv hcl ?_
      refine lv_astore_n (lv' := [(2, .ref q9), (0, .ref x), (1, .ref oA)]) hx hb dL_undo_11 rfl hl (by decide) rfl (fun ls hl => ?_)
      refine lv_iconst (v := 1) hx hb dL_undo_12 (by decide) ?_
      exact Cx_iret hO (Or.inl ⟨h1, rfl, rfl⟩) (by show 0 + rm.cells ≤ 40; omega) (by show 0 + rm.slots ≤ 300; omega) hx hb hr hP1 hD1 hS1 dL_undo_13 hlocks
  · intro ov B w1 H locs h1 hB hP hD hS
    obtain ⟨v, rfl⟩ := hvv B ov w1 h1 hB
    refine W.eq (g2 := F0 m 6 ls [.int v, .int 0, .ref oA]) rfl ?_
    refine lv_i2l hx hb dL_undo_6 rfl ?_
    have hq : (w1 ++ (wr ++ ouW k oA g))[w1.length + wr.length]? = some (oA, (ouW k oA g)[0].2) := by rw [List.getElem?_append_right (by omega), Nat.add_sub_cancel_left, List.getElem?_append_right (Nat.le_refl _), Nat.sub_self]; rfl
    refine va_last hx hb hK hP hD hS (w1.length + wr.length) 4 hq rfl (inb_vp (by decide)) dL_undo_7 (fun H locs hP hD hS => ?_)
    have e9 : ∀ y, (w1 ++ (wr ++ ouW k oA g)).set (w1.length + wr.length) y = w1 ++ (wr ++ [y]) := fun y => by rw [List.set_append_right _ _ (by omega), Nat.add_sub_cancel_left, List.set_append_right _ _ (Nat.le_refl _), Nat.sub_self]; rfl
    rw [e9] at hP hD
    refine lv_goto (tgt := 14) hx hb dL_undo_8 (by decide) ?_
    refine lv_iconst (v := 0) hx hb dL_undo_14 (by decide) ?_
    exact Cx_iret hO (Or.inr (⟨B, v, w1, h1, hB, rfl, rfl⟩)) (by show 0 + rm.cells ≤ 40; omega) (by show 0 + rm.slots ≤ 300; omega) hx hb hr hP hD hS dL_undo_15 hlocks
set_option maxRecDepth 100000 in
set_option maxHeartbeats 4000000 in
theorem c_L_ahead (l : Launch) (D : va_G) (k : Nat → ClassId) (x oA : Nat) (p1 : Int32) (p2 : Int32) (p3 : Int32) (g : Nat → Int64) (wc wx wr : va_W) (oc : Oc) (fs : List Value) (rm : Room) (hfit : fitL rm) (he : wc[0]? = some (x, .inr (1, fs))) (hfx : wx.map Prod.fst = wc.map Prod.fst) (hx1 : ∀ E, oc = .inl E → E = xB ∨ E = xR) (hvv : ∀ (B : Option Value → va_W → Prop) (ov : Option Value) (w : va_W), oc = .inr B → B ov w → ∃ v, ov = some (.int v)) (hCx : Cx l D (tyK k) yX1_ahead wsX1_ahead rm [.ref x, .int p1, .int p2, .int p3] wc wx oc) : Cl l D (tyK k) yL_ahead wsL_ahead rmL [.ref x, .int p1, .int p2, .int p3, .ref oA] (wc ++ (wr ++ ouW k oA g)) (.inr (fun (ov : Option Value) (w : va_W) => (oc = .inl xB ∧ ov = some (.int 1) ∧ w = wx ++ (wr ++ ouW k oA g)) ∨ (oc = .inl xR ∧ ov = some (.int 2) ∧ w = wx ++ (wr ++ ouW k oA g)) ∨ ∃ (B : Option Value → va_W → Prop) (v : Int32) (w2 : va_W), oc = .inr B ∧ B (some (.int v)) w2 ∧ ov = some (.int 0) ∧ w = w2 ++ (wr ++ ouW k oA (vp_updL g 0 v.toInt64)))) := by
  obtain ⟨O, hO⟩ : ∃ O : Oc, O = .inr (fun (ov : Option Value) (w : va_W) => (oc = .inl xB ∧ ov = some (.int 1) ∧ w = wx ++ (wr ++ ouW k oA g)) ∨ (oc = .inl xR ∧ ov = some (.int 2) ∧ w = wx ++ (wr ++ ouW k oA g)) ∨ ∃ (B : Option Value → va_W → Prop) (v : Int32) (w2 : va_W), oc = .inr B ∧ B (some (.int v)) w2 ∧ ov = some (.int 0) ∧ w = w2 ++ (wr ++ ouW k oA (vp_updL g 0 v.toInt64))) := ⟨_, rfl⟩
  rw [← hO]
  refine Cl_of (cc := cL_ahead) (maxL := 6) (ret := (some .int)) (hh := [(0, 12, 15, 31), (0, 12, 19, 13)]) (by decide) rfl (Nat.le_of_ble_eq_true rfl) ?_
  intro p e s m args below meth c A ls hx hb hr hml hts hown hlocks htab hK hG hC hA hP hD hS hl
  have hl : lv_has ls 6 [(0, .ref x), (1, .int p1), (2, .int p2), (3, .int p3), (4, .ref oA)] := hl
  refine lv_aload hx hb dL_ahead_0 (lv_at hl 4 rfl) ?_
  refine lv_iconst (v := 0) hx hb dL_ahead_2 (by decide) ?_
  refine lv_aload_n hx hb dL_ahead_3 rfl (lv_at hl 0 rfl) ?_
  refine lv_iload_n hx hb dL_ahead_4 rfl (lv_at hl 1 rfl) ?_
  refine lv_iload_n hx hb dL_ahead_5 rfl (lv_at hl 2 rfl) ?_
  refine lv_iload_n hx hb dL_ahead_6 rfl (lv_at hl 3 rfl) ?_
  obtain ⟨f1, f2, f3, f4⟩ := hfit
  refine Cx_goF (wc := wc) (wx := wx) (wr := wr ++ ouW k oA g) (vx_runV (As := [.int p1, .int p2, .int p3]) (rest := [.int 0, .ref oA]) ⟨hx, hb, hml, hown, hts⟩ (hCx _) (cwV 3 hts gL_ahead_X1_ahead rfl rfl rfl (by decide +kernel) ⟨Nat.succ_le_succ f1, (by show 8 + (4 + 11) + rm.locals ≤ 800; omega)⟩) ⟨Px_blind, va_recv (q0 := 0) (ci := 1) hK hP rfl (by rw [List.getElem?_append_left (List.getElem?_eq_some_iff.mp he).1]; exact he), Px_at (wc := wc) hK hG hP hD hS hA (List.range wc.length) (rg_hi _ _) (rg_nd _)⟩ rfl rfl hl.1 rfl (Nat.le_of_ble_eq_true rfl) dL_ahead_7 ⟨(by show 0 + rm.cells ≤ 40; omega), (by show 0 + rm.slots ≤ 300; omega)⟩) hP hD hS hA hfx ?_ ?_
  · intro E ce q9 H1 locs1 h1 hP1 hD1 hS1 hce hcv hcl
    have w_31 := hts (.classLink RL 31 "java/lang/IndexOutOfBoundsException") (by decide +kernel)
    have w_13 := hts (.classLink RL 13 "java/lang/IllegalArgumentException") (by decide +kernel)
    rcases hx1 E h1 with rfl | rfl
    · have hca : (Cond.castable xB "java/lang/IndexOutOfBoundsException").before args s = true := va_Nw.use rfl (hG.2.2.1.2.1 "java/lang/IndexOutOfBoundsException" (by decide +kernel))
      refine vx_catch (own := RL) (name := "java/lang/IndexOutOfBoundsException") hown [] ⟨0, 12, 15, 31⟩ [⟨0, 12, 19, 13⟩] (htab.trans rfl) (fun z hz => by cases hz) rfl (by decide) w_31 hca hce hcv hcl ?_
      refine lv_astore (lv' := [(5, .ref q9), (0, .ref x), (1, .int p1), (2, .int p2), (3, .int p3), (4, .ref oA)]) hx hb dL_ahead_15 hl (by decide) rfl (fun ls hl => ?_)
      refine lv_iconst (v := 1) hx hb dL_ahead_17 (by decide) ?_
      exact Cx_iret hO (Or.inl ⟨h1, rfl, rfl⟩) (by show 0 + rm.cells ≤ 40; omega) (by show 0 + rm.slots ≤ 300; omega) hx hb hr hP1 hD1 hS1 dL_ahead_18 hlocks
    · have hca : (Cond.castable xR "java/lang/IllegalArgumentException").before args s = true := va_Nw.use rfl (hG.2.2.1.2.1 "java/lang/IllegalArgumentException" (by decide +kernel))
      refine vx_catch (own := RL) (name := "java/lang/IllegalArgumentException") hown [⟨0, 12, 15, 31⟩] ⟨0, 12, 19, 13⟩ [] (htab.trans rfl) (List.forall_mem_cons.mpr ⟨Or.inr ⟨by decide, "java/lang/IndexOutOfBoundsException", w_31, hC.1⟩, (fun z hz => by cases hz)⟩) rfl (by decide) w_13 hca hce hcv hcl ?_
      refine lv_astore (lv' := [(5, .ref q9), (0, .ref x), (1, .int p1), (2, .int p2), (3, .int p3), (4, .ref oA)]) hx hb dL_ahead_19 hl (by decide) rfl (fun ls hl => ?_)
      refine lv_iconst (v := 2) hx hb dL_ahead_21 (by decide) ?_
      exact Cx_iret hO (Or.inr (Or.inl ⟨h1, rfl, rfl⟩)) (by show 0 + rm.cells ≤ 40; omega) (by show 0 + rm.slots ≤ 300; omega) hx hb hr hP1 hD1 hS1 dL_ahead_22 hlocks
  · intro ov B w1 H locs h1 hB hP hD hS
    obtain ⟨v, rfl⟩ := hvv B ov w1 h1 hB
    refine W.eq (g2 := F0 m 10 ls [.int v, .int 0, .ref oA]) rfl ?_
    refine lv_i2l hx hb dL_ahead_10 rfl ?_
    have hq : (w1 ++ (wr ++ ouW k oA g))[w1.length + wr.length]? = some (oA, (ouW k oA g)[0].2) := by rw [List.getElem?_append_right (by omega), Nat.add_sub_cancel_left, List.getElem?_append_right (Nat.le_refl _), Nat.sub_self]; rfl
    refine va_last hx hb hK hP hD hS (w1.length + wr.length) 4 hq rfl (inb_vp (by decide)) dL_ahead_11 (fun H locs hP hD hS => ?_)
    have e9 : ∀ y, (w1 ++ (wr ++ ouW k oA g)).set (w1.length + wr.length) y = w1 ++ (wr ++ [y]) := fun y => by rw [List.set_append_right _ _ (by omega), Nat.add_sub_cancel_left, List.set_append_right _ _ (Nat.le_refl _), Nat.sub_self]; rfl
    rw [e9] at hP hD
    refine lv_goto (tgt := 23) hx hb dL_ahead_12 (by decide) ?_
    refine lv_iconst (v := 0) hx hb dL_ahead_23 (by decide) ?_
    exact Cx_iret hO (Or.inr (Or.inr (⟨B, v, w1, h1, hB, rfl, rfl⟩))) (by show 0 + rm.cells ≤ 40; omega) (by show 0 + rm.slots ≤ 300; omega) hx hb hr hP hD hS dL_ahead_24 hlocks
set_option maxRecDepth 100000 in
set_option maxHeartbeats 4000000 in
theorem c_L_growth (l : Launch) (D : va_G) (k : Nat → ClassId) (x oA : Nat) (p1 : Int32) (p2 : Int32) (g : Nat → Int64) (wc wx wr : va_W) (oc : Oc) (fs : List Value) (rm : Room) (hfit : fitL rm) (he : wc[0]? = some (x, .inr (1, fs))) (hfx : wx.map Prod.fst = wc.map Prod.fst) (hx1 : ∀ E, oc = .inl E → E = xR) (hvv : ∀ (B : Option Value → va_W → Prop) (ov : Option Value) (w : va_W), oc = .inr B → B ov w → ∃ v, ov = some (.int v)) (hCx : Cx l D (tyK k) yX1_growth wsX1_growth rm [.ref x, .int p1, .int p2] wc wx oc) : Cl l D (tyK k) yL_growth wsL_growth rmL [.ref x, .int p1, .int p2, .ref oA] (wc ++ (wr ++ ouW k oA g)) (.inr (fun (ov : Option Value) (w : va_W) => (oc = .inl xR ∧ ov = some (.int 1) ∧ w = wx ++ (wr ++ ouW k oA g)) ∨ ∃ (B : Option Value → va_W → Prop) (v : Int32) (w2 : va_W), oc = .inr B ∧ B (some (.int v)) w2 ∧ ov = some (.int 0) ∧ w = w2 ++ (wr ++ ouW k oA (vp_updL g 0 v.toInt64)))) := by
  obtain ⟨O, hO⟩ : ∃ O : Oc, O = .inr (fun (ov : Option Value) (w : va_W) => (oc = .inl xR ∧ ov = some (.int 1) ∧ w = wx ++ (wr ++ ouW k oA g)) ∨ ∃ (B : Option Value → va_W → Prop) (v : Int32) (w2 : va_W), oc = .inr B ∧ B (some (.int v)) w2 ∧ ov = some (.int 0) ∧ w = w2 ++ (wr ++ ouW k oA (vp_updL g 0 v.toInt64))) := ⟨_, rfl⟩
  rw [← hO]
  refine Cl_of (cc := cL_growth) (maxL := 5) (ret := (some .int)) (hh := [(0, 10, 13, 13)]) (by decide) rfl (Nat.le_of_ble_eq_true rfl) ?_
  intro p e s m args below meth c A ls hx hb hr hml hts hown hlocks htab hK hG hC hA hP hD hS hl
  have hl : lv_has ls 5 [(0, .ref x), (1, .int p1), (2, .int p2), (3, .ref oA)] := hl
  refine lv_aload_n hx hb dL_growth_0 rfl (lv_at hl 3 rfl) ?_
  refine lv_iconst (v := 0) hx hb dL_growth_1 (by decide) ?_
  refine lv_aload_n hx hb dL_growth_2 rfl (lv_at hl 0 rfl) ?_
  refine lv_iload_n hx hb dL_growth_3 rfl (lv_at hl 1 rfl) ?_
  refine lv_iload_n hx hb dL_growth_4 rfl (lv_at hl 2 rfl) ?_
  obtain ⟨f1, f2, f3, f4⟩ := hfit
  refine Cx_goF (wc := wc) (wx := wx) (wr := wr ++ ouW k oA g) (vx_runV (As := [.int p1, .int p2]) (rest := [.int 0, .ref oA]) ⟨hx, hb, hml, hown, hts⟩ (hCx _) (cwV 2 hts gL_growth_X1_growth rfl rfl rfl (by decide +kernel) ⟨Nat.succ_le_succ f1, (by show 8 + (3 + 11) + rm.locals ≤ 800; omega)⟩) ⟨Px_blind, va_recv (q0 := 0) (ci := 1) hK hP rfl (by rw [List.getElem?_append_left (List.getElem?_eq_some_iff.mp he).1]; exact he), Px_at (wc := wc) hK hG hP hD hS hA (List.range wc.length) (rg_hi _ _) (rg_nd _)⟩ rfl rfl hl.1 rfl (Nat.le_of_ble_eq_true rfl) dL_growth_5 ⟨(by show 0 + rm.cells ≤ 40; omega), (by show 0 + rm.slots ≤ 300; omega)⟩) hP hD hS hA hfx ?_ ?_
  · intro E ce q9 H1 locs1 h1 hP1 hD1 hS1 hce hcv hcl
    have w_13 := hts (.classLink RL 13 "java/lang/IllegalArgumentException") (by decide +kernel)
    rcases hx1 E h1 with rfl
    · have hca : (Cond.castable xR "java/lang/IllegalArgumentException").before args s = true := va_Nw.use rfl (hG.2.2.1.2.1 "java/lang/IllegalArgumentException" (by decide +kernel))
      refine vx_catch (own := RL) (name := "java/lang/IllegalArgumentException") hown [] ⟨0, 10, 13, 13⟩ [] (htab.trans rfl) (fun z hz => by cases hz) rfl (by decide) w_13 hca hce hcv hcl ?_
      refine lv_astore (lv' := [(4, .ref q9), (0, .ref x), (1, .int p1), (2, .int p2), (3, .ref oA)]) hx hb dL_growth_13 hl (by decide) rfl (fun ls hl => ?_)
      refine lv_iconst (v := 1) hx hb dL_growth_15 (by decide) ?_
      exact Cx_iret hO (Or.inl ⟨h1, rfl, rfl⟩) (by show 0 + rm.cells ≤ 40; omega) (by show 0 + rm.slots ≤ 300; omega) hx hb hr hP1 hD1 hS1 dL_growth_16 hlocks
  · intro ov B w1 H locs h1 hB hP hD hS
    obtain ⟨v, rfl⟩ := hvv B ov w1 h1 hB
    refine W.eq (g2 := F0 m 8 ls [.int v, .int 0, .ref oA]) rfl ?_
    refine lv_i2l hx hb dL_growth_8 rfl ?_
    have hq : (w1 ++ (wr ++ ouW k oA g))[w1.length + wr.length]? = some (oA, (ouW k oA g)[0].2) := by rw [List.getElem?_append_right (by omega), Nat.add_sub_cancel_left, List.getElem?_append_right (Nat.le_refl _), Nat.sub_self]; rfl
    refine va_last hx hb hK hP hD hS (w1.length + wr.length) 4 hq rfl (inb_vp (by decide)) dL_growth_9 (fun H locs hP hD hS => ?_)
    have e9 : ∀ y, (w1 ++ (wr ++ ouW k oA g)).set (w1.length + wr.length) y = w1 ++ (wr ++ [y]) := fun y => by rw [List.set_append_right _ _ (by omega), Nat.add_sub_cancel_left, List.set_append_right _ _ (Nat.le_refl _), Nat.sub_self]; rfl
    rw [e9] at hP hD
    refine lv_goto (tgt := 17) hx hb dL_growth_10 (by decide) ?_
    refine lv_iconst (v := 0) hx hb dL_growth_17 (by decide) ?_
    exact Cx_iret hO (Or.inr (⟨B, v, w1, h1, hB, rfl, rfl⟩)) (by show 0 + rm.cells ≤ 40; omega) (by show 0 + rm.slots ≤ 300; omega) hx hb hr hP hD hS dL_growth_18 hlocks
set_option maxRecDepth 100000 in
set_option maxHeartbeats 4000000 in
theorem c_L_washGain (l : Launch) (D : va_G) (k : Nat → ClassId) (x oA : Nat) (p1 : Int32) (p2 : Int32) (p3 : Int32) (g : Nat → Int64) (wc wx wr : va_W) (oc : Oc) (fs : List Value) (rm : Room) (hfit : fitL rm) (he : wc[0]? = some (x, .inr (1, fs))) (hfx : wx.map Prod.fst = wc.map Prod.fst) (hx1 : ∀ E, oc = .inl E → E = xB ∨ E = xR ∨ E = xS) (hvv : ∀ (B : Option Value → va_W → Prop) (ov : Option Value) (w : va_W), oc = .inr B → B ov w → ∃ v, ov = some (.int v)) (hCx : Cx l D (tyK k) yX1_washGain wsX1_washGain rm [.ref x, .int p1, .int p2, .int p3] wc wx oc) : Cl l D (tyK k) yL_washGain wsL_washGain rmL [.ref x, .int p1, .int p2, .int p3, .ref oA] (wc ++ (wr ++ ouW k oA g)) (.inr (fun (ov : Option Value) (w : va_W) => (oc = .inl xB ∧ ov = some (.int 1) ∧ w = wx ++ (wr ++ ouW k oA g)) ∨ (oc = .inl xR ∧ ov = some (.int 2) ∧ w = wx ++ (wr ++ ouW k oA g)) ∨ (oc = .inl xS ∧ ov = some (.int 3) ∧ w = wx ++ (wr ++ ouW k oA g)) ∨ ∃ (B : Option Value → va_W → Prop) (v : Int32) (w2 : va_W), oc = .inr B ∧ B (some (.int v)) w2 ∧ ov = some (.int 0) ∧ w = w2 ++ (wr ++ ouW k oA (vp_updL g 0 v.toInt64)))) := by
  obtain ⟨O, hO⟩ : ∃ O : Oc, O = .inr (fun (ov : Option Value) (w : va_W) => (oc = .inl xB ∧ ov = some (.int 1) ∧ w = wx ++ (wr ++ ouW k oA g)) ∨ (oc = .inl xR ∧ ov = some (.int 2) ∧ w = wx ++ (wr ++ ouW k oA g)) ∨ (oc = .inl xS ∧ ov = some (.int 3) ∧ w = wx ++ (wr ++ ouW k oA g)) ∨ ∃ (B : Option Value → va_W → Prop) (v : Int32) (w2 : va_W), oc = .inr B ∧ B (some (.int v)) w2 ∧ ov = some (.int 0) ∧ w = w2 ++ (wr ++ ouW k oA (vp_updL g 0 v.toInt64))) := ⟨_, rfl⟩
  rw [← hO]
  refine Cl_of (cc := cL_washGain) (maxL := 6) (ret := (some .int)) (hh := [(0, 12, 15, 31), (0, 12, 19, 13), (0, 12, 23, 15)]) (by decide) rfl (Nat.le_of_ble_eq_true rfl) ?_
  intro p e s m args below meth c A ls hx hb hr hml hts hown hlocks htab hK hG hC hA hP hD hS hl
  have hl : lv_has ls 6 [(0, .ref x), (1, .int p1), (2, .int p2), (3, .int p3), (4, .ref oA)] := hl
  refine lv_aload hx hb dL_washGain_0 (lv_at hl 4 rfl) ?_
  refine lv_iconst (v := 0) hx hb dL_washGain_2 (by decide) ?_
  refine lv_aload_n hx hb dL_washGain_3 rfl (lv_at hl 0 rfl) ?_
  refine lv_iload_n hx hb dL_washGain_4 rfl (lv_at hl 1 rfl) ?_
  refine lv_iload_n hx hb dL_washGain_5 rfl (lv_at hl 2 rfl) ?_
  refine lv_iload_n hx hb dL_washGain_6 rfl (lv_at hl 3 rfl) ?_
  obtain ⟨f1, f2, f3, f4⟩ := hfit
  refine Cx_goF (wc := wc) (wx := wx) (wr := wr ++ ouW k oA g) (vx_runV (As := [.int p1, .int p2, .int p3]) (rest := [.int 0, .ref oA]) ⟨hx, hb, hml, hown, hts⟩ (hCx _) (cwV 3 hts gL_washGain_X1_washGain rfl rfl rfl (by decide +kernel) ⟨Nat.succ_le_succ f1, (by show 8 + (5 + 11) + rm.locals ≤ 800; omega)⟩) ⟨Px_blind, va_recv (q0 := 0) (ci := 1) hK hP rfl (by rw [List.getElem?_append_left (List.getElem?_eq_some_iff.mp he).1]; exact he), Px_at (wc := wc) hK hG hP hD hS hA (List.range wc.length) (rg_hi _ _) (rg_nd _)⟩ rfl rfl hl.1 rfl (Nat.le_of_ble_eq_true rfl) dL_washGain_7 ⟨(by show 0 + rm.cells ≤ 40; omega), (by show 0 + rm.slots ≤ 300; omega)⟩) hP hD hS hA hfx ?_ ?_
  · intro E ce q9 H1 locs1 h1 hP1 hD1 hS1 hce hcv hcl
    have w_31 := hts (.classLink RL 31 "java/lang/IndexOutOfBoundsException") (by decide +kernel)
    have w_13 := hts (.classLink RL 13 "java/lang/IllegalArgumentException") (by decide +kernel)
    have w_15 := hts (.classLink RL 15 "java/lang/IllegalStateException") (by decide +kernel)
    rcases hx1 E h1 with rfl | rfl | rfl
    · have hca : (Cond.castable xB "java/lang/IndexOutOfBoundsException").before args s = true := va_Nw.use rfl (hG.2.2.1.2.1 "java/lang/IndexOutOfBoundsException" (by decide +kernel))
      refine vx_catch (own := RL) (name := "java/lang/IndexOutOfBoundsException") hown [] ⟨0, 12, 15, 31⟩ [⟨0, 12, 19, 13⟩, ⟨0, 12, 23, 15⟩] (htab.trans rfl) (fun z hz => by cases hz) rfl (by decide) w_31 hca hce hcv hcl ?_
      refine lv_astore (lv' := [(5, .ref q9), (0, .ref x), (1, .int p1), (2, .int p2), (3, .int p3), (4, .ref oA)]) hx hb dL_washGain_15 hl (by decide) rfl (fun ls hl => ?_)
      refine lv_iconst (v := 1) hx hb dL_washGain_17 (by decide) ?_
      exact Cx_iret hO (Or.inl ⟨h1, rfl, rfl⟩) (by show 0 + rm.cells ≤ 40; omega) (by show 0 + rm.slots ≤ 300; omega) hx hb hr hP1 hD1 hS1 dL_washGain_18 hlocks
    · have hca : (Cond.castable xR "java/lang/IllegalArgumentException").before args s = true := va_Nw.use rfl (hG.2.2.1.2.1 "java/lang/IllegalArgumentException" (by decide +kernel))
      refine vx_catch (own := RL) (name := "java/lang/IllegalArgumentException") hown [⟨0, 12, 15, 31⟩] ⟨0, 12, 19, 13⟩ [⟨0, 12, 23, 15⟩] (htab.trans rfl) (List.forall_mem_cons.mpr ⟨Or.inr ⟨by decide, "java/lang/IndexOutOfBoundsException", w_31, hC.1⟩, (fun z hz => by cases hz)⟩) rfl (by decide) w_13 hca hce hcv hcl ?_
      refine lv_astore (lv' := [(5, .ref q9), (0, .ref x), (1, .int p1), (2, .int p2), (3, .int p3), (4, .ref oA)]) hx hb dL_washGain_19 hl (by decide) rfl (fun ls hl => ?_)
      refine lv_iconst (v := 2) hx hb dL_washGain_21 (by decide) ?_
      exact Cx_iret hO (Or.inr (Or.inl ⟨h1, rfl, rfl⟩)) (by show 0 + rm.cells ≤ 40; omega) (by show 0 + rm.slots ≤ 300; omega) hx hb hr hP1 hD1 hS1 dL_washGain_22 hlocks
    · have hca : (Cond.castable xS "java/lang/IllegalStateException").before args s = true := va_Nw.use rfl (hG.2.2.1.2.1 "java/lang/IllegalStateException" (by decide +kernel))
      refine vx_catch (own := RL) (name := "java/lang/IllegalStateException") hown [⟨0, 12, 15, 31⟩, ⟨0, 12, 19, 13⟩] ⟨0, 12, 23, 15⟩ [] (htab.trans rfl) (List.forall_mem_cons.mpr ⟨Or.inr ⟨by decide, "java/lang/IndexOutOfBoundsException", w_31, hC.2.1⟩, (List.forall_mem_cons.mpr ⟨Or.inr ⟨by decide, "java/lang/IllegalArgumentException", w_13, hC.2.2⟩, (fun z hz => by cases hz)⟩)⟩) rfl (by decide) w_15 hca hce hcv hcl ?_
      refine lv_astore (lv' := [(5, .ref q9), (0, .ref x), (1, .int p1), (2, .int p2), (3, .int p3), (4, .ref oA)]) hx hb dL_washGain_23 hl (by decide) rfl (fun ls hl => ?_)
      refine lv_iconst (v := 3) hx hb dL_washGain_25 (by decide) ?_
      exact Cx_iret hO (Or.inr (Or.inr (Or.inl ⟨h1, rfl, rfl⟩))) (by show 0 + rm.cells ≤ 40; omega) (by show 0 + rm.slots ≤ 300; omega) hx hb hr hP1 hD1 hS1 dL_washGain_26 hlocks
  · intro ov B w1 H locs h1 hB hP hD hS
    obtain ⟨v, rfl⟩ := hvv B ov w1 h1 hB
    refine W.eq (g2 := F0 m 10 ls [.int v, .int 0, .ref oA]) rfl ?_
    refine lv_i2l hx hb dL_washGain_10 rfl ?_
    have hq : (w1 ++ (wr ++ ouW k oA g))[w1.length + wr.length]? = some (oA, (ouW k oA g)[0].2) := by rw [List.getElem?_append_right (by omega), Nat.add_sub_cancel_left, List.getElem?_append_right (Nat.le_refl _), Nat.sub_self]; rfl
    refine va_last hx hb hK hP hD hS (w1.length + wr.length) 4 hq rfl (inb_vp (by decide)) dL_washGain_11 (fun H locs hP hD hS => ?_)
    have e9 : ∀ y, (w1 ++ (wr ++ ouW k oA g)).set (w1.length + wr.length) y = w1 ++ (wr ++ [y]) := fun y => by rw [List.set_append_right _ _ (by omega), Nat.add_sub_cancel_left, List.set_append_right _ _ (Nat.le_refl _), Nat.sub_self]; rfl
    rw [e9] at hP hD
    refine lv_goto (tgt := 27) hx hb dL_washGain_12 (by decide) ?_
    refine lv_iconst (v := 0) hx hb dL_washGain_27 (by decide) ?_
    exact Cx_iret hO (Or.inr (Or.inr (Or.inr (⟨B, v, w1, h1, hB, rfl, rfl⟩)))) (by show 0 + rm.cells ≤ 40; omega) (by show 0 + rm.slots ≤ 300; omega) hx hb hr hP hD hS dL_washGain_28 hlocks
set_option maxRecDepth 100000 in
set_option maxHeartbeats 4000000 in
theorem c_L_bestTurns (l : Launch) (D : va_G) (k : Nat → ClassId) (x oA : Nat) (p1 : Int32) (p2 : Int32) (g : Nat → Int64) (wc wx wr : va_W) (oc : Oc) (fs : List Value) (rm : Room) (hfit : fitL rm) (he : wc[0]? = some (x, .inr (1, fs))) (hfx : wx.map Prod.fst = wc.map Prod.fst) (hx1 : ∀ E, oc = .inl E → E = xR) (hvv : ∀ (B : Option Value → va_W → Prop) (ov : Option Value) (w : va_W), oc = .inr B → B ov w → ∃ v, ov = some (.int v)) (hCx : Cx l D (tyK k) yX1_bestTurns wsX1_bestTurns rm [.ref x, .int p1, .int p2] wc wx oc) : Cl l D (tyK k) yL_bestTurns wsL_bestTurns rmL [.ref x, .int p1, .int p2, .ref oA] (wc ++ (wr ++ ouW k oA g)) (.inr (fun (ov : Option Value) (w : va_W) => (oc = .inl xR ∧ ov = some (.int 1) ∧ w = wx ++ (wr ++ ouW k oA g)) ∨ ∃ (B : Option Value → va_W → Prop) (v : Int32) (w2 : va_W), oc = .inr B ∧ B (some (.int v)) w2 ∧ ov = some (.int 0) ∧ w = w2 ++ (wr ++ ouW k oA (vp_updL g 0 v.toInt64)))) := by
  obtain ⟨O, hO⟩ : ∃ O : Oc, O = .inr (fun (ov : Option Value) (w : va_W) => (oc = .inl xR ∧ ov = some (.int 1) ∧ w = wx ++ (wr ++ ouW k oA g)) ∨ ∃ (B : Option Value → va_W → Prop) (v : Int32) (w2 : va_W), oc = .inr B ∧ B (some (.int v)) w2 ∧ ov = some (.int 0) ∧ w = w2 ++ (wr ++ ouW k oA (vp_updL g 0 v.toInt64))) := ⟨_, rfl⟩
  rw [← hO]
  refine Cl_of (cc := cL_bestTurns) (maxL := 5) (ret := (some .int)) (hh := [(0, 10, 13, 13)]) (by decide) rfl (Nat.le_of_ble_eq_true rfl) ?_
  intro p e s m args below meth c A ls hx hb hr hml hts hown hlocks htab hK hG hC hA hP hD hS hl
  have hl : lv_has ls 5 [(0, .ref x), (1, .int p1), (2, .int p2), (3, .ref oA)] := hl
  refine lv_aload_n hx hb dL_bestTurns_0 rfl (lv_at hl 3 rfl) ?_
  refine lv_iconst (v := 0) hx hb dL_bestTurns_1 (by decide) ?_
  refine lv_aload_n hx hb dL_bestTurns_2 rfl (lv_at hl 0 rfl) ?_
  refine lv_iload_n hx hb dL_bestTurns_3 rfl (lv_at hl 1 rfl) ?_
  refine lv_iload_n hx hb dL_bestTurns_4 rfl (lv_at hl 2 rfl) ?_
  obtain ⟨f1, f2, f3, f4⟩ := hfit
  refine Cx_goF (wc := wc) (wx := wx) (wr := wr ++ ouW k oA g) (vx_runV (As := [.int p1, .int p2]) (rest := [.int 0, .ref oA]) ⟨hx, hb, hml, hown, hts⟩ (hCx _) (cwV 2 hts gL_bestTurns_X1_bestTurns rfl rfl rfl (by decide +kernel) ⟨Nat.succ_le_succ f1, (by show 8 + (7 + 11) + rm.locals ≤ 800; omega)⟩) ⟨Px_blind, va_recv (q0 := 0) (ci := 1) hK hP rfl (by rw [List.getElem?_append_left (List.getElem?_eq_some_iff.mp he).1]; exact he), Px_at (wc := wc) hK hG hP hD hS hA (List.range wc.length) (rg_hi _ _) (rg_nd _)⟩ rfl rfl hl.1 rfl (Nat.le_of_ble_eq_true rfl) dL_bestTurns_5 ⟨(by show 0 + rm.cells ≤ 40; omega), (by show 0 + rm.slots ≤ 300; omega)⟩) hP hD hS hA hfx ?_ ?_
  · intro E ce q9 H1 locs1 h1 hP1 hD1 hS1 hce hcv hcl
    have w_13 := hts (.classLink RL 13 "java/lang/IllegalArgumentException") (by decide +kernel)
    rcases hx1 E h1 with rfl
    · have hca : (Cond.castable xR "java/lang/IllegalArgumentException").before args s = true := va_Nw.use rfl (hG.2.2.1.2.1 "java/lang/IllegalArgumentException" (by decide +kernel))
      refine vx_catch (own := RL) (name := "java/lang/IllegalArgumentException") hown [] ⟨0, 10, 13, 13⟩ [] (htab.trans rfl) (fun z hz => by cases hz) rfl (by decide) w_13 hca hce hcv hcl ?_
      refine lv_astore (lv' := [(4, .ref q9), (0, .ref x), (1, .int p1), (2, .int p2), (3, .ref oA)]) hx hb dL_bestTurns_13 hl (by decide) rfl (fun ls hl => ?_)
      refine lv_iconst (v := 1) hx hb dL_bestTurns_15 (by decide) ?_
      exact Cx_iret hO (Or.inl ⟨h1, rfl, rfl⟩) (by show 0 + rm.cells ≤ 40; omega) (by show 0 + rm.slots ≤ 300; omega) hx hb hr hP1 hD1 hS1 dL_bestTurns_16 hlocks
  · intro ov B w1 H locs h1 hB hP hD hS
    obtain ⟨v, rfl⟩ := hvv B ov w1 h1 hB
    refine W.eq (g2 := F0 m 8 ls [.int v, .int 0, .ref oA]) rfl ?_
    refine lv_i2l hx hb dL_bestTurns_8 rfl ?_
    have hq : (w1 ++ (wr ++ ouW k oA g))[w1.length + wr.length]? = some (oA, (ouW k oA g)[0].2) := by rw [List.getElem?_append_right (by omega), Nat.add_sub_cancel_left, List.getElem?_append_right (Nat.le_refl _), Nat.sub_self]; rfl
    refine va_last hx hb hK hP hD hS (w1.length + wr.length) 4 hq rfl (inb_vp (by decide)) dL_bestTurns_9 (fun H locs hP hD hS => ?_)
    have e9 : ∀ y, (w1 ++ (wr ++ ouW k oA g)).set (w1.length + wr.length) y = w1 ++ (wr ++ [y]) := fun y => by rw [List.set_append_right _ _ (by omega), Nat.add_sub_cancel_left, List.set_append_right _ _ (Nat.le_refl _), Nat.sub_self]; rfl
    rw [e9] at hP hD
    refine lv_goto (tgt := 17) hx hb dL_bestTurns_10 (by decide) ?_
    refine lv_iconst (v := 0) hx hb dL_bestTurns_17 (by decide) ?_
    exact Cx_iret hO (Or.inr (⟨B, v, w1, h1, hB, rfl, rfl⟩)) (by show 0 + rm.cells ≤ 40; omega) (by show 0 + rm.slots ≤ 300; omega) hx hb hr hP hD hS dL_bestTurns_18 hlocks
set_option maxRecDepth 100000 in
set_option maxHeartbeats 4000000 in
theorem c_L_scaledAfter (l : Launch) (D : va_G) (k : Nat → ClassId) (x oA : Nat) (p1 : Int32) (p2 : Int32) (g : Nat → Int64) (wc wx wr : va_W) (oc : Oc) (fs : List Value) (rm : Room) (hfit : fitL rm) (he : wc[0]? = some (x, .inr (1, fs))) (hfx : wx.map Prod.fst = wc.map Prod.fst) (hx1 : ∀ E, oc = .inl E → E = xB ∨ E = xR) (hvv : ∀ (B : Option Value → va_W → Prop) (ov : Option Value) (w : va_W), oc = .inr B → B ov w → ∃ v, ov = some (.int v)) (hCx : Cx l D (tyK k) yX1_scaledAfter wsX1_scaledAfter rm [.ref x, .int p1, .int p2] wc wx oc) : Cl l D (tyK k) yL_scaledAfter wsL_scaledAfter rmL [.ref x, .int p1, .int p2, .ref oA] (wc ++ (wr ++ ouW k oA g)) (.inr (fun (ov : Option Value) (w : va_W) => (oc = .inl xB ∧ ov = some (.int 1) ∧ w = wx ++ (wr ++ ouW k oA g)) ∨ (oc = .inl xR ∧ ov = some (.int 2) ∧ w = wx ++ (wr ++ ouW k oA g)) ∨ ∃ (B : Option Value → va_W → Prop) (v : Int32) (w2 : va_W), oc = .inr B ∧ B (some (.int v)) w2 ∧ ov = some (.int 0) ∧ w = w2 ++ (wr ++ ouW k oA (vp_updL g 0 v.toInt64)))) := by
  obtain ⟨O, hO⟩ : ∃ O : Oc, O = .inr (fun (ov : Option Value) (w : va_W) => (oc = .inl xB ∧ ov = some (.int 1) ∧ w = wx ++ (wr ++ ouW k oA g)) ∨ (oc = .inl xR ∧ ov = some (.int 2) ∧ w = wx ++ (wr ++ ouW k oA g)) ∨ ∃ (B : Option Value → va_W → Prop) (v : Int32) (w2 : va_W), oc = .inr B ∧ B (some (.int v)) w2 ∧ ov = some (.int 0) ∧ w = w2 ++ (wr ++ ouW k oA (vp_updL g 0 v.toInt64))) := ⟨_, rfl⟩
  rw [← hO]
  refine Cl_of (cc := cL_scaledAfter) (maxL := 5) (ret := (some .int)) (hh := [(0, 10, 13, 31), (0, 10, 17, 13)]) (by decide) rfl (Nat.le_of_ble_eq_true rfl) ?_
  intro p e s m args below meth c A ls hx hb hr hml hts hown hlocks htab hK hG hC hA hP hD hS hl
  have hl : lv_has ls 5 [(0, .ref x), (1, .int p1), (2, .int p2), (3, .ref oA)] := hl
  refine lv_aload_n hx hb dL_scaledAfter_0 rfl (lv_at hl 3 rfl) ?_
  refine lv_iconst (v := 0) hx hb dL_scaledAfter_1 (by decide) ?_
  refine lv_aload_n hx hb dL_scaledAfter_2 rfl (lv_at hl 0 rfl) ?_
  refine lv_iload_n hx hb dL_scaledAfter_3 rfl (lv_at hl 1 rfl) ?_
  refine lv_iload_n hx hb dL_scaledAfter_4 rfl (lv_at hl 2 rfl) ?_
  obtain ⟨f1, f2, f3, f4⟩ := hfit
  refine Cx_goF (wc := wc) (wx := wx) (wr := wr ++ ouW k oA g) (vx_runV (As := [.int p1, .int p2]) (rest := [.int 0, .ref oA]) ⟨hx, hb, hml, hown, hts⟩ (hCx _) (cwV 2 hts gL_scaledAfter_X1_scaledAfter rfl rfl rfl (by decide +kernel) ⟨Nat.succ_le_succ f1, (by show 8 + (4 + 11) + rm.locals ≤ 800; omega)⟩) ⟨Px_blind, va_recv (q0 := 0) (ci := 1) hK hP rfl (by rw [List.getElem?_append_left (List.getElem?_eq_some_iff.mp he).1]; exact he), Px_at (wc := wc) hK hG hP hD hS hA (List.range wc.length) (rg_hi _ _) (rg_nd _)⟩ rfl rfl hl.1 rfl (Nat.le_of_ble_eq_true rfl) dL_scaledAfter_5 ⟨(by show 0 + rm.cells ≤ 40; omega), (by show 0 + rm.slots ≤ 300; omega)⟩) hP hD hS hA hfx ?_ ?_
  · intro E ce q9 H1 locs1 h1 hP1 hD1 hS1 hce hcv hcl
    have w_31 := hts (.classLink RL 31 "java/lang/IndexOutOfBoundsException") (by decide +kernel)
    have w_13 := hts (.classLink RL 13 "java/lang/IllegalArgumentException") (by decide +kernel)
    rcases hx1 E h1 with rfl | rfl
    · have hca : (Cond.castable xB "java/lang/IndexOutOfBoundsException").before args s = true := va_Nw.use rfl (hG.2.2.1.2.1 "java/lang/IndexOutOfBoundsException" (by decide +kernel))
      refine vx_catch (own := RL) (name := "java/lang/IndexOutOfBoundsException") hown [] ⟨0, 10, 13, 31⟩ [⟨0, 10, 17, 13⟩] (htab.trans rfl) (fun z hz => by cases hz) rfl (by decide) w_31 hca hce hcv hcl ?_
      refine lv_astore (lv' := [(4, .ref q9), (0, .ref x), (1, .int p1), (2, .int p2), (3, .ref oA)]) hx hb dL_scaledAfter_13 hl (by decide) rfl (fun ls hl => ?_)
      refine lv_iconst (v := 1) hx hb dL_scaledAfter_15 (by decide) ?_
      exact Cx_iret hO (Or.inl ⟨h1, rfl, rfl⟩) (by show 0 + rm.cells ≤ 40; omega) (by show 0 + rm.slots ≤ 300; omega) hx hb hr hP1 hD1 hS1 dL_scaledAfter_16 hlocks
    · have hca : (Cond.castable xR "java/lang/IllegalArgumentException").before args s = true := va_Nw.use rfl (hG.2.2.1.2.1 "java/lang/IllegalArgumentException" (by decide +kernel))
      refine vx_catch (own := RL) (name := "java/lang/IllegalArgumentException") hown [⟨0, 10, 13, 31⟩] ⟨0, 10, 17, 13⟩ [] (htab.trans rfl) (List.forall_mem_cons.mpr ⟨Or.inr ⟨by decide, "java/lang/IndexOutOfBoundsException", w_31, hC.1⟩, (fun z hz => by cases hz)⟩) rfl (by decide) w_13 hca hce hcv hcl ?_
      refine lv_astore (lv' := [(4, .ref q9), (0, .ref x), (1, .int p1), (2, .int p2), (3, .ref oA)]) hx hb dL_scaledAfter_17 hl (by decide) rfl (fun ls hl => ?_)
      refine lv_iconst (v := 2) hx hb dL_scaledAfter_19 (by decide) ?_
      exact Cx_iret hO (Or.inr (Or.inl ⟨h1, rfl, rfl⟩)) (by show 0 + rm.cells ≤ 40; omega) (by show 0 + rm.slots ≤ 300; omega) hx hb hr hP1 hD1 hS1 dL_scaledAfter_20 hlocks
  · intro ov B w1 H locs h1 hB hP hD hS
    obtain ⟨v, rfl⟩ := hvv B ov w1 h1 hB
    refine W.eq (g2 := F0 m 8 ls [.int v, .int 0, .ref oA]) rfl ?_
    refine lv_i2l hx hb dL_scaledAfter_8 rfl ?_
    have hq : (w1 ++ (wr ++ ouW k oA g))[w1.length + wr.length]? = some (oA, (ouW k oA g)[0].2) := by rw [List.getElem?_append_right (by omega), Nat.add_sub_cancel_left, List.getElem?_append_right (Nat.le_refl _), Nat.sub_self]; rfl
    refine va_last hx hb hK hP hD hS (w1.length + wr.length) 4 hq rfl (inb_vp (by decide)) dL_scaledAfter_9 (fun H locs hP hD hS => ?_)
    have e9 : ∀ y, (w1 ++ (wr ++ ouW k oA g)).set (w1.length + wr.length) y = w1 ++ (wr ++ [y]) := fun y => by rw [List.set_append_right _ _ (by omega), Nat.add_sub_cancel_left, List.set_append_right _ _ (Nat.le_refl _), Nat.sub_self]; rfl
    rw [e9] at hP hD
    refine lv_goto (tgt := 21) hx hb dL_scaledAfter_10 (by decide) ?_
    refine lv_iconst (v := 0) hx hb dL_scaledAfter_21 (by decide) ?_
    exact Cx_iret hO (Or.inr (Or.inr (⟨B, v, w1, h1, hB, rfl, rfl⟩))) (by show 0 + rm.cells ≤ 40; omega) (by show 0 + rm.slots ≤ 300; omega) hx hb hr hP hD hS dL_scaledAfter_22 hlocks
set_option maxRecDepth 100000 in
set_option maxHeartbeats 4000000 in
theorem c_L_steamFor (l : Launch) (D : va_G) (k : Nat → ClassId) (x oA : Nat) (p1 : Int32) (p2 : Int32) (g : Nat → Int64) (wc wx wr : va_W) (oc : Oc) (fs : List Value) (rm : Room) (hfit : fitL rm) (he : wc[0]? = some (x, .inr (1, fs))) (hfx : wx.map Prod.fst = wc.map Prod.fst) (hx1 : ∀ E, oc = .inl E → E = xR) (hvv : ∀ (B : Option Value → va_W → Prop) (ov : Option Value) (w : va_W), oc = .inr B → B ov w → ∃ v, ov = some (.int v)) (hCx : Cx l D (tyK k) yX1_steamFor wsX1_steamFor rm [.ref x, .int p1, .int p2] wc wx oc) : Cl l D (tyK k) yL_steamFor wsL_steamFor rmL [.ref x, .int p1, .int p2, .ref oA] (wc ++ (wr ++ ouW k oA g)) (.inr (fun (ov : Option Value) (w : va_W) => (oc = .inl xR ∧ ov = some (.int 1) ∧ w = wx ++ (wr ++ ouW k oA g)) ∨ ∃ (B : Option Value → va_W → Prop) (v : Int32) (w2 : va_W), oc = .inr B ∧ B (some (.int v)) w2 ∧ ov = some (.int 0) ∧ w = w2 ++ (wr ++ ouW k oA (vp_updL g 0 v.toInt64)))) := by
  obtain ⟨O, hO⟩ : ∃ O : Oc, O = .inr (fun (ov : Option Value) (w : va_W) => (oc = .inl xR ∧ ov = some (.int 1) ∧ w = wx ++ (wr ++ ouW k oA g)) ∨ ∃ (B : Option Value → va_W → Prop) (v : Int32) (w2 : va_W), oc = .inr B ∧ B (some (.int v)) w2 ∧ ov = some (.int 0) ∧ w = w2 ++ (wr ++ ouW k oA (vp_updL g 0 v.toInt64))) := ⟨_, rfl⟩
  rw [← hO]
  refine Cl_of (cc := cL_steamFor) (maxL := 5) (ret := (some .int)) (hh := [(0, 10, 13, 13)]) (by decide) rfl (Nat.le_of_ble_eq_true rfl) ?_
  intro p e s m args below meth c A ls hx hb hr hml hts hown hlocks htab hK hG hC hA hP hD hS hl
  have hl : lv_has ls 5 [(0, .ref x), (1, .int p1), (2, .int p2), (3, .ref oA)] := hl
  refine lv_aload_n hx hb dL_steamFor_0 rfl (lv_at hl 3 rfl) ?_
  refine lv_iconst (v := 0) hx hb dL_steamFor_1 (by decide) ?_
  refine lv_aload_n hx hb dL_steamFor_2 rfl (lv_at hl 0 rfl) ?_
  refine lv_iload_n hx hb dL_steamFor_3 rfl (lv_at hl 1 rfl) ?_
  refine lv_iload_n hx hb dL_steamFor_4 rfl (lv_at hl 2 rfl) ?_
  obtain ⟨f1, f2, f3, f4⟩ := hfit
  refine Cx_goF (wc := wc) (wx := wx) (wr := wr ++ ouW k oA g) (vx_runV (As := [.int p1, .int p2]) (rest := [.int 0, .ref oA]) ⟨hx, hb, hml, hown, hts⟩ (hCx _) (cwV 2 hts gL_steamFor_X1_steamFor rfl rfl rfl (by decide +kernel) ⟨Nat.succ_le_succ f1, (by show 8 + (4 + 11) + rm.locals ≤ 800; omega)⟩) ⟨Px_blind, va_recv (q0 := 0) (ci := 1) hK hP rfl (by rw [List.getElem?_append_left (List.getElem?_eq_some_iff.mp he).1]; exact he), Px_at (wc := wc) hK hG hP hD hS hA (List.range wc.length) (rg_hi _ _) (rg_nd _)⟩ rfl rfl hl.1 rfl (Nat.le_of_ble_eq_true rfl) dL_steamFor_5 ⟨(by show 0 + rm.cells ≤ 40; omega), (by show 0 + rm.slots ≤ 300; omega)⟩) hP hD hS hA hfx ?_ ?_
  · intro E ce q9 H1 locs1 h1 hP1 hD1 hS1 hce hcv hcl
    have w_13 := hts (.classLink RL 13 "java/lang/IllegalArgumentException") (by decide +kernel)
    rcases hx1 E h1 with rfl
    · have hca : (Cond.castable xR "java/lang/IllegalArgumentException").before args s = true := va_Nw.use rfl (hG.2.2.1.2.1 "java/lang/IllegalArgumentException" (by decide +kernel))
      refine vx_catch (own := RL) (name := "java/lang/IllegalArgumentException") hown [] ⟨0, 10, 13, 13⟩ [] (htab.trans rfl) (fun z hz => by cases hz) rfl (by decide) w_13 hca hce hcv hcl ?_
      refine lv_astore (lv' := [(4, .ref q9), (0, .ref x), (1, .int p1), (2, .int p2), (3, .ref oA)]) hx hb dL_steamFor_13 hl (by decide) rfl (fun ls hl => ?_)
      refine lv_iconst (v := 1) hx hb dL_steamFor_15 (by decide) ?_
      exact Cx_iret hO (Or.inl ⟨h1, rfl, rfl⟩) (by show 0 + rm.cells ≤ 40; omega) (by show 0 + rm.slots ≤ 300; omega) hx hb hr hP1 hD1 hS1 dL_steamFor_16 hlocks
  · intro ov B w1 H locs h1 hB hP hD hS
    obtain ⟨v, rfl⟩ := hvv B ov w1 h1 hB
    refine W.eq (g2 := F0 m 8 ls [.int v, .int 0, .ref oA]) rfl ?_
    refine lv_i2l hx hb dL_steamFor_8 rfl ?_
    have hq : (w1 ++ (wr ++ ouW k oA g))[w1.length + wr.length]? = some (oA, (ouW k oA g)[0].2) := by rw [List.getElem?_append_right (by omega), Nat.add_sub_cancel_left, List.getElem?_append_right (Nat.le_refl _), Nat.sub_self]; rfl
    refine va_last hx hb hK hP hD hS (w1.length + wr.length) 4 hq rfl (inb_vp (by decide)) dL_steamFor_9 (fun H locs hP hD hS => ?_)
    have e9 : ∀ y, (w1 ++ (wr ++ ouW k oA g)).set (w1.length + wr.length) y = w1 ++ (wr ++ [y]) := fun y => by rw [List.set_append_right _ _ (by omega), Nat.add_sub_cancel_left, List.set_append_right _ _ (Nat.le_refl _), Nat.sub_self]; rfl
    rw [e9] at hP hD
    refine lv_goto (tgt := 17) hx hb dL_steamFor_10 (by decide) ?_
    refine lv_iconst (v := 0) hx hb dL_steamFor_17 (by decide) ?_
    exact Cx_iret hO (Or.inr (⟨B, v, w1, h1, hB, rfl, rfl⟩)) (by show 0 + rm.cells ≤ 40; omega) (by show 0 + rm.slots ≤ 300; omega) hx hb hr hP hD hS dL_steamFor_18 hlocks
set_option maxRecDepth 100000 in
set_option maxHeartbeats 4000000 in
theorem c_L_runScript (l : Launch) (D : va_G) (k : Nat → ClassId) (x oA : Nat) (p1 : Int32) (p2 : Int64) (g : Nat → Int64) (wc wx wr : va_W) (oc : Oc) (fs : List Value) (rm : Room) (hfit : fitL rm) (he : wc[0]? = some (x, .inr (1, fs))) (hfx : wx.map Prod.fst = wc.map Prod.fst) (hx1 : ∀ E, oc = .inl E → E = xR) (hvv : ∀ (B : Option Value → va_W → Prop) (ov : Option Value) (w : va_W), oc = .inr B → B ov w → ∃ v, ov = some (.int v)) (hCx : Cx l D (tyK k) yX1_runScript wsX1_runScript rm [.ref x, .int p1, .long p2] wc wx oc) : Cl l D (tyK k) yL_runScript wsL_runScript rmL [.ref x, .int p1, .long p2, .ref oA] (wc ++ (wr ++ ouW k oA g)) (.inr (fun (ov : Option Value) (w : va_W) => (oc = .inl xR ∧ ov = some (.int 1) ∧ w = wx ++ (wr ++ ouW k oA g)) ∨ ∃ (B : Option Value → va_W → Prop) (v : Int32) (w2 : va_W), oc = .inr B ∧ B (some (.int v)) w2 ∧ ov = some (.int 0) ∧ w = w2 ++ (wr ++ ouW k oA (vp_updL g 0 v.toInt64)))) := by
  obtain ⟨O, hO⟩ : ∃ O : Oc, O = .inr (fun (ov : Option Value) (w : va_W) => (oc = .inl xR ∧ ov = some (.int 1) ∧ w = wx ++ (wr ++ ouW k oA g)) ∨ ∃ (B : Option Value → va_W → Prop) (v : Int32) (w2 : va_W), oc = .inr B ∧ B (some (.int v)) w2 ∧ ov = some (.int 0) ∧ w = w2 ++ (wr ++ ouW k oA (vp_updL g 0 v.toInt64))) := ⟨_, rfl⟩
  rw [← hO]
  refine Cl_of (cc := cL_runScript) (maxL := 6) (ret := (some .int)) (hh := [(0, 11, 14, 13)]) (by decide) rfl (Nat.le_of_ble_eq_true rfl) ?_
  intro p e s m args below meth c A ls hx hb hr hml hts hown hlocks htab hK hG hC hA hP hD hS hl
  have hl : lv_has ls 6 [(0, .ref x), (1, .int p1), (2, .long p2), (4, .ref oA)] := hl
  refine lv_aload hx hb dL_runScript_0 (lv_at hl 3 rfl) ?_
  refine lv_iconst (v := 0) hx hb dL_runScript_2 (by decide) ?_
  refine lv_aload_n hx hb dL_runScript_3 rfl (lv_at hl 0 rfl) ?_
  refine lv_iload_n hx hb dL_runScript_4 rfl (lv_at hl 1 rfl) ?_
  refine lv_lload_n hx hb dL_runScript_5 rfl (lv_at hl 2 rfl) ?_
  obtain ⟨f1, f2, f3, f4⟩ := hfit
  refine Cx_goF (wc := wc) (wx := wx) (wr := wr ++ ouW k oA g) (vx_runV (As := [.int p1, .long p2]) (rest := [.int 0, .ref oA]) ⟨hx, hb, hml, hown, hts⟩ (hCx _) (cwV 2 hts gL_runScript_X1_runScript rfl rfl rfl (by decide +kernel) ⟨Nat.succ_le_succ f1, (by show 8 + (6 + 11) + rm.locals ≤ 800; omega)⟩) ⟨Px_blind, va_recv (q0 := 0) (ci := 1) hK hP rfl (by rw [List.getElem?_append_left (List.getElem?_eq_some_iff.mp he).1]; exact he), Px_at (wc := wc) hK hG hP hD hS hA (List.range wc.length) (rg_hi _ _) (rg_nd _)⟩ rfl rfl hl.1 rfl (Nat.le_of_ble_eq_true rfl) dL_runScript_6 ⟨(by show 0 + rm.cells ≤ 40; omega), (by show 0 + rm.slots ≤ 300; omega)⟩) hP hD hS hA hfx ?_ ?_
  · intro E ce q9 H1 locs1 h1 hP1 hD1 hS1 hce hcv hcl
    have w_13 := hts (.classLink RL 13 "java/lang/IllegalArgumentException") (by decide +kernel)
    rcases hx1 E h1 with rfl
    · have hca : (Cond.castable xR "java/lang/IllegalArgumentException").before args s = true := va_Nw.use rfl (hG.2.2.1.2.1 "java/lang/IllegalArgumentException" (by decide +kernel))
      refine vx_catch (own := RL) (name := "java/lang/IllegalArgumentException") hown [] ⟨0, 11, 14, 13⟩ [] (htab.trans rfl) (fun z hz => by cases hz) rfl (by decide) w_13 hca hce hcv hcl ?_
      refine lv_astore (lv' := [(5, .ref q9), (0, .ref x), (1, .int p1), (2, .long p2), (4, .ref oA)]) hx hb dL_runScript_14 hl (by decide) rfl (fun ls hl => ?_)
      refine lv_iconst (v := 1) hx hb dL_runScript_16 (by decide) ?_
      exact Cx_iret hO (Or.inl ⟨h1, rfl, rfl⟩) (by show 0 + rm.cells ≤ 40; omega) (by show 0 + rm.slots ≤ 300; omega) hx hb hr hP1 hD1 hS1 dL_runScript_17 hlocks
  · intro ov B w1 H locs h1 hB hP hD hS
    obtain ⟨v, rfl⟩ := hvv B ov w1 h1 hB
    refine W.eq (g2 := F0 m 9 ls [.int v, .int 0, .ref oA]) rfl ?_
    refine lv_i2l hx hb dL_runScript_9 rfl ?_
    have hq : (w1 ++ (wr ++ ouW k oA g))[w1.length + wr.length]? = some (oA, (ouW k oA g)[0].2) := by rw [List.getElem?_append_right (by omega), Nat.add_sub_cancel_left, List.getElem?_append_right (Nat.le_refl _), Nat.sub_self]; rfl
    refine va_last hx hb hK hP hD hS (w1.length + wr.length) 4 hq rfl (inb_vp (by decide)) dL_runScript_10 (fun H locs hP hD hS => ?_)
    have e9 : ∀ y, (w1 ++ (wr ++ ouW k oA g)).set (w1.length + wr.length) y = w1 ++ (wr ++ [y]) := fun y => by rw [List.set_append_right _ _ (by omega), Nat.add_sub_cancel_left, List.set_append_right _ _ (Nat.le_refl _), Nat.sub_self]; rfl
    rw [e9] at hP hD
    refine lv_goto (tgt := 18) hx hb dL_runScript_11 (by decide) ?_
    refine lv_iconst (v := 0) hx hb dL_runScript_18 (by decide) ?_
    exact Cx_iret hO (Or.inr (⟨B, v, w1, h1, hB, rfl, rfl⟩)) (by show 0 + rm.cells ≤ 40; omega) (by show 0 + rm.slots ≤ 300; omega) hx hb hr hP hD hS dL_runScript_19 hlocks
set_option maxRecDepth 100000 in
set_option maxHeartbeats 4000000 in
theorem c_L_simulate (l : Launch) (D : va_G) (k : Nat → ClassId) (x oA : Nat) (p1 : Int64) (p3 : Int32) (g : Nat → Int64) (wc wx wr : va_W) (oc : Oc) (fs : List Value) (rm : Room) (hfit : fitL rm) (he : wc[0]? = some (x, .inr (1, fs))) (hfx : wx.map Prod.fst = wc.map Prod.fst) (hx1 : ∀ E, oc = .inl E → E = xR) (hvv : ∀ (B : Option Value → va_W → Prop) (ov : Option Value) (w : va_W), oc = .inr B → B ov w → ∃ v, ov = some (.int v)) (hCx : Cx l D (tyK k) yX1_simulate wsX1_simulate rm [.ref x, .long p1, .int p3] wc wx oc) : Cl l D (tyK k) yL_simulate wsL_simulate rmL [.ref x, .long p1, .int p3, .ref oA] (wc ++ (wr ++ ouW k oA g)) (.inr (fun (ov : Option Value) (w : va_W) => (oc = .inl xR ∧ ov = some (.int 1) ∧ w = wx ++ (wr ++ ouW k oA g)) ∨ ∃ (B : Option Value → va_W → Prop) (v : Int32) (w2 : va_W), oc = .inr B ∧ B (some (.int v)) w2 ∧ ov = some (.int 0) ∧ w = w2 ++ (wr ++ ouW k oA (vp_updL g 0 v.toInt64)))) := by
  obtain ⟨O, hO⟩ : ∃ O : Oc, O = .inr (fun (ov : Option Value) (w : va_W) => (oc = .inl xR ∧ ov = some (.int 1) ∧ w = wx ++ (wr ++ ouW k oA g)) ∨ ∃ (B : Option Value → va_W → Prop) (v : Int32) (w2 : va_W), oc = .inr B ∧ B (some (.int v)) w2 ∧ ov = some (.int 0) ∧ w = w2 ++ (wr ++ ouW k oA (vp_updL g 0 v.toInt64))) := ⟨_, rfl⟩
  rw [← hO]
  refine Cl_of (cc := cL_simulate) (maxL := 6) (ret := (some .int)) (hh := [(0, 11, 14, 13)]) (by decide) rfl (Nat.le_of_ble_eq_true rfl) ?_
  intro p e s m args below meth c A ls hx hb hr hml hts hown hlocks htab hK hG hC hA hP hD hS hl
  have hl : lv_has ls 6 [(0, .ref x), (1, .long p1), (3, .int p3), (4, .ref oA)] := hl
  refine lv_aload hx hb dL_simulate_0 (lv_at hl 3 rfl) ?_
  refine lv_iconst (v := 0) hx hb dL_simulate_2 (by decide) ?_
  refine lv_aload_n hx hb dL_simulate_3 rfl (lv_at hl 0 rfl) ?_
  refine lv_lload_n hx hb dL_simulate_4 rfl (lv_at hl 1 rfl) ?_
  refine lv_iload_n hx hb dL_simulate_5 rfl (lv_at hl 2 rfl) ?_
  obtain ⟨f1, f2, f3, f4⟩ := hfit
  refine Cx_goF (wc := wc) (wx := wx) (wr := wr ++ ouW k oA g) (vx_runV (As := [.long p1, .int p3]) (rest := [.int 0, .ref oA]) ⟨hx, hb, hml, hown, hts⟩ (hCx _) (cwV 2 hts gL_simulate_X1_simulate rfl rfl rfl (by decide +kernel) ⟨Nat.succ_le_succ f1, (by show 8 + (8 + 11) + rm.locals ≤ 800; omega)⟩) ⟨Px_blind, va_recv (q0 := 0) (ci := 1) hK hP rfl (by rw [List.getElem?_append_left (List.getElem?_eq_some_iff.mp he).1]; exact he), Px_at (wc := wc) hK hG hP hD hS hA (List.range wc.length) (rg_hi _ _) (rg_nd _)⟩ rfl rfl hl.1 rfl (Nat.le_of_ble_eq_true rfl) dL_simulate_6 ⟨(by show 0 + rm.cells ≤ 40; omega), (by show 0 + rm.slots ≤ 300; omega)⟩) hP hD hS hA hfx ?_ ?_
  · intro E ce q9 H1 locs1 h1 hP1 hD1 hS1 hce hcv hcl
    have w_13 := hts (.classLink RL 13 "java/lang/IllegalArgumentException") (by decide +kernel)
    rcases hx1 E h1 with rfl
    · have hca : (Cond.castable xR "java/lang/IllegalArgumentException").before args s = true := va_Nw.use rfl (hG.2.2.1.2.1 "java/lang/IllegalArgumentException" (by decide +kernel))
      refine vx_catch (own := RL) (name := "java/lang/IllegalArgumentException") hown [] ⟨0, 11, 14, 13⟩ [] (htab.trans rfl) (fun z hz => by cases hz) rfl (by decide) w_13 hca hce hcv hcl ?_
      refine lv_astore (lv' := [(5, .ref q9), (0, .ref x), (1, .long p1), (3, .int p3), (4, .ref oA)]) hx hb dL_simulate_14 hl (by decide) rfl (fun ls hl => ?_)
      refine lv_iconst (v := 1) hx hb dL_simulate_16 (by decide) ?_
      exact Cx_iret hO (Or.inl ⟨h1, rfl, rfl⟩) (by show 0 + rm.cells ≤ 40; omega) (by show 0 + rm.slots ≤ 300; omega) hx hb hr hP1 hD1 hS1 dL_simulate_17 hlocks
  · intro ov B w1 H locs h1 hB hP hD hS
    obtain ⟨v, rfl⟩ := hvv B ov w1 h1 hB
    refine W.eq (g2 := F0 m 9 ls [.int v, .int 0, .ref oA]) rfl ?_
    refine lv_i2l hx hb dL_simulate_9 rfl ?_
    have hq : (w1 ++ (wr ++ ouW k oA g))[w1.length + wr.length]? = some (oA, (ouW k oA g)[0].2) := by rw [List.getElem?_append_right (by omega), Nat.add_sub_cancel_left, List.getElem?_append_right (Nat.le_refl _), Nat.sub_self]; rfl
    refine va_last hx hb hK hP hD hS (w1.length + wr.length) 4 hq rfl (inb_vp (by decide)) dL_simulate_10 (fun H locs hP hD hS => ?_)
    have e9 : ∀ y, (w1 ++ (wr ++ ouW k oA g)).set (w1.length + wr.length) y = w1 ++ (wr ++ [y]) := fun y => by rw [List.set_append_right _ _ (by omega), Nat.add_sub_cancel_left, List.set_append_right _ _ (Nat.le_refl _), Nat.sub_self]; rfl
    rw [e9] at hP hD
    refine lv_goto (tgt := 18) hx hb dL_simulate_11 (by decide) ?_
    refine lv_iconst (v := 0) hx hb dL_simulate_18 (by decide) ?_
    exact Cx_iret hO (Or.inr (⟨B, v, w1, h1, hB, rfl, rfl⟩)) (by show 0 + rm.cells ≤ 40; omega) (by show 0 + rm.slots ≤ 300; omega) hx hb hr hP hD hS dL_simulate_19 hlocks
set_option maxRecDepth 100000 in
set_option maxHeartbeats 4000000 in
theorem c_L_save (l : Launch) (D : va_G) (k : Nat → ClassId) (x oA : Nat) (p1 : Int32) (g : Nat → Int64) (wc wx wr : va_W) (oc : Oc) (fs : List Value) (rm : Room) (hfit : fitL rm) (he : wc[0]? = some (x, .inr (1, fs))) (hfx : wx.map Prod.fst = wc.map Prod.fst) (hx1 : ∀ E, oc = .inl E → E = xB) (hvv : ∀ (B : Option Value → va_W → Prop) (ov : Option Value) (w : va_W), oc = .inr B → B ov w → ∃ v, ov = some (.int v)) (hCx : Cx l D (tyK k) yX1_save wsX1_save rm [.ref x, .int p1] wc wx oc) : Cl l D (tyK k) yL_save wsL_save rmL [.ref x, .int p1, .ref oA] (wc ++ (wr ++ ouW k oA g)) (.inr (fun (ov : Option Value) (w : va_W) => (oc = .inl xB ∧ ov = some (.int 1) ∧ w = wx ++ (wr ++ ouW k oA g)) ∨ ∃ (B : Option Value → va_W → Prop) (v : Int32) (w2 : va_W), oc = .inr B ∧ B (some (.int v)) w2 ∧ ov = some (.int 0) ∧ w = w2 ++ (wr ++ ouW k oA (vp_updL g 0 v.toInt64)))) := by
  obtain ⟨O, hO⟩ : ∃ O : Oc, O = .inr (fun (ov : Option Value) (w : va_W) => (oc = .inl xB ∧ ov = some (.int 1) ∧ w = wx ++ (wr ++ ouW k oA g)) ∨ ∃ (B : Option Value → va_W → Prop) (v : Int32) (w2 : va_W), oc = .inr B ∧ B (some (.int v)) w2 ∧ ov = some (.int 0) ∧ w = w2 ++ (wr ++ ouW k oA (vp_updL g 0 v.toInt64))) := ⟨_, rfl⟩
  rw [← hO]
  refine Cl_of (cc := cL_save) (maxL := 4) (ret := (some .int)) (hh := [(0, 9, 12, 31)]) (by decide) rfl (Nat.le_of_ble_eq_true rfl) ?_
  intro p e s m args below meth c A ls hx hb hr hml hts hown hlocks htab hK hG hC hA hP hD hS hl
  have hl : lv_has ls 4 [(0, .ref x), (1, .int p1), (2, .ref oA)] := hl
  refine lv_aload_n hx hb dL_save_0 rfl (lv_at hl 2 rfl) ?_
  refine lv_iconst (v := 0) hx hb dL_save_1 (by decide) ?_
  refine lv_aload_n hx hb dL_save_2 rfl (lv_at hl 0 rfl) ?_
  refine lv_iload_n hx hb dL_save_3 rfl (lv_at hl 1 rfl) ?_
  obtain ⟨f1, f2, f3, f4⟩ := hfit
  refine Cx_goF (wc := wc) (wx := wx) (wr := wr ++ ouW k oA g) (vx_runV (As := [.int p1]) (rest := [.int 0, .ref oA]) ⟨hx, hb, hml, hown, hts⟩ (hCx _) (cwV 1 hts gL_save_X1_save rfl rfl rfl (by decide +kernel) ⟨Nat.succ_le_succ f1, (by show 8 + (2 + 11) + rm.locals ≤ 800; omega)⟩) ⟨Px_blind, va_recv (q0 := 0) (ci := 1) hK hP rfl (by rw [List.getElem?_append_left (List.getElem?_eq_some_iff.mp he).1]; exact he), Px_at (wc := wc) hK hG hP hD hS hA (List.range wc.length) (rg_hi _ _) (rg_nd _)⟩ rfl rfl hl.1 rfl (Nat.le_of_ble_eq_true rfl) dL_save_4 ⟨(by show 0 + rm.cells ≤ 40; omega), (by show 0 + rm.slots ≤ 300; omega)⟩) hP hD hS hA hfx ?_ ?_
  · intro E ce q9 H1 locs1 h1 hP1 hD1 hS1 hce hcv hcl
    have w_31 := hts (.classLink RL 31 "java/lang/IndexOutOfBoundsException") (by decide +kernel)
    rcases hx1 E h1 with rfl
    · have hca : (Cond.castable xB "java/lang/IndexOutOfBoundsException").before args s = true := va_Nw.use rfl (hG.2.2.1.2.1 "java/lang/IndexOutOfBoundsException" (by decide +kernel))
      refine vx_catch (own := RL) (name := "java/lang/IndexOutOfBoundsException") hown [] ⟨0, 9, 12, 31⟩ [] (htab.trans rfl) (fun z hz => by cases hz) rfl (by decide) w_31 hca hce hcv hcl ?_
      refine lv_astore_n (lv' := [(3, .ref q9), (0, .ref x), (1, .int p1), (2, .ref oA)]) hx hb dL_save_12 rfl hl (by decide) rfl (fun ls hl => ?_)
      refine lv_iconst (v := 1) hx hb dL_save_13 (by decide) ?_
      exact Cx_iret hO (Or.inl ⟨h1, rfl, rfl⟩) (by show 0 + rm.cells ≤ 40; omega) (by show 0 + rm.slots ≤ 300; omega) hx hb hr hP1 hD1 hS1 dL_save_14 hlocks
  · intro ov B w1 H locs h1 hB hP hD hS
    obtain ⟨v, rfl⟩ := hvv B ov w1 h1 hB
    refine W.eq (g2 := F0 m 7 ls [.int v, .int 0, .ref oA]) rfl ?_
    refine lv_i2l hx hb dL_save_7 rfl ?_
    have hq : (w1 ++ (wr ++ ouW k oA g))[w1.length + wr.length]? = some (oA, (ouW k oA g)[0].2) := by rw [List.getElem?_append_right (by omega), Nat.add_sub_cancel_left, List.getElem?_append_right (Nat.le_refl _), Nat.sub_self]; rfl
    refine va_last hx hb hK hP hD hS (w1.length + wr.length) 4 hq rfl (inb_vp (by decide)) dL_save_8 (fun H locs hP hD hS => ?_)
    have e9 : ∀ y, (w1 ++ (wr ++ ouW k oA g)).set (w1.length + wr.length) y = w1 ++ (wr ++ [y]) := fun y => by rw [List.set_append_right _ _ (by omega), Nat.add_sub_cancel_left, List.set_append_right _ _ (Nat.le_refl _), Nat.sub_self]; rfl
    rw [e9] at hP hD
    refine lv_goto (tgt := 15) hx hb dL_save_9 (by decide) ?_
    refine lv_iconst (v := 0) hx hb dL_save_15 (by decide) ?_
    exact Cx_iret hO (Or.inr (⟨B, v, w1, h1, hB, rfl, rfl⟩)) (by show 0 + rm.cells ≤ 40; omega) (by show 0 + rm.slots ≤ 300; omega) hx hb hr hP hD hS dL_save_16 hlocks
set_option maxRecDepth 100000 in
set_option maxHeartbeats 4000000 in
theorem c_L_restore (l : Launch) (D : va_G) (k : Nat → ClassId) (x oA : Nat) (p1 : Int32) (g : Nat → Int64) (wc wx wr : va_W) (oc : Oc) (fs : List Value) (rm : Room) (hfit : fitL rm) (he : wc[0]? = some (x, .inr (1, fs))) (hfx : wx.map Prod.fst = wc.map Prod.fst) (hx1 : ∀ E, oc = .inl E → E = xB ∨ E = xS) (hvv : ∀ (B : Option Value → va_W → Prop) (ov : Option Value) (w : va_W), oc = .inr B → B ov w → ∃ v, ov = some (.int v)) (hCx : Cx l D (tyK k) yX1_restore wsX1_restore rm [.ref x, .int p1] wc wx oc) : Cl l D (tyK k) yL_restore wsL_restore rmL [.ref x, .int p1, .ref oA] (wc ++ (wr ++ ouW k oA g)) (.inr (fun (ov : Option Value) (w : va_W) => (oc = .inl xB ∧ ov = some (.int 1) ∧ w = wx ++ (wr ++ ouW k oA g)) ∨ (oc = .inl xS ∧ ov = some (.int 2) ∧ w = wx ++ (wr ++ ouW k oA g)) ∨ ∃ (B : Option Value → va_W → Prop) (v : Int32) (w2 : va_W), oc = .inr B ∧ B (some (.int v)) w2 ∧ ov = some (.int 0) ∧ w = w2 ++ (wr ++ ouW k oA (vp_updL g 0 v.toInt64)))) := by
  obtain ⟨O, hO⟩ : ∃ O : Oc, O = .inr (fun (ov : Option Value) (w : va_W) => (oc = .inl xB ∧ ov = some (.int 1) ∧ w = wx ++ (wr ++ ouW k oA g)) ∨ (oc = .inl xS ∧ ov = some (.int 2) ∧ w = wx ++ (wr ++ ouW k oA g)) ∨ ∃ (B : Option Value → va_W → Prop) (v : Int32) (w2 : va_W), oc = .inr B ∧ B (some (.int v)) w2 ∧ ov = some (.int 0) ∧ w = w2 ++ (wr ++ ouW k oA (vp_updL g 0 v.toInt64))) := ⟨_, rfl⟩
  rw [← hO]
  refine Cl_of (cc := cL_restore) (maxL := 4) (ret := (some .int)) (hh := [(0, 9, 12, 31), (0, 9, 15, 15)]) (by decide) rfl (Nat.le_of_ble_eq_true rfl) ?_
  intro p e s m args below meth c A ls hx hb hr hml hts hown hlocks htab hK hG hC hA hP hD hS hl
  have hl : lv_has ls 4 [(0, .ref x), (1, .int p1), (2, .ref oA)] := hl
  refine lv_aload_n hx hb dL_restore_0 rfl (lv_at hl 2 rfl) ?_
  refine lv_iconst (v := 0) hx hb dL_restore_1 (by decide) ?_
  refine lv_aload_n hx hb dL_restore_2 rfl (lv_at hl 0 rfl) ?_
  refine lv_iload_n hx hb dL_restore_3 rfl (lv_at hl 1 rfl) ?_
  obtain ⟨f1, f2, f3, f4⟩ := hfit
  refine Cx_goF (wc := wc) (wx := wx) (wr := wr ++ ouW k oA g) (vx_runV (As := [.int p1]) (rest := [.int 0, .ref oA]) ⟨hx, hb, hml, hown, hts⟩ (hCx _) (cwV 1 hts gL_restore_X1_restore rfl rfl rfl (by decide +kernel) ⟨Nat.succ_le_succ f1, (by show 8 + (2 + 11) + rm.locals ≤ 800; omega)⟩) ⟨Px_blind, va_recv (q0 := 0) (ci := 1) hK hP rfl (by rw [List.getElem?_append_left (List.getElem?_eq_some_iff.mp he).1]; exact he), Px_at (wc := wc) hK hG hP hD hS hA (List.range wc.length) (rg_hi _ _) (rg_nd _)⟩ rfl rfl hl.1 rfl (Nat.le_of_ble_eq_true rfl) dL_restore_4 ⟨(by show 0 + rm.cells ≤ 40; omega), (by show 0 + rm.slots ≤ 300; omega)⟩) hP hD hS hA hfx ?_ ?_
  · intro E ce q9 H1 locs1 h1 hP1 hD1 hS1 hce hcv hcl
    have w_31 := hts (.classLink RL 31 "java/lang/IndexOutOfBoundsException") (by decide +kernel)
    have w_15 := hts (.classLink RL 15 "java/lang/IllegalStateException") (by decide +kernel)
    rcases hx1 E h1 with rfl | rfl
    · have hca : (Cond.castable xB "java/lang/IndexOutOfBoundsException").before args s = true := va_Nw.use rfl (hG.2.2.1.2.1 "java/lang/IndexOutOfBoundsException" (by decide +kernel))
      refine vx_catch (own := RL) (name := "java/lang/IndexOutOfBoundsException") hown [] ⟨0, 9, 12, 31⟩ [⟨0, 9, 15, 15⟩] (htab.trans rfl) (fun z hz => by cases hz) rfl (by decide) w_31 hca hce hcv hcl ?_
      refine lv_astore_n (lv' := [(3, .ref q9), (0, .ref x), (1, .int p1), (2, .ref oA)]) hx hb dL_restore_12 rfl hl (by decide) rfl (fun ls hl => ?_)
      refine lv_iconst (v := 1) hx hb dL_restore_13 (by decide) ?_
      exact Cx_iret hO (Or.inl ⟨h1, rfl, rfl⟩) (by show 0 + rm.cells ≤ 40; omega) (by show 0 + rm.slots ≤ 300; omega) hx hb hr hP1 hD1 hS1 dL_restore_14 hlocks
    · have hca : (Cond.castable xS "java/lang/IllegalStateException").before args s = true := va_Nw.use rfl (hG.2.2.1.2.1 "java/lang/IllegalStateException" (by decide +kernel))
      refine vx_catch (own := RL) (name := "java/lang/IllegalStateException") hown [⟨0, 9, 12, 31⟩] ⟨0, 9, 15, 15⟩ [] (htab.trans rfl) (List.forall_mem_cons.mpr ⟨Or.inr ⟨by decide, "java/lang/IndexOutOfBoundsException", w_31, hC.2.1⟩, (fun z hz => by cases hz)⟩) rfl (by decide) w_15 hca hce hcv hcl ?_
      refine lv_astore_n (lv' := [(3, .ref q9), (0, .ref x), (1, .int p1), (2, .ref oA)]) hx hb dL_restore_15 rfl hl (by decide) rfl (fun ls hl => ?_)
      refine lv_iconst (v := 2) hx hb dL_restore_16 (by decide) ?_
      exact Cx_iret hO (Or.inr (Or.inl ⟨h1, rfl, rfl⟩)) (by show 0 + rm.cells ≤ 40; omega) (by show 0 + rm.slots ≤ 300; omega) hx hb hr hP1 hD1 hS1 dL_restore_17 hlocks
  · intro ov B w1 H locs h1 hB hP hD hS
    obtain ⟨v, rfl⟩ := hvv B ov w1 h1 hB
    refine W.eq (g2 := F0 m 7 ls [.int v, .int 0, .ref oA]) rfl ?_
    refine lv_i2l hx hb dL_restore_7 rfl ?_
    have hq : (w1 ++ (wr ++ ouW k oA g))[w1.length + wr.length]? = some (oA, (ouW k oA g)[0].2) := by rw [List.getElem?_append_right (by omega), Nat.add_sub_cancel_left, List.getElem?_append_right (Nat.le_refl _), Nat.sub_self]; rfl
    refine va_last hx hb hK hP hD hS (w1.length + wr.length) 4 hq rfl (inb_vp (by decide)) dL_restore_8 (fun H locs hP hD hS => ?_)
    have e9 : ∀ y, (w1 ++ (wr ++ ouW k oA g)).set (w1.length + wr.length) y = w1 ++ (wr ++ [y]) := fun y => by rw [List.set_append_right _ _ (by omega), Nat.add_sub_cancel_left, List.set_append_right _ _ (Nat.le_refl _), Nat.sub_self]; rfl
    rw [e9] at hP hD
    refine lv_goto (tgt := 18) hx hb dL_restore_9 (by decide) ?_
    refine lv_iconst (v := 0) hx hb dL_restore_18 (by decide) ?_
    exact Cx_iret hO (Or.inr (Or.inr (⟨B, v, w1, h1, hB, rfl, rfl⟩))) (by show 0 + rm.cells ≤ 40; omega) (by show 0 + rm.slots ≤ 300; omega) hx hb hr hP hD hS dL_restore_19 hlocks
