/-! the best turns -/
/-- the greatest of the values of 0, .., m, and the first place that has it -/
def fsN (f : Nat → Nat) : Nat → Nat × Nat
  | 0 => (f 0, 0)
  | m + 1 => if (fsN f m).1 < f (m + 1) then (f (m + 1), m + 1) else fsN f m
theorem fsN_le {B : Nat} {f : Nat → Nat} : ∀ m : Nat, (∀ d, d ≤ m → f d ≤ B) → (fsN f m).1 ≤ B ∧ (fsN f m).2 ≤ m
  | 0, h => ⟨h 0 (Nat.le_refl _), Nat.le_refl _⟩
  | m + 1, h => by
    obtain ⟨h1, h2⟩ := fsN_le m fun d hd => h d (by omega)
    rw [fsN]
    split
    · exact ⟨h _ (Nat.le_refl _), Nat.le_refl _⟩
    · exact ⟨h1, by omega⟩
def fbN (f : Nat → Nat) (d : Nat) : Int32 := if d = 0 then -1 else nI (fsN f (d - 1)).1
def ffN (f : Nat → Nat) (d : Nat) : Int32 := if d = 0 then -1 else nI (fsN f (d - 1)).2 - 1
set_option maxRecDepth 100000 in
set_option maxHeartbeats 4000000 in
theorem c_X1_bestTurns_x (l : Launch) (hst : l.stackTraces = false) (D : va_G) (k : Nat → ClassId) (cA nA tA : Nat → Nat) (T : TrV) (N : StV) (V : PoV) (tl : va_W) (hT : PoIs k cA V tl) (p1 p2 : Int32) (E : String) (hv : f_X1_checkRange p1 1 3 = some (.inl E)) : Cx l D (tyK k) yX1_bestTurns wsX1_bestTurns ({ frames := 12, cells := 34, slots := 231, locals := 700 } : Room) [.ref (cA 0), .int p1, .int p2] (trW k cA nA tA T ++ stW k nA N ++ tl) (trW k cA nA tA T ++ stW k nA N ++ tl) ((.inl E : Oc)) := by
  obtain ⟨O, hO⟩ : ∃ O : Oc, O = (.inl E : Oc) := ⟨_, rfl⟩
  rw [← hO]
  refine Cx_of (cc := cX1_bestTurns) (maxL := 7) (ret := (some .int)) (by decide) rfl (Nat.le_of_ble_eq_true rfl) ?_
  intro p e s m args below meth c A0 ls hx hb hr hml hts hown hlocks hnm htab hK hG hA hP hD hS hl
  have hl : lv_has ls 7 [(0, .ref (cA 0)), (1, .int p1), (2, .int p2)] := hl
  have hP : va_P D vwCl (trW k cA nA tA T ++ stW k nA N ++ tl) s.heap := hP
  have hD : va_D A0 (trW k cA nA tA T ++ stW k nA N ++ tl) := hD
  refine lv_iload_n hx hb dX1_bestTurns_0 rfl (lv_at hl 1 rfl) ?_
  refine lv_iconst (v := 1) hx hb dX1_bestTurns_1 (by decide) ?_
  refine lv_iconst (v := 3) hx hb dX1_bestTurns_2 (by decide) ?_
  exact Cx_thru (w0 := trW k cA nA tA T ++ stW k nA N ++ tl) hO rfl (vx_runS (As := [.int p1, .int 1, .int 3]) (rest := []) ⟨hx, hb, hml, hown, hts⟩ (c_X1_checkRange l hst D k  p1 1 3 (.inl E) hv _) (va_cwS 3 hts gX1_bestTurns_X1_checkRange rfl rfl rfl (by decide +kernel) ⟨(Nat.le_of_ble_eq_true rfl), (Nat.le_of_ble_eq_true rfl)⟩) ⟨Px_blind, Px_at (wc := ([] : va_W)) hK hG hP hD hS hA [] rfl (by decide)⟩ rfl rfl hl.1 rfl (Nat.le_of_ble_eq_true rfl) dX1_bestTurns_3 ⟨(Nat.le_of_ble_eq_true rfl), (Nat.le_of_ble_eq_true rfl)⟩) hP hD hS hA [] rfl htab hlocks (Nat.le_of_ble_eq_true rfl) (Nat.le_of_ble_eq_true rfl)
set_option maxRecDepth 100000 in
set_option maxHeartbeats 4000000 in
theorem c_X1_bestTurns (l : Launch) (hst : l.stackTraces = false) (D : va_G) (k : Nat → ClassId) (cA nA tA : Nat → Nat) (T : TrV) (N : StV) (V : PoV) (tl : va_W) (hT : PoIs k cA V tl) (n t : Nat) (R : Nat → Nat) (hAg : AgS n 0 N R) (hg : GN n R) (hc : R 53 + 15 < 2147483648) (ht : t ≤ 2) (hVC : ∀ b, VCp l D k t b) (p2 : Int32) : Cx l D (tyK k) yX1_bestTurns wsX1_bestTurns ({ frames := 12, cells := 34, slots := 231, locals := 700 } : Room) [.ref (cA 0), .int (nI (t + 1)), .int p2] (trW k cA nA tA T ++ stW k nA N ++ tl) (trW k cA nA tA T ++ stW k nA N ++ tl) ((.inr (fun (ov : Option Value) (w : va_W) => ov = some (.int (if p2 = 0 then nI (fsN (ovN n t R) n).1 else nI (fsN (ovN n t R) n).2 - 1)) ∧ ∃ (V9 : PoV) (tl9 : va_W), PoIs k cA V9 tl9 ∧ (∀ i, 3 ≤ i → V9 i = V i) ∧ w = trW k cA nA tA T ++ stW k nA N ++ tl9) : Oc)) := by
  obtain ⟨O, hO⟩ : ∃ O : Oc, O = (.inr (fun (ov : Option Value) (w : va_W) => ov = some (.int (if p2 = 0 then nI (fsN (ovN n t R) n).1 else nI (fsN (ovN n t R) n).2 - 1)) ∧ ∃ (V9 : PoV) (tl9 : va_W), PoIs k cA V9 tl9 ∧ (∀ i, 3 ≤ i → V9 i = V i) ∧ w = trW k cA nA tA T ++ stW k nA N ++ tl9) : Oc) := ⟨_, rfl⟩
  rw [← hO]
  refine Cx_of (cc := cX1_bestTurns) (maxL := 7) (ret := (some .int)) (by decide) rfl (Nat.le_of_ble_eq_true rfl) ?_
  intro p e s m args below meth c A0 ls hx hb hr hml hts hown hlocks hnm htab hK hG hA hP hD hS hl
  have hl : lv_has ls 7 [(0, .ref (cA 0)), (1, .int (nI (t + 1))), (2, .int p2)] := hl
  have hP : va_P D vwCl (trW k cA nA tA T ++ stW k nA N ++ tl) s.heap := hP
  have hD : va_D A0 (trW k cA nA tA T ++ stW k nA N ++ tl) := hD
  refine lv_iload_n hx hb dX1_bestTurns_0 rfl (lv_at hl 1 rfl) ?_
  refine lv_iconst (v := 1) hx hb dX1_bestTurns_1 (by decide) ?_
  refine lv_iconst (v := 3) hx hb dX1_bestTurns_2 (by decide) ?_
  obtain ⟨⟨n2, n6⟩, -⟩ := id hg
  have w_n : (Cond.fieldLinkNest RX1 94 "EffectTrain$State" "n" "I" "EffectTrain").before args s = true := va_Nw.use rfl (hG.2.2.2.2.1 (94, "EffectTrain$State", "n", "I", "EffectTrain") (by decide +kernel))
  have w_0 : ∀ w ∈ wsX00, w ∈ wsX1_bestTurns := by decide +kernel
  have w_1 : ∀ w ∈ wsX10, w ∈ wsX1_bestTurns := by decide +kernel
  have w_2 := hts (.fieldLink RX1 24 "EffectTrain" "now" "LEffectTrain$State;") (by decide +kernel)
  have hv : f_X1_checkRange (nI (t + 1)) 1 3 = some (.inr ()) := by
    rcases (show t = 0 ∨ t = 1 ∨ t = 2 by omega) with rfl | rfl | rfl <;> decide +kernel
  refine Cx_in (w0' := trW k cA nA tA T ++ stW k nA N ++ tl) (wc' := ([] : va_W)) rfl (vx_runS (As := [.int (nI (t + 1)), .int 1, .int 3]) (rest := []) ⟨hx, hb, hml, hown, hts⟩ (c_X1_checkRange l hst D k  (nI (t + 1)) 1 3 (.inr ()) hv _) (va_cwS 3 hts gX1_bestTurns_X1_checkRange rfl rfl rfl (by decide +kernel) ⟨(Nat.le_of_ble_eq_true rfl), (Nat.le_of_ble_eq_true rfl)⟩) ⟨Px_blind, Px_at (wc := ([] : va_W)) hK hG hP hD hS hA [] rfl (by decide)⟩ rfl rfl hl.1 rfl (Nat.le_of_ble_eq_true rfl) dX1_bestTurns_3 ⟨(Nat.le_of_ble_eq_true rfl), (Nat.le_of_ble_eq_true rfl)⟩) hP hD hS hA [] rfl rfl rfl (fun H locs hP hD hS => ?_)
  refine W.eq (g2 := F0 m 6 ls []) rfl ?_
  obtain ⟨A, hA1, hA2⟩ := hT
  have hin : inP (t + 1) A V := fun i a hi e h => by rw [(hA2 i (by omega)).mpr h] at e; cases e
  have hbnd : ∀ d, d ≤ n → ovN n t R d ≤ 2700 * (t + 1) := fun d hd => ovN_le hg hd
  have hLP : ∀ (r d : Nat) (A1 : AdV) (V1 : PoV) (tl1 : va_W) (H : Heap) (locs : List Loc) (ls : Array Slot) (z : List (Nat × Value)), d + r = n + 1 → PoA k cA A1 V1 tl1 → exP (t + 1) A V A1 V1 → (0 < d → prP (t + 1) A1) → va_P D vwCl (trW k cA nA tA T ++ stW k nA N ++ tl1) H → va_D A0 (trW k cA nA tA T ++ stW k nA N ++ tl1) → va_S A0 s.heap H locs → lv_has ls 7 [(5, .int (nI d - 1)), (4, .int (ffN (ovN n t R) d)), (3, .int (fbN (ovN n t R) d)), (0, .ref (cA 0)), (1, .int (nI (t + 1))), (2, .int p2)] → W p l e ({ frames := 12, cells := 34, slots := 231, locals := 700 } : Room) s m args below meth c H locs (1 + (if d = 0 then 0 else 11 * (t + 1))) (6 + (if d = 0 then 0 else 75 * (t + 1))) (vx_MQ below (Qx D A0 O) (Xx D A0 (trW k cA nA tA T ++ stW k nA N ++ tl) O) args s 34 231 A0) (F0 m 14 ls []) := by
    intro r
    induction r with
    | zero =>
      intro d A1 V1 tl1 H locs ls z hr9 hT hex hp1 hP hD hS hl
      have hd : d = n + 1 := by omega
      subst hd
      refine lv_iload hx hb dX1_bestTurns_14 (lv_at hl 0 rfl) ?_
      refine lv_aload_n hx hb dX1_bestTurns_16 rfl (lv_at hl 3 rfl) ?_
      refine va_get (D := D) (ci := 1) (v := .ref (nA 0)) (C := RX1) (T := TX1) (N := 11) hx hb hts w_1 hown hK hP 0 rfl rfl 3 (by decide) w_2 (fun _ h9 => h9) rfl dX1_bestTurns_17 ?_
      refine va_getN (D := D) (ci := 0) (v := .int (s_n N)) (C := RX0) (T := TX0) (N := 12) hx hb hts w_0 hown hK hP 4 rfl rfl 0 (by decide) w_n (fun _ h9 => h9) rfl dX1_bestTurns_20 ?_
      refine lv_icmp_ge (tgt := 58) hx hb dX1_bestTurns_23 (by decide) (fun c_2 => ?_) (fun c_2 => ?_)
      · refine lv_iload_n hx hb dX1_bestTurns_58 rfl (lv_at hl 5 rfl) ?_
        have hPI : PoIs k cA V1 tl1 := ⟨A1, hT, fun i hi => by
          by_cases h : i < t + 1
          · have q1 := hp1 (by omega) i h
            cases q2 : A1 i with
            | none => exact absurd q2 q1
            | some a => exact ⟨fun q => (by cases q), fun q => absurd q (hex.2.2 i a h q2)⟩
          · rw [(hex.1 i (by omega)).1, (hex.1 i (by omega)).2]
            exact hA2 i hi⟩
        have hVr : ∀ i, 3 ≤ i → V1 i = V i := fun i hi => (hex.1 i (by omega)).2
        have e1 : fbN (ovN n t R) (n + 1) = nI (fsN (ovN n t R) n).1 := by unfold fbN; rw [if_neg (by omega)]; rfl
        have e2 : ffN (ovN n t R) (n + 1) = nI (fsN (ovN n t R) n).2 - 1 := by unfold ffN; rw [if_neg (by omega)]; rfl
        rw [e1, e2] at hl
        refine lv_if_eq (tgt := 67) hx hb dX1_bestTurns_59 (by decide) (fun c_3 => ?_) (fun c_3 => ?_)
        · refine lv_iload_n hx hb dX1_bestTurns_67 rfl (lv_at hl 2 rfl) ?_
          exact Cx_iret hO ⟨by rw [if_pos c_3], V1, tl1, hPI, hVr, rfl⟩ (by rw [if_neg (show ¬ n + 1 = 0 by omega)]; omega) (by rw [if_neg (show ¬ n + 1 = 0 by omega)]; omega) hx hb hr hP hD hS dX1_bestTurns_68 hlocks
        · refine lv_iload hx hb dX1_bestTurns_62 (lv_at hl 1 rfl) ?_
          refine lv_goto (tgt := 68) hx hb dX1_bestTurns_64 (by decide) ?_
          exact Cx_iret hO ⟨by rw [if_neg c_3], V1, tl1, hPI, hVr, rfl⟩ (by rw [if_neg (show ¬ n + 1 = 0 by omega)]; omega) (by rw [if_neg (show ¬ n + 1 = 0 by omega)]; omega) hx hb hr hP hD hS dX1_bestTurns_68 hlocks
      · exact absurd (by rw [hAg.1, nI_pred]; exact (nI_leF (by omega) (by omega)).mpr (Nat.le_refl _)) c_2
    | succ r ih =>
      intro d A1 V1 tl1 H locs ls z hr9 hT hex hp1 hP hD hS hl
      have hdn : d ≤ n := by omega
      refine lv_iload hx hb dX1_bestTurns_14 (lv_at hl 0 rfl) ?_
      refine lv_aload_n hx hb dX1_bestTurns_16 rfl (lv_at hl 3 rfl) ?_
      refine va_get (D := D) (ci := 1) (v := .ref (nA 0)) (C := RX1) (T := TX1) (N := 11) hx hb hts w_1 hown hK hP 0 rfl rfl 3 (by decide) w_2 (fun _ h9 => h9) rfl dX1_bestTurns_17 ?_
      refine va_getN (D := D) (ci := 0) (v := .int (s_n N)) (C := RX0) (T := TX0) (N := 12) hx hb hts w_0 hown hK hP 4 rfl rfl 0 (by decide) w_n (fun _ h9 => h9) rfl dX1_bestTurns_20 ?_
      refine lv_icmp_ge (tgt := 58) hx hb dX1_bestTurns_23 (by decide) (fun c_2 => ?_) (fun c_2 => ?_)
      · refine absurd c_2 ?_
        rw [hAg.1]
        intro q
        have q1 : (nI n).toInt ≤ (nI d - 1).toInt := Int32.le_iff_toInt_le.mp q
        rw [nI_toInt (lt31 (show n < 2147483648 by omega))] at q1
        rcases d with _ | d
        · have q2 : (nI 0 - 1).toInt = -1 := by decide
          omega
        · rw [nI_pred, nI_toInt (lt31 (show d < 2147483648 by omega))] at q1
          omega
      refine lv_aload_n hx hb dX1_bestTurns_26 rfl (lv_at hl 3 rfl) ?_
      refine lv_aload_n hx hb dX1_bestTurns_27 rfl (lv_at hl 3 rfl) ?_
      refine va_get (D := D) (ci := 1) (v := .ref (nA 0)) (C := RX1) (T := TX1) (N := 11) hx hb hts w_1 hown hK hP 0 rfl rfl 3 (by decide) w_2 (fun _ h9 => h9) rfl dX1_bestTurns_28 ?_
      refine lv_iload hx hb dX1_bestTurns_31 (lv_at hl 0 rfl) ?_
      refine lv_iload_n hx hb dX1_bestTurns_33 rfl (lv_at hl 4 rfl) ?_
      obtain ⟨bb, hbb⟩ : ∃ bb : Bool, bb = decide (0 < d) := ⟨_, rfl⟩
      have hbp : bb = true → prP (t + 1) A1 := fun q => hp1 (by rw [hbb] at q; exact of_decide_eq_true q)
      have hcc : (1 + (if d = 0 then 0 else 11 * (t + 1))) + (if bb then 0 else 11 * (t + 1)) = 1 + 11 * (t + 1) := by
        rw [hbb]
        by_cases h0 : d = 0
        · subst h0; simp
        · have : 0 < d := by omega
          simp [h0, this]
      have hcs : (6 + (if d = 0 then 0 else 75 * (t + 1))) + (if bb then 0 else 75 * (t + 1)) = 6 + 75 * (t + 1) := by
        rw [hbb]
        by_cases h0 : d = 0
        · subst h0; simp
        · have : 0 < d := by omega
          simp [h0, this]
      refine Cx_go (vx_runV (As := [.ref (nA 0), .int (nI d - 1), .int (nI (t + 1))]) (rest := []) ⟨hx, hb, hml, hown, hts⟩ (hVC bb cA nA tA nA T N n R d A1 V1 tl1 hAg hg (by omega) hdn hT hex.2.2 hbp _) (cwV 3 hts gX1_bestTurns_X1_vaporWithChoice rfl rfl rfl (by decide +kernel) ⟨(by show 7 + 2 * t + 1 ≤ 12; omega), (by show 8 + (5 + 11) + (530 + 60 * t) ≤ 700; omega)⟩) ⟨Px_blind, va_recv (q0 := 0) (ci := 1) hK hP rfl rfl, Px_at (wc := trW k cA nA tA T ++ stW k nA N ++ tl1) hK hG hP hD hS hA (List.range (trW k cA nA tA T ++ stW k nA N ++ tl1).length) (rg_hi0 _) (rg_nd _)⟩ rfl rfl hl.1 rfl (Nat.le_of_ble_eq_true rfl) dX1_bestTurns_34 ⟨(by show _ + (if bb then 0 else 11 * (t + 1)) ≤ 34; rw [hcc]; omega), (by show _ + (if bb then 0 else 75 * (t + 1)) ≤ 231; rw [hcs]; omega)⟩) hP hD hS hA (List.range (trW k cA nA tA T ++ stW k nA N ++ tl1).length) (rg_hi0 _) (fun _ _ _ _ _ h1 => nomatch h1) ?_
      intro ov B wc1 H1 locs1 h1 hB hP1 hD1 hk1 hF1 hS1
      cases h1
      obtain ⟨rfl, A2, V2, tl2, hT2, hex2, hp2, rfl⟩ := hB
      have hD2 := hD1.weaken (fun _ q _ h => hF1 q.1 h)
      refine W.widen (k := 1 + 11 * (t + 1)) (n := 6 + 75 * (t + 1)) (Nat.le_of_eq hcc) (Nat.le_of_eq hcs) ?_
      refine W.eq (g2 := F0 m 37 ls [.int (if okC R d then nI (wvN n t R d) else (-1))]) rfl ?_
      refine lv_istore (lv' := [(6, .int (if okC R d then nI (wvN n t R d) else (-1))), (5, .int (nI d - 1)), (4, .int (ffN (ovN n t R) d)), (3, .int (fbN (ovN n t R) d)), (0, .ref (cA 0)), (1, .int (nI (t + 1))), (2, .int p2)]) hx hb dX1_bestTurns_37 hl (by decide) rfl (fun ls hl => ?_)
      refine lv_iload hx hb dX1_bestTurns_39 (lv_at hl 0 rfl) ?_
      refine lv_iload_n hx hb dX1_bestTurns_41 rfl (lv_at hl 3 rfl) ?_
      have hok0 : 0 < d + 1 → prP (t + 1) A2 := by
        intro _
        by_cases h0 : 0 < d
        · exact hex2.pr (Nat.le_refl _) (hp1 h0)
        · exact hp2 (Or.inl (by omega))
      have e9 : nI d - 1 + 1 = nI (d + 1) - 1 := by
        rw [nI_pred]
        rcases d with _ | d
        · decide
        · rw [nI_pred, nI_s1]
      have hfit := (hbnd d hdn)
      have hwv : wvN n t R d ≤ 2700 * (t + 1) := by
        have h1 := (vpC_le hg hdn).2
        have h2 := bsN_le t _ (hg.nx hdn)
        unfold wvN
        omega
      have hpair : ((if okC R d then nI (wvN n t R d) else (-1)) ≤ fbN (ovN n t R) d → fbN (ovN n t R) (d + 1) = fbN (ovN n t R) d ∧ ffN (ovN n t R) (d + 1) = ffN (ovN n t R) d) ∧ (¬ (if okC R d then nI (wvN n t R d) else (-1)) ≤ fbN (ovN n t R) d → fbN (ovN n t R) (d + 1) = (if okC R d then nI (wvN n t R d) else (-1)) ∧ ffN (ovN n t R) (d + 1) = nI d - 1) := by
        rcases d with _ | d
        · have hok : okC R 0 := Or.inl rfl
          have q1 : fbN (ovN n t R) 1 = nI (wvN n t R 0) := by show nI (ovN n t R 0) = _; unfold ovN; rw [if_pos hok]
          have q2 : ffN (ovN n t R) 1 = nI 0 - 1 := rfl
          have q3 : ¬ nI (wvN n t R 0) ≤ fbN (ovN n t R) 0 := by
            intro q
            have q4 : (nI (wvN n t R 0)).toInt ≤ (-1 : Int32).toInt := Int32.le_iff_toInt_le.mp q
            rw [nI_toInt (lt31 (by omega))] at q4
            have q5 : (-1 : Int32).toInt = -1 := by decide
            omega
          rw [if_pos hok]
          exact ⟨fun q => absurd q q3, fun _ => ⟨q1, q2⟩⟩
        · have hb1 := (fsN_le (B := 2700 * (t + 1)) (f := ovN n t R) d fun y hy => hbnd y (by omega)).1
          have q0 : fbN (ovN n t R) (d + 1) = nI (fsN (ovN n t R) d).1 := rfl
          have q0f : ffN (ovN n t R) (d + 1) = nI (fsN (ovN n t R) d).2 - 1 := rfl
          have q1 : fbN (ovN n t R) (d + 1 + 1) = nI (fsN (ovN n t R) (d + 1)).1 := rfl
          have q2 : ffN (ovN n t R) (d + 1 + 1) = nI (fsN (ovN n t R) (d + 1)).2 - 1 := rfl
          rw [q1, q2, q0, q0f, fsN]
          have hov : ovN n t R (d + 1) = if okC R (d + 1) then wvN n t R (d + 1) else 0 := rfl
          by_cases hok : okC R (d + 1)
          · rw [if_pos hok] at hov
            rw [if_pos hok, hov]
            by_cases hlt : (fsN (ovN n t R) d).1 < wvN n t R (d + 1)
            · rw [if_pos hlt]
              exact ⟨fun q => absurd ((nI_leF (by omega) (by omega)).mp q) (by omega), fun _ => ⟨rfl, rfl⟩⟩
            · rw [if_neg hlt]
              exact ⟨fun _ => ⟨rfl, rfl⟩, fun q => absurd ((nI_leF (by omega) (by omega)).mpr (by omega)) q⟩
          · rw [if_neg hok] at hov
            rw [if_neg hok, hov, if_neg (show ¬ (fsN (ovN n t R) d).1 < 0 by omega)]
            refine ⟨fun _ => ⟨rfl, rfl⟩, fun q => absurd ?_ q⟩
            rw [Int32.le_iff_toInt_le, nI_toInt (lt31 (by omega))]
            have q5 : (-1 : Int32).toInt = -1 := by decide
            omega
      have hjn : ∀ (ls : Array Slot), lv_has ls 7 [(6, .int (if okC R d then nI (wvN n t R d) else (-1))), (5, .int (nI d - 1)), (4, .int (ffN (ovN n t R) (d + 1))), (3, .int (fbN (ovN n t R) (d + 1))), (0, .ref (cA 0)), (1, .int (nI (t + 1))), (2, .int p2)] → W p l e ({ frames := 12, cells := 34, slots := 231, locals := 700 } : Room) s m args below meth c H1 locs1 (1 + 11 * (t + 1)) (6 + 75 * (t + 1)) (vx_MQ below (Qx D A0 O) (Xx D A0 (trW k cA nA tA T ++ stW k nA N ++ tl) O) args s 34 231 A0) (F0 m 52 ls []) := by
        intro ls hl
        refine lv_iinc (v := nI d - 1 + 1) (lv' := [(5, .int (nI d - 1 + 1)), (6, .int (if okC R d then nI (wvN n t R d) else (-1))), (4, .int (ffN (ovN n t R) (d + 1))), (3, .int (fbN (ovN n t R) (d + 1))), (0, .ref (cA 0)), (1, .int (nI (t + 1))), (2, .int p2)]) hx hb dX1_bestTurns_52 hl (k := 1) rfl rfl (by decide) rfl (fun ls hl => ?_)
        refine lv_goto (tgt := 14) hx hb dX1_bestTurns_55 (by decide) ?_
        rw [e9] at hl
        have hih := ih (d + 1) A2 V2 tl2 H1 locs1 ls [] (by omega) hT2 (hex.trans hex2) hok0 hP1 hD2 hS1 (lv_sub hl [0, 2, 3, 4, 5, 6] rfl)
        rw [if_neg (show ¬ d + 1 = 0 by omega), if_neg (show ¬ d + 1 = 0 by omega)] at hih
        exact hih
      refine lv_icmp_le (tgt := 52) hx hb dX1_bestTurns_42 (by decide) (fun c_3 => ?_) (fun c_3 => ?_)
      · obtain ⟨z1, z2⟩ := hpair.1 c_3
        exact hjn ls (by rw [z1, z2]; exact hl)
      · obtain ⟨z1, z2⟩ := hpair.2 c_3
        refine lv_iload hx hb dX1_bestTurns_45 (lv_at hl 0 rfl) ?_
        refine lv_istore_n (lv' := [(3, .int (if okC R d then nI (wvN n t R d) else (-1))), (6, .int (if okC R d then nI (wvN n t R d) else (-1))), (5, .int (nI d - 1)), (4, .int (ffN (ovN n t R) d)), (0, .ref (cA 0)), (1, .int (nI (t + 1))), (2, .int p2)]) hx hb dX1_bestTurns_47 rfl hl (by decide) rfl (fun ls hl => ?_)
        refine lv_iload hx hb dX1_bestTurns_48 (lv_at hl 2 rfl) ?_
        refine lv_istore (lv' := [(4, .int (nI d - 1)), (3, .int (if okC R d then nI (wvN n t R d) else (-1))), (6, .int (if okC R d then nI (wvN n t R d) else (-1))), (5, .int (nI d - 1)), (0, .ref (cA 0)), (1, .int (nI (t + 1))), (2, .int p2)]) hx hb dX1_bestTurns_50 hl (by decide) rfl (fun ls hl => ?_)
        exact hjn ls (by rw [z1, z2]; exact lv_sub hl [2, 3, 0, 1, 4, 5, 6] rfl)
  refine lv_iconst (v := (-1)) hx hb dX1_bestTurns_6 (by decide) ?_
  refine lv_istore_n (lv' := [(3, .int (-1)), (0, .ref (cA 0)), (1, .int (nI (t + 1))), (2, .int p2)]) hx hb dX1_bestTurns_7 rfl hl (by decide) rfl (fun ls hl => ?_)
  refine lv_iconst (v := (-1)) hx hb dX1_bestTurns_8 (by decide) ?_
  refine lv_istore (lv' := [(4, .int (-1)), (3, .int (-1)), (0, .ref (cA 0)), (1, .int (nI (t + 1))), (2, .int p2)]) hx hb dX1_bestTurns_9 hl (by decide) rfl (fun ls hl => ?_)
  refine lv_iconst (v := (-1)) hx hb dX1_bestTurns_11 (by decide) ?_
  refine lv_istore (lv' := [(5, .int (-1)), (4, .int (-1)), (3, .int (-1)), (0, .ref (cA 0)), (1, .int (nI (t + 1))), (2, .int p2)]) hx hb dX1_bestTurns_12 hl (by decide) rfl (fun ls hl => ?_)
  have hl : lv_has ls 7 [(5, .int (nI 0 - 1)), (4, .int (ffN (ovN n t R) 0)), (3, .int (fbN (ovN n t R) 0)), (0, .ref (cA 0)), (1, .int (nI (t + 1))), (2, .int p2)] := by rw [show nI 0 - 1 = (-1 : Int32) by decide]; exact hl
  exact hLP (n + 1) 0 A V tl _ _ ls [] (by omega) hA1 (exP.refl hin) (fun h => by omega) hP hD hS hl
/-- the recursion, closed -/
theorem c_X1_VC (l : Launch) (hst : l.stackTraces = false) (D : va_G) (k : Nat → ClassId) (t : Nat) (ht : t ≤ 2) (b : Bool) : VCp l D k t b := by
  have g0 : ∀ b, GVp l D k 0 b := fun b => c_X1_greatestVapor l hst D k 0 (by omega) (fun u h => by omega) b
  have v0 : ∀ b, VCp l D k 0 b := fun b => c_X1_vaporWithChoice l hst D k 0 (by omega) g0 b
  have g1 : ∀ b, GVp l D k 1 b := fun b => c_X1_greatestVapor l hst D k 1 (by omega) (fun u h b => by
    have : u = 0 := by omega
    subst this
    exact v0 b) b
  have v1 : ∀ b, VCp l D k 1 b := fun b => c_X1_vaporWithChoice l hst D k 1 (by omega) g1 b
  have g2 : ∀ b, GVp l D k 2 b := fun b => c_X1_greatestVapor l hst D k 2 (by omega) (fun u h b => by
    have : u = 1 := by omega
    subst this
    exact v1 b) b
  rcases (show t = 0 ∨ t = 1 ∨ t = 2 by omega) with rfl | rfl | rfl
  · exact v0 b
  · exact v1 b
  · exact c_X1_vaporWithChoice l hst D k 2 (by omega) g2 b
