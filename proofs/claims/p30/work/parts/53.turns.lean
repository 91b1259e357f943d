/-! turns: the greatest vapor, in numbers -/
abbrev okC (R : Nat → Nat) (d : Nat) : Prop := d = 0 ∨ R (42 + (d - 1)) = 0
def chR (R : Nat → Nat) (d : Nat) : Nat → Nat := if d = 0 then R else upN R (42 + (d - 1)) 5
def vpC (n : Nat) (R : Nat → Nat) (d : Nat) : Nat := tkM n 5 (chR R d) 55 - R 55
def nxR5 (n : Nat) (R : Nat → Nat) (d : Nat) : Nat → Nat := tkM n 5 (chR R d)
def mxD : Nat → (Nat → Nat) → Nat
  | 0, _ => 0
  | m + 1, f => max (mxD m f) (f m)
def bsN (n : Nat) : Nat → (Nat → Nat) → Nat
  | 0, _ => 0
  | t + 1, R => mxD (n + 1) fun d => if okC R d then vpC n R d + bsN n t (nxR5 n R d) else 0
def wvN (n t : Nat) (R : Nat → Nat) (d : Nat) : Nat := vpC n R d + bsN n t (nxR5 n R d)
def ovN (n t : Nat) (R : Nat → Nat) (d : Nat) : Nat := if okC R d then wvN n t R d else 0
theorem mxD_le {B : Nat} {f : Nat → Nat} : ∀ m : Nat, (∀ d, d < m → f d ≤ B) → mxD m f ≤ B
  | 0, _ => Nat.zero_le _
  | m + 1, h => by
    have h1 := mxD_le m fun d hd => h d (by omega)
    have h2 := h m (by omega)
    show max (mxD m f) (f m) ≤ B
    omega
theorem GN.ch {n d : Nat} {R : Nat → Nat} (hg : GN n R) (hd : d ≤ n) : GN n (chR R d) := by
  unfold chR
  by_cases h : d = 0
  · rw [if_pos h]; exact hg
  · rw [if_neg h]; exact hg.left (by omega) (by omega)
theorem chR_o {R : Nat → Nat} {d k : Nat} (h : 48 ≤ k) (hd : d ≤ 6) : chR R d k = R k := by
  unfold chR
  by_cases h0 : d = 0
  · rw [if_pos h0]
  · rw [if_neg h0, upN_o (by omega)]
theorem boL_55 : ∀ (d i h : Nat) (R : Nat → Nat), i + d ≤ 6 → (∀ q, q < 6 → i ≤ q → q < i + d → R q ≤ 9) → R 55 ≤ (boL d i h R).2 55 ∧ (boL d i h R).2 55 ≤ R 55 + 90 * d
  | 0, i, h, R, _, _ => ⟨Nat.le_refl _, Nat.le_add_right _ _⟩
  | d + 1, i, h, R, hi, hr => by
    rw [boL]
    by_cases w : R (42 + i) = 0
    · rw [if_pos w]
      have hv := vaN_le (R := R) (i := i) (h := h)
      have hpw := pwN_le (R := R) (i := i) (hr i (by omega) (by omega) (by omega))
      have e : bo1 R i h 55 = R 55 + vaN R i h := by
        unfold bo1
        rw [upN_o (by omega), upN_o (by omega), upN_o (by omega), upN_o (by omega), upN_s]
      have ih := boL_55 d (i + 1) (vaN R i h - blN R i h) (bo1 R i h) (by omega) fun q h1 h2 h3 => by
        have : bo1 R i h q = R q := by
          unfold bo1
          rw [upN_o (by omega), upN_o (by omega), upN_o (by omega), upN_o (by omega), upN_o (by omega), upN_o (by omega)]
        rw [this]
        exact hr q h1 (by omega) (by omega)
      rw [e] at ih
      obtain ⟨ih1, ih2⟩ := ih
      have : 90 * (d + 1) = 90 * d + 90 := by omega
      exact ⟨by omega, by omega⟩
    · rw [if_neg w]
      obtain ⟨ih1, ih2⟩ := boL_55 d (i + 1) h R (by omega) fun q h1 h2 h3 => hr q h1 (by omega) (by omega)
      exact ⟨ih1, by omega⟩
theorem tkN_55 {n : Nat} {R : Nat → Nat} (hg : GN n R) : R 55 ≤ tkN n R 55 ∧ tkN n R 55 ≤ R 55 + 540 := by
  obtain ⟨⟨n2, n6⟩, hge, -⟩ := id hg.turn
  have ht : tuN n R < n := mxN_lt (n - 1) 1 0 (by omega) (by omega)
  have e1 : trnN n R 55 = R 55 := by
    unfold trnN
    split
    · rfl
    · split
      · split
        · split
          · rfl
          · exact upN_o (by omega)
        · rfl
      · rfl
  unfold tkN taN
  rw [upN_o (by omega), wsN_o n6 (by omega), flN_o (by omega) (by omega) (by omega), ← e1]
  generalize trnN n R = P at *
  unfold boilN
  split
  · omega
  · rw [upN_o (by omega)]
    have e2 : upN P 54 (P 54 + P 48) 55 = P 55 := upN_o (by omega)
    obtain ⟨h1, h2⟩ := boL_55 n 0 (P 48) (upN P 54 (P 54 + P 48)) (by omega) fun q h1 h2 h3 => by
      rw [upN_o (by omega)]
      exact (hge q (by omega)).1.2
    rw [e2] at h1 h2
    exact ⟨h1, by omega⟩
theorem tkM_55 {n : Nat} : ∀ (m : Nat) (R : Nat → Nat), GN n R → R 55 ≤ tkM n m R 55 ∧ tkM n m R 55 ≤ R 55 + 540 * m
  | 0, R, _ => ⟨Nat.le_refl _, Nat.le_refl _⟩
  | m + 1, R, hg => by
    rw [tkM]
    obtain ⟨h1, h2⟩ := tkN_55 hg
    obtain ⟨h3, h4⟩ := tkM_55 m _ hg.tick
    exact ⟨by omega, by omega⟩
theorem vpC_le {n d : Nat} {R : Nat → Nat} (hg : GN n R) (hd : d ≤ n) : R 55 + vpC n R d = tkM n 5 (chR R d) 55 ∧ vpC n R d ≤ 2700 := by
  obtain ⟨⟨n2, n6⟩, -⟩ := id hg
  obtain ⟨h1, h2⟩ := tkM_55 5 _ (hg.ch hd)
  rw [chR_o (by omega) (by omega)] at h1 h2
  unfold vpC
  exact ⟨by omega, by omega⟩
theorem GN.nx {n d : Nat} {R : Nat → Nat} (hg : GN n R) (hd : d ≤ n) : GN n (nxR5 n R d) := GN.ticks 5 _ (hg.ch hd)
theorem bsN_le {n : Nat} : ∀ (t : Nat) (R : Nat → Nat), GN n R → bsN n t R ≤ 2700 * t
  | 0, _, _ => Nat.le_refl _
  | t + 1, R, hg => by
    rw [bsN]
    refine mxD_le _ fun d hd => ?_
    split
    · have h1 := (vpC_le hg (show d ≤ n by omega)).2
      have h2 := bsN_le t _ (hg.nx (show d ≤ n by omega))
      omega
    · omega
theorem ovN_le {n t d : Nat} {R : Nat → Nat} (hg : GN n R) (hd : d ≤ n) : ovN n t R d ≤ 2700 * (t + 1) := by
  unfold ovN wvN
  split
  · have h1 := (vpC_le hg hd).2
    have h2 := bsN_le t _ (hg.nx hd)
    omega
  · omega
theorem mx_ok {b : Nat} {n t d : Nat} {R : Nat → Nat} (hb : b < 2147483648) (hw : wvN n t R d < 2147483648) : mx (nI b) (if okC R d then nI (wvN n t R d) else (-1)) = nI (max b (ovN n t R d)) := by
  unfold mx ovN
  by_cases h : okC R d
  · rw [if_pos h, if_pos h]
    by_cases e : b < wvN n t R d
    · rw [if_pos ((nI_ltF hb hw).mpr e), Nat.max_eq_right (by omega)]
    · rw [if_neg (fun q => e ((nI_ltF hb hw).mp q)), Nat.max_eq_left (by omega)]
  · rw [if_neg h, if_neg h, Nat.max_eq_left (by omega)]
    rw [if_neg]
    intro q
    have h1 : (nI b).toInt < (-1 : Int32).toInt := Int32.lt_iff_toInt_lt.mp q
    rw [nI_toInt (lt31 hb)] at h1
    have h2 : (-1 : Int32).toInt = -1 := by decide
    omega
/-- how the pool may change in u turns: places from u on are as they were, no state is lost -/
def exP (u : Nat) (A : AdV) (V : PoV) (A' : AdV) (V' : PoV) : Prop := (∀ i, u ≤ i → A' i = A i ∧ V' i = V i) ∧ (∀ i a, i < u → A i = some a → A' i = some a) ∧ ∀ i a, i < u → A' i = some a → V' i ≠ none
/-- no place below u is out -/
def inP (u : Nat) (A : AdV) (V : PoV) : Prop := ∀ i a, i < u → A i = some a → V i ≠ none
def prP (u : Nat) (A : AdV) : Prop := ∀ i, i < u → A i ≠ none
theorem exP.refl {u : Nat} {A : AdV} {V : PoV} (h : inP u A V) : exP u A V A V := ⟨fun _ _ => ⟨rfl, rfl⟩, fun _ _ _ h => h, h⟩
theorem exP.trans {u : Nat} {A A' A'' : AdV} {V V' V'' : PoV} (h : exP u A V A' V') (g : exP u A' V' A'' V'') : exP u A V A'' V'' :=
  ⟨fun i hi => ⟨(g.1 i hi).1.trans (h.1 i hi).1, (g.1 i hi).2.trans (h.1 i hi).2⟩, fun i a hi e => g.2.1 i a hi (h.2.1 i a hi e), g.2.2⟩
theorem exP.pr {u v : Nat} {A A' : AdV} {V V' : PoV} (h : exP u A V A' V') (hv : v ≤ u) (g : prP v A) : prP v A' := fun i hi e => by
  cases ha : A i with
  | none => exact g i hi ha
  | some a => rw [h.2.1 i a (by omega) ha] at e; cases e
abbrev rmG (t : Nat) (b : Bool) : Room := { frames := 6 + 2 * t, cells := if b then 0 else 11 * t, slots := if b then 0 else 75 * t, locals := 500 + 60 * t }
abbrev rmV (t : Nat) (b : Bool) : Room := { frames := 7 + 2 * t, cells := if b then 0 else 11 * (t + 1), slots := if b then 0 else 75 * (t + 1), locals := 530 + 60 * t }
theorem pm_3 {F A B C : va_W} : List.Perm (F ++ A ++ B ++ C) ((F ++ B ++ C) ++ A) := by
  rw [List.append_assoc F A B, List.append_assoc F (A ++ B) C, List.append_assoc F B C, List.append_assoc F (B ++ C) A, List.append_assoc A B C]
  exact List.perm_append_comm.append_left _
theorem pm_4 {F A B C : va_W} : List.Perm ((F ++ B ++ C) ++ A) (F ++ A ++ (B ++ C)) := by
  rw [List.append_assoc F B C, List.append_assoc F (B ++ C) A, List.append_assoc F A (B ++ C)]
  exact List.perm_append_comm.append_left _
def GVp (l : Launch) (D : va_G) (k : Nat → ClassId) (t : Nat) (b : Bool) : Prop := ∀ (cA nA tA sA : Nat → Nat) (T : TrV) (S : StV) (n : Nat) (R : Nat → Nat) (A : AdV) (V : PoV) (tl : va_W), AgS n 0 S R → GN n R → R 53 + 5 * t < 2147483648 → PoA k cA A V tl → inP t A V → (b = true → prP t A) →
  Cx l D (tyK k) yX1_greatestVapor wsX1_greatestVapor (rmG t b) [.ref (cA 0), .ref (sA 0), .int (nI t)] (trW k cA nA tA T ++ stW k sA S ++ tl) (trW k cA nA tA T ++ stW k sA S ++ tl) (.inr (fun (ov : Option Value) (w : va_W) => ov = some (.int (nI (bsN n t R))) ∧ ∃ (A1 : AdV) (V1 : PoV) (tl1 : va_W), PoA k cA A1 V1 tl1 ∧ exP t A V A1 V1 ∧ prP t A1 ∧ w = trW k cA nA tA T ++ stW k sA S ++ tl1))
def VCp (l : Launch) (D : va_G) (k : Nat → ClassId) (t : Nat) (b : Bool) : Prop := ∀ (cA nA tA sA : Nat → Nat) (T : TrV) (S : StV) (n : Nat) (R : Nat → Nat) (d : Nat) (A : AdV) (V : PoV) (tl : va_W), AgS n 0 S R → GN n R → R 53 + 5 * (t + 1) < 2147483648 → d ≤ n → PoA k cA A V tl → inP (t + 1) A V → (b = true → prP (t + 1) A) →
  Cx l D (tyK k) yX1_vaporWithChoice wsX1_vaporWithChoice (rmV t b) [.ref (cA 0), .ref (sA 0), .int (nI d - 1), .int (nI (t + 1))] (trW k cA nA tA T ++ stW k sA S ++ tl) (trW k cA nA tA T ++ stW k sA S ++ tl) (.inr (fun (ov : Option Value) (w : va_W) => ov = some (.int (if okC R d then nI (wvN n t R d) else (-1))) ∧ ∃ (A1 : AdV) (V1 : PoV) (tl1 : va_W), PoA k cA A1 V1 tl1 ∧ exP (t + 1) A V A1 V1 ∧ (okC R d → prP (t + 1) A1) ∧ w = trW k cA nA tA T ++ stW k sA S ++ tl1))
set_option maxRecDepth 100000 in
set_option maxHeartbeats 4000000 in
theorem c_X1_greatestVapor (l : Launch) (hst : l.stackTraces = false) (D : va_G) (k : Nat → ClassId) (t : Nat) (ht : t ≤ 3) (hV : ∀ u, t = u + 1 → ∀ b, VCp l D k u b) (b : Bool) : GVp l D k t b := by
  intro cA nA tA sA T S n R A V tl hAg hg hc hT hin hpr
  obtain ⟨⟨n2, n6⟩, -⟩ := id hg
  obtain ⟨O, hO⟩ : ∃ O : Oc, O = .inr (fun (ov : Option Value) (w : va_W) => ov = some (.int (nI (bsN n t R))) ∧ ∃ (A1 : AdV) (V1 : PoV) (tl1 : va_W), PoA k cA A1 V1 tl1 ∧ exP t A V A1 V1 ∧ prP t A1 ∧ w = trW k cA nA tA T ++ stW k sA S ++ tl1) := ⟨_, rfl⟩
  rw [← hO]
  refine Cx_of (cc := cX1_greatestVapor) (maxL := 5) (ret := (some .int)) (by decide) rfl (Nat.le_of_ble_eq_true rfl) ?_
  intro p e s m args below meth c A0 ls hx hb hr hml hts hown hlocks hnm htab hK hG hA hP hD hS hl
  have hl : lv_has ls 5 [(0, .ref (cA 0)), (1, .ref (sA 0)), (2, .int (nI t))] := hl
  have hP : va_P D vwCl (trW k cA nA tA T ++ stW k sA S ++ tl) s.heap := hP
  have hD : va_D A0 (trW k cA nA tA T ++ stW k sA S ++ tl) := hD
  have w_n : (Cond.fieldLinkNest RX1 94 "EffectTrain$State" "n" "I" "EffectTrain").before args s = true := va_Nw.use rfl (hG.2.2.2.2.1 (94, "EffectTrain$State", "n", "I", "EffectTrain") (by decide +kernel))
  have w_0 : ∀ w ∈ wsX00, w ∈ wsX1_greatestVapor := by decide +kernel
  have w_a := hts (.methodLink RX1 167 Lib.Math.max.name) (by decide +kernel)
  have w_b := hts (.static Lib.Math.max.name) (by decide +kernel)
  have w_c := hts (.initialized "java/lang/Math") (by decide +kernel)
  have w_d := hts (.code Lib.Math.max.name Lib.Math.max.code 2 (some .int)) (by decide +kernel)
  refine lv_iconst (v := 0) hx hb dX1_greatestVapor_0 (by decide) ?_
  refine lv_istore_n (lv' := [(3, .int 0), (0, .ref (cA 0)), (1, .ref (sA 0)), (2, .int (nI t))]) hx hb dX1_greatestVapor_1 rfl hl (by decide) rfl (fun ls hl => ?_)
  refine lv_iload_n hx hb dX1_greatestVapor_2 rfl (lv_at hl 3 rfl) ?_
  rcases t with _ | t
  · refine lv_if_le (tgt := 37) hx hb dX1_greatestVapor_3 (by decide) (fun c_1 => ?_) (fun c_1 => ?_)
    · skip
      refine lv_iload_n hx hb dX1_greatestVapor_37 rfl (lv_at hl 0 rfl) ?_
      exact Cx_iret hO ⟨rfl, A, V, tl, hT, exP.refl hin, (fun i hi => by omega), rfl⟩ (Nat.zero_le _) (Nat.zero_le _) hx hb hr hP hD hS dX1_greatestVapor_38 hlocks
    · exact absurd (by decide) c_1
  · refine lv_if_le (tgt := 37) hx hb dX1_greatestVapor_3 (by decide) (fun c_1 => ?_) (fun c_1 => ?_)
    · exact absurd c_1 (nI_nle (by omega) (lt31 (by omega)))
    have hVC := hV t rfl
    have hLP : ∀ (r d : Nat) (A1 : AdV) (V1 : PoV) (tl1 : va_W) (H : Heap) (locs : List Loc) (ls : Array Slot), d + r = n + 1 → PoA k cA A1 V1 tl1 → exP (t + 1) A V A1 V1 → (0 < d → prP (t + 1) A1) → va_P D vwCl (trW k cA nA tA T ++ stW k sA S ++ tl1) H → va_D A0 (trW k cA nA tA T ++ stW k sA S ++ tl1) → va_S A0 s.heap H locs → lv_has ls 5 [(4, .int (nI d - 1)), (3, .int (nI (mxD d (ovN n t R)))), (0, .ref (cA 0)), (1, .ref (sA 0)), (2, .int (nI (t + 1)))] → W p l e (rmG (t + 1) b) s m args below meth c H locs (if d = 0 then 0 else (if b then 0 else 11 * (t + 1))) (if d = 0 then 0 else (if b then 0 else 75 * (t + 1))) (vx_MQ below (Qx D A0 O) (Xx D A0 (trW k cA nA tA T ++ stW k sA S ++ tl) O) args s (if b then 0 else 11 * (t + 1)) (if b then 0 else 75 * (t + 1)) A0) (F0 m 9 ls []) := by
      intro r
      induction r with
      | zero =>
        intro d A1 V1 tl1 H locs ls hr9 hT hex hp1 hP hD hS hl
        have hd : d = n + 1 := by omega
        subst hd
        refine lv_iload hx hb dX1_greatestVapor_9 (lv_at hl 0 rfl) ?_
        refine lv_aload_n hx hb dX1_greatestVapor_11 rfl (lv_at hl 3 rfl) ?_
        refine va_getN (D := D) (ci := 0) (v := .int (s_n S)) (C := RX0) (T := TX0) (N := 12) hx hb hts w_0 hown hK hP 4 rfl rfl 0 (by decide) w_n (fun _ h9 => h9) rfl dX1_greatestVapor_12 ?_
        refine lv_icmp_ge (tgt := 37) hx hb dX1_greatestVapor_15 (by decide) (fun c_2 => ?_) (fun c_2 => ?_)
        · skip
          refine lv_iload_n hx hb dX1_greatestVapor_37 rfl (lv_at hl 1 rfl) ?_
          rw [if_neg (show ¬ n + 1 = 0 by omega), if_neg (show ¬ n + 1 = 0 by omega)]
          exact Cx_iret hO ⟨rfl, A1, V1, tl1, hT, hex, hp1 (by omega), rfl⟩ (Nat.le_refl _) (Nat.le_refl _) hx hb hr hP hD hS dX1_greatestVapor_38 hlocks
        · exact absurd (by rw [hAg.1, nI_pred]; exact (nI_leF (by omega) (by omega)).mpr (Nat.le_refl _)) c_2
      | succ r ih =>
        intro d A1 V1 tl1 H locs ls hr9 hT hex hp1 hP hD hS hl
        have hdn : d ≤ n := by omega
        refine lv_iload hx hb dX1_greatestVapor_9 (lv_at hl 0 rfl) ?_
        refine lv_aload_n hx hb dX1_greatestVapor_11 rfl (lv_at hl 3 rfl) ?_
        refine va_getN (D := D) (ci := 0) (v := .int (s_n S)) (C := RX0) (T := TX0) (N := 12) hx hb hts w_0 hown hK hP 4 rfl rfl 0 (by decide) w_n (fun _ h9 => h9) rfl dX1_greatestVapor_12 ?_
        refine lv_icmp_ge (tgt := 37) hx hb dX1_greatestVapor_15 (by decide) (fun c_2 => ?_) (fun c_2 => ?_)
        · refine absurd c_2 ?_
          rw [hAg.1]
          intro q
          have q1 : (nI n).toInt ≤ (nI d - 1).toInt := Int32.le_iff_toInt_le.mp q
          rw [nI_toInt (lt31 (show n < 2147483648 by omega))] at q1
          rcases d with _ | d
          · have q2 : (nI 0 - 1).toInt = -1 := by decide
            omega
          · rw [nI_pred, nI_toInt (lt31 (show d < 2147483648 by omega))] at q1
            omega
        refine lv_iload_n hx hb dX1_greatestVapor_18 rfl (lv_at hl 1 rfl) ?_
        refine lv_aload_n hx hb dX1_greatestVapor_19 rfl (lv_at hl 2 rfl) ?_
        refine lv_aload_n hx hb dX1_greatestVapor_20 rfl (lv_at hl 3 rfl) ?_
        refine lv_iload hx hb dX1_greatestVapor_21 (lv_at hl 0 rfl) ?_
        refine lv_iload_n hx hb dX1_greatestVapor_23 rfl (lv_at hl 4 rfl) ?_
        obtain ⟨bb, hbb⟩ : ∃ bb : Bool, bb = (b || decide (0 < d)) := ⟨_, rfl⟩
        have hbp : bb = true → prP (t + 1) A1 := by
          intro q
          by_cases h0 : 0 < d
          · exact hp1 h0
          · have : b = true := by rw [hbb] at q; simpa [h0] using q
            exact hex.pr (Nat.le_refl _) (hpr this)
        have hcc : (if d = 0 then 0 else (if b then 0 else 11 * (t + 1))) + (if bb then 0 else 11 * (t + 1)) = (if b then 0 else 11 * (t + 1)) := by
          rw [hbb]
          by_cases h0 : d = 0
          · subst h0; cases b <;> simp
          · have : 0 < d := by omega
            cases b <;> simp [h0, this]
        have hcs : (if d = 0 then 0 else (if b then 0 else 75 * (t + 1))) + (if bb then 0 else 75 * (t + 1)) = (if b then 0 else 75 * (t + 1)) := by
          rw [hbb]
          by_cases h0 : d = 0
          · subst h0; cases b <;> simp
          · have : 0 < d := by omega
            cases b <;> simp [h0, this]
        have hin1 : inP (t + 1) A1 V1 := hex.2.2
        have hfit : (rmV t bb).frames < (rmG (t + 1) b).frames := by show 7 + 2 * t < 6 + 2 * (t + 1); omega
        refine Cx_go (vx_runV (As := [.ref (sA 0), .int (nI d - 1), .int (nI (t + 1))]) (rest := [.int (nI (mxD d (ovN n t R)))]) ⟨hx, hb, hml, hown, hts⟩ (hVC bb cA nA tA sA T S n R d A1 V1 tl1 hAg hg hc hdn hT hin1 hbp _) (cwV 3 hts gX1_greatestVapor_X1_vaporWithChoice rfl rfl rfl (by decide +kernel) ⟨(by show 7 + 2 * t + 1 ≤ 6 + 2 * (t + 1); omega), (by show 8 + (5 + 11) + (530 + 60 * t) ≤ 500 + 60 * (t + 1); omega)⟩) ⟨Px_blind, va_recv (q0 := 0) (ci := 1) hK hP rfl rfl, Px_at (wc := trW k cA nA tA T ++ stW k sA S ++ tl1) hK hG hP hD hS hA (List.range (trW k cA nA tA T ++ stW k sA S ++ tl1).length) (rg_hi0 _) (rg_nd _)⟩ rfl rfl hl.1 rfl (Nat.le_of_ble_eq_true rfl) dX1_greatestVapor_24 ⟨Nat.le_of_eq hcc, Nat.le_of_eq hcs⟩) hP hD hS hA (List.range (trW k cA nA tA T ++ stW k sA S ++ tl1).length) (rg_hi0 _) (fun _ _ _ _ _ h1 => nomatch h1) ?_
        intro ov B wc1 H1 locs1 h1 hB hP1 hD1 hk1 hF1 hS1
        cases h1
        obtain ⟨rfl, A2, V2, tl2, hT2, hex2, hp2, rfl⟩ := hB
        have hD2 := hD1.weaken (fun _ q _ h => hF1 q.1 h)
        refine W.eq (g2 := F0 m 27 ls [.int (if okC R d then nI (wvN n t R d) else (-1)), .int (nI (mxD d (ovN n t R)))]) rfl ?_
        refine W.widen (k := if b then 0 else 11 * (t + 1)) (n := if b then 0 else 75 * (t + 1)) (Nat.le_of_eq hcc) (Nat.le_of_eq hcs) ?_
        refine va_mmax hx hb (hml.trans hl.1.symm) hown w_a w_b w_c w_d (by show 1 ≤ 6 + 2 * (t + 1); omega) (by show 0 + 13 ≤ 500 + 60 * (t + 1); omega) (Nat.le_refl _) (Nat.le_refl _) dX1_greatestVapor_27 ?_
        have hov := ovN_le (t := t) hg hdn
        have hbm : mxD d (ovN n t R) ≤ 2700 * (t + 1) := mxD_le d fun y hy => ovN_le (t := t) hg (by omega)
        have hwv : wvN n t R d ≤ 2700 * (t + 1) := by
          have h1 := (vpC_le hg hdn).2
          have h2 := bsN_le t _ (hg.nx hdn)
          unfold wvN
          omega
        refine W.eq (g2 := F0 m 30 ls [.int (nI (mxD (d + 1) (ovN n t R)))]) (by show F0 m _ ls [.int (mx (nI (mxD d (ovN n t R))) (if okC R d then nI (wvN n t R d) else (-1)))] = _; rw [mx_ok (by omega) (by omega)]; rfl) ?_
        refine lv_istore_n (lv' := [(3, .int (nI (mxD (d + 1) (ovN n t R)))), (4, .int (nI d - 1)), (0, .ref (cA 0)), (1, .ref (sA 0)), (2, .int (nI (t + 1)))]) hx hb dX1_greatestVapor_30 rfl hl (by decide) rfl (fun ls hl => ?_)
        refine lv_iinc (v := nI d - 1 + 1) (lv' := [(4, .int (nI d - 1 + 1)), (3, .int (nI (mxD (d + 1) (ovN n t R)))), (0, .ref (cA 0)), (1, .ref (sA 0)), (2, .int (nI (t + 1)))]) hx hb dX1_greatestVapor_31 hl (k := 1) rfl rfl (by decide) rfl (fun ls hl => ?_)
        refine lv_goto (tgt := 9) hx hb dX1_greatestVapor_34 (by decide) ?_
        have hok0 : 0 < d + 1 → prP (t + 1) A2 := by
          intro _
          by_cases h0 : 0 < d
          · exact hex2.pr (Nat.le_refl _) (hp1 h0)
          · exact hp2 (Or.inl (by omega))
        have e9 : nI d - 1 + 1 = nI (d + 1) - 1 := by
          rw [nI_pred]
          rcases d with _ | d
          · decide
          · rw [nI_pred, nI_s1]
        rw [e9] at hl
        have hih := ih (d + 1) A2 V2 tl2 H1 locs1 ls (by omega) hT2 (hex.trans hex2) hok0 hP1 hD2 hS1 hl
        rw [if_neg (show ¬ d + 1 = 0 by omega), if_neg (show ¬ d + 1 = 0 by omega)] at hih
        exact hih
    refine lv_iconst (v := (-1)) hx hb dX1_greatestVapor_6 (by decide) ?_
    refine lv_istore (lv' := [(4, .int (-1)), (3, .int 0), (0, .ref (cA 0)), (1, .ref (sA 0)), (2, .int (nI (t + 1)))]) hx hb dX1_greatestVapor_7 hl (by decide) rfl (fun ls hl => ?_)
    have hl : lv_has ls 5 [(4, .int (nI 0 - 1)), (3, .int (nI (mxD 0 (ovN n t R)))), (0, .ref (cA 0)), (1, .ref (sA 0)), (2, .int (nI (t + 1)))] := by rw [show nI 0 - 1 = (-1 : Int32) by decide]; exact hl
    exact hLP (n + 1) 0 A V tl _ _ ls (by omega) hT (exP.refl hin) (fun h => by omega) hP hD hS hl
section POOLS
variable {p : Program} {l : Launch} {e : Env} {R : Room} {s : State} {m : MethodId} {args : Array Value} {below : List Frame} {meth : Method} {c : Code} {H : Heap} {locs : List Loc} {cells slots : Nat} {Q : State → Prop}
variable {cc : ByteArray} {pc : Nat} {ls : Array Slot} {rest : List Value} {D : va_G} {k : Nat → ClassId}
/-- a state that is there already: nothing is made -/
theorem st_callS {A0 : Nat → Prop} {front tl : va_W} {nL index : Nat} {own : String} {Ts : List Cond} {cA : Nat → Nat} {A : AdV} {V : PoV} {i : Int32} {b : Nat → Nat} {S9 : StV} (j o n : Nat) (hst : l.stackTraces = false)
    (S : CallFix p m c cc nL s args Ts own) (cw : CallB R s args own index yX1_stateAt cX1_stateAt 3 (some (.object "EffectTrain$State")) wsX1_stateAt ({ frames := 2, cells := 0, slots := 0, locals := 43 } : Room) 0 0 2 ∧ (Cond.static yX1_stateAt).before args s = true)
    (hK : va_K D vwCl (tyK k) s) (hG : gX A0 s) (hP : va_P D vwCl (front ++ tl) H) (hD : va_D A0 (front ++ tl)) (hS : va_S A0 s.heap H locs) (hA : ∀ q : Nat, s.heap.size ≤ q → A0 q)
    (hT : PoA k cA A V tl) (hj : (j = 3 ∧ o = 0 ∧ n = 3) ∨ (j = 4 ∧ o = 3 ∧ n = 14) ∨ (j = 5 ∧ o = 17 ∧ n = 2)) (hi : vp_in i n) (ha : A (o + i.toNatClampNeg) = some b) (hv : V (o + i.toNatClampNeg) = some S9)
    (hsize : ls.size = nL) (hW : (rest.map fun v => v.category).sum ≤ 8) (hdg : decode cc pc = .ok (.invokestatic index, 3)) (hf : cells + 0 ≤ R.cells ∧ slots + 0 ≤ R.slots)
    (kk : ∀ (H1 : Heap) (locs1 : List Loc), va_P D vwCl (front ++ (stW k b S9 ++ (poA k cA A ++ plW k A (nq V (o + i.toNatClampNeg)) 19))) H1 → va_D A0 (front ++ (stW k b S9 ++ (poA k cA A ++ plW k A (nq V (o + i.toNatClampNeg)) 19))) → va_S A0 s.heap H1 locs1 → W p l e R s m args below meth c H1 locs1 (cells + 0) (slots + 0) Q (F0 m (pc + 3) ls (.ref (b 0) :: rest))) : W p l e R s m args below meth c H locs cells slots Q (F0 m pc ls (.int i :: .ref (cA j) :: rest)) := by
  have hx : i.toNatClampNeg < n := Nat.not_le.mp fun q => hi (Or.inr q)
  obtain ⟨po, hp1, hp2⟩ := po_perm (k := k) (cA := cA) (A := A) hj hx
  have hpm : List.Perm (front ++ tl) ([(cA j, qAr k n (qf n o A))] ++ (front ++ (po ++ plW k A V 19))) := pm_1 hp1 hT
  have hP1 := P_perm hpm hP
  have hD1 := D_perm hpm hD
  have hr : qf n o A i.toNatClampNeg = some (b 0) := by
    unfold qf
    rw [if_pos hx, ha]
    rfl
  refine Cx_go (vx_runS (As := [.ref (cA j), .int i]) (rest := rest) S (c_X1_stateAt_s l hst D k (cA j) n (qf n o A) i (b 0) hr hi H.size) cw ⟨Px_blind, Px_at (wc := [(cA j, qAr k n (qf n o A))]) hK hG hP1 hD1 hS hA [0] rfl (by decide)⟩ rfl rfl hsize rfl (by show 2 * 0 + _ ≤ 8; omega) hdg hf) hP1 hD1 hS hA [0] rfl (fun _ _ _ _ _ h1 => nomatch h1) ?_
  intro ov B wc1 H1 locs1 h1 hB hP2 hD2 hk1 hF1 hS1
  cases h1
  obtain ⟨hP3, hD3⟩ := jn_front hP1 hD1 hk1 hF1 hP2 hD2
  obtain ⟨rfl, rfl⟩ := hB
  have hpm2 := hpm.symm.trans ((PoA.out hT (by omega) ha hv).append_left front)
  exact kk H1 locs1 (P_perm hpm2 hP3) (D_perm hpm2 hD3) hS1
end POOLS
set_option maxRecDepth 100000 in
set_option maxHeartbeats 4000000 in
theorem c_X1_vaporWithChoice (l : Launch) (hst : l.stackTraces = false) (D : va_G) (k : Nat → ClassId) (t : Nat) (ht : t ≤ 2) (hG9 : ∀ b, GVp l D k t b) (b : Bool) : VCp l D k t b := by
  intro cA nA tA sA T S n R d A V tl hAg hg hc hdn hT hin hpr
  obtain ⟨⟨n2, n6⟩, -⟩ := id hg
  obtain ⟨O, hO⟩ : ∃ O : Oc, O = .inr (fun (ov : Option Value) (w : va_W) => ov = some (.int (if okC R d then nI (wvN n t R d) else (-1))) ∧ ∃ (A1 : AdV) (V1 : PoV) (tl1 : va_W), PoA k cA A1 V1 tl1 ∧ exP (t + 1) A V A1 V1 ∧ (okC R d → prP (t + 1) A1) ∧ w = trW k cA nA tA T ++ stW k sA S ++ tl1) := ⟨_, rfl⟩
  rw [← hO]
  refine Cx_of (cc := cX1_vaporWithChoice) (maxL := 5) (ret := (some .int)) (by decide) rfl (Nat.le_of_ble_eq_true rfl) ?_
  intro p e s m args below meth c A0 ls hx hb hr hml hts hown hlocks hnm htab hK hG hA hP hD hS hl
  have hl : lv_has ls 5 [(0, .ref (cA 0)), (1, .ref (sA 0)), (2, .int (nI d - 1)), (3, .int (nI (t + 1)))] := hl
  have hP : va_P D vwCl (trW k cA nA tA T ++ stW k sA S ++ tl) s.heap := hP
  have hD : va_D A0 (trW k cA nA tA T ++ stW k sA S ++ tl) := hD
  have w_l : (Cond.fieldLinkNest RX1 144 "EffectTrain$State" "left" "[I" "EffectTrain").before args s = true := va_Nw.use rfl (hG.2.2.2.2.1 (144, "EffectTrain$State", "left", "[I", "EffectTrain") (by decide +kernel))
  have w_0 : ∀ w ∈ wsX00, w ∈ wsX1_vaporWithChoice := by decide +kernel
  have w_1 : ∀ w ∈ wsX10, w ∈ wsX1_vaporWithChoice := by decide +kernel
  have w_t := hts (.fieldLink RX1 31 "EffectTrain" "turnStates" "[LEffectTrain$State;") (by decide +kernel)
  have w_c : va_Nw (.methodLinkNest RX1 155 yX0_copyFrom "EffectTrain") s := hG.2.2.2.2.2 (155, yX0_copyFrom, "EffectTrain") (by decide +kernel)
  have w_i := hts (.initialized RX0) (by decide +kernel)
  have w_ci := hts (.instanceMethod yX0_copyFrom) (by decide +kernel)
  have w_cs := hts (.selects RX0 yX0_copyFrom yX0_copyFrom) (by decide +kernel)
  have w_p : va_Nw (.methodLinkNest RX1 132 yX0_pass "EffectTrain") s := hG.2.2.2.2.2 (132, yX0_pass, "EffectTrain") (by decide +kernel)
  have w_pi := hts (.instanceMethod yX0_pass) (by decide +kernel)
  have w_ps := hts (.selects RX0 yX0_pass yX0_pass) (by decide +kernel)
  have hC45 : ∀ (b4 : Nat → Nat) (S4 : StV) (A4 : AdV) (c4 : Nat) (s4 : Nat) (H : Heap) (locs : List Loc) (ls : Array Slot), okC R d → A4 t = some b4 → (∀ i, i ≠ t → A4 i = A i) → (∀ a, A t = some a → b4 = a) → c4 + (if b then 0 else 11 * t) ≤ (if b then 0 else 11 * (t + 1)) → s4 + (if b then 0 else 75 * t) ≤ (if b then 0 else 75 * (t + 1)) → AgS n 0 S4 (chR R d) → va_P D vwCl (trW k cA nA tA T ++ stW k sA S ++ stW k b4 S4 ++ (poA k cA A4 ++ plW k A4 (nq V t) 19)) H → va_D A0 (trW k cA nA tA T ++ stW k sA S ++ stW k b4 S4 ++ (poA k cA A4 ++ plW k A4 (nq V t) 19)) → va_S A0 s.heap H locs → lv_has ls 5 [(4, .ref (b4 0)), (0, .ref (cA 0)), (1, .ref (sA 0)), (2, .int (nI d - 1)), (3, .int (nI (t + 1)))] → W p l e (rmV t b) s m args below meth c H locs c4 s4 (vx_MQ below (Qx D A0 O) (Xx D A0 (trW k cA nA tA T ++ stW k sA S ++ tl) O) args s (if b then 0 else 11 * (t + 1)) (if b then 0 else 75 * (t + 1)) A0) (F0 m 45 ls []) := by
    intro b4 S4 A4 c4 s4 H locs ls hok hb4 ho4 hsame hc4 hs4 hA4 hP hD hS hl
    have hgc := hg.ch hdn
    have e53 : chR R d 53 = R 53 := chR_o (by omega) (by omega)
    have e55 : chR R d 55 = R 55 := chR_o (by omega) (by omega)
    obtain ⟨S5, hv5, hA5⟩ := s_pass (m := 5) hA4 hgc (by rw [e53]; omega) (by omega)
    have hvp := vpC_le hg hdn
    have ev : nI (tkM n 5 (chR R d) 55) - nI (chR R d 55) = nI (vpC n R d) := by
      rw [e55, pk_sub (by omega)]
      rfl
    rw [ev] at hv5
    refine lv_aload hx hb dX1_vaporWithChoice_45 (lv_at hl 0 rfl) ?_
    refine lv_iconst (v := 5) hx hb dX1_vaporWithChoice_47 (by decide) ?_
    refine Ck_VN (As := [.int 5]) (rest := []) (wc := stW k b4 S4) (wc' := stW k b4 S5) (w0' := trW k cA nA tA T ++ stW k sA S ++ stW k b4 S5 ++ (poA k cA A4 ++ plW k A4 (nq V t) 19)) ⟨hx, hb, hml, hown, hts⟩ (c_X0_pass l D k b4 S4 5 _ S5 hv5) ⟨va_cnB 1 hts gX1_vaporWithChoice_X0_pass_n132 rfl rfl rfl w_p w_i (by decide +kernel) ⟨(by show 3 + 1 ≤ 7 + 2 * t; omega), (by show 8 + (4 + 11) + 73 ≤ 530 + 60 * t; omega)⟩, w_pi, w_ps⟩ hK hP hD hS hA (q0 := 15) (ci := 0) rfl rfl ([15, 16, 17, 18, 19, 20, 21, 22, 23, 24, 25]) (hi_L rfl (hi_R rfl st_hi)) (by decide) rfl (vs_L rfl (vs_R rfl st_all)) rfl hl.1 rfl (Nat.le_of_ble_eq_true rfl) dX1_vaporWithChoice_48 ⟨(Nat.le_trans (Nat.le_add_right _ _) hc4), (Nat.le_trans (Nat.le_add_right _ _) hs4)⟩ (fun H locs hP hD hS => ?_)
    refine W.eq (g2 := F0 m 51 ls [.int (nI (vpC n R d))]) rfl ?_
    refine lv_aload_n hx hb dX1_vaporWithChoice_51 rfl (lv_at hl 1 rfl) ?_
    refine lv_aload hx hb dX1_vaporWithChoice_52 (lv_at hl 0 rfl) ?_
    refine lv_iload_n hx hb dX1_vaporWithChoice_54 rfl (lv_at hl 4 rfl) ?_
    refine lv_iconst (v := 1) hx hb dX1_vaporWithChoice_55 (by decide) ?_
    refine lv_isub hx hb dX1_vaporWithChoice_56 ?_
    refine W.eq (g2 := F0 m 57 ls [.int (nI t), .ref (b4 0), .ref (cA 0), .int (nI (vpC n R d))]) (by rw [nI_pred]) ?_
    have hpm : List.Perm (trW k cA nA tA T ++ stW k sA S ++ stW k b4 S5 ++ (poA k cA A4 ++ plW k A4 (nq V t) 19)) ((trW k cA nA tA T ++ stW k b4 S5 ++ (poA k cA A4 ++ plW k A4 (nq V t) 19)) ++ stW k sA S) := pm_3
    have hP1 := P_perm hpm hP
    have hD1 := D_perm hpm hD
    have hTg : PoA k cA A4 (nq V t) (poA k cA A4 ++ plW k A4 (nq V t) 19) := List.Perm.refl _
    have hing : inP t A4 (nq V t) := fun i a hi e => by
      have h1 : ¬ i = t := by omega
      rw [ho4 i h1] at e
      simp only [nq, if_neg h1]
      exact hin i a (by omega) e
    have hprg : b = true → prP t A4 := fun hb9 i hi => by
      rw [ho4 i (by omega)]
      exact hpr hb9 i (by omega)
    refine Cx_go (vx_runV (As := [.ref (b4 0), .int (nI t)]) (rest := [.int (nI (vpC n R d))]) ⟨hx, hb, hml, hown, hts⟩ (hG9 b cA nA tA b4 T S5 n (nxR5 n R d) A4 (nq V t) (poA k cA A4 ++ plW k A4 (nq V t) 19) hA5 (hg.nx hdn) (by show tkM n 5 (chR R d) 53 + 5 * t < 2147483648; rw [tkM_53 5 _ hgc, e53]; omega) hTg hing hprg _) (cwV 2 hts gX1_vaporWithChoice_X1_greatestVapor rfl rfl rfl (by decide +kernel) ⟨(by show 6 + 2 * t + 1 ≤ 7 + 2 * t; omega), (by show 8 + (5 + 11) + (500 + 60 * t) ≤ 530 + 60 * t; omega)⟩) ⟨Px_blind, va_recv (q0 := 0) (ci := 1) hK hP1 rfl rfl, Px_at (wc := trW k cA nA tA T ++ stW k b4 S5 ++ (poA k cA A4 ++ plW k A4 (nq V t) 19)) hK hG hP1 hD1 hS hA (List.range (trW k cA nA tA T ++ stW k b4 S5 ++ (poA k cA A4 ++ plW k A4 (nq V t) 19)).length) (rg_hi _ _) (rg_nd _)⟩ rfl rfl hl.1 rfl (Nat.le_of_ble_eq_true rfl) dX1_vaporWithChoice_57 ⟨hc4, hs4⟩) hP1 hD1 hS hA (List.range (trW k cA nA tA T ++ stW k b4 S5 ++ (poA k cA A4 ++ plW k A4 (nq V t) 19)).length) (rg_hi _ _) (fun _ _ _ _ _ h1 => nomatch h1) ?_
    intro ov B wc1 H1 locs1 h1 hB hP2 hD2 hk1 hF1 hS1
    cases h1
    obtain ⟨rfl, A6, V6, tl6, hT6, hex6, hp6, rfl⟩ := hB
    obtain ⟨hP3, hD3⟩ := jn_front hP1 hD1 hk1 hF1 hP2 hD2
    refine W.widen (k := _) (n := _) hc4 hs4 ?_
    refine W.eq (g2 := F0 m 60 ls [.int (nI (bsN n t (nxR5 n R d))), .int (nI (vpC n R d))]) rfl ?_
    refine lv_iadd hx hb dX1_vaporWithChoice_60 ?_
    refine W.eq (g2 := F0 m 61 ls [.int (nI (wvN n t R d))]) (by rw [nI_add]; rfl) ?_
    have e6 : A6 t = some b4 := (hex6.1 t (Nat.le_refl _)).1.trans hb4
    have v6 : nq V6 t = V6 := by
      funext i
      by_cases h : i = t
      · subst h; simp only [nq, if_pos]; rw [(hex6.1 i (Nat.le_refl _)).2]; simp [nq]
      · simp [nq, h]
    have hT7 : PoA k cA A6 (uq V6 t S5) (stW k b4 S5 ++ tl6) := PoA.put (by rw [v6]; exact hT6) (by omega) e6 S5
    have hpm2 : List.Perm ((trW k cA nA tA T ++ stW k b4 S5 ++ tl6) ++ stW k sA S) (trW k cA nA tA T ++ stW k sA S ++ (stW k b4 S5 ++ tl6)) := pm_4
    have hex7 : exP (t + 1) A V A6 (uq V6 t S5) := by
      refine ⟨fun i hi => ?_, fun i a hi e => ?_, fun i a hi e => ?_⟩
      · have h1 : ¬ i = t := by omega
        have h2 := hex6.1 i (by omega)
        exact ⟨h2.1.trans (ho4 i h1), by simp only [uq, if_neg h1]; rw [h2.2]; simp [nq, h1]⟩
      · by_cases h1 : i = t
        · subst h1
          exact e6.trans (congrArg some (hsame a e))
        · exact hex6.2.1 i a (by omega) ((ho4 i h1).trans e)
      · by_cases h1 : i = t
        · subst h1; simp [uq]
        · simp only [uq, if_neg h1]
          exact hex6.2.2 i a (by omega) e
    exact Cx_iret hO ⟨by rw [if_pos hok], A6, uq V6 t S5, stW k b4 S5 ++ tl6, hT7, hex7, (fun _ i hi => by by_cases h1 : i = t; (subst h1; rw [e6]; simp); exact hp6 i (by omega)), rfl⟩ (Nat.le_refl _) (Nat.le_refl _) hx hb hr (P_perm hpm2 hP3) (D_perm hpm2 hD3) hS1 dX1_vaporWithChoice_61 hlocks
  have hC25 : ∀ (b4 : Nat → Nat) (S9 : StV) (A4 : AdV) (c4 : Nat) (s4 : Nat) (H : Heap) (locs : List Loc) (ls : Array Slot), okC R d → A4 t = some b4 → (∀ i, i ≠ t → A4 i = A i) → (∀ a, A t = some a → b4 = a) → c4 + (if b then 0 else 11 * t) ≤ (if b then 0 else 11 * (t + 1)) → s4 + (if b then 0 else 75 * t) ≤ (if b then 0 else 75 * (t + 1)) → va_P D vwCl (trW k cA nA tA T ++ stW k sA S ++ stW k b4 S9 ++ (poA k cA A4 ++ plW k A4 (nq V t) 19)) H → va_D A0 (trW k cA nA tA T ++ stW k sA S ++ stW k b4 S9 ++ (poA k cA A4 ++ plW k A4 (nq V t) 19)) → va_S A0 s.heap H locs → lv_has ls 5 [(0, .ref (cA 0)), (1, .ref (sA 0)), (2, .int (nI d - 1)), (3, .int (nI (t + 1)))] → W p l e (rmV t b) s m args below meth c H locs c4 s4 (vx_MQ below (Qx D A0 O) (Xx D A0 (trW k cA nA tA T ++ stW k sA S ++ tl) O) args s (if b then 0 else 11 * (t + 1)) (if b then 0 else 75 * (t + 1)) A0) (F0 m 25 ls [.ref (b4 0)]) := by
    intro b4 S9 A4 c4 s4 H locs ls hok hb4 ho4 hsame hc4 hs4 hP hD hS hl
    refine lv_astore (lv' := [(4, .ref (b4 0)), (0, .ref (cA 0)), (1, .ref (sA 0)), (2, .int (nI d - 1)), (3, .int (nI (t + 1)))]) hx hb dX1_vaporWithChoice_25 hl (by decide) rfl (fun ls hl => ?_)
    refine lv_aload hx hb dX1_vaporWithChoice_27 (lv_at hl 0 rfl) ?_
    refine lv_aload_n hx hb dX1_vaporWithChoice_29 rfl (lv_at hl 2 rfl) ?_
    obtain ⟨S1, hv1, hA1⟩ := s_copy (S := S9) hAg n6
    refine Ck_VN (As := [.ref (sA 0)]) (rest := []) (wc := stW k b4 S9 ++ stW k sA S) (wc' := stW k b4 S1 ++ stW k sA S) (w0' := trW k cA nA tA T ++ stW k sA S ++ stW k b4 S1 ++ (poA k cA A4 ++ plW k A4 (nq V t) 19)) ⟨hx, hb, hml, hown, hts⟩ (c_X0_copyFrom l D k b4 sA S9 S S1 hv1) ⟨va_cnB 1 hts gX1_vaporWithChoice_X0_copyFrom_n155 rfl rfl rfl w_c w_i (by decide +kernel) ⟨(by show 1 + 1 ≤ 7 + 2 * t; omega), (by show 8 + (2 + 11) + 60 ≤ 530 + 60 * t; omega)⟩, w_ci, w_cs⟩ hK hP hD hS hA (q0 := 15) (ci := 0) rfl rfl ([15, 16, 17, 18, 19, 20, 21, 22, 23, 24, 25] ++ [4, 5, 6, 7, 8, 9, 10, 11, 12, 13, 14]) (hi_2 (hi_L rfl (hi_R rfl st_hi)) (hi_L rfl (hi_L rfl (hi_R rfl st_hi)))) (by decide) rfl (vs_2 rfl (vs_L rfl (vs_R rfl st_all)) (vs_L rfl (vs_L rfl (vs_R rfl st_all)))) rfl hl.1 rfl (Nat.le_of_ble_eq_true rfl) dX1_vaporWithChoice_30 ⟨(Nat.le_trans (Nat.le_add_right _ _) hc4), (Nat.le_trans (Nat.le_add_right _ _) hs4)⟩ (fun H locs hP hD hS => ?_)
    refine W.eq (g2 := F0 m 33 ls []) rfl ?_
    refine lv_iload_n hx hb dX1_vaporWithChoice_33 rfl (lv_at hl 3 rfl) ?_
    by_cases h0 : d = 0
    · have e0 : nI d - 1 = (-1 : Int32) := by rw [h0]; decide
      refine lv_if_lt (tgt := 45) hx hb dX1_vaporWithChoice_34 (by decide) (fun c_1 => ?_) (fun c_1 => ?_)
      · exact hC45 b4 S1 A4 c4 s4 _ _ ls hok hb4 ho4 hsame hc4 hs4 (by unfold chR; rw [if_pos h0]; exact hA1) hP hD hS hl
      · exact absurd (by rw [e0]; decide) c_1
    · have hdi : d - 1 < n := by omega
      have e0 : nI d - 1 = nI (d - 1) := by rw [show d = (d - 1) + 1 by omega, nI_pred]; rfl
      have hcl : (nI d - 1).toNatClampNeg = d - 1 := by rw [e0, nI_cl (by omega)]
      refine lv_if_lt (tgt := 45) hx hb dX1_vaporWithChoice_34 (by decide) (fun c_1 => ?_) (fun c_1 => ?_)
      · exact absurd c_1 (by rw [e0]; exact nI_pos (lt31 (by omega)))
      refine lv_aload hx hb dX1_vaporWithChoice_37 (lv_at hl 0 rfl) ?_
      refine va_getN (D := D) (ci := 0) (v := .ref (b4 10)) (C := RX0) (T := TX0) (N := 12) hx hb hts w_0 hown hK hP 15 rfl rfl 11 (by decide) w_l (fun _ h9 => h9) rfl dX1_vaporWithChoice_39 ?_
      refine lv_iload_n hx hb dX1_vaporWithChoice_42 rfl (lv_at hl 3 rfl) ?_
      refine lv_iconst (v := 5) hx hb dX1_vaporWithChoice_43 (by decide) ?_
      have g_5 : vp_in (nI d - 1) 6 := by
        intro q
        rcases q with q | q
        · rw [e0] at q; exact nI_pos (lt31 (by omega)) q
        · rw [hcl] at q; omega
      refine va_iast hx hb hK hP hD hS 25 0 rfl rfl g_5 dX1_vaporWithChoice_44 (fun H locs hP hD hS => ?_)
      obtain ⟨S2, eS2⟩ : ∃ y : StV, y = su_lef S1 (upd (s_lef S1) (nI d - 1).toNatClampNeg 5) := ⟨_, rfl⟩
      have hP : va_P D vwCl (trW k cA nA tA T ++ stW k sA S ++ stW k b4 S2 ++ (poA k cA A4 ++ plW k A4 (nq V t) 19)) H := by rw [eS2, ← st_set_lef k b4 S1 _, ← set_appR3 (A := trW k cA nA tA T ++ stW k sA S) (q := 25) (q' := 10) rfl, ← set_appL1 (Nat.le_of_ble_eq_true rfl)]; exact hP
      have hD : va_D A0 (trW k cA nA tA T ++ stW k sA S ++ stW k b4 S2 ++ (poA k cA A4 ++ plW k A4 (nq V t) 19)) := by rw [eS2, ← st_set_lef k b4 S1 _, ← set_appR3 (A := trW k cA nA tA T ++ stW k sA S) (q := 25) (q' := 10) rfl, ← set_appL1 (Nat.le_of_ble_eq_true rfl)]; exact hD
      have hA2 : AgS n 0 S2 (chR R d) := by
        rw [eS2, hcl]
        unfold chR
        rw [if_neg h0]
        exact hA1.lef n6 hdi 5
      exact hC45 b4 S2 A4 c4 s4 _ _ ls hok hb4 ho4 hsame hc4 hs4 hA2 hP hD hS hl
  have hC15 : ∀ (ls : Array Slot), okC R d → lv_has ls 5 [(0, .ref (cA 0)), (1, .ref (sA 0)), (2, .int (nI d - 1)), (3, .int (nI (t + 1)))] → W p l e (rmV t b) s m args below meth c s.heap [] 0 0 (vx_MQ below (Qx D A0 O) (Xx D A0 (trW k cA nA tA T ++ stW k sA S ++ tl) O) args s (if b then 0 else 11 * (t + 1)) (if b then 0 else 75 * (t + 1)) A0) (F0 m 15 ls []) := by
    intro ls hok hl
    refine lv_aload_n hx hb dX1_vaporWithChoice_15 rfl (lv_at hl 0 rfl) ?_
    refine va_get (D := D) (ci := 1) (v := .ref (cA 3)) (C := RX1) (T := TX1) (N := 11) hx hb hts w_1 hown hK hP 0 rfl rfl 5 (by decide) w_t (fun _ h9 => h9) rfl dX1_vaporWithChoice_16 ?_
    refine lv_iload_n hx hb dX1_vaporWithChoice_19 rfl (lv_at hl 3 rfl) ?_
    refine lv_iconst (v := 1) hx hb dX1_vaporWithChoice_20 (by decide) ?_
    refine lv_isub hx hb dX1_vaporWithChoice_21 ?_
    refine W.eq (g2 := F0 m 22 ls [.int (nI t), .ref (cA 3)]) (by rw [nI_pred]) ?_
    have hti : vp_in (nI t) 3 := by
      intro q
      rcases q with q | q
      · exact nI_pos (lt31 (by omega)) q
      · rw [nI_cl (by omega)] at q; omega
    have hcl : 0 + (nI t).toNatClampNeg = t := by rw [nI_cl (by omega), Nat.zero_add]
    cases ha : A t with
    | some a =>
      cases hv : V t with
      | none => exact absurd hv (hin t a (by omega) ha)
      | some S9 =>
        refine st_callS 3 0 3 hst ⟨hx, hb, hml, hown, hts⟩ (va_cwS 2 hts gX1_vaporWithChoice_X1_stateAt rfl rfl rfl (by decide +kernel) ⟨(by show 2 + 1 ≤ 7 + 2 * t; omega), (by show 8 + (3 + 11) + 43 ≤ 530 + 60 * t; omega)⟩) hK hG hP hD hS hA hT (by decide) hti (by rw [hcl]; exact ha) (by rw [hcl]; exact hv) hl.1 (Nat.le_of_ble_eq_true rfl) dX1_vaporWithChoice_22 ⟨Nat.zero_le _, Nat.zero_le _⟩ (fun H locs hP hD hS => ?_)
        rw [hcl, ← List.append_assoc] at hP hD
        refine W.eq (g2 := F0 m 25 ls [.ref (a 0)]) rfl ?_
        exact hC25 a S9 A 0 0 H locs ls hok ha (fun _ _ => rfl) (fun a9 h9 => Option.some.inj (ha.symm.trans h9)) (by cases b <;> simp <;> omega) (by cases b <;> simp <;> omega) hP hD hS hl
    | none =>
      have hbf : b = false := by
        cases hb9 : b with
        | false => rfl
        | true => exact absurd ha (hpr hb9 t (by omega))
      subst hbf
      refine st_call 3 0 3 hst ⟨hx, hb, hml, hown, hts⟩ (va_cwS 2 hts gX1_vaporWithChoice_X1_stateAt rfl rfl rfl (by decide +kernel) ⟨(by show 2 + 1 ≤ 7 + 2 * t; omega), (by show 8 + (3 + 11) + 43 ≤ 530 + 60 * t; omega)⟩) hK hG hP hD hS hA hT (by decide) hti (fun a9 h9 => by rw [hcl, ha] at h9; cases h9) hl.1 (Nat.le_of_ble_eq_true rfl) dX1_vaporWithChoice_22 ⟨(by show 0 + 11 ≤ 11 * (t + 1); omega), (by show 0 + 75 ≤ 75 * (t + 1); omega)⟩ (fun b4 S9 A4 H locs h9 hP hD hS => ?_)
      rw [hcl] at h9
      rw [hcl, ← List.append_assoc] at hP hD
      rcases h9 with ⟨h1, -, -⟩ | ⟨h1, h2, h3⟩
      · rw [ha] at h1; cases h1
      refine W.eq (g2 := F0 m 25 ls [.ref (b4 0)]) rfl ?_
      exact hC25 b4 S9 A4 (0 + 11) (0 + 75) H locs ls hok (by rw [h3]; simp [ua]) (fun i hi => by rw [h3]; simp [ua, hi]) (fun a9 h9 => by rw [ha] at h9; cases h9) (by show 0 + 11 + 11 * t ≤ 11 * (t + 1); omega) (by show 0 + 75 + 75 * t ≤ 75 * (t + 1); omega) hP hD hS hl
  refine lv_iload_n hx hb dX1_vaporWithChoice_0 rfl (lv_at hl 2 rfl) ?_
  by_cases h0 : d = 0
  · have e0 : nI d - 1 = (-1 : Int32) := by rw [h0]; decide
    refine lv_if_lt (tgt := 15) hx hb dX1_vaporWithChoice_1 (by decide) (fun c_1 => ?_) (fun c_1 => ?_)
    · exact hC15 ls (Or.inl h0) hl
    · exact absurd (by rw [e0]; decide) c_1
  · have hdi : d - 1 < n := by omega
    have e0 : nI d - 1 = nI (d - 1) := by rw [show d = (d - 1) + 1 by omega, nI_pred]; rfl
    have hcl : (nI d - 1).toNatClampNeg = d - 1 := by rw [e0, nI_cl (by omega)]
    refine lv_if_lt (tgt := 15) hx hb dX1_vaporWithChoice_1 (by decide) (fun c_1 => ?_) (fun c_1 => ?_)
    · exact absurd c_1 (by rw [e0]; exact nI_pos (lt31 (by omega)))
    refine lv_aload_n hx hb dX1_vaporWithChoice_4 rfl (lv_at hl 1 rfl) ?_
    refine va_getN (D := D) (ci := 0) (v := .ref (sA 10)) (C := RX0) (T := TX0) (N := 12) hx hb hts w_0 hown hK hP 4 rfl rfl 11 (by decide) w_l (fun _ h9 => h9) rfl dX1_vaporWithChoice_5 ?_
    refine lv_iload_n hx hb dX1_vaporWithChoice_8 rfl (lv_at hl 2 rfl) ?_
    have g_5 : vp_in (nI d - 1) 6 := by
      intro q
      rcases q with q | q
      · rw [e0] at q; exact nI_pos (lt31 (by omega)) q
      · rw [hcl] at q; omega
    refine va_iald hx hb hK hP 14 0 rfl rfl g_5 dX1_vaporWithChoice_9 ?_
    have hlf : s_lef S (nI d - 1).toNatClampNeg = nI (R (42 + (d - 1))) := by rw [hcl]; exact (hAg.2.2.2.2.2 (d - 1) hdi).2.2.2.2.2.2.2
    have hlb : R (42 + (d - 1)) ≤ 20 := (hg.2.1 (d - 1) hdi).2.2.2.2.2.2
    refine lv_if_le (tgt := 15) hx hb dX1_vaporWithChoice_10 (by decide) (fun c_2 => ?_) (fun c_2 => ?_)
    · refine hC15 ls (Or.inr ?_) hl
      have c_3 : s_lef S (nI d - 1).toNatClampNeg ≤ 0 := c_2
      rw [hlf, L0] at c_3
      have := (nI_leF (by omega) (by omega)).mp c_3
      omega
    · have c_3 : ¬ s_lef S (nI d - 1).toNatClampNeg ≤ 0 := c_2
      rw [hlf, L0] at c_3
      have hnk : ¬ okC R d := by
        rintro (q | q)
        · exact h0 q
        · exact c_3 (by rw [q]; decide)
      refine lv_iconst (v := (-1)) hx hb dX1_vaporWithChoice_13 (by decide) ?_
      exact Cx_iret hO ⟨by rw [if_neg hnk], A, V, tl, hT, exP.refl hin, (fun h => absurd h hnk), rfl⟩ (Nat.zero_le _) (Nat.zero_le _) hx hb hr hP hD hS dX1_vaporWithChoice_14 hlocks
