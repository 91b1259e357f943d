/-! what follows: the calls' answers in plain numbers -/
theorem subL {a b : Nat} (ha : a < 1073741824) (hb : b < 1073741824) : (nI a - nI b).toInt64 = lN a - lN b := by
  refine Int64.toInt_inj.mp ?_
  rw [Int32.toInt_toInt64, pk_sub_toInt (by omega) (by omega), ← nI_l (lt31 (show a < 2147483648 by omega)), ← nI_l (lt31 (show b < 2147483648 by omega)), lg_i2l_sub, nI_toInt (lt31 (by omega)), nI_toInt (lt31 (by omega))]
theorem i2l_lt {x y : Int32} : lg_cmp x.toInt64 y.toInt64 < 0 ↔ x < y := by
  rw [lg_cmp_lt, Int64.lt_iff_toInt_lt, Int32.lt_iff_toInt_lt, Int32.toInt_toInt64, Int32.toInt_toInt64]
theorem i2l_ge {x y : Int32} : 0 ≤ lg_cmp x.toInt64 y.toInt64 ↔ ¬ x < y := by
  rw [← i2l_lt, Int32.not_lt]
theorem wcN_up {R : Nat → Nat} {i w : Nat} (h0 : R (42 + i) = 0) (hw : w ≠ 0) : ∀ n, wcN (upN R (42 + i) w) n = wcN R n + if i < n then 1 else 0
  | 0 => rfl
  | n + 1 => by
    rw [wcN, wcN, wcN_up h0 hw n]
    by_cases c : i = n
    · subst c
      rw [upN_s, if_neg hw, if_neg (show ¬ i < i by omega), if_pos h0, if_pos (show i < i + 1 by omega)]
    · rw [upN_o (by omega)]
      by_cases d : i < n
      · rw [if_pos d, if_pos (show i < n + 1 by omega)]
        omega
      · rw [if_neg d, if_neg (show ¬ i < n + 1 by omega)]
        omega
theorem tkM_add {n : Nat} : ∀ (a b : Nat) (R : Nat → Nat), tkM n (a + b) R = tkM n b (tkM n a R)
  | 0, b, R => by rw [Nat.zero_add]; rfl
  | a + 1, b, R => by
    rw [show a + 1 + b = (a + b) + 1 by omega, tkM, tkM_add a b]
    rfl
theorem sc_le {n i z : Nat} : ∀ (d x fu : Nat) (P : Nat → Nat), tkM n d P (30 + i) = z → d < fu → ∃ y, scF n i z fu x P = nI y ∧ y ≤ x + d
  | _, _, 0, _, _, hf => absurd hf (Nat.not_lt_zero _)
  | 0, x, fu + 1, P, h, _ => by
    refine ⟨x, ?_, Nat.le_refl _⟩
    have h : P (30 + i) = z := h
    rw [scF, if_neg (by omega)]
  | d + 1, x, fu + 1, P, h, hf => by
    rw [scF]
    by_cases c : P (30 + i) < z
    · rw [if_pos c]
      obtain ⟨y, e1, e2⟩ := sc_le d (x + 1) fu (tkN n P) h (by omega)
      exact ⟨y, e1, by omega⟩
    · rw [if_neg c]
      exact ⟨x, rfl, by omega⟩
theorem sf_le {n m : Nat} {R : Nat → Nat} {p : Int32} : ∀ (fu x : Nat), sfF n m R p fu x = -9 ∨ ∃ y, sfF n m R p fu x = nI y ∧ x ≤ y ∧ y < x + fu ∧ ¬ stV n m R y < p ∧ ∀ z, x ≤ z → z < y → stV n m R z < p
  | 0, x => Or.inl rfl
  | fu + 1, x => by
    rw [sfF]
    by_cases c : stV n m R x < p
    · rw [if_pos c]
      rcases sf_le fu (x + 1) with e | ⟨y, e1, e2, e3, e4, e5⟩
      · exact Or.inl e
      · refine Or.inr ⟨y, e1, by omega, by omega, e4, fun z h1 h2 => ?_⟩
        rcases Nat.lt_or_ge x z with d | d
        · exact e5 z (by omega) h2
        · rw [show z = x by omega]; exact c
    · rw [if_neg c]
      exact Or.inr ⟨x, rfl, Nat.le_refl _, by omega, c, fun z h1 h2 => by omega⟩
theorem x_s0 {c : Nat} {X : XV} {R' : Nat → Nat} (h : okX c X) (hR : okQ c (x_n X) R') : okX c (sR X R') := by
  obtain ⟨h1, h2, h3, h4, h5, h6⟩ := h
  refine ⟨hR, h2, h3, ?_, fun r hr => ?_, h6⟩
  · show (push (x_R X) (x_d X)).length ≤ 14
    unfold push
    rw [List.length_take]
    omega
  · have hr2 : r ∈ x_R X :: x_d X := List.mem_of_mem_take hr
    rcases List.mem_cons.mp hr2 with e | e
    · rw [e]; exact h1
    · exact h5 r e
def bk (X : XV) : XV := (x_n X, x_R X, (x_L X, x_C X), (x_d X).take 13, x_K X)
theorem x_bk {c : Nat} {X : XV} (h : okX c X) : okX c (bk X) := by
  obtain ⟨h1, h2, h3, h4, h5, h6⟩ := h
  refine ⟨h1, h2, h3, ?_, fun r hr => h5 r (List.mem_of_mem_take hr), h6⟩
  show ((x_d X).take 13).length ≤ 14
  rw [List.length_take]
  omega
theorem u_bk {X : XV} {R' : Nat → Nat} : u_undo (sR X R') = .inr (nI ((x_d X).take 13).length, bk X) := rfl
/-- the state and what slot 1 holds -/
def core (X : XV) : XV := (x_n X, x_R X, (x_L X, x_C X), [], x_K X)
def FV (c n : Nat) (R : Nat → Nat) (Z : XV) (X : XV) : Prop := okX c X ∧ x_n X = n ∧ x_R X = R ∧ x_K X 1 = some R ∧ core X = Z
theorem FV.bk {c n : Nat} {R : Nat → Nat} {Z X : XV} (h : FV c n R Z X) : FV c n R Z (bk X) := ⟨x_bk h.1, h.2.1, h.2.2.1, h.2.2.2⟩
section FV
variable {X : XV} {i m j : Nat}
theorem g_gr (h : okX 600 X) (h1 : 1 ≤ m) (hm : m ≤ 99) (hj : j ≤ 9) : o_growth X (nI m) (nI j) = some (lN (tkM (x_n X) m (x_R X) (54 + j) - x_R X (54 + j))) := by
  obtain ⟨t1, -⟩ := CT.ticks m (x_R X) h.1.1
  have a1 := t1 j (by omega)
  have a2 := h.1.2.2.1 j (by omega)
  rw [z_growth h]
  unfold u_growth
  rw [if_neg (show ¬ (nI m < (1 : Int32) ∨ (99 : Int32) < nI m) from not_lo (lo := 1) (hi := 99) h1 hm (by omega)), if_neg (nl9 hj), nI_cl (by omega), nI_cl (by omega)]
  unfold grV
  rw [pk_sub a1.1]
  exact congrArg some (nI_l (lt31 (by omega)))
theorem g_ah (h : okX 600 X) (hi : i < x_n X) (hm : m ≤ 99) (hj : j ≤ 9) : o_ahead X (nI i) (nI m) (nI j) = some (lN (deV (tkM (x_n X) m (x_R X)) i j)) := by
  have h6 := h.1.1.1.2
  have hg := GN.ticks m (x_R X) h.1.1
  rw [z_ahead h]
  unfold u_ahead
  rw [if_neg (not_ix hi (by omega)), if_neg (show ¬ (nI m < (0 : Int32) ∨ (99 : Int32) < nI m) from not_lo (lo := 0) (hi := 99) (by omega) hm (by omega)), if_neg (nl9 hj), nI_cl (by omega), nI_cl (by omega), nI_cl (by omega)]
  exact congrArg some (nI_l (lt31 (by have := de_lt (hg.2.1 i hi) hj; omega)))
/-- a wash's gain: what both ways bring -/
theorem g_b55 {n : Nat} {R : Nat → Nat} (hg : GN n R) (hR : R 55 ≤ 98901 * 600) (hm : m ≤ 99) : R 55 ≤ tkM n m R 55 ∧ tkM n m R 55 - R 55 ≤ 100000 := by
  obtain ⟨t1, -⟩ := CT.ticks m R hg
  have a1 := t1 1 (by omega)
  have a2 : R 55 ≤ tkM n m R 55 ∧ tkM n m R 55 ≤ R 55 + 999 * m := a1
  omega
theorem g_wg (h : okX 600 X) (hi : i < x_n X) (w : x_R X (42 + i) = 0) {z : Nat} (z1 : 1 ≤ z) (z2 : z ≤ 20) (h1 : 1 ≤ m) (hm : m ≤ 99) : o_washGain X (nI i) (nI z) (nI m) = some (lN (tkM (x_n X) m (upN (x_R X) (42 + i) z) 55 - x_R X 55) - lN (tkM (x_n X) m (x_R X) 55 - x_R X 55)) := by
  have h6 := h.1.1.1.2
  have hR : x_R X 55 ≤ 98901 * 600 := h.1.2.2.1 1 (by omega)
  have b1 := g_b55 h.1.1 hR hm
  have b2 := g_b55 (h.1.1.left hi z2) (by rw [upN_o (by omega)]; exact hR) hm
  rw [upN_o (k := 55) (by omega)] at b2
  rw [z_washGain h]
  unfold u_washGain
  rw [if_neg (not_ix hi (by omega)), if_neg (show ¬ (nI z < (1 : Int32) ∨ (20 : Int32) < nI z) from not_lo (lo := 1) (hi := 20) z1 z2 (by omega)), if_neg (show ¬ (nI m < (1 : Int32) ∨ (99 : Int32) < nI m) from not_lo (lo := 1) (hi := 99) h1 hm (by omega)), nI_cl (by omega), nI_cl (by omega), nI_cl (by omega), if_pos w]
  unfold wgV
  rw [pk_sub b2.1, pk_sub b1.1]
  exact congrArg some (subL (by omega) (by omega))
theorem g_sc (h : okX 600 X) (hi : i < x_n X) {z : Nat} (z1 : 1 ≤ z) (z2 : z ≤ 99) (hm : m ≤ 99) (hz : tkM (x_n X) m (x_R X) (30 + i) = z) : ∃ y, o_scaledAfter X (nI i) (nI z) = some (lN y) ∧ y ≤ m := by
  have h6 := h.1.1.1.2
  obtain ⟨y, e1, e2⟩ := sc_le m 0 201 (x_R X) hz (by omega)
  refine ⟨y, ?_, by omega⟩
  rw [z_scaledAfter h]
  unfold u_scaledAfter
  rw [if_neg (not_ix hi (by omega)), if_neg (show ¬ (nI z < (1 : Int32) ∨ (99 : Int32) < nI z) from not_lo (lo := 1) (hi := 99) z1 z2 (by omega)), nI_cl (by omega), nI_cl (by omega), e1]
  exact congrArg some (nI_l (lt31 (by omega)))
theorem g_bt (h : okX 600 X) {t : Nat} (ht : t ≤ 2) (q : Int32) : o_bestTurns X (nI (t + 1)) q = some ((btV (x_n X) (x_R X) t q).toInt64) := by
  rw [z_bestTurns h]
  unfold u_bestTurns
  rw [if_neg (show ¬ (nI (t + 1) < (1 : Int32) ∨ (3 : Int32) < nI (t + 1)) from not_lo (lo := 1) (hi := 3) (by omega) (by omega) (by omega)), nI_cl (by omega), Nat.add_sub_cancel]
  rfl
theorem g_sf (h : okX 600 X) {p m : Nat} (hp : p ≤ 9999) (h1 : 1 ≤ m) (hm : m ≤ 20) : o_steamFor X (nI p) (nI m) = some ((sfF (x_n X) m (x_R X) (nI p) 91 0).toInt64) := by
  rw [z_steamFor h]
  unfold u_steamFor
  rw [if_neg (show ¬ (nI p < (0 : Int32) ∨ (9999 : Int32) < nI p) from not_lo (lo := 0) (hi := 9999) (by omega) hp (by omega)), if_neg (show ¬ (nI m < (1 : Int32) ∨ (20 : Int32) < nI m) from not_lo (lo := 1) (hi := 20) h1 hm (by omega)), nI_cl (by omega)]
  rfl
theorem g_ti (h : okX 600 X) (h1 : 1 ≤ m) (hm : m ≤ 99) : o_tick X (nI m) = some (lN (tkM (x_n X) m (x_R X) 55 - x_R X 55), sR X (tkM (x_n X) m (x_R X))) := by
  have hR : x_R X 55 ≤ 98901 * 600 := h.1.2.2.1 1 (by omega)
  have b1 := g_b55 h.1.1 hR hm
  rw [z_tick h]
  unfold u_tick
  rw [if_neg (show ¬ (nI m < (1 : Int32) ∨ (99 : Int32) < nI m) from not_lo (lo := 1) (hi := 99) h1 hm (by omega)), nI_cl (by omega)]
  unfold grV
  rw [show 54 + 1 = 55 from rfl, pk_sub b1.1, wm_r, nI_l (lt31 (by omega))]
theorem g_bk (h : okX 600 X) {R' : Nat → Nat} (h' : okX 600 (sR X R')) : o_undo (sR X R') = some (lN ((x_d X).take 13).length, bk X) := by
  rw [z_undo h', u_bk, wm_r, nI_l (lt31 (by rw [List.length_take]; omega))]
theorem p0 {v : Nat} (hv : v < 2147483648) : ¬ lg_cmp (lN v) 0 < 0 := fun c => absurd ((lc_lt (b := 0) hv (by omega)).mp c) (Nat.not_lt_zero _)
theorem g_len {X : XV} : ((x_d X).take 13).length < 2147483648 := by rw [List.length_take]; omega
theorem g_set (h : okX 600 X) {y : Nat} (hy : y ≤ 999) : o_set X 0 (nI y) = some (lN (x_R X 48), sR X (upN (x_R X) 48 y)) := by
  have h48 := h.1.1.2.2.1
  rw [z_set h]
  unfold u_set
  rw [if_neg (by decide)]
  have e : ¬ (nI y < tL (1 + (0 : Int32).toNatClampNeg) ∨ tG (1 + (0 : Int32).toNatClampNeg) < nI y) := not_lo (lo := 0) (hi := 999) (by omega) hy (by omega)
  rw [if_neg e, nI_cl (by omega), wm_r]
  exact congrArg (fun v => some (v, sR X (upN (x_R X) 48 y))) (nI_l (lt31 (show x_R X 48 < 2147483648 by omega)))
theorem g_wa (h : okX 600 X) (hi : i < x_n X) {z : Nat} (z1 : 1 ≤ z) (z2 : z ≤ 20) (w : x_R X (42 + i) = 0) : o_wash X (nI i) (nI z) = some (lN (wcN (x_R X) (x_n X) + 1), sR X (upN (x_R X) (42 + i) z)) := by
  have h6 := h.1.1.1.2
  have hw := wcN_le (x_R X) (x_n X)
  rw [z_wash h]
  unfold u_wash
  rw [if_neg (not_ix hi (by omega)), if_neg (show ¬ (nI z < (1 : Int32) ∨ (20 : Int32) < nI z) from not_lo (lo := 1) (hi := 20) z1 z2 (by omega)), nI_cl (by omega), nI_cl (by omega), if_pos w, wm_r, wcN_up w (by omega), if_pos hi, nI_l (lt31 (by omega))]
theorem g_ew (h : okX 600 X) (hi : i < x_n X) (w : x_R X (42 + i) ≠ 0) : o_endWash X (nI i) = some (lN (x_R X (42 + i)), sR X (upN (x_R X) (42 + i) 0)) := by
  have h6 := h.1.1.1.2
  have h20 := (h.1.1.2.1 i hi).2.2.2.2.2.2
  rw [z_endWash h]
  unfold u_endWash
  rw [if_neg (not_ix hi (by omega)), nI_cl (by omega), if_neg w, wm_r, nI_l (lt31 (by omega))]
end FV
