/-! what follows, from its start -/
section FP
variable {c n : Nat} {R : Nat → Nat} {s : Int64} {X Z : XV} {a i m : Nat}
theorem f_474 (hc : c ≤ 600) (hs : ∀ X, FV c n R Z X → f_L_now X = some s) (ha : a < 2147483648) (h : FV c n R Z X) (hi : i < n) (h1 : 1 ≤ m) (hm : m ≤ 50) (w : R (42 + i) = 0) {t : Int64} : Wl c Z (f_L_follows_474 (nI a) s (nI n) (nI m) (nI i) (lN (R 53)) 1 (lN (tkM n m (upN R (42 + i) 5) 55 - R 55) - lN (tkM n m R 55 - R 55)) (lN (tkM n m R 55 - R 55)) t t (sR X (upN R (42 + i) 5))) := by
  obtain ⟨hX, rfl, rfl, hK⟩ := id h
  have h6 := hX.1.1.1.2
  have k1 : okX c (sR X (upN (x_R X) (42 + i) 5)) := x_s0 hX (hX.1.set (hX.1.1.left hi (by omega)) (by omega))
  have k1b := k1.up hc
  have gr : o_growth (sR X (upN (x_R X) (42 + i) 5)) (nI m) 1 = some (lN (tkM (x_n X) m (upN (x_R X) (42 + i) 5) 55 - upN (x_R X) (42 + i) 5 55)) := g_gr k1b (j := 1) h1 (by omega) (by omega)
  rw [upN_o (by omega)] at gr
  have le : o_effect (sR X (upN (x_R X) (42 + i) 5)) (nI i) 7 = some (lN (upN (x_R X) (42 + i) 5 (42 + i))) := y_left k1b hi
  rw [upN_s] at le
  have ew : o_endWash (sR X (upN (x_R X) (42 + i) 5)) (nI i) = some (lN (upN (x_R X) (42 + i) 5 (42 + i)), sR (sR X (upN (x_R X) (42 + i) 5)) (upN (upN (x_R X) (42 + i) 5) (42 + i) 0)) := g_ew k1b hi (by show upN (x_R X) (42 + i) 5 (42 + i) ≠ 0; rw [upN_s]; omega)
  rw [upN_s] at ew
  have k2 : okX c (sR (sR X (upN (x_R X) (42 + i) 5)) (upN (upN (x_R X) (42 + i) 5) (42 + i) 0)) := x_s0 k1 (k1.1.set (k1.1.1.left hi (by omega)) (by omega))
  have u1 := g_bk k1b (k2.up hc)
  obtain ⟨Y, hY⟩ : ∃ Y : XV, Y = (x_n X, x_R X, (x_L X, x_C X), List.take 12 (List.take 13 (x_d X)), x_K X) := ⟨_, rfl⟩
  have u2 : u_undo (bk (sR X (upN (x_R X) (42 + i) 5))) = .inr (nI (List.take 12 (List.take 13 (x_d X))).length, Y) := by rw [hY]; rfl
  have k3 := x_bk k1
  have k4 := k_undo k3 u2
  have hl : (List.take 12 (List.take 13 (x_d X))).length < 2147483648 := by rw [List.length_take]; omega
  have hF : FV c (x_n X) (x_R X) Z Y := ⟨k4, by rw [hY]; rfl, by rw [hY]; rfl, by rw [hY]; exact hK⟩
  unfold f_L_follows_474
  rw [if_pos lgz, if_neg (by decide), gr, bd_some, if_pos lgz, le, bd_some, if_pos (show lg_cmp (lN 5) 5 = 0 from lgz), ew, bd_some]
  dsimp only
  rw [if_pos (show lg_cmp (lN 5) 5 = 0 from lgz), u1, bd_some]
  dsimp only
  rw [if_neg (p0 g_len), z_undo (k3.up hc), u2, wm_r, bd_some]
  dsimp only
  rw [nI_l (lt31 hl), if_neg (p0 hl)]
  exact f_545 hc hs ha hF
theorem f_397 (hc : c ≤ 600) (hs : ∀ X, FV c n R Z X → f_L_now X = some s) (ha : a < 2147483648) (h : FV c n R Z X) (hi : i < n) (h1 : 1 ≤ m) (hm : m ≤ 50) : Wl c Z (f_L_follows_397 (nI a) s (nI n) (nI m) (nI i) (lN (R 53)) 1 X) := by
  obtain ⟨hX, e1, e2, hK⟩ := id h
  have h6 := hX.up hc
  have hi2 : i < x_n X := by omega
  have n6 := hX.1.1.1.2
  have hl : x_R X (42 + i) < 2147483648 := by have := (h6.1.1.2.1 i hi2).2.2.2.2.2.2; omega
  have a7 : o_about X 7 = some (lN (wcN (x_R X) (x_n X))) := y_about h6 (j := 7) (by omega)
  have gr : o_growth X (nI m) 1 = some (lN (tkM (x_n X) m (x_R X) 55 - x_R X 55)) := g_gr h6 (j := 1) h1 (by omega) (by omega)
  unfold f_L_follows_397
  rw [y_left h6 hi2, bd_some]
  by_cases w : x_R X (42 + i) = 0
  · have wg : o_washGain X (nI i) 5 (nI m) = some (lN (tkM (x_n X) m (upN (x_R X) (42 + i) 5) 55 - x_R X 55) - lN (tkM (x_n X) m (x_R X) 55 - x_R X 55)) := g_wg h6 hi2 w (z := 5) (by omega) (by omega) h1 (by omega)
    have wa : o_wash X (nI i) 5 = some (lN (wcN (x_R X) (x_n X) + 1), sR X (upN (x_R X) (42 + i) 5)) := g_wa h6 hi2 (z := 5) (by omega) (by omega) w
    have one : lN (wcN (x_R X) (x_n X)) + 1 = lN (wcN (x_R X) (x_n X) + 1) := lN_1 _
    have key := f_474 hc hs ha h hi h1 hm (by rw [← e2]; exact w) (t := lN (wcN (x_R X) (x_n X) + 1))
    rw [if_pos ((lc_0 hl).mpr w)]
    unfold f_L_follows_417
    rw [a7, bd_some, wg, bd_some, gr, bd_some, if_neg (by decide), wa, bd_some]
    dsimp only
    rw [if_neg (by decide), one, e1, e2]
    rw [e1, e2] at key
    exact key
  · rw [if_neg (fun q => w ((lc_0 hl).mp q))]
    unfold f_L_follows_417
    rw [a7, bd_some, z_washGain h6, bd_some, gr, bd_some, if_neg (by decide), er_w3 h6 hi2 n6 w, bd_some]
    dsimp only
    rw [if_pos rfl]
    unfold f_L_follows_474
    rw [if_pos lgz, if_pos rfl]
    exact f_545 hc hs ha h
variable {g0 g1 : Nat → Int64}
theorem f_305 (hc : c < 600) (hs : ∀ X, FV c n R Z X → f_L_now X = some s) (ha : a < 2147483648) (h : FV c n R Z X) (hi : i < n) (h1 : 1 ≤ m) (hm : m ≤ 50) (hg1 : ∀ k, k < 10 → g1 k = lN (tkM n m R (54 + k) - R (54 + k))) : Wl c Z (f_L_follows_305 (nI a) s (nI n) (nI m) (nI i) (lN (R 53)) 1 (lN (smN R 6 n)) (lN (smN R 12 n)) (sR X (tkM n m R)) g0 g1) := by
  obtain ⟨hX, e1, e2, hK⟩ := id h
  have k1 : okX (c + 1) (sR X (tkM n m R)) := x_sR hX (by have := hX.1.ticks (m := m) (by omega); rw [e1, e2] at this; rw [e1]; exact this)
  have k1b := k1.up (show c + 1 ≤ 600 by omega)
  have hQ : okQ 600 n R := by have := (hX.up (show c ≤ 600 by omega)).1; rw [e1, e2] at this; exact this
  obtain ⟨t1, t2, t3, t4, -⟩ := CT.ticks m R hQ.1
  have b1 := t1 1 (by omega)
  have b5 := t1 5 (by omega)
  have b6 := t1 6 (by omega)
  have b7 := t1 7 (by omega)
  have b8 := t1 8 (by omega)
  have b9 := t1 9 (by omega)
  simp only [Nat.reduceAdd] at b1 b5 b6 b7 b8 b9
  have r1 := hQ.2.2.1 9 (by omega)
  have hP : GN n (tkM n m R) := GN.ticks m R hQ.1
  have s1 := smN_le (R := tkM n m R) (b := 6) (B := 5000) n fun i hi => by have := (hP.2.1 i hi).2.1; omega
  have s2 := smN_le (R := tkM n m R) (b := 12) (B := 5000) n fun i hi => by have := (hP.2.1 i hi).2.1; omega
  have a8 : o_about (sR X (tkM n m R)) 8 = some (lN (smN (tkM n m R) 6 (x_n X))) := y_about k1b (j := 8) (by omega)
  have a9 : o_about (sR X (tkM n m R)) 9 = some (lN (smN (tkM n m R) 12 (x_n X))) := y_about k1b (j := 9) (by omega)
  rw [e1] at a8 a9
  have w8 : ((lN (smN R 6 n) + g1 5) - g1 7) - g1 1 = lN (smN (tkM n m R) 6 n) := by
    rw [hg1 5 (by omega), hg1 7 (by omega), hg1 1 (by omega), lN_add, lN_sub (by show tkM n m R 61 - R 61 ≤ smN R 6 n + (tkM n m R 59 - R 59); omega), lN_sub (by show tkM n m R 55 - R 55 ≤ smN R 6 n + (tkM n m R 59 - R 59) - (tkM n m R 61 - R 61); omega)]
    show lN (smN R 6 n + (tkM n m R 59 - R 59) - (tkM n m R 61 - R 61) - (tkM n m R 55 - R 55)) = _
    congr 1
    omega
  have w9 : (lN (smN R 12 n) + g1 6) - g1 8 = lN (smN (tkM n m R) 12 n) := by
    rw [hg1 6 (by omega), hg1 8 (by omega), lN_add, lN_sub (by show tkM n m R 62 - R 62 ≤ smN R 12 n + (tkM n m R 60 - R 60); omega)]
    show lN (smN R 12 n + (tkM n m R 60 - R 60) - (tkM n m R 62 - R 62)) = _
    congr 1
    omega
  have w3 : ¬ 0 < lg_cmp (g1 9) (nI m).toInt64 := by
    rw [hg1 9 (by omega), nI_l (lt31 (by omega))]
    intro q
    have q2 : m < tkM n m R 63 - R 63 := (lc_gt (show tkM n m R 63 - R 63 < 2147483648 by omega) (by omega)).mp q
    omega
  have u1 := g_bk (hX.up (by omega)) k1b
  have key := f_397 (show c ≤ 600 by omega) hs ha h.bk hi h1 hm
  unfold f_L_follows_305
  rw [if_neg (by decide), a8, bd_some, w8, if_pos lgz, a9, bd_some, w9, if_pos lgz, if_neg w3, u1, bd_some]
  dsimp only
  rw [if_neg (p0 g_len), hs _ h.bk, bd_some, if_pos lgz]
  exact key
theorem f_249 (hc : c < 600) (hs : ∀ X, FV c n R Z X → f_L_now X = some s) (ha : a < 2147483648) (h : FV c n R Z X) (hi : i < n) (h1 : 1 ≤ m) (hm : m ≤ 50) (hg0 : ∀ k, k < 10 → g0 k = lN (R (54 + k))) (hg1 : ∀ k, k < 10 → g1 k = lN (tkM n m R (54 + k) - R (54 + k))) : ∀ (r j fu : Nat), j + r = 10 → r < fu → Wl c Z (f_L_follows_249 (nI a) fu s (nI n) (nI m) (nI i) (lN (R 53)) 1 (lN (smN R 6 n)) (lN (smN R 12 n)) (nI j) (sR X (tkM n m R)) g0 g1)
  | _, _, 0, _, hf => absurd hf (Nat.not_lt_zero _)
  | 0, j, fu + 1, hj, _ => by
    rw [f_L_follows_249, if_pos (by rw [show (10 : Int32) = nI 10 from rfl, nI_leF (by omega) (by omega)]; omega)]
    exact f_305 hc hs ha h hi h1 hm hg1
  | r + 1, j, fu + 1, hj, hf => by
    obtain ⟨hX, e1, e2, hK⟩ := id h
    have k1 : okX (c + 1) (sR X (tkM n m R)) := x_sR hX (by have := hX.1.ticks (m := m) (by omega); rw [e1, e2] at this; rw [e1]; exact this)
    have k1b := k1.up (show c + 1 ≤ 600 by omega)
    have hQ : okQ 600 n R := by have := (hX.up (show c ≤ 600 by omega)).1; rw [e1, e2] at this; exact this
    obtain ⟨t1, -⟩ := CT.ticks m R hQ.1
    have b1 := t1 j (by omega)
    have r1 := hQ.2.2.1 j (by omega)
    have tt : o_total (sR X (tkM n m R)) (nI j) = some (lN (tkM n m R (54 + j))) := y_total k1b (by omega)
    rw [f_L_follows_249, if_neg (by rw [show (10 : Int32) = nI 10 from rfl, nI_leF (by omega) (by omega)]; omega), if_neg (by decide), tt, bd_some, gb_in (by omega) (by omega), gb_in (by omega) (by omega), nI_cl (by omega), hg0 j (by omega), hg1 j (by omega), lN_add, show R (54 + j) + (tkM n m R (54 + j) - R (54 + j)) = tkM n m R (54 + j) by omega, if_pos lgz, gb_in (by omega) (by omega), if_neg (p0 (by omega)), nI_s1]
    exact f_249 hc hs ha h hi h1 hm hg0 hg1 r (j + 1) fu (by omega) (by omega)
theorem f_164 (hc : c < 600) (hs : ∀ X, FV c n R Z X → f_L_now X = some s) (ha : a < 2147483648) (h : FV c n R Z X) (hi : i < n) (h1 : 1 ≤ m) (hm : m ≤ 50) (hg0 : ∀ k, k < 10 → g0 k = lN (R (54 + k))) (hg1 : ∀ k, k < 10 → g1 k = lN (tkM n m R (54 + k) - R (54 + k))) {y : Nat} (hy : y ≤ m) : Wl c Z (f_L_follows_164 (nI a) s (nI n) (nI m) (nI i) (lN (R 53)) 1 (lN (smN R 6 n)) (lN (smN R 12 n)) (lN (tkM n m R (30 + i))) (lN (tkM n m R (6 + i))) (lN y) X g0 g1) := by
  have key := f_249 hc hs ha h hi h1 hm hg0 hg1 10 0 11 rfl (by omega)
  obtain ⟨hX, e1, e2, hK⟩ := id h
  have h6 := hX.up (show c ≤ 600 by omega)
  have k1 : okX (c + 1) (sR X (tkM n m R)) := x_sR hX (by have := hX.1.ticks (m := m) (by omega); rw [e1, e2] at this; rw [e1]; exact this)
  have k1b := k1.up (show c + 1 ≤ 600 by omega)
  have hQ : okQ 600 n R := by have := h6.1; rw [e1, e2] at this; exact this
  have ti : o_tick X (nI m) = some (lN (tkM n m R 55 - R 55), sR X (tkM n m R)) := by
    have e := g_ti h6 h1 (show m ≤ 99 by omega)
    rw [e1, e2] at e
    exact e
  have a6 : o_about (sR X (tkM n m R)) 6 = some (lN (tkM n m R 53)) := y_about k1b (j := 6) (by omega)
  have hi2 : i < x_n (sR X (tkM n m R)) := by show i < x_n X; omega
  have e5 : o_effect (sR X (tkM n m R)) (nI i) 5 = some (lN (tkM n m R (30 + i))) := y_e5 k1b hi2
  have e6 : o_effect (sR X (tkM n m R)) (nI i) 1 = some (lN (tkM n m R (6 + i))) := y_e1 k1b hi2
  unfold f_L_follows_164
  rw [if_neg (by decide), ti, bd_some]
  dsimp only
  rw [hg1 1 (by omega), if_pos (show lg_cmp (lN (tkM n m R 55 - R 55)) (lN (tkM n m R (54 + 1) - R (54 + 1))) = 0 from lgz), a6, bd_some, nI_l (lt31 (by omega)), lN_add, tkM_53 m R hQ.1, if_pos lgz, e5, bd_some, if_pos lgz, e6, bd_some, if_pos lgz, L_in hy (by omega), bd_some, if_neg (by decide)]
  exact key
theorem f_69 (hc : c < 600) (hs : ∀ X, FV c n R Z X → f_L_now X = some s) (ha : a < 2147483648) (h : FV c n R Z X) (hi : i < n) (h1 : 1 ≤ m) (hm : m ≤ 50) : ∀ (r j fu : Nat) (g0 g1 : Nat → Int64), j + r = 10 → r < fu → (∀ k, k < j → g0 k = lN (R (54 + k))) → (∀ k, k < j → g1 k = lN (tkM n m R (54 + k) - R (54 + k))) → Wl c Z (f_L_follows_69 (nI a) fu s (nI n) (nI m) (nI i) (lN (R 53)) 1 (nI j) X g0 g1)
  | _, _, 0, _, _, _, hf, _, _ => absurd hf (Nat.not_lt_zero _)
  | 0, j, fu + 1, g0, g1, hj, _, hg0, hg1 => by
    have hj : j = 10 := by omega
    subst hj
    obtain ⟨hX, e1, e2, hK⟩ := id h
    have h6 := hX.up (show c ≤ 600 by omega)
    have hi2 : i < x_n X := by omega
    have hQ : okQ 600 n R := by have := h6.1; rw [e1, e2] at this; exact this
    have hP : GN n (tkM n m R) := GN.ticks m R hQ.1
    have z99 := (hP.2.1 i hi).2.2.2.2.1
    have a8 : o_about X 8 = some (lN (smN (x_R X) 6 (x_n X))) := y_about h6 (j := 8) (by omega)
    have a9 : o_about X 9 = some (lN (smN (x_R X) 12 (x_n X))) := y_about h6 (j := 9) (by omega)
    have g5 : o_ahead X (nI i) (nI m) 5 = some (lN (tkM (x_n X) m (x_R X) (30 + i))) := g_ah h6 hi2 (j := 5) (by omega) (by omega)
    have g6 : o_ahead X (nI i) (nI m) 1 = some (lN (tkM (x_n X) m (x_R X) (6 + i))) := g_ah h6 hi2 (j := 1) (by omega) (by omega)
    rw [e1, e2] at a8 a9 g5 g6
    rw [f_L_follows_69, if_pos (by decide), a8, bd_some, a9, bd_some, g5, bd_some, g6, bd_some]
    by_cases z : tkM n m R (30 + i) = 0
    · rw [if_pos ((lc_0 (by omega)).mpr z)]
      exact f_164 hc hs ha h hi h1 hm hg0 hg1 (y := 0) (Nat.zero_le _)
    · obtain ⟨y, q1, q2⟩ := g_sc h6 hi2 (z := tkM n m R (30 + i)) (m := m) (by omega) z99 (by omega) (by rw [e1, e2])
      rw [if_neg (fun q => z ((lc_0 (by omega)).mp q)), lN_i, q1, bd_some]
      exact f_164 hc hs ha h hi h1 hm hg0 hg1 q2
  | r + 1, j, fu + 1, g0, g1, hj, hf, hg0, hg1 => by
    obtain ⟨hX, e1, e2, hK⟩ := id h
    have h6 := hX.up (show c ≤ 600 by omega)
    have tt : o_total X (nI j) = some (lN (x_R X (54 + j))) := y_total h6 (by omega)
    have gr : o_growth X (nI m) (nI j) = some (lN (tkM (x_n X) m (x_R X) (54 + j) - x_R X (54 + j))) := g_gr h6 h1 (by omega) (by omega)
    rw [e1, e2] at gr
    rw [e2] at tt
    rw [f_L_follows_69, if_neg (by rw [show (10 : Int32) = nI 10 from rfl, nI_leF (by omega) (by omega)]; omega), tt, bd_some, gb_in (by omega) (by omega), nm_e2, gr, bd_some, gb_in (by omega) (by omega), nm_e2, nI_cl (by omega), nI_s1]
    refine f_69 hc hs ha h hi h1 hm r (j + 1) fu _ _ (by omega) (by omega) (fun k hk => ?_) (fun k hk => ?_)
    · by_cases e : k = j
      · rw [e, pk_uLs]
      · rw [pk_uLn e]
        exact hg0 k (by omega)
    · by_cases e : k = j
      · rw [e, pk_uLs]
      · rw [pk_uLn e]
        exact hg1 k (by omega)
theorem L_follows (hc : c < 600) (hX : okX c X) (ha : a < 2147483648) : Wl c (x_n X, x_R X, (x_L X, x_C X), [], fun s => if s = 1 then some (x_R X) else x_K X s) (f_L_follows X (nI a)) := by
  have h6 := hX.up (show c ≤ 600 by omega)
  obtain ⟨s, e0⟩ := L_now h6
  have hs : ∀ Y, FV c (x_n X) (x_R X) (x_n X, x_R X, (x_L X, x_C X), [], fun s => if s = 1 then some (x_R X) else x_K X s) Y → f_L_now Y = some s := fun Y hY => (L_now_cg (hY.1.up (by omega)) h6 hY.2.1 hY.2.2.1).trans e0
  have n6 := hX.1.1.1.2
  have n2 := hX.1.1.1.1
  have h53 := h6.1.2.1
  obtain ⟨Y, hY⟩ : ∃ Y : XV, Y = (x_n X, x_R X, (x_L X, x_C X), x_d X, fun s => if s = 1 then some (x_R X) else x_K X s) := ⟨_, rfl⟩
  have hu : u_save X 1 = .inr (nI (x_R X 53), Y) := by
    unfold u_save
    rw [if_neg (by decide), hY]
    rfl
  have hF : FV c (x_n X) (x_R X) (x_n X, x_R X, (x_L X, x_C X), [], fun s => if s = 1 then some (x_R X) else x_K X s) Y := ⟨k_save hX hu, by rw [hY]; rfl, by rw [hY]; rfl, by rw [hY]; rfl, by rw [hY]; rfl⟩
  have a6 : o_about X 6 = some (lN (x_R X 53)) := y_about h6 (j := 6) (by omega)
  have q1 : (1 : Int32) + (nI a - nI a / 50 * 50) = nI (1 + a % 50) := by
    rw [show (50 : Int32) = nI 50 from rfl, nI_rm ha (by omega) (by omega)]
    exact nI_add 1 _
  have q2 : nI a / 50 - nI a / 50 / nI (x_n X) * nI (x_n X) = nI (a / 50 % x_n X) := by
    rw [show (50 : Int32) = nI 50 from rfl, nI_dv ha (by omega) (by omega)]
    exact nI_rm (by omega) (by omega) (by omega)
  have key := f_69 hc hs ha hF (i := a / 50 % x_n X) (m := 1 + a % 50) (Nat.mod_lt _ (by omega)) (by omega) (by omega) 10 0 11 (fun _ => 0) (fun _ => 0) rfl (by omega) (fun k hk => absurd hk (Nat.not_lt_zero _)) (fun k hk => absurd hk (Nat.not_lt_zero _))
  unfold f_L_follows
  rw [e0, bd_some, L_eff h6, bd_some, nm_e2, q1, gb_nz (by omega) (by omega), nm_e2, q2, a6, bd_some, z_save h6, hu, wm_r, bd_some]
  dsimp only
  rw [nI_l (lt31 (by omega)), if_pos lgz]
  exact key
end FP
