/-! what follows -/
theorem ln9 {y : Nat} (hy : y < 2147483648) : ¬ lg_cmp (lN y) (-9) = 0 := fun h => by
  have h2 := congrArg Int64.toInt ((lg_cmp_eq _ _).mp h)
  rw [lN_toInt (lt31 hy), show (-9 : Int64).toInt = -9 by decide] at h2
  omega
theorem l_ac {x y : Int64} : x + (y - x) = y := by rw [Int64.add_comm, Int64.sub_add_cancel]
/-- it ends well -/
def Wl (c : Nat) (Z : XV) (o : Option (Int32 × XV)) : Prop := o = some (1, Z) ∧ okX c Z
section FO
variable {c n : Nat} {R : Nat → Nat} {s : Int64} {X Z : XV}
theorem f_923 (hc : c ≤ 600) (hs : ∀ X, FV c n R Z X → f_L_now X = some s) (h : FV c n R Z X) : Wl c Z (f_L_follows_923 s (lN (R 53)) 1 X) := by
  have e0 := hs X h
  obtain ⟨h1, h2, h3, h4, h5⟩ := id h
  subst h3
  have hu : u_restore X 1 = .inr (nI (x_R X 53), core X) := by
    unfold u_restore
    rw [if_neg (by decide)]
    show (match x_K X 1 with | none => _ | some r => _) = _
    rw [h4]
    rfl
  rw [h5] at hu
  have k1 := k_restore h1 hu
  have hF : FV c n (x_R X) Z Z := ⟨k1, by rw [← h5]; exact h2, by rw [← h5]; rfl, by rw [← h5]; exact h4, by rw [← h5]; rfl⟩
  have e1 := hs Z hF
  have hd : x_d Z = [] := by rw [← h5]; rfl
  have hn : u_undo Z = .inl xS := by unfold u_undo; rw [hd]
  have h53 : x_R X 53 ≤ 99 * c := h1.1.2.1
  refine ⟨?_, k1⟩
  unfold f_L_follows_923
  rw [if_neg (by decide), e0, bd_some, if_pos lgz, z_restore (h1.up hc), hu, wm_r, bd_some]
  dsimp only
  rw [nI_l (lt31 (by omega)), if_pos lgz, e1, bd_some, if_pos lgz, z_undo (k1.up hc), hn, bd_some]
  show (if lg_cmp (wv (.inl xS)) (-9000000000000000003) = 0 then some ((1 : Int32), Z) else some ((0 : Int32), Z)) = _
  rw [wv_S, if_pos lgz]
theorem f_868 (hc : c ≤ 600) (hs : ∀ X, FV c n R Z X → f_L_now X = some s) (h : FV c n R Z X) : Wl c Z (f_L_follows_868 s (lN (R 53)) 1 X) := by
  have h6 := h.1.up hc
  have b54 : x_R X 54 ≤ 98901 * 600 := h6.1.2.2.1 0 (by omega)
  have b55 : x_R X 55 ≤ 98901 * 600 := h6.1.2.2.1 1 (by omega)
  have t0 : o_total X 0 = some (lN (x_R X 54)) := y_total h6 (j := 0) (by omega)
  have t1 : o_total X 1 = some (lN (x_R X 55)) := y_total h6 (j := 1) (by omega)
  have key := f_923 hc hs h
  have nn := ec_nn (x_R X) (by omega)
  unfold f_L_follows_868
  rw [z_economy h6, bd_some, if_neg (by decide), t0, bd_some]
  by_cases z : x_R X 54 = 0
  · have e : ecV (x_R X) = FP.fconst0 := by unfold ecV; rw [if_pos z]
    rw [if_pos ((lc_0 (by omega)).mpr z), e, if_pos (fc_self zero_nn)]
    exact key
  · have e : ecV (x_R X) = FP.fdiv (FP.l2f (lN (x_R X 55))) (FP.l2f (lN (x_R X 54))) := by
      unfold ecV
      rw [if_neg z, ← nI_l (lt31 (show x_R X 55 < 2147483648 by omega)), ← nI_l (lt31 (show x_R X 54 < 2147483648 by omega)), l2f_i, l2f_i]
    have hn : nn32 (FP.fdiv (FP.l2f (lN (x_R X 55))) (FP.l2f (lN (x_R X 54)))) = true := by
      rw [← nI_l (lt31 (show x_R X 55 < 2147483648 by omega)), ← nI_l (lt31 (show x_R X 54 < 2147483648 by omega)), l2f_i, l2f_i]
      exact NaN_ok _ _ (nI_ne0 (by omega) (lt31 (by omega)))
    rw [if_neg (fun q => z ((lc_0 (by omega)).mp q)), t1, bd_some, bd_some, gb_t hn, ← e, if_pos (fc_self nn)]
    exact key
theorem g_st (h : okX 600 X) {y : Nat} (hk : okX 600 (sR X (upN (x_R X) 48 y))) : o_growth (sR X (upN (x_R X) 48 y)) 3 1 = some ((stV (x_n X) 3 (x_R X) y).toInt64) := by
  rw [z_growth hk]
  unfold u_growth
  rw [if_neg (by decide), if_neg (by decide)]
  show some (nI (tkM (x_n X) 3 (upN (x_R X) 48 y) 55) - nI (upN (x_R X) 48 y 55)).toInt64 = _
  rw [upN_o (by omega)]
  rfl
theorem f_734 (hc : c ≤ 600) (hs : ∀ X, FV c n R Z X → f_L_now X = some s) {a : Nat} (ha : a < 2147483648) (h : FV c n R Z X) : Wl c Z (f_L_follows_734 (nI a) s (lN (R 53)) 1 X) := by
  have h6 := h.1.up hc
  have k0 := f_868 hc hs h
  unfold f_L_follows_734
  by_cases p : nI a - nI a / 3 * 3 = 0
  · have q : nI a / 7 - nI a / 7 / 900 * 900 = nI (a / 7 % 900) := by
      rw [show (7 : Int32) = nI 7 from rfl, nI_dv ha (by omega) (by omega)]
      exact nI_rm (d := 900) (by omega) (by omega) (by omega)
    have hw : a / 7 % 900 < 900 := Nat.mod_lt _ (by omega)
    generalize a / 7 % 900 = w at q hw
    have e1 : o_steamFor X (nI w) 3 = some ((sfF (x_n X) 3 (x_R X) (nI w) 91 0).toInt64) := g_sf h6 (m := 3) (by omega) (by omega) (by omega)
    have e2 : o_about X 1 = some (lN (x_R X 48)) := y_about h6 (j := 1) (by omega)
    rw [if_pos p, if_neg (by decide), nm_e2, q, e1, bd_some, e2, bd_some]
    rcases sf_le (n := x_n X) (m := 3) (R := x_R X) (p := nI w) 91 0 with e | ⟨y, e, -, y2, y3, y4⟩
    · rw [e, if_pos (by decide)]
      exact k0
    · have g1 : okX c (sR X (upN (x_R X) 48 y)) := x_s0 h.1 (h.1.1.set (h.1.1.1.steam (by omega)) (by omega))
      have u1 := g_bk h6 (g1.up hc)
      rw [e, nI_l (lt31 (by omega)), if_neg (ln9 (by omega)), lN_i, g_set h6 (by omega), bd_some]
      dsimp only
      rw [if_pos lgz, g_st h6 (g1.up hc), bd_some, if_neg (fun z => y3 (i2l_lt.mp z)), u1, bd_some]
      dsimp only
      rw [if_neg (p0 g_len)]
      by_cases y0 : y = 0
      · rw [if_pos ((lc_0 (by omega)).mpr y0)]
        exact f_868 hc hs h.bk
      · obtain ⟨z, rfl⟩ : ∃ z, y = z + 1 := ⟨y - 1, by omega⟩
        have hb := h.bk
        have hb6 := hb.1.up hc
        have g2 : okX c (sR (bk X) (upN (x_R (bk X)) 48 z)) := x_s0 hb.1 (hb.1.1.set (hb.1.1.1.steam (by omega)) (by omega))
        have u2 := g_bk hb6 (g2.up hc)
        have s2 := g_st hb6 (g2.up hc)
        have v2 := g_set hb6 (y := z) (by omega)
        rw [if_neg (fun q => y0 ((lc_0 (by omega)).mp q)), nI_p1, v2, bd_some]
        dsimp only
        rw [if_pos (show lg_cmp (lN (x_R (bk X) 48)) (lN (x_R X 48)) = 0 from lgz), s2, bd_some, if_neg (show ¬ 0 ≤ lg_cmp (stV (x_n (bk X)) 3 (x_R (bk X)) z).toInt64 (nI w).toInt64 from fun q => i2l_ge.mp q (y4 z (Nat.zero_le _) (by omega))), u2, bd_some]
        dsimp only
        rw [if_neg (p0 g_len)]
        exact f_868 hc hs hb.bk
  · rw [if_neg p]
    exact k0
theorem f_675 (hc : c ≤ 600) (hs : ∀ X, FV c n R Z X → f_L_now X = some s) {a best : Nat} (ha : a < 2147483648) (hb : best < 2147483648) (hB : ∀ k, k < n → R (42 + k) = 0 → tkM n 5 (upN R (42 + k) 5) 55 - R 55 ≤ best) (h : FV c n R Z X) : ∀ (r k fu : Nat), k + r = n → r < fu → Wl c Z (f_L_follows_675 (nI a) fu s (nI n) (lN (R 53)) 1 (lN best) (nI k) X)
  | _, _, 0, _, hf => absurd hf (Nat.not_lt_zero _)
  | r, k, fu + 1, hk, hf => by
    have h6 := h.1.up hc
    have hn := h.1.1.1.1.2
    obtain ⟨-, e1, e2, -⟩ := id h
    rw [e1] at hn
    rw [f_L_follows_675]
    by_cases e : r = 0
    · rw [if_pos (by rw [nI_leF (by omega) (by omega)]; omega)]
      exact f_734 hc hs ha h
    · have hi : k < x_n X := by omega
      have hl : x_R X (42 + k) < 2147483648 := by have := (h6.1.1.2.1 k hi).2.2.2.2.2.2; omega
      have ih := f_675 hc hs ha hb hB h (r - 1) (k + 1) fu (by omega) (by omega)
      rw [if_neg (by rw [nI_leF (by omega) (by omega)]; omega), if_neg (by decide), y_left h6 hi, bd_some, nI_s1]
      by_cases w : x_R X (42 + k) = 0
      · have g1 : o_growth X 5 1 = some (lN (tkM (x_n X) 5 (x_R X) 55 - x_R X 55)) := g_gr h6 (m := 5) (j := 1) (by omega) (by omega) (by omega)
        have g2 : o_washGain X (nI k) 5 5 = some (lN (tkM (x_n X) 5 (upN (x_R X) (42 + k) 5) 55 - x_R X 55) - lN (tkM (x_n X) 5 (x_R X) 55 - x_R X 55)) := g_wg h6 hi w (z := 5) (m := 5) (by omega) (by omega) (by omega) (by omega)
        have hB2 := hB k (by omega) (by rw [← e2]; exact w)
        rw [if_neg (fun q => by have := (lc_gt (b := 0) hl (by omega)).mp q; omega), g1, bd_some, g2, bd_some, l_ac, e1, e2, if_neg (fun q => by have := (lc_gt (by omega) hb).mp q; omega)]
        exact ih
      · rw [if_pos (show 0 < lg_cmp (lN (x_R X (42 + k))) 0 from (lc_gt (b := 0) hl (by omega)).mpr (by omega))]
        exact ih
theorem f_648 (hc : c ≤ 600) (hs : ∀ X, FV c n R Z X → f_L_now X = some s) {a best : Nat} (ha : a < 2147483648) (hb : best < 2147483648) (hB : ∀ k, k < n → R (42 + k) = 0 → tkM n 5 (upN R (42 + k) 5) 55 - R 55 ≤ best) (h : FV c n R Z X) : Wl c Z (f_L_follows_648 (nI a) s (nI n) (lN (R 53)) (lN best) X) := by
  have h6 := h.1.up hc
  have key := f_675 hc hs ha hb hB h n 0 7 (Nat.zero_add _) (by have := h.1.1.1.1.2; rw [h.2.1] at this; omega)
  obtain ⟨f1, f2, f3, f4⟩ := fs_prop (f := ovN (x_n X) 1 (x_R X)) (x_n X)
  have e1 : o_bestTurns X 2 0 = some ((nI (fsN (ovN (x_n X) 1 (x_R X)) (x_n X)).1).toInt64) := g_bt h6 (t := 1) (by omega) 0
  have e2 : o_growth X 10 1 = some (lN (tkM (x_n X) 10 (x_R X) 55 - x_R X 55)) := g_gr h6 (m := 10) (j := 1) (by omega) (by omega) (by omega)
  have hle := fsN_le (B := 5400) (f := ovN (x_n X) 1 (x_R X)) (x_n X) fun d hd => ovN_le h6.1.1 hd
  have hR : x_R X 55 ≤ 98901 * 600 := h6.1.2.2.1 1 (by omega)
  have b1 := g_b55 (m := 5) h6.1.1 hR (by omega)
  have b10 := g_b55 (m := 10) h6.1.1 hR (by omega)
  have hg5 := GN.ticks 5 _ h6.1.1
  have b2 := tkM_55 5 _ hg5
  have ta := tkM_add (n := x_n X) 5 5 (x_R X)
  have lo : tkM (x_n X) 10 (x_R X) 55 - x_R X 55 ≤ ovN (x_n X) 1 (x_R X) 0 := by
    have c1 : ovN (x_n X) 1 (x_R X) 0 = (tkM (x_n X) 5 (x_R X) 55 - x_R X 55) + bsN (x_n X) 1 (tkM (x_n X) 5 (x_R X)) := by
      unfold ovN wvN
      rw [if_pos (Or.inl rfl)]
      rfl
    have c2 : tkM (x_n X) 5 (tkM (x_n X) 5 (x_R X)) 55 - tkM (x_n X) 5 (x_R X) 55 ≤ bsN (x_n X) 1 (tkM (x_n X) 5 (x_R X)) := by
      have c3 := mxD_ge (f := fun d => if okC (tkM (x_n X) 5 (x_R X)) d then vpC (x_n X) (tkM (x_n X) 5 (x_R X)) d + bsN (x_n X) 0 (nxR5 (x_n X) (tkM (x_n X) 5 (x_R X)) d) else 0) (x_n X + 1) 0 (by omega)
      rw [if_pos (Or.inl rfl)] at c3
      exact Nat.le_trans (Nat.le_of_eq rfl) c3
    have ta2 : tkM (x_n X) 10 (x_R X) = tkM (x_n X) 5 (tkM (x_n X) 5 (x_R X)) := ta
    rw [c1, ta2]
    omega
  have up := f3 0 (Nat.zero_le _)
  unfold f_L_follows_648
  rw [e1, bd_some, e2, bd_some, nI_l (lt31 (by omega)), if_neg (fun q => by have := (lc_lt (by omega) (by omega)).mp q; omega)]
  exact key
theorem f_559 (hc : c ≤ 600) (hs : ∀ X, FV c n R Z X → f_L_now X = some s) {a : Nat} (ha : a < 2147483648) (h : FV c n R Z X) : Wl c Z (f_L_follows_559 (nI a) s (nI n) (lN (R 53)) 1 X) := by
  have h6 := h.1.up hc
  obtain ⟨f1, f2, f3, f4⟩ := fs_prop (f := ovN n 0 R) n
  have e1 : o_bestTurns X 1 0 = some ((nI (fsN (ovN n 0 R) n).1).toInt64) := by
    have e := g_bt h6 (t := 0) (by omega) 0
    rw [h.2.1, h.2.2.1] at e
    exact e
  have e2 : o_bestTurns X 1 1 = some ((nI (fsN (ovN n 0 R) n).2 - 1).toInt64) := by
    have e := g_bt h6 (t := 0) (by omega) 1
    rw [h.2.1, h.2.2.1] at e
    exact e
  have e3 : o_growth X 5 1 = some (lN (tkM n 5 R 55 - R 55)) := by
    have e := g_gr h6 (m := 5) (j := 1) (by omega) (by omega) (by omega)
    rw [h.2.1, h.2.2.1] at e
    exact e
  have hg : GN n R := by have := h.1.1.1; rw [h.2.1, h.2.2.1] at this; exact this
  have n6 := hg.1.2
  have hle := fsN_le (B := 2700) (f := ovN n 0 R) n fun d hd => ovN_le hg hd
  have o0 : ovN n 0 R 0 = tkM n 5 R 55 - R 55 := by
    unfold ovN wvN
    rw [if_pos (Or.inl rfl)]
    rfl
  have os : ∀ k, R (42 + k) = 0 → ovN n 0 R (k + 1) = tkM n 5 (upN R (42 + k) 5) 55 - R 55 := fun k hk => by
    unfold ovN wvN
    rw [if_pos (Or.inr (by rw [Nat.add_sub_cancel]; exact hk))]
    rfl
  have hB : ∀ k, k < n → R (42 + k) = 0 → tkM n 5 (upN R (42 + k) 5) 55 - R 55 ≤ (fsN (ovN n 0 R) n).1 := fun k hk w => by
    rw [← os k w]
    exact f3 (k + 1) (by omega)
  have key := f_648 hc hs ha (show (fsN (ovN n 0 R) n).1 < 2147483648 by omega) hB h
  have up := f3 0 (Nat.zero_le _)
  rw [o0] at up
  unfold f_L_follows_559
  rw [e1, bd_some, e2, bd_some, nm_e2, lg_l2i_i2l, if_neg (by decide), e3, bd_some, nI_l (lt31 (by omega)), if_neg (fun q => by have := (lc_gt (by omega) (by omega)).mp q; omega)]
  cases hd : (fsN (ovN n 0 R) n).2 with
  | zero =>
    rw [hd, o0] at f2
    rw [if_pos (by decide), bd_some, if_pos ((lc_eq (by omega) (by omega)).mpr f2)]
    exact key
  | succ e =>
    rw [hd] at f1 f2
    have lt := f4 0 (by omega)
    rw [o0] at lt
    have w : R (42 + e) = 0 := by
      refine Classical.byContradiction fun w => ?_
      have : ovN n 0 R (e + 1) = 0 := by
        unfold ovN
        rw [if_neg (fun q => by
          rcases q with q | q
          · omega
          · rw [Nat.add_sub_cancel] at q
            exact w q)]
      omega
    rw [os e w] at f2
    have hi : e < x_n X := by rw [h.2.1]; omega
    have e4 : o_washGain X (nI e) 5 5 = some (lN (tkM n 5 (upN R (42 + e) 5) 55 - R 55) - lN (tkM n 5 R 55 - R 55)) := by
      have g := g_wg h6 hi (by rw [h.2.2.1]; exact w) (z := 5) (m := 5) (by omega) (by omega) (by omega) (by omega)
      rw [h.2.1, h.2.2.1] at g
      exact g
    rw [nI_p1, if_neg (nI_n0 (by omega)), bd_some, if_neg (fun q => by have := (lc_ge (by omega) (by omega)).mp q; omega), bd_some, e4, bd_some, l_ac, f2, if_pos lgz]
    exact key
theorem f_545 (hc : c ≤ 600) (hs : ∀ X, FV c n R Z X → f_L_now X = some s) {a : Nat} (ha : a < 2147483648) (h : FV c n R Z X) : Wl c Z (f_L_follows_545 (nI a) s (nI n) (lN (R 53)) X) := by
  unfold f_L_follows_545
  rw [hs X h, bd_some, if_pos lgz]
  exact f_559 hc hs ha h
end FO
