/-! amounts that fit, thickness and power, neighbors, sums -/
theorem lc_eq {a b : Nat} (ha : a < 2147483648) (hb : b < 2147483648) : lg_cmp (lN a) (lN b) = 0 ↔ a = b := (lg_cmp_eq _ _).trans (pk_lEQ (by omega) (by omega))
theorem lc_lt {a b : Nat} (ha : a < 2147483648) (hb : b < 2147483648) : lg_cmp (lN a) (lN b) < 0 ↔ a < b := (lg_cmp_lt _ _).trans (pk_lLT (by omega) (by omega))
theorem lc_gt {a b : Nat} (ha : a < 2147483648) (hb : b < 2147483648) : 0 < lg_cmp (lN a) (lN b) ↔ b < a := (lg_cmp_gt _ _).trans (pk_lLT (by omega) (by omega))
theorem lc_ge {a b : Nat} (ha : a < 2147483648) (hb : b < 2147483648) : 0 ≤ lg_cmp (lN a) (lN b) ↔ b ≤ a := (lg_cmp_ge _ _).trans (pk_lLE (by omega) (by omega))
theorem lc_0 {a : Nat} (ha : a < 2147483648) : lg_cmp (lN a) 0 = 0 ↔ a = 0 := lc_eq (b := 0) ha (by omega)
theorem gb_nzl {α : Type} {a : Nat} {k : Option α} (h : 0 < a) (ha : a < 2147483648) : gb (nzl (lN a)) k = k := gb_t (nzl_t fun e => by
  have := (pk_lEQ (a := a) (b := 0) (by omega) (by omega)).mp e
  omega)
theorem nI_p1 {r : Nat} : nI (r + 1) - 1 = nI r := by rw [← nI_s1, Int32.add_sub_cancel]
theorem nI_m1 {r : Nat} : nI r + (-1) = nI r - 1 := (Int32.sub_eq_add_neg _ _).symm
theorem nI_n0 {r : Nat} (h : r < 2147483648) : ¬ nI r < (0 : Int32) := Int32.not_lt.mpr ((nI_leF (a := 0) (by omega) h).mpr (Nat.zero_le _))
section LB
variable {X : XV} {i : Nat}
theorem y_e0 (h : okX 600 X) (hi : i < x_n X) : o_effect X (nI i) 0 = some (lN (x_R X i)) := by
  have e : o_effect X (nI i) 0 = some (lN (deV (x_R X) i 0)) := y_effect h hi (j := 0) (by omega)
  rw [e]
  unfold deV
  rw [if_pos (by omega), Nat.mul_zero, Nat.zero_add]
theorem y_e1 (h : okX 600 X) (hi : i < x_n X) : o_effect X (nI i) 1 = some (lN (x_R X (6 + i))) := y_effect h hi (j := 1) (by omega)
theorem y_e2 (h : okX 600 X) (hi : i < x_n X) : o_effect X (nI i) 2 = some (lN (x_R X (12 + i))) := y_effect h hi (j := 2) (by omega)
theorem y_e5 (h : okX 600 X) (hi : i < x_n X) : o_effect X (nI i) 5 = some (lN (x_R X (30 + i))) := y_effect h hi (j := 5) (by omega)
theorem y_e6 (h : okX 600 X) (hi : i < x_n X) : o_effect X (nI i) 6 = some (lN (x_R X (36 + i))) := y_effect h hi (j := 6) (by omega)
theorem y_e8 (h : okX 600 X) (hi : i < x_n X) : o_effect X (nI i) 8 = some (lN (thN (x_R X) i)) := y_effect h hi (j := 8) (by omega)
theorem y_e9 (h : okX 600 X) (hi : i < x_n X) : o_effect X (nI i) 9 = some (lN (pwN (x_R X) i)) := y_effect h hi (j := 9) (by omega)
theorem y_bef (h : okX 600 X) (hi : i < x_n X) : o_neighbor X (nI i) 0 = some ((bwV (x_R X) i).toInt64) := by
  have h6 := h.1.1.1.2
  rw [z_neighbor h]
  unfold u_neighbor
  rw [if_neg (not_ix hi (by omega)), if_pos rfl, nI_cl (by omega)]
  rfl
theorem y_beh (h : okX 600 X) (hi : i < x_n X) : o_neighbor X (nI i) 1 = some ((nbV (x_n X) (x_R X) i).toInt64) := by
  have h6 := h.1.1.1.2
  rw [z_neighbor h]
  unfold u_neighbor
  rw [if_neg (not_ix hi (by omega)), if_neg (by decide), nI_cl (by omega)]
  rfl
theorem y_shr (h : okX 600 X) (hi : i < x_n X) : o_share X (nI i) = some (shV (x_R X) i) := by
  have h6 := h.1.1.1.2
  rw [z_share h]
  unfold u_share
  rw [if_neg (not_ix hi (by omega)), nI_cl (by omega)]
  rfl
theorem bt_408 (h : okX 600 X) : f_L_built_408 X (lN (smN (x_R X) 6 (x_n X))) (lN (smN (x_R X) 12 (x_n X))) (nI (wcN (x_R X) (x_n X))) 1 = some 1 := by
  obtain ⟨c1, c2, c3⟩ := h.1.2.2.2
  have b54 : x_R X 54 ≤ 98901 * 600 := h.1.2.2.1 0 (by omega)
  have b55 : x_R X 55 ≤ 98901 * 600 := h.1.2.2.1 1 (by omega)
  have a7 : o_about X 7 = some (lN (wcN (x_R X) (x_n X))) := y_about h (j := 7) (by omega)
  have a8 : o_about X 8 = some (lN (smN (x_R X) 6 (x_n X))) := y_about h (j := 8) (by omega)
  have a9 : o_about X 9 = some (lN (smN (x_R X) 12 (x_n X))) := y_about h (j := 9) (by omega)
  have t0 : o_total X 0 = some (lN (x_R X 54)) := y_total h (j := 0) (by omega)
  have t1 : o_total X 1 = some (lN (x_R X 55)) := y_total h (j := 1) (by omega)
  have t2 : o_total X 2 = some (lN (x_R X 56)) := y_total h (j := 2) (by omega)
  have t3 : o_total X 3 = some (lN (x_R X 57)) := y_total h (j := 3) (by omega)
  have t4 : o_total X 4 = some (lN (x_R X 58)) := y_total h (j := 4) (by omega)
  have hw := wcN_le (x_R X) (x_n X)
  have h6 := h.1.1.1.2
  unfold f_L_built_408
  rw [if_neg (by decide), a7, bd_some, nI_l (lt31 (by omega)), if_pos lgz, a8, bd_some, if_pos lgz, a9, bd_some, if_pos lgz, t2, bd_some, t1, bd_some, if_neg (fun c => by have := (lc_gt (by omega) (by omega)).mp c; omega), t3, bd_some, bd_some, if_neg (fun c => by have := (lc_gt (by omega) (by omega)).mp c; omega), t0, bd_some, bd_some, bd_some, t4, bd_some, lN_add, lN_add, if_pos ((lc_eq (by omega) (by omega)).mpr c1)]
def nbF (n : Nat) (R : Nat → Nat) (r : Nat) : Int32 := if nxN n R r = n then (-9) else nI (nxN n R r)
theorem bt_349 (h : okX 600 X) : ∀ (r fu : Nat), r ≤ x_n X → r < fu → f_L_built_349 X fu (lN (smN (x_R X) 6 (x_n X))) (lN (smN (x_R X) 12 (x_n X))) (nI (wcN (x_R X) (x_n X))) 1 (nbF (x_n X) (x_R X) r) (nI r - 1) = some 1
  | _, 0, _, hf => absurd hf (Nat.not_lt_zero _)
  | 0, fu + 1, hr, _ => by
    rw [f_L_built_349, if_pos (by decide)]
    exact bt_408 h
  | r + 1, fu + 1, hr, hf => by
    have h6 := h.1.1.1.2
    have hi : r < x_n X := by omega
    have hl : x_R X (42 + r) < 2147483648 := by have := (h.1.1.2.1 r hi).2.2.2.2.2.2; omega
    rw [f_L_built_349, nI_p1, if_neg (nI_n0 (by omega)), if_neg (by decide), y_beh h hi, bd_some, if_pos (show lg_cmp (nbV (x_n X) (x_R X) r).toInt64 (nbF (x_n X) (x_R X) (r + 1)).toInt64 = 0 from lgz)]
    unfold f_L_built_378
    rw [y_left h hi, bd_some, nI_m1]
    have e : nbF (x_n X) (x_R X) r = if x_R X (42 + r) = 0 then nI r else nbF (x_n X) (x_R X) (r + 1) := by
      unfold nbF
      rw [nxN_s hi]
      by_cases w : x_R X (42 + r) = 0
      · rw [if_pos w, if_pos w, if_neg (by omega)]
      · rw [if_neg w, if_neg w]
    by_cases w : x_R X (42 + r) = 0
    · rw [if_pos ((lc_0 hl).mpr w)]
      have ih := bt_349 h r fu (by omega) (by omega)
      rw [e, if_pos w] at ih
      exact ih
    · rw [if_neg (fun c => w ((lc_0 hl).mp c))]
      rw [if_neg w] at e
      rw [← e]
      exact bt_349 h r fu (by omega) (by omega)
theorem bw_s {R : Nat → Nat} : bwV R (i + 1) = if R (42 + i) = 0 then nI i else bwV R i := by
  unfold bwV
  rw [bwN]
  by_cases w : R (42 + i) = 0
  · rw [if_pos w, if_pos w]
  · rw [if_neg w, if_neg w]
theorem bt_310 (h : okX 600 X) (hi : i < x_n X) {k : Int32 → Int64 → Int64 → Int32 → Int32 → Int32 → Int32 → Option Int32} {a : Int32} {b c : Int64} {d t : Int32} : f_L_built_310 k X a b c d (bwV (x_R X) i) (nI i) t = k a b c d (bwV (x_R X) (i + 1)) t (nI (i + 1)) := by
  have hl : x_R X (42 + i) < 2147483648 := by have := (h.1.1.2.1 i hi).2.2.2.2.2.2; omega
  unfold f_L_built_310
  rw [y_left h hi, bd_some, nI_s1, bw_s]
  by_cases w : x_R X (42 + i) = 0
  · rw [if_pos ((lc_0 hl).mpr w), if_pos w]
  · rw [if_neg (fun c => w ((lc_0 hl).mp c)), if_neg w]
theorem bt_290 (h : okX 600 X) (hi : i < x_n X) {k : Int32 → Int64 → Int64 → Int32 → Int32 → Int32 → Int32 → Option Int32} {a : Int32} {b c : Int64} {d t : Int32} {s : Nat} (hs : s < 2147483648) (ht : t = if s = 0 then 1 else 0) : f_L_built_290 k X a b c d (bwV (x_R X) i) (nI i) (lN s) t = k a b c d (bwV (x_R X) (i + 1)) 1 (nI (i + 1)) := by
  unfold f_L_built_290 f_L_built_302
  by_cases w : s = 0
  · rw [if_pos ((lc_0 hs).mpr w), ht, if_pos w, if_pos rfl]
    exact bt_310 h hi
  · rw [if_neg (fun c => w ((lc_0 hs).mp c)), ht, if_neg w, if_pos rfl]
    exact bt_310 h hi
theorem bt_204 (h : okX 600 X) (hi : i < x_n X) {k : Int32 → Int64 → Int64 → Int32 → Int32 → Int32 → Int32 → Option Int32} {a : Int32} {b c : Int64} {d : Int32} : f_L_built_204 k X a b c d (bwV (x_R X) i) (nI i) (lN (x_R X (12 + i))) (lN (x_R X (30 + i))) (lN (thN (x_R X) i)) (lN (thN (x_R X) i)) = k a b c d (bwV (x_R X) (i + 1)) 1 (nI (i + 1)) := by
  obtain ⟨⟨g1, g2⟩, g3, g4, g5, g6, g7, g8⟩ := h.1.1.2.1 i hi
  obtain ⟨s1, s2, s3, s4⟩ := sh_ok (R := x_R X) (i := i) g3
  have c10 : (10 : Int64) + lN (x_R X (30 + i)) = lN (10 + x_R X (30 + i)) := lN_add 10 _
  have c100 : (100 : Int64) * lN (x_R X i) = lN (100 * x_R X i) := lN_mul 100 _
  unfold f_L_built_204
  rw [if_pos lgz, y_e9 h hi, bd_some, y_e0 h hi, bd_some, c10, gb_nzl (by omega) (by omega), c100, pk_lDiv (by omega) (by omega) (by omega), if_pos (show lg_cmp (lN (pwN (x_R X) i)) (lN (100 * x_R X i / (10 + x_R X (30 + i)))) = 0 from lgz), y_bef h hi, bd_some, if_pos lgz, y_shr h hi, bd_some, if_neg s2, bd_some, if_neg s3, bd_some]
  by_cases w : x_R X (12 + i) = 0
  · rw [if_pos (s4.mpr w)]
    exact bt_290 h hi (by omega) (by rw [if_pos w])
  · rw [if_neg (fun c => w (s4.mp c))]
    exact bt_290 h hi (by omega) (by rw [if_neg w])
theorem bt_93 (h : okX 600 X) (hi : i < x_n X) {k : Int32 → Int64 → Int64 → Int32 → Int32 → Int32 → Int32 → Option Int32} {a : Int32} {b c : Int64} {t0 t1 : Int32} : f_L_built_93 k X a b c (bwV (x_R X) i) (nI i) (lN (x_R X (6 + i))) (lN (x_R X (12 + i))) (lN (x_R X (30 + i))) t0 t1 = k a b c (t1 + t0) (bwV (x_R X) (i + 1)) 1 (nI (i + 1)) := by
  obtain ⟨⟨g1, g2⟩, g3, g4, g5, g6, g7, g8⟩ := h.1.1.2.1 i hi
  have i1 : f_L_in (lN (x_R X (30 + i))) 0 99 = some 1 := L_in (b := 99) g6 (by omega)
  have i2 : f_L_in (lN (x_R X (36 + i))) 0 999 = some 1 := L_in (b := 999) g7 (by omega)
  have i3 : f_L_in (lN (x_R X (42 + i))) 0 20 = some 1 := L_in (b := 20) g8 (by omega)
  have p0 : ∀ v : Nat, v < 2147483648 → ¬ lg_cmp (lN v) 0 < 0 := fun v hv c => absurd ((lc_lt (b := 0) hv (by omega)).mp c) (Nat.not_lt_zero _)
  have p5 : ¬ 0 < lg_cmp (lN (x_R X (6 + i) + x_R X (12 + i))) 5000 := fun c => by
    have := (lc_gt (b := 5000) (by omega) (by omega)).mp c
    omega
  have c100 : (100 : Int64) * lN (x_R X (12 + i)) = lN (100 * x_R X (12 + i)) := lN_mul 100 _
  unfold f_L_built_93
  rw [nm_e2, if_neg (p0 _ (by omega)), if_neg (p0 _ (by omega)), lN_add, if_neg p5, i1, bd_some, if_neg (by decide), y_e6 h hi, bd_some, i2, bd_some, if_neg (by decide), y_left h hi, bd_some, i3, bd_some, if_neg (by decide), y_e8 h hi, bd_some]
  by_cases w : x_R X (6 + i) + x_R X (12 + i) = 0
  · have z : (0 : Int64) = lN (thN (x_R X) i) := by
      unfold thN amN
      rw [w, Nat.div_zero]
      rfl
    rw [if_pos ((lc_0 (by omega)).mpr w), z]
    exact bt_204 h hi
  · rw [if_neg (fun c => w ((lc_0 (by omega)).mp c)), gb_nzl (by omega) (by omega), c100, pk_lDiv (by omega) (by omega) (by omega)]
    exact bt_204 h hi
theorem bt_23 (h : okX 600 X) : ∀ (r i fu : Nat), i + r = x_n X → r < fu → f_L_built_23 X fu (nI (x_n X)) (lN (smN (x_R X) 6 i)) (lN (smN (x_R X) 12 i)) (nI (wcN (x_R X) i)) (bwV (x_R X) i) 1 (nI i) = some 1
  | _, _, 0, _, hf => absurd hf (Nat.not_lt_zero _)
  | r, i, fu + 1, hi, hf => by
    have h6 := h.1.1.1.2
    have h2 := h.1.1.1.1
    rw [f_L_built_23]
    by_cases e : r = 0
    · have ei : i = x_n X := by omega
      have n9 : (-9 : Int32) = nbF (x_n X) (x_R X) (x_n X) := by
        unfold nbF
        rw [nxN_n, if_pos rfl]
      rw [if_pos (by rw [nI_leF (by omega) (by omega)]; omega), nm_e2, ei, n9]
      exact bt_349 h (x_n X) 7 (Nat.le_refl _) (by omega)
    · have hi2 : i < x_n X := by omega
      have hl : x_R X (42 + i) < 2147483648 := by have := (h.1.1.2.1 i hi2).2.2.2.2.2.2; omega
      rw [if_neg (by rw [nI_leF (by omega) (by omega)]; omega), if_neg (by decide), y_e1 h hi2, bd_some, y_e2 h hi2, bd_some, y_e5 h hi2, bd_some, nm_e2, nm_e2, y_left h hi2, bd_some, lN_add, lN_add]
      have ih := bt_23 h (r - 1) (i + 1) fu (by omega) (by omega)
      rw [smN_s, smN_s, wcN] at ih
      by_cases w : x_R X (42 + i) = 0
      · rw [if_pos ((l_le0 hl).mpr w), bt_93 h hi2]
        rw [if_pos w] at ih
        rw [show nI (wcN (x_R X) i) + 0 = nI (wcN (x_R X) i + 0) from nI_add _ 0]
        exact ih
      · rw [if_neg (fun c => w ((l_le0 hl).mp c)), bt_93 h hi2]
        rw [if_neg w] at ih
        rw [nI_s1]
        exact ih
theorem L_built (h : okX 600 X) : f_L_built X = some 1 := by
  unfold f_L_built
  rw [L_eff h, bd_some]
  exact bt_23 h (x_n X) 0 7 (Nat.zero_add _) (by have := h.1.1.1.2; omega)
end LB
