theorem i32_sw (a b c : Int32) : a - b + (c - a) = c - b := by
  rw [Int32.add_comm, Int32.sub_eq_add_neg, Int32.sub_eq_add_neg, Int32.add_assoc, ← Int32.add_assoc (-a), Int32.add_left_neg, Int32.zero_add, ← Int32.sub_eq_add_neg]
/-- what a disturbance does -/
def dsN (n r : Nat) (R : Nat → Nat) : Nat → Nat := if r % 4 = 0 then upN R (18 + r / 4 % n) (r / 64 % 200) else if r % 4 = 1 then upN R 48 (r / 64 % 400) else if r % 4 = 2 then (if R (42 + r / 4 % n) = 0 then upN R (42 + r / 4 % n) 5 else R) else R
theorem GN.valve {n i w : Nat} {R : Nat → Nat} (hg : GN n R) (hi : i < n) (hw : w ≤ 999) : GN n (upN R (18 + i) w) := by
  obtain ⟨⟨n2, n6⟩, hge, hs⟩ := hg
  refine ⟨⟨n2, n6⟩, fun q hq => ?_, ?_⟩
  · obtain ⟨g1, g3, g4, g5, g6, g7, g8⟩ := hge q hq
    unfold GE
    rw [upN_o (k := q) (by omega), upN_o (k := 6 + q) (by omega), upN_o (k := 12 + q) (by omega), upN_o (k := 24 + q) (by omega), upN_o (k := 30 + q) (by omega), upN_o (k := 36 + q) (by omega), upN_o (k := 42 + q) (by omega)]
    refine ⟨g1, g3, ?_, g5, g6, g7, g8⟩
    unfold upN
    split
    · exact hw
    · exact g4
  · rw [upN_o (k := 48) (by omega), upN_o (k := 49) (by omega), upN_o (k := 50) (by omega), upN_o (k := 51) (by omega), upN_o (k := 52) (by omega)]
    exact hs
theorem GN.dist {n r : Nat} {R : Nat → Nat} (hg : GN n R) : GN n (dsN n r R) := by
  have hv : r / 4 % n < n := Nat.mod_lt _ (by have := hg.1.1; omega)
  unfold dsN
  split
  · exact hg.valve hv (by omega)
  · split
    · exact hg.steam (by omega)
    · split
      · split
        · exact hg.left hv (by omega)
        · exact hg
      · exact hg
theorem dsN_o {n r k : Nat} {R : Nat → Nat} (hn : n ≤ 6) (h2 : 2 ≤ n) (hk : 53 ≤ k) : dsN n r R k = R k := by
  have hv : r / 4 % n < n := Nat.mod_lt _ (by omega)
  unfold dsN
  split
  · exact upN_o (by omega)
  · split
    · exact upN_o (by omega)
    · split
      · split
        · exact upN_o (by omega)
        · rfl
      · rfl
theorem s_disturb {T : TrV} {V : StV} {n r : Nat} {R : Nat → Nat} (hA : AgS n 0 V R) (hg : GN n R) (hr : r < 2147483648) : ∃ V', f_X1_disturb T V (nI r) = some (.inr V') ∧ AgS n 0 V' (dsN n r R) := by
  obtain ⟨⟨n2, n6⟩, hge, -⟩ := id hg
  have hv : r / 4 % n < n := Nat.mod_lt _ (by omega)
  have g8 := (hge _ hv).2.2.2.2.2.2
  obtain ⟨-, -, -, -, -, -, -, a8⟩ := hA.2.2.2.2.2 _ hv
  have c4 : (4 : Int32) = nI 4 := rfl
  have c64 : (64 : Int32) = nI 64 := rfl
  have c400 : (400 : Int32) = nI 400 := rfl
  unfold f_X1_disturb dsN
  rw [hA.1, L1, if_pos (by rw [nI_leF (by omega) (by omega)]; omega), gb_nz (by omega) (by omega), c4, nI_rm hr (by omega) (by omega), nI_dv hr (by omega) (by omega), nI_rm (by omega) (by omega) (by omega), nm_e2, c64, nI_dv hr (by omega) (by omega), nm_e2, L0, L2, L200, c400]
  by_cases x0 : r % 4 = 0
  · rw [if_pos (by rw [x0]), if_pos x0, gb_in (by omega) (by omega), nI_rm (by omega) (by omega) (by omega), nI_cl (by omega), nm_e2]
    exact ⟨_, rfl, hA.val n6 hv _⟩
  · rw [if_neg (show ¬ nI (r % 4) = nI 0 by rw [nI_iff (by omega) (by omega)]; exact x0), if_neg x0]
    by_cases x1 : r % 4 = 1
    · rw [if_pos (show nI (r % 4) = nI 1 by rw [x1]), if_pos x1, nI_rm (by omega) (by omega) (by omega), nm_e2]
      exact ⟨_, rfl, hA.set n6 (j := 0) (by omega) _⟩
    · rw [if_neg (show ¬ nI (r % 4) = nI 1 by rw [nI_iff (by omega) (by omega)]; exact x1), if_neg x1]
      by_cases x2 : r % 4 = 2
      · rw [if_pos (show nI (r % 4) = nI 2 by rw [x2]), if_pos x2, gb_in (by omega) (by omega), nI_cl (by omega), a8]
        by_cases w : R (42 + r / 4 % n) = 0
        · rw [if_pos (show nI (R (42 + r / 4 % n)) = nI 0 by rw [w]), if_pos w, gb_in (by omega) (by omega), nm_e2]
          exact ⟨_, rfl, hA.lef n6 hv 5⟩
        · rw [if_neg (show ¬ nI (R (42 + r / 4 % n)) = nI 0 by rw [nI_iff (by omega) (by omega)]; exact w), if_neg w]
          exact ⟨V, rfl, hA⟩
      · rw [if_neg (show ¬ nI (r % 4) = nI 2 by rw [nI_iff (by omega) (by omega)]; exact x2), if_neg x2]
        exact ⟨V, rfl, hA⟩
