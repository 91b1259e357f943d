/-! the class's state holds a row; d: what is still to be added to the steam used -/
def AgS (n d : Nat) (S : StV) (R : Nat → Nat) : Prop :=
  s_n S = nI n ∧ s_clk S = nI (R 53) ∧ (∀ j, j < 5 → s_set S j = nI (R (48 + j))) ∧ s_cou S 0 + nI d = nI (R 54) ∧ (∀ j, 0 < j → j < 10 → s_cou S j = nI (R (54 + j))) ∧
  ∀ i, i < n → s_are S i = nI (R i) ∧ s_wat S i = nI (R (6 + i)) ∧ s_sol S i = nI (R (12 + i)) ∧ s_val S i = nI (R (18 + i)) ∧ s_ble S i = nI (R (24 + i)) ∧ s_sca S i = nI (R (30 + i)) ∧ s_scl S i = nI (R (36 + i)) ∧ s_lef S i = nI (R (42 + i))
section AG
variable {n d i v : Nat} {S : StV} {R : Nat → Nat}
theorem AgS.cg {R' : Nat → Nat} (h : AgS n d S R) (hn : n ≤ 6) (e : ∀ k, k < 64 → R k = R' k) : AgS n d S R' := by
  obtain ⟨h1, h2, h3, h4, h5, h6⟩ := h
  refine ⟨h1, by rw [h2, e _ (by omega)], fun j hj => by rw [h3 j hj, e _ (by omega)], by rw [h4, e _ (by omega)], fun j h0 hj => by rw [h5 j h0 hj, e _ (by omega)], fun i hi => ?_⟩
  obtain ⟨a1, a2, a3, a4, a5, a6, a7, a8⟩ := h6 i hi
  exact ⟨by rw [a1, e _ (by omega)], by rw [a2, e _ (by omega)], by rw [a3, e _ (by omega)], by rw [a4, e _ (by omega)], by rw [a5, e _ (by omega)], by rw [a6, e _ (by omega)], by rw [a7, e _ (by omega)], by rw [a8, e _ (by omega)]⟩
theorem upd_N {f : Nat → Int32} {R : Nat → Nat} {b j k : Nat} (h : f k = nI (R (b + k))) : upd f j (nI v) k = nI (upN R (b + j) v (b + k)) := by
  unfold upd upN
  by_cases e : k = j
  · rw [if_pos e, if_pos (by omega)]
  · rw [if_neg e, if_neg (by omega), h]
theorem AgS.wat (h : AgS n d S R) (hn : n ≤ 6) (hi : i < n) (v : Nat) : AgS n d (su_wat S (upd (s_wat S) i (nI v))) (upN R (6 + i) v) := by
  obtain ⟨h1, h2, h3, h4, h5, h6⟩ := h
  refine ⟨h1, by rw [upN_o (by omega)]; exact h2, fun j hj => by rw [upN_o (by omega)]; exact h3 j hj, by rw [upN_o (by omega)]; exact h4, fun j h0 hj => by rw [upN_o (by omega)]; exact h5 j h0 hj, fun q hq => ?_⟩
  obtain ⟨a1, a2, a3, a4, a5, a6, a7, a8⟩ := h6 q hq
  exact ⟨by rw [upN_o (by omega)]; exact a1, upd_N a2, by rw [upN_o (by omega)]; exact a3, by rw [upN_o (by omega)]; exact a4, by rw [upN_o (by omega)]; exact a5, by rw [upN_o (by omega)]; exact a6, by rw [upN_o (by omega)]; exact a7, by rw [upN_o (by omega)]; exact a8⟩
theorem AgS.sol (h : AgS n d S R) (hn : n ≤ 6) (hi : i < n) (v : Nat) : AgS n d (su_sol S (upd (s_sol S) i (nI v))) (upN R (12 + i) v) := by
  obtain ⟨h1, h2, h3, h4, h5, h6⟩ := h
  refine ⟨h1, by rw [upN_o (by omega)]; exact h2, fun j hj => by rw [upN_o (by omega)]; exact h3 j hj, by rw [upN_o (by omega)]; exact h4, fun j h0 hj => by rw [upN_o (by omega)]; exact h5 j h0 hj, fun q hq => ?_⟩
  obtain ⟨a1, a2, a3, a4, a5, a6, a7, a8⟩ := h6 q hq
  exact ⟨by rw [upN_o (by omega)]; exact a1, by rw [upN_o (by omega)]; exact a2, upd_N a3, by rw [upN_o (by omega)]; exact a4, by rw [upN_o (by omega)]; exact a5, by rw [upN_o (by omega)]; exact a6, by rw [upN_o (by omega)]; exact a7, by rw [upN_o (by omega)]; exact a8⟩
theorem AgS.val (h : AgS n d S R) (hn : n ≤ 6) (hi : i < n) (v : Nat) : AgS n d (su_val S (upd (s_val S) i (nI v))) (upN R (18 + i) v) := by
  obtain ⟨h1, h2, h3, h4, h5, h6⟩ := h
  refine ⟨h1, by rw [upN_o (by omega)]; exact h2, fun j hj => by rw [upN_o (by omega)]; exact h3 j hj, by rw [upN_o (by omega)]; exact h4, fun j h0 hj => by rw [upN_o (by omega)]; exact h5 j h0 hj, fun q hq => ?_⟩
  obtain ⟨a1, a2, a3, a4, a5, a6, a7, a8⟩ := h6 q hq
  exact ⟨by rw [upN_o (by omega)]; exact a1, by rw [upN_o (by omega)]; exact a2, by rw [upN_o (by omega)]; exact a3, upd_N a4, by rw [upN_o (by omega)]; exact a5, by rw [upN_o (by omega)]; exact a6, by rw [upN_o (by omega)]; exact a7, by rw [upN_o (by omega)]; exact a8⟩
theorem AgS.ble (h : AgS n d S R) (hn : n ≤ 6) (hi : i < n) (v : Nat) : AgS n d (su_ble S (upd (s_ble S) i (nI v))) (upN R (24 + i) v) := by
  obtain ⟨h1, h2, h3, h4, h5, h6⟩ := h
  refine ⟨h1, by rw [upN_o (by omega)]; exact h2, fun j hj => by rw [upN_o (by omega)]; exact h3 j hj, by rw [upN_o (by omega)]; exact h4, fun j h0 hj => by rw [upN_o (by omega)]; exact h5 j h0 hj, fun q hq => ?_⟩
  obtain ⟨a1, a2, a3, a4, a5, a6, a7, a8⟩ := h6 q hq
  exact ⟨by rw [upN_o (by omega)]; exact a1, by rw [upN_o (by omega)]; exact a2, by rw [upN_o (by omega)]; exact a3, by rw [upN_o (by omega)]; exact a4, upd_N a5, by rw [upN_o (by omega)]; exact a6, by rw [upN_o (by omega)]; exact a7, by rw [upN_o (by omega)]; exact a8⟩
theorem AgS.sca (h : AgS n d S R) (hn : n ≤ 6) (hi : i < n) (v : Nat) : AgS n d (su_sca S (upd (s_sca S) i (nI v))) (upN R (30 + i) v) := by
  obtain ⟨h1, h2, h3, h4, h5, h6⟩ := h
  refine ⟨h1, by rw [upN_o (by omega)]; exact h2, fun j hj => by rw [upN_o (by omega)]; exact h3 j hj, by rw [upN_o (by omega)]; exact h4, fun j h0 hj => by rw [upN_o (by omega)]; exact h5 j h0 hj, fun q hq => ?_⟩
  obtain ⟨a1, a2, a3, a4, a5, a6, a7, a8⟩ := h6 q hq
  exact ⟨by rw [upN_o (by omega)]; exact a1, by rw [upN_o (by omega)]; exact a2, by rw [upN_o (by omega)]; exact a3, by rw [upN_o (by omega)]; exact a4, by rw [upN_o (by omega)]; exact a5, upd_N a6, by rw [upN_o (by omega)]; exact a7, by rw [upN_o (by omega)]; exact a8⟩
theorem AgS.scl (h : AgS n d S R) (hn : n ≤ 6) (hi : i < n) (v : Nat) : AgS n d (su_scl S (upd (s_scl S) i (nI v))) (upN R (36 + i) v) := by
  obtain ⟨h1, h2, h3, h4, h5, h6⟩ := h
  refine ⟨h1, by rw [upN_o (by omega)]; exact h2, fun j hj => by rw [upN_o (by omega)]; exact h3 j hj, by rw [upN_o (by omega)]; exact h4, fun j h0 hj => by rw [upN_o (by omega)]; exact h5 j h0 hj, fun q hq => ?_⟩
  obtain ⟨a1, a2, a3, a4, a5, a6, a7, a8⟩ := h6 q hq
  exact ⟨by rw [upN_o (by omega)]; exact a1, by rw [upN_o (by omega)]; exact a2, by rw [upN_o (by omega)]; exact a3, by rw [upN_o (by omega)]; exact a4, by rw [upN_o (by omega)]; exact a5, by rw [upN_o (by omega)]; exact a6, upd_N a7, by rw [upN_o (by omega)]; exact a8⟩
theorem AgS.lef (h : AgS n d S R) (hn : n ≤ 6) (hi : i < n) (v : Nat) : AgS n d (su_lef S (upd (s_lef S) i (nI v))) (upN R (42 + i) v) := by
  obtain ⟨h1, h2, h3, h4, h5, h6⟩ := h
  refine ⟨h1, by rw [upN_o (by omega)]; exact h2, fun j hj => by rw [upN_o (by omega)]; exact h3 j hj, by rw [upN_o (by omega)]; exact h4, fun j h0 hj => by rw [upN_o (by omega)]; exact h5 j h0 hj, fun q hq => ?_⟩
  obtain ⟨a1, a2, a3, a4, a5, a6, a7, a8⟩ := h6 q hq
  exact ⟨by rw [upN_o (by omega)]; exact a1, by rw [upN_o (by omega)]; exact a2, by rw [upN_o (by omega)]; exact a3, by rw [upN_o (by omega)]; exact a4, by rw [upN_o (by omega)]; exact a5, by rw [upN_o (by omega)]; exact a6, by rw [upN_o (by omega)]; exact a7, upd_N a8⟩
theorem AgS.cou (h : AgS n d S R) (hn : n ≤ 6) {j : Nat} (h0 : 0 < j) (hj : j < 10) (v : Nat) : AgS n d (su_cou S (upd (s_cou S) j (nI v))) (upN R (54 + j) v) := by
  obtain ⟨h1, h2, h3, h4, h5, h6⟩ := h
  refine ⟨h1, by rw [upN_o (by omega)]; exact h2, fun j hj => by rw [upN_o (by omega)]; exact h3 j hj, ?_, fun q hq0 hq => upd_N (h5 q hq0 hq), fun q hq => ?_⟩
  · rw [upN_o (by omega)]
    show upd (s_cou S) j (nI v) 0 + nI d = _
    unfold upd
    rw [if_neg (by omega)]; exact h4
  obtain ⟨a1, a2, a3, a4, a5, a6, a7, a8⟩ := h6 q hq
  exact ⟨by rw [upN_o (by omega)]; exact a1, by rw [upN_o (by omega)]; exact a2, by rw [upN_o (by omega)]; exact a3, by rw [upN_o (by omega)]; exact a4, by rw [upN_o (by omega)]; exact a5, by rw [upN_o (by omega)]; exact a6, by rw [upN_o (by omega)]; exact a7, by rw [upN_o (by omega)]; exact a8⟩
theorem AgS.set (h : AgS n d S R) (hn : n ≤ 6) {j : Nat} (hj : j < 5) (v : Nat) : AgS n d (su_set S (upd (s_set S) j (nI v))) (upN R (48 + j) v) := by
  obtain ⟨h1, h2, h3, h4, h5, h6⟩ := h
  refine ⟨h1, by rw [upN_o (by omega)]; exact h2, fun q hq => upd_N (h3 q hq), by rw [upN_o (by omega)]; exact h4, fun q h0 hq => by rw [upN_o (by omega)]; exact h5 q h0 hq, fun q hq => ?_⟩
  obtain ⟨a1, a2, a3, a4, a5, a6, a7, a8⟩ := h6 q hq
  exact ⟨by rw [upN_o (by omega)]; exact a1, by rw [upN_o (by omega)]; exact a2, by rw [upN_o (by omega)]; exact a3, by rw [upN_o (by omega)]; exact a4, by rw [upN_o (by omega)]; exact a5, by rw [upN_o (by omega)]; exact a6, by rw [upN_o (by omega)]; exact a7, by rw [upN_o (by omega)]; exact a8⟩
/-! the class's readers -/
theorem s_amount (h : AgS n d S R) (hn : n ≤ 6) (hi : i < n) : f_X0_amount S (nI i) = some (nI (amN R i)) := by
  obtain ⟨-, -, -, -, -, h6⟩ := h
  obtain ⟨-, a2, a3, -⟩ := h6 i hi
  unfold f_X0_amount
  rw [gb_in (by omega) (by omega), gb_in (by omega) (by omega), nI_cl (by omega), a2, a3, nI_add]
  rfl
theorem s_thickness (h : AgS n d S R) (hn : n ≤ 6) (hi : i < n) (hg : GE R i) : f_X0_thickness S (nI i) = some (nI (thN R i)) := by
  obtain ⟨-, -, -, -, -, h6⟩ := h
  obtain ⟨-, a2, a3, -⟩ := h6 i hi
  have ha : amN R i ≤ 5000 := hg.2.1
  have hs : R (12 + i) ≤ 5000 := by have := hg.2.1; omega
  unfold f_X0_thickness
  rw [gb_in (by omega) (by omega), gb_in (by omega) (by omega), nI_cl (by omega), a2, a3, nI_add, nm_e2, L0]
  change (if nI (amN R i) ≤ nI 0 then _ else _) = _
  by_cases e : amN R i = 0
  · rw [if_pos (by rw [nI_leF (by omega) (by omega)]; omega)]
    unfold thN
    rw [e, Nat.div_zero]
  · rw [if_neg (by rw [nI_leF (by omega) (by omega)]; omega), gb_in (by omega) (by omega)]
    change (gb (nz (nI (amN R i))) (some ((100 * nI (R (12 + i))) / nI (amN R i)))) = _
    rw [gb_nz (by omega) (by omega), L100, pk_mul, nI_dv (by omega) (by omega) (by omega)]
    rfl
theorem s_power (h : AgS n d S R) (hn : n ≤ 6) (hi : i < n) (hg : GE R i) : f_X0_power S (nI i) = some (nI (pwN R i)) := by
  obtain ⟨-, -, -, -, -, h6⟩ := h
  obtain ⟨a1, -, -, -, -, a6, -⟩ := h6 i hi
  obtain ⟨⟨h1, h2⟩, -, -, -, h3, -⟩ := hg
  unfold f_X0_power
  rw [gb_in (by omega) (by omega), nI_cl (by omega), a6, L10, nI_add, nm_e2, L0, if_neg (by rw [nI_leF (by omega) (by omega)]; omega), gb_in (by omega) (by omega), gb_nz (by omega) (by omega), a1, L100, pk_mul, nI_dv (by omega) (by omega) (by omega)]
  rfl
theorem s_behind_4 (h : AgS n d S R) (hn : n ≤ 6) (hl : ∀ i, i < n → R (42 + i) < 2147483648) : ∀ (fu j : Nat), j ≤ n → n - j < fu → f_X0_effectBehind_4 S fu (nI j) = some (if nxN n R j = n then (-9) else nI (nxN n R j))
  | 0, j, hj, hf => by omega
  | fu + 1, j, hj, hf => by
    rw [f_X0_effectBehind_4, h.1]
    by_cases e : n = j
    · subst e
      have e1 : nxN n R n = n := by unfold nxN; rw [Nat.sub_self]; rfl
      rw [if_pos (by rw [nI_leF (by omega) (by omega)]; omega), if_pos e1]
    · have a8 := (h.2.2.2.2.2 j (by omega)).2.2.2.2.2.2.2
      have e1 : nxN n R j = if R (42 + j) = 0 then j else nxN n R (j + 1) := by
        unfold nxN
        rw [show n - j = (n - (j + 1)) + 1 by omega, fwN]
      rw [if_neg (by rw [nI_leF (by omega) (by omega)]; omega), gb_in (by omega) (by omega), nI_cl (by omega), a8, L0]
      by_cases w : R (42 + j) = 0
      · rw [if_pos (by rw [w]), e1, if_pos w, if_neg (by omega)]
      · rw [if_neg (by rw [nI_iff (hl j (by omega)) (by omega)]; exact w), nI_s1, s_behind_4 h hn hl fu (j + 1) (by omega) (by omega), e1, if_neg w]
theorem s_behind (h : AgS n d S R) (hn : n ≤ 6) (hl : ∀ i, i < n → R (42 + i) < 2147483648) (hi : i < n) : f_X0_effectBehind S (nI i) = some (if nxN n R (i + 1) = n then (-9) else nI (nxN n R (i + 1))) := by
  unfold f_X0_effectBehind
  rw [nm_e2, nI_s1, s_behind_4 h hn hl 2000 (i + 1) (by omega) (by omega)]
theorem s_behind0 (h : AgS n d S R) (hn : n ≤ 6) (hl : ∀ i, i < n → R (42 + i) < 2147483648) : f_X0_effectBehind S (-1) = some (if nxN n R 0 = n then (-9) else nI (nxN n R 0)) := by
  unfold f_X0_effectBehind
  rw [nm_e2, show (-1 : Int32) + 1 = nI 0 from rfl, s_behind_4 h hn hl 2000 0 (by omega) (by omega)]
theorem s_washed_4 (h : AgS n d S R) (hn : n ≤ 6) (hl : ∀ i, i < n → R (42 + i) < 2147483648) : ∀ (fu j : Nat), j ≤ n → n - j < fu → f_X0_washedEffects_4 S fu (nI (wcN R j)) (nI j) = some (nI (wcN R n))
  | 0, j, hj, hf => by omega
  | fu + 1, j, hj, hf => by
    rw [f_X0_washedEffects_4, h.1]
    by_cases e : n = j
    · subst e
      rw [if_pos (by rw [nI_leF (by omega) (by omega)]; omega)]
    · have a8 := (h.2.2.2.2.2 j (by omega)).2.2.2.2.2.2.2
      rw [if_neg (by rw [nI_leF (by omega) (by omega)]; omega), gb_in (by omega) (by omega), nI_cl (by omega), a8, L0]
      have ih := s_washed_4 h hn hl fu (j + 1) (by omega) (by omega)
      rw [wcN] at ih
      by_cases w : R (42 + j) = 0
      · rw [if_pos (by rw [nI_leF (hl j (by omega)) (by omega)]; omega), nI_s1]
        rw [if_pos w] at ih
        exact ih
      · rw [if_neg (by rw [nI_leF (hl j (by omega)) (by omega)]; omega), nI_s1, nI_s1]
        rw [if_neg w] at ih
        exact ih
theorem s_washed (h : AgS n d S R) (hn : n ≤ 6) (hl : ∀ i, i < n → R (42 + i) < 2147483648) : f_X0_washedEffects S = some (nI (wcN R n)) := by
  unfold f_X0_washedEffects
  exact s_washed_4 h hn hl 2000 0 (by omega) (by omega)
end AG
