/-! the wash's turn, and the washing -/
def mxN (R : Nat → Nat) : Nat → Nat → Nat → Nat
  | 0, _, b => b
  | d + 1, j, b => if R (30 + j) ≤ R (30 + b) then mxN R d (j + 1) b else mxN R d (j + 1) j
theorem mxN_lt {R : Nat → Nat} {n : Nat} : ∀ d j b, j + d ≤ n → b < n → mxN R d j b < n
  | 0, _, _, _, h => h
  | d + 1, j, b, h1, h2 => by
    rw [mxN]
    split
    · exact mxN_lt d (j + 1) b (by omega) h2
    · exact mxN_lt d (j + 1) j (by omega) (by omega)
def tuN (n : Nat) (R : Nat → Nat) : Nat := mxN R (n - 1) 1 0
def trnN (n : Nat) (R : Nat → Nat) : Nat → Nat := if R 51 = 0 then R else if R 53 % R 51 = 0 then (if wcN R n = 0 then (if R (30 + tuN n R) = 0 then R else upN R (42 + tuN n R) (R 52)) else R) else R
def wsN (R : Nat → Nat) (j k : Nat) : Nat := if 30 ≤ k ∧ k < 30 + j ∧ R (k + 12) ≠ 0 then R k - 5 else if 42 ≤ k ∧ k < 42 + j ∧ R k ≠ 0 then R k - 1 else R k
def taN (n : Nat) (R : Nat → Nat) : Nat → Nat := upN (wsN (flN n (boilN n R)) n) 53 (flN n (boilN n R) 53 + 1)
def tkN (n : Nat) (R : Nat → Nat) : Nat → Nat := taN n (trnN n R)
theorem wcN_none {R : Nat → Nat} : ∀ n, wcN R n = 0 → ∀ i, i < n → R (42 + i) = 0
  | 0, _, i, hi => by omega
  | n + 1, h, i, hi => by
    rw [wcN] at h
    by_cases w : R (42 + n) = 0
    · by_cases e : i = n
      · rw [e]; exact w
      · exact wcN_none n (by omega) i (by omega)
    · rw [if_neg w] at h; omega
theorem wsN_0 {R : Nat → Nat} {k : Nat} : wsN R 0 k = R k := by
  unfold wsN
  rw [if_neg (by omega), if_neg (by omega)]
theorem wsN_skip {R : Nat → Nat} {j k : Nat} (w : R (42 + j) = 0) : wsN R (j + 1) k = wsN R j k := by
  unfold wsN
  by_cases a : 30 ≤ k ∧ k < 30 + j ∧ R (k + 12) ≠ 0
  · rw [if_pos a, if_pos (by omega)]
  · have a2 : ¬ (30 ≤ k ∧ k < 30 + (j + 1) ∧ R (k + 12) ≠ 0) := fun ⟨h1, h2, h3⟩ => by
      by_cases e : k = 30 + j
      · subst e
        rw [show 30 + j + 12 = 42 + j by omega] at h3
        exact h3 w
      · exact a ⟨h1, by omega, h3⟩
    rw [if_neg a, if_neg a2]
    by_cases b : 42 ≤ k ∧ k < 42 + j ∧ R k ≠ 0
    · rw [if_pos b, if_pos (by omega)]
    · have b2 : ¬ (42 ≤ k ∧ k < 42 + (j + 1) ∧ R k ≠ 0) := fun ⟨h1, h2, h3⟩ => by
        by_cases e : k = 42 + j
        · subst e
          exact h3 w
        · exact b ⟨h1, by omega, h3⟩
      rw [if_neg b, if_neg b2]
theorem wsN_step {R : Nat → Nat} {j k : Nat} (hj : j < 6) (w : R (42 + j) ≠ 0) : wsN R (j + 1) k = upN (upN (wsN R j) (30 + j) (R (30 + j) - 5)) (42 + j) (R (42 + j) - 1) k := by
  by_cases k1 : k = 42 + j
  · subst k1
    rw [upN_s]
    unfold wsN
    rw [if_neg (by omega), if_pos ⟨by omega, by omega, w⟩]
  · rw [upN_o k1]
    by_cases k2 : k = 30 + j
    · subst k2
      rw [upN_s]
      unfold wsN
      rw [if_pos ⟨by omega, by omega, by rw [show 30 + j + 12 = 42 + j by omega]; exact w⟩]
    · rw [upN_o k2]
      unfold wsN
      by_cases a : 30 ≤ k ∧ k < 30 + j ∧ R (k + 12) ≠ 0
      · rw [if_pos a, if_pos (by omega)]
      · rw [if_neg a, if_neg (fun ⟨h1, h2, h3⟩ => a ⟨h1, by omega, h3⟩)]
        by_cases b : 42 ≤ k ∧ k < 42 + j ∧ R k ≠ 0
        · rw [if_pos b, if_pos (by omega)]
        · rw [if_neg b, if_neg (fun ⟨h1, h2, h3⟩ => b ⟨h1, by omega, h3⟩)]
theorem wsN_o {R : Nat → Nat} {j k : Nat} (hj : j ≤ 6) (h : k < 30 ∨ (30 + j ≤ k ∧ k < 42) ∨ 42 + j ≤ k) : wsN R j k = R k := by
  unfold wsN
  rw [if_neg (by omega), if_neg (by omega)]
/-! bounds hold on -/
theorem ge_bo1s {R : Nat → Nat} {j h : Nat} (hj : j < 6) (hg : GE R j) : GE (bo1 R j h) j := by
  have hv := vaN_le (R := R) (i := j) (h := h)
  unfold GE at hg ⊢
  unfold bo1 upN
  simp only [show ¬ j = 30 + j by omega, show ¬ j = 36 + j by omega, show ¬ j = 58 by omega, show ¬ j = 56 by omega, show ¬ j = 55 by omega, show ¬ j = 6 + j by omega,
    show ¬ 6 + j = 30 + j by omega, show ¬ 6 + j = 36 + j by omega, show ¬ 6 + j = 58 by omega, show ¬ 6 + j = 56 by omega, show ¬ 6 + j = 55 by omega,
    show ¬ 12 + j = 30 + j by omega, show ¬ 12 + j = 36 + j by omega, show ¬ 12 + j = 58 by omega, show ¬ 12 + j = 56 by omega, show ¬ 12 + j = 55 by omega, show ¬ 12 + j = 6 + j by omega,
    show ¬ 18 + j = 30 + j by omega, show ¬ 18 + j = 36 + j by omega, show ¬ 18 + j = 58 by omega, show ¬ 18 + j = 56 by omega, show ¬ 18 + j = 55 by omega, show ¬ 18 + j = 6 + j by omega,
    show ¬ 24 + j = 30 + j by omega, show ¬ 24 + j = 36 + j by omega, show ¬ 24 + j = 58 by omega, show ¬ 24 + j = 56 by omega, show ¬ 24 + j = 55 by omega, show ¬ 24 + j = 6 + j by omega,
    show ¬ 36 + j = 30 + j by omega,
    show ¬ 42 + j = 30 + j by omega, show ¬ 42 + j = 36 + j by omega, show ¬ 42 + j = 58 by omega, show ¬ 42 + j = 56 by omega, show ¬ 42 + j = 55 by omega, show ¬ 42 + j = 6 + j by omega, if_false, if_true]
  obtain ⟨g1, g3, g4, g5, g6, g7, g8⟩ := hg
  exact ⟨g1, by omega, g4, g5, by omega, by omega, g8⟩
theorem ge_boL {n : Nat} (hn : n ≤ 6) : ∀ (d j h : Nat) (R : Nat → Nat), j + d ≤ n → (∀ i, i < n → GE R i) → ∀ i, i < n → GE (boL d j h R).2 i
  | 0, _, _, _, _, h => h
  | d + 1, j, h0, R, hj, h => by
    rw [boL]
    split
    · refine ge_boL hn d (j + 1) _ _ (by omega) fun i hi => ?_
      by_cases e : i = j
      · rw [e]; exact ge_bo1s (by omega) (h j (by omega))
      · exact GE.bo1 (by omega) (by omega) e (h i hi)
    · exact ge_boL hn d (j + 1) _ _ (by omega) h
theorem GE.cg {R R' : Nat → Nat} {i : Nat} (hi : i < 6) (h : GE R i) (e : ∀ k, k < 48 → R' k = R k) : GE R' i := by
  unfold GE at h ⊢
  rw [e _ (by omega), e _ (by omega), e _ (by omega), e _ (by omega), e _ (by omega), e _ (by omega), e _ (by omega), e _ (by omega)]
  exact h
theorem GN.boil {n : Nat} {R : Nat → Nat} (hg : GN n R) : GN n (boilN n R) := by
  obtain ⟨⟨n2, n6⟩, hge, hs⟩ := id hg
  unfold boilN
  by_cases e : wcN R n = n
  · rw [if_pos e]; exact hg
  · have hk : ∀ k, 48 ≤ k → k ≤ 52 → upN (boL n 0 (R 48) (upN R 54 (R 54 + R 48))).2 57 ((boL n 0 (R 48) (upN R 54 (R 54 + R 48))).2 57 + (boL n 0 (R 48) (upN R 54 (R 54 + R 48))).1) k = R k := fun k h1 h2 => by
      rw [upN_o (by omega), boL_keep (Or.inl ⟨by omega, by omega⟩) n 0 (R 48) _ (by omega), upN_o (by omega)]
    rw [if_neg e]
    refine ⟨⟨n2, n6⟩, fun i hi => ?_, ?_⟩
    · refine GE.cg (by omega) (ge_boL n6 n 0 (R 48) (upN R 54 (R 54 + R 48)) (by omega) (fun i hi => GE.cg (by omega) (hge i hi) fun k hk => upN_o (by omega)) i hi) fun k hk => upN_o (by omega)
    · rw [hk 48 (by omega) (by omega), hk 49 (by omega) (by omega), hk 50 (by omega) (by omega), hk 51 (by omega) (by omega), hk 52 (by omega) (by omega)]
      exact hs
theorem nxN_run {n : Nat} {R : Nat → Nat} {i : Nat} (hi : i < n) (w : R (42 + i) = 0) : ∀ d j, j + d = i → (∀ q, j ≤ q → q < i → R (42 + q) ≠ 0) → nxN n R j = i
  | 0, j, h, _ => by
    have : j = i := by omega
    subst this
    rw [nxN_s hi, if_pos w]
  | d + 1, j, h, hq => by
    rw [nxN_s (by omega), if_neg (hq j (by omega) (by omega))]
    exact nxN_run hi w d (j + 1) (by omega) fun q h1 h2 => hq q (by omega) h2
theorem pv_prev {n : Nat} {R : Nat → Nat} {i : Nat} (hi : i < n) (w : R (42 + i) = 0) : ∀ j, j ≤ i → (∀ q, j ≤ q → q < i → R (42 + q) ≠ 0) → nxN n R 0 < j → ∃ p, p < j ∧ R (42 + p) = 0 ∧ nxN n R (p + 1) = i ∧ ∀ f, pvN R f j = f p
  | 0, _, _, h => by omega
  | j + 1, h1, h2, h3 => by
    by_cases x : R (42 + j) = 0
    · exact ⟨j, by omega, x, nxN_run hi w (i - (j + 1)) (j + 1) (by omega) h2, fun f => by rw [pvN, if_pos x]⟩
    · have hne : nxN n R 0 ≠ j := fun e => x (by rw [← e]; exact nxN_w (by omega) (by omega))
      obtain ⟨p, a, b, c, d⟩ := pv_prev hi w j (by omega) (fun q q1 q2 => by
        by_cases e : q = j
        · rw [e]; exact x
        · exact h2 q (by omega) q2) (by omega)
      exact ⟨p, by omega, b, c, fun f => by rw [pvN, if_neg x, d]⟩
theorem GN.flow {n : Nat} {R : Nat → Nat} (hg : GN n R) : GN n (flN n R) := by
  obtain ⟨⟨n2, n6⟩, hge, hs⟩ := id hg
  have ho : ∀ k, (k < 6 ∨ 18 ≤ k) → k < 59 → flN n R k = R k := fun k h1 h2 => flN_o (by omega) (by omega) (by omega)
  refine ⟨⟨n2, n6⟩, fun i hi => ?_, ?_⟩
  · obtain ⟨g1, g3, g4, g5, g6, g7, g8⟩ := hge i hi
    unfold GE
    rw [ho i (by omega) (by omega), ho (18 + i) (by omega) (by omega), ho (24 + i) (by omega) (by omega), ho (30 + i) (by omega) (by omega), ho (36 + i) (by omega) (by omega), ho (42 + i) (by omega) (by omega)]
    refine ⟨g1, ?_, g4, g5, g6, g7, g8⟩
    by_cases w : R (42 + i) = 0
    · have h1 := gwN_le (n := n) (R := R) (i := i)
      have h2 := gsN_le (n := n) (R := R) (i := i)
      rw [flN_w hi w, flN_s n6 hi w]
      unfold cmN
      by_cases q : i ≤ nxN n R 0
      · rw [if_pos q, if_pos q]
        have e : nxN n R 0 = i := by
          rcases Nat.lt_or_ge i (nxN n R 0) with q2 | q2
          · exact absurd w (nxN_no (n := n) (Nat.zero_le i) q2)
          · omega
        unfold fdN
        rw [e, if_neg (show ¬ i = n by omega), if_neg (show ¬ i = n by omega)]
        by_cases y : R 49 + R 50 ≤ 5000 - amN R i
        · rw [if_pos y, if_pos y]
          unfold amN at y
          omega
        · rw [if_neg y, if_neg y]
          omega
      · rw [if_neg q, if_neg q]
        obtain ⟨p, a, b, c, d⟩ := pv_prev hi w i (Nat.le_refl _) (fun q h1 h2 => by omega) (by omega)
        have h3 := gwN_add (n := n) b
        have h4 : goN n R p ≤ 5000 - amN R i := by
          unfold goN
          rw [c, if_neg (by omega)]
          exact Nat.min_le_right _ _
        unfold amN at h4
        rw [d, d]
        omega
    · rw [flN_w0 hi w, flN_s0 n6 hi w]
      exact g3
  · rw [ho 48 (by omega) (by omega), ho 49 (by omega) (by omega), ho 50 (by omega) (by omega), ho 51 (by omega) (by omega), ho 52 (by omega) (by omega)]
    exact hs
theorem GN.wash {n : Nat} {R : Nat → Nat} (hg : GN n R) : GN n (wsN R n) := by
  obtain ⟨⟨n2, n6⟩, hge, hs⟩ := id hg
  refine ⟨⟨n2, n6⟩, fun i hi => ?_, ?_⟩
  · obtain ⟨g1, g3, g4, g5, g6, g7, g8⟩ := hge i hi
    have e1 : wsN R n (30 + i) ≤ R (30 + i) := by unfold wsN; split; omega; split <;> omega
    have e2 : wsN R n (42 + i) ≤ R (42 + i) := by unfold wsN; split; omega; split <;> omega
    unfold GE
    rw [wsN_o n6 (k := i) (by omega), wsN_o n6 (k := 6 + i) (by omega), wsN_o n6 (k := 12 + i) (by omega), wsN_o n6 (k := 18 + i) (by omega), wsN_o n6 (k := 24 + i) (by omega), wsN_o n6 (k := 36 + i) (by omega)]
    exact ⟨g1, g3, g4, g5, by omega, g7, by omega⟩
  · rw [wsN_o n6 (k := 48) (by omega), wsN_o n6 (k := 49) (by omega), wsN_o n6 (k := 50) (by omega), wsN_o n6 (k := 51) (by omega), wsN_o n6 (k := 52) (by omega)]
    exact hs
theorem GN.turn {n : Nat} {R : Nat → Nat} (hg : GN n R) : GN n (trnN n R) := by
  obtain ⟨⟨n2, n6⟩, hge, hs⟩ := id hg
  have ht : tuN n R < n := mxN_lt (n - 1) 1 0 (by omega) (by omega)
  unfold trnN
  split
  · exact hg
  · split
    · split
      · split
        · exact hg
        · refine ⟨⟨n2, n6⟩, fun i hi => ?_, ?_⟩
          · obtain ⟨g1, g3, g4, g5, g6, g7, g8⟩ := hge i hi
            unfold GE
            rw [upN_o (k := i) (by omega), upN_o (k := 6 + i) (by omega), upN_o (k := 12 + i) (by omega), upN_o (k := 18 + i) (by omega), upN_o (k := 24 + i) (by omega), upN_o (k := 30 + i) (by omega), upN_o (k := 36 + i) (by omega)]
            refine ⟨g1, g3, g4, g5, g6, g7, ?_⟩
            unfold upN
            split
            · exact hs.2.2.2.2.2
            · exact g8
          · rw [upN_o (k := 48) (by omega), upN_o (k := 49) (by omega), upN_o (k := 50) (by omega), upN_o (k := 51) (by omega), upN_o (k := 52) (by omega)]
            exact hs
      · exact hg
    · exact hg
theorem GN.tail {n : Nat} {R : Nat → Nat} (hg : GN n R) : GN n (taN n R) := by
  obtain ⟨⟨n2, n6⟩, hge, hs⟩ := hg.boil.flow.wash
  unfold taN
  refine ⟨⟨n2, n6⟩, fun i hi => GE.cg (by omega) (hge i hi) fun k hk => upN_o (by omega), ?_⟩
  rw [upN_o (k := 48) (by omega), upN_o (k := 49) (by omega), upN_o (k := 50) (by omega), upN_o (k := 51) (by omega), upN_o (k := 52) (by omega)]
  exact hs
theorem GN.tick {n : Nat} {R : Nat → Nat} (hg : GN n R) : GN n (tkN n R) := hg.turn.tail
theorem boilN_53 {n : Nat} {R : Nat → Nat} (hn : n ≤ 6) : boilN n R 53 = R 53 := by
  unfold boilN
  split
  · rfl
  · rw [upN_o (by omega), boL_keep (Or.inl ⟨by omega, by omega⟩) n 0 (R 48) _ (by omega), upN_o (by omega)]
theorem trnN_53 {n : Nat} {R : Nat → Nat} (hn : n ≤ 6) (h2 : 2 ≤ n) : trnN n R 53 = R 53 := by
  have ht : tuN n R < n := mxN_lt (n - 1) 1 0 (by omega) (by omega)
  unfold trnN
  split
  · rfl
  · split
    · split
      · split
        · rfl
        · exact upN_o (by omega)
      · rfl
    · rfl
theorem tkN_53 {n : Nat} {R : Nat → Nat} (hg : GN n R) : tkN n R 53 = R 53 + 1 := by
  obtain ⟨⟨n2, n6⟩, -⟩ := id hg
  unfold tkN taN
  rw [upN_s, flN_o (by omega) (by omega) (by omega), boilN_53 n6, trnN_53 n6 n2]
