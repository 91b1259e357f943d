/-! the class's flows -/
theorem nI_asb {a x g : Nat} (h : g ≤ a) : nI a + (nI x - nI g) = nI (a + x - g) := by
  rw [Int32.sub_eq_add_neg, ← Int32.add_assoc, nI_add, ← Int32.sub_eq_add_neg, pk_sub (by omega)]
section SF
variable {n : Nat} {R : Nat → Nat}
theorem s_flowFrom {S : StV} {d j : Nat} {P : Nat → Nat} (h : AgS n d S P) (hn : n ≤ 6) (hl : ∀ i, i < n → P (42 + i) < 2147483648) (hj : j < n) (hv : P (18 + j) ≤ 999) (ha : ∀ i, j ≤ i → i < n → amN P i ≤ 5000) : f_X0_flowFrom S (nI j) = some (nI (goN n P j)) := by
  have haj := ha j (Nat.le_refl _) hj
  obtain ⟨-, -, -, a4, -⟩ := h.2.2.2.2.2 j hj
  unfold f_X0_flowFrom goN
  rw [gb_in (by omega) (by omega), s_amount h hn hj, bd_some, nI_cl (by omega), a4, mn_N (by omega) (by omega), nm_e2, s_behind h hn hl hj, bd_some]
  by_cases q : nxN n P (j + 1) = n
  · rw [if_pos q, if_pos rfl, if_pos q, Nat.min_eq_left (show min (P (18 + j)) (amN P j) ≤ 5000 by omega)]
  · have hx := nxN_le (n := n) (R := P) (j := j + 1) (by omega)
    have hax := ha (nxN n P (j + 1)) (by omega) (by omega)
    rw [if_neg q, if_neg (nI_m9 (by omega)), if_neg q, s_amount h hn (by omega), bd_some, L5000, pk_sub hax, mn_N (by omega) (by omega), nm_e2]
theorem goN_cg {P : Nat → Nat} {j : Nat} (hj : j < n) (hl : ∀ i, i < n → P (42 + i) = R (42 + i)) (hv : P (18 + j) = R (18 + j)) (ha : ∀ i, j ≤ i → i < n → amN P i = amN R i) : goN n P j = goN n R j := by
  have hx := nxN_le (n := n) (R := R) (j := j + 1) (by omega)
  unfold goN
  rw [nxN_cg (R := R) (by omega) hl, hv, ha j (Nat.le_refl _) hj]
  by_cases q : nxN n R (j + 1) = n
  · rw [if_pos q, if_pos q]
  · rw [if_neg q, if_neg q, ha _ (by omega) (by omega)]
/-- the row, the first j of them done -/
def clN (n : Nat) (R : Nat → Nat) (j k : Nat) : Nat := if (6 ≤ k ∧ k < 6 + j) ∨ (12 ≤ k ∧ k < 12 + j) ∨ k = 59 ∨ k = 60 ∨ k = 63 then flN n R k else R k
theorem clN_f {j k : Nat} (h : ¬ ((6 ≤ k ∧ k < 6 + j) ∨ (12 ≤ k ∧ k < 12 + j) ∨ k = 59 ∨ k = 60 ∨ k = 63)) : clN n R j k = R k := if_neg h
/-- what comes to j -/
def cmN (n : Nat) (R f : Nat → Nat) (b j : Nat) : Nat := if j ≤ nxN n R 0 then fdN n R b else pvN R f j
theorem cmN_w {f : Nat → Nat} {b j : Nat} (w : R (42 + j) = 0) : cmN n R f b (j + 1) = f j := by
  have h : nxN n R 0 ≤ j := by
    rcases Nat.lt_or_ge j (nxN n R 0) with q | q
    · exact absurd w (nxN_no (n := n) (Nat.zero_le j) q)
    · exact q
  unfold cmN
  rw [if_neg (by omega), pvN, if_pos w]
theorem cmN_o {f : Nat → Nat} {b j : Nat} (hj : j < n) (w : R (42 + j) ≠ 0) : cmN n R f b (j + 1) = cmN n R f b j := by
  have h : j ≠ nxN n R 0 := fun e => w (by rw [e]; exact nxN_w (by omega) (by omega))
  unfold cmN
  by_cases q : j ≤ nxN n R 0
  · rw [if_pos q, if_pos (by omega)]
  · rw [if_neg q, if_neg (by omega), pvN, if_neg w]
theorem cmN_n {f : Nat → Nat} {b : Nat} : cmN n R f b n = pvN R f n := by
  have hx := nxN_le (n := n) (R := R) (j := 0) (by omega)
  unfold cmN
  by_cases q : n ≤ nxN n R 0
  · rw [if_pos q, pvN_first n q]
    unfold fdN
    rw [if_pos (by omega)]
  · rw [if_neg q]
theorem cmN_0 {f : Nat → Nat} {b : Nat} : cmN n R f b 0 = fdN n R b := if_pos (Nat.zero_le _)
theorem flN_w {j : Nat} (hj : j < n) (w : R (42 + j) = 0) : flN n R (6 + j) = R (6 + j) + cmN n R (gwN n R) 49 j - gwN n R j := by
  have h : nxN n R 0 ≤ j := by
    rcases Nat.lt_or_ge j (nxN n R 0) with q | q
    · exact absurd w (nxN_no (n := n) (Nat.zero_le j) q)
    · exact q
  unfold flN cmN
  rw [if_pos (by omega), Nat.add_sub_cancel_left, if_pos w]
  by_cases q : j = nxN n R 0
  · rw [if_pos q, if_pos (by omega)]
  · rw [if_neg q, if_neg (by omega)]
theorem flN_s {j : Nat} (hn : n ≤ 6) (hj : j < n) (w : R (42 + j) = 0) : flN n R (12 + j) = R (12 + j) + cmN n R (gsN n R) 50 j - gsN n R j := by
  have h : nxN n R 0 ≤ j := by
    rcases Nat.lt_or_ge j (nxN n R 0) with q | q
    · exact absurd w (nxN_no (n := n) (Nat.zero_le j) q)
    · exact q
  unfold flN cmN
  rw [if_neg (by omega), if_pos (by omega), Nat.add_sub_cancel_left, if_pos w]
  by_cases q : j = nxN n R 0
  · rw [if_pos q, if_pos (by omega)]
  · rw [if_neg q, if_neg (by omega)]
theorem flN_w0 {j : Nat} (hj : j < n) (w : R (42 + j) ≠ 0) : flN n R (6 + j) = R (6 + j) := by
  unfold flN
  rw [if_pos (by omega), Nat.add_sub_cancel_left, if_neg w]
theorem flN_s0 {j : Nat} (hn : n ≤ 6) (hj : j < n) (w : R (42 + j) ≠ 0) : flN n R (12 + j) = R (12 + j) := by
  unfold flN
  rw [if_neg (by omega), if_pos (by omega), Nat.add_sub_cancel_left, if_neg w]
theorem flN_59 (hn : n ≤ 6) : flN n R 59 = R 59 + fdN n R 49 := by
  unfold flN
  rw [if_neg (by omega), if_neg (by omega), if_pos rfl]
theorem flN_60 (hn : n ≤ 6) : flN n R 60 = R 60 + fdN n R 50 := by
  unfold flN
  rw [if_neg (by omega), if_neg (by omega), if_neg (by omega), if_pos rfl]
theorem flN_61 (hn : n ≤ 6) : flN n R 61 = R 61 + pvN R (gwN n R) n := by
  unfold flN
  rw [if_neg (by omega), if_neg (by omega), if_neg (by omega), if_neg (by omega), if_pos rfl]
theorem flN_62 (hn : n ≤ 6) : flN n R 62 = R 62 + pvN R (gsN n R) n := by
  unfold flN
  rw [if_neg (by omega), if_neg (by omega), if_neg (by omega), if_neg (by omega), if_neg (by omega), if_pos rfl]
theorem flN_63 (hn : n ≤ 6) : flN n R 63 = R 63 + hdN n R := by
  unfold flN
  rw [if_neg (by omega), if_neg (by omega), if_neg (by omega), if_neg (by omega), if_neg (by omega), if_neg (by omega), if_pos rfl]
theorem flN_o {k : Nat} (h1 : ¬ (6 ≤ k ∧ k < 6 + n)) (h2 : ¬ (12 ≤ k ∧ k < 12 + n)) (h3 : k < 59 ∨ 63 < k) : flN n R k = R k := by
  unfold flN
  rw [if_neg h1, if_neg h2, if_neg (by omega), if_neg (by omega), if_neg (by omega), if_neg (by omega), if_neg (by omega)]
theorem s_flow_150 {S : StV} {P : Nat → Nat} {j x1 x2 go gs : Nat} {k : Int32 → Int32 → Int32 → StV → Option StV} (h : AgS n 0 S P) (hn : n ≤ 6) (hj : j < n) (h0 : gs ≤ go) (h1 : go - gs ≤ P (6 + j)) (h2 : gs ≤ P (12 + j)) :
    ∃ S', f_X0_flowOn_150 k (nI x1) (nI x2) (nI j) (nI go) (nI gs) S = k (nI (go - gs)) (nI gs) (nI (j + 1)) S' ∧ AgS n 0 S' (upN (upN P (6 + j) (P (6 + j) + x1 - (go - gs))) (12 + j) (P (12 + j) + x2 - gs)) := by
  obtain ⟨-, a2, -⟩ := h.2.2.2.2.2 j hj
  have s1 := h.wat hn hj (P (6 + j) + x1 - (go - gs))
  unfold f_X0_flowOn_150
  rw [pk_sub h0, nm_e2, gb_in (by omega) (by omega), gb_in (by omega) (by omega), nI_cl (by omega), a2, nI_asb h1, nm_e2]
  generalize su_wat S (upd (s_wat S) j (nI (P (6 + j) + x1 - (go - gs)))) = S1 at s1 ⊢
  obtain ⟨-, -, b3, -⟩ := s1.2.2.2.2.2 j hj
  rw [upN_o (by omega)] at b3
  rw [gb_in (by omega) (by omega), gb_in (by omega) (by omega), b3, nI_asb h2, nm_e2, nI_s1]
  exact ⟨_, rfl, s1.sol hn hj _⟩
theorem s_flowOn_93 (hg : GN n R) : ∀ (fu j : Nat) (S : StV), AgS n 0 S (clN n R j) → j ≤ n → n - j < fu → ∃ S', f_X0_flowOn_93 fu (nI (cmN n R (gwN n R) 49 j)) (nI (cmN n R (gsN n R) 50 j)) (nI j) S = some S' ∧ AgS n 0 S' (flN n R)
  | 0, j, S, _, hj, hf => by omega
  | fu + 1, j, S, hA, hj, hf => by
    obtain ⟨⟨n2, n6⟩, hge, -⟩ := id hg
    have hlR : ∀ i, i < n → R (42 + i) < 2147483648 := fun i hi => by have := (hge i hi).2.2.2.2.2.2; omega
    have c42 : ∀ i, i < n → clN n R j (42 + i) = R (42 + i) := fun i hi => clN_f (by omega)
    have hl : ∀ i, i < n → clN n R j (42 + i) < 2147483648 := fun i hi => by rw [c42 i hi]; exact hlR i hi
    rw [f_X0_flowOn_93, hA.1]
    by_cases e : n = j
    · subst e
      rw [if_pos (by rw [nI_leF (by omega) (by omega)]; omega), cmN_n, cmN_n]
      have c7 := hA.2.2.2.2.1 7 (by omega) (by omega)
      rw [clN_f (by omega)] at c7
      have s1 := hA.cou n6 (j := 7) (by omega) (by omega) (R 61 + pvN R (gwN n R) n)
      rw [c7, nI_add, nm_e2]
      generalize su_cou S (upd (s_cou S) 7 (nI (R (54 + 7) + pvN R (gwN n R) n))) = S1 at s1 ⊢
      have c8 := s1.2.2.2.2.1 8 (by omega) (by omega)
      rw [upN_o (by omega), clN_f (by omega)] at c8
      rw [c8, nI_add, nm_e2]
      refine ⟨_, rfl, (s1.cou n6 (j := 8) (by omega) (by omega) (R 62 + pvN R (gsN n R) n)).cg n6 fun k hk => ?_⟩
      by_cases k1 : k = 62
      · rw [k1, flN_62 n6]; exact upN_s
      · rw [upN_o (by omega)]
        by_cases k2 : k = 61
        · rw [k2, flN_61 n6]; exact upN_s
        · rw [upN_o (by omega)]
          unfold clN
          split
          · rfl
          · rw [flN_o (by omega) (by omega) (by omega)]
    · have hjn : j < n := by omega
      obtain ⟨⟨g1, g2⟩, g3, g4, g5, g6, g7, g8⟩ := hge j hjn
      have e6 : ∀ i, j ≤ i → i < n → clN n R j (6 + i) = R (6 + i) := fun i h1 h2 => clN_f (by omega)
      have e12 : ∀ i, j ≤ i → i < n → clN n R j (12 + i) = R (12 + i) := fun i h1 h2 => clN_f (by omega)
      have eam : ∀ i, j ≤ i → i < n → amN (clN n R j) i = amN R i := fun i h1 h2 => by unfold amN; rw [e6 i h1 h2, e12 i h1 h2]
      have e18 : clN n R j (18 + j) = R (18 + j) := clN_f (by omega)
      obtain ⟨-, -, a3, -, -, -, -, a8⟩ := hA.2.2.2.2.2 j hjn
      rw [c42 j hjn] at a8
      rw [e12 j (Nat.le_refl _) hjn] at a3
      rw [if_neg (by rw [nI_leF (by omega) (by omega)]; omega), gb_in (by omega) (by omega), nI_cl (by omega), a8, L0]
      by_cases w : R (42 + j) = 0
      · have hw1 := gwN_add (n := n) (R := R) w
        have hgo := goN_am (n := n) (R := R) (i := j)
        have hgw := gwN_le (n := n) (R := R) (i := j)
        have hgs := gsN_le (n := n) (R := R) (i := j)
        have ha5 : amN R j ≤ 5000 := g3
        have key : ∀ gs, gs = gsN n R j → ∃ S', f_X0_flowOn_150 (f_X0_flowOn_93 fu) (nI (cmN n R (gwN n R) 49 j)) (nI (cmN n R (gsN n R) 50 j)) (nI j) (nI (goN n R j)) (nI gs) S = some S' ∧ AgS n 0 S' (flN n R) := fun gs hgse => by
          subst hgse
          have eg : goN n R j - gsN n R j = gwN n R j := by omega
          obtain ⟨S1, a, b⟩ := s_flow_150 (k := f_X0_flowOn_93 fu) (x1 := cmN n R (gwN n R) 49 j) (x2 := cmN n R (gsN n R) 50 j) (go := goN n R j) (gs := gsN n R j) hA n6 hjn (by omega) (by rw [e6 j (Nat.le_refl _) hjn, eg]; exact hgw) (by rw [e12 j (Nat.le_refl _) hjn]; exact hgs)
          rw [a, eg]
          rw [eg] at b
          have ih := s_flowOn_93 hg fu (j + 1) S1 (b.cg n6 fun k hk => ?_) (by omega) (by omega)
          · rw [cmN_w w, cmN_w w] at ih
            exact ih
          · rw [e6 j (Nat.le_refl _) hjn, e12 j (Nat.le_refl _) hjn, ← flN_w hjn w, ← flN_s n6 hjn w]
            by_cases k1 : k = 12 + j
            · rw [k1, upN_s]
              unfold clN
              rw [if_pos (by omega)]
            · rw [upN_o k1]
              by_cases k2 : k = 6 + j
              · rw [k2, upN_s]
                unfold clN
                rw [if_pos (by omega)]
              · rw [upN_o k2]
                unfold clN
                by_cases q : (6 ≤ k ∧ k < 6 + j) ∨ (12 ≤ k ∧ k < 12 + j) ∨ k = 59 ∨ k = 60 ∨ k = 63
                · rw [if_pos q, if_pos (by omega)]
                · rw [if_neg q, if_neg (by omega)]
        rw [w, if_pos rfl, s_flowFrom hA n6 hl hjn (by rw [e18]; exact g4) (fun i h1 h2 => by rw [eam i h1 h2]; exact (hge i h2).2.1), bd_some, s_amount hA n6 hjn, bd_some, eam j (Nat.le_refl _) hjn, goN_cg hjn c42 e18 eam]
        by_cases z : amN R j = 0
        · rw [if_pos (by rw [nI_leF (by omega) (by omega)]; omega)]
          exact key 0 (by omega)
        · have h1 : R (12 + j) * goN n R j ≤ 5000 * 5000 := Nat.mul_le_mul (by unfold amN at ha5; omega) (by omega)
          rw [if_neg (by rw [nI_leF (by omega) (by omega)]; omega), gb_in (by omega) (by omega), gb_nz (by omega) (by omega), a3, pk_mul, nI_dv (by omega) (by omega) (by omega)]
          refine key _ ?_
          unfold gsN
          rw [if_pos w]
      · rw [if_neg (by rw [nI_iff (hlR j hjn) (by omega)]; exact w), nI_s1]
        have ih := s_flowOn_93 hg fu (j + 1) S (hA.cg n6 fun k hk => ?_) (by omega) (by omega)
        · rw [cmN_o hjn w, cmN_o hjn w] at ih
          exact ih
        · unfold clN
          by_cases q : (6 ≤ k ∧ k < 6 + j) ∨ (12 ≤ k ∧ k < 12 + j) ∨ k = 59 ∨ k = 60 ∨ k = 63
          · rw [if_pos q, if_pos (by omega)]
          · rw [if_neg q]
            by_cases k1 : k = 6 + j
            · rw [k1, if_pos (by omega), flN_w0 hjn w]
            · by_cases k2 : k = 12 + j
              · rw [k2, if_pos (by omega), flN_s0 n6 hjn w]
              · rw [if_neg (by omega)]
theorem cl0 (hn : n ≤ 6) {k : Nat} : clN n R 0 k = if k = 59 then R 59 + fdN n R 49 else if k = 60 then R 60 + fdN n R 50 else if k = 63 then R 63 + hdN n R else R k := by
  unfold clN
  by_cases k1 : k = 59
  · rw [if_pos (by omega), if_pos k1, k1, flN_59 hn]
  · rw [if_neg k1]
    by_cases k2 : k = 60
    · rw [if_pos (by omega), if_pos k2, k2, flN_60 hn]
    · rw [if_neg k2]
      by_cases k3 : k = 63
      · rw [if_pos (by omega), if_pos k3, k3, flN_63 hn]
      · rw [if_neg k3, if_neg (by omega)]
theorem s_flow_held {S : StV} (hA : AgS n 0 S R) (hg : GN n R) (hf : ∀ b, fdN n R b = 0) (hh : hdN n R = 1) : ∃ S', f_X0_flowOn_41 S 0 0 = some S' ∧ AgS n 0 S' (flN n R) := by
  obtain ⟨⟨n2, n6⟩, hge, -⟩ := id hg
  have c9 := hA.2.2.2.2.1 9 (by omega) (by omega)
  unfold f_X0_flowOn_41
  rw [c9, nI_s1, nm_e2]
  have h := s_flowOn_93 hg 2000 0 _ ((hA.cou n6 (j := 9) (by omega) (by omega) (R (54 + 9) + 1)).cg n6 fun k hk => ?_) (by omega) (by omega)
  · rw [cmN_0, cmN_0, hf, hf] at h
    exact h
  · rw [cl0 n6, hf, hf, hh]
    unfold upN
    by_cases k3 : k = 63
    · rw [k3]; rfl
    · rw [if_neg (by omega)]
      try rw [if_neg k3]
      by_cases k1 : k = 59
      · rw [if_pos k1, k1]; rfl
      · rw [if_neg k1]
        by_cases k2 : k = 60
        · rw [if_pos k2, k2]; rfl
        · rw [if_neg k2]
theorem s_flowOn {S : StV} (hA : AgS n 0 S R) (hg : GN n R) : ∃ S', f_X0_flowOn S = some S' ∧ AgS n 0 S' (flN n R) := by
  obtain ⟨⟨n2, n6⟩, hge, h48, h49, h50, -⟩ := id hg
  have hl : ∀ i, i < n → R (42 + i) < 2147483648 := fun i hi => by have := (hge i hi).2.2.2.2.2.2; omega
  have hx := nxN_le (n := n) (R := R) (j := 0) (by omega)
  unfold f_X0_flowOn
  rw [s_behind0 hA n6 hl, bd_some]
  by_cases q : nxN n R 0 = n
  · rw [if_pos q, if_pos rfl]
    exact s_flow_held hA hg (fun b => if_pos q) (if_pos q)
  · have hx5 : amN R (nxN n R 0) ≤ 5000 := (hge _ (by omega)).2.1
    have t1 : s_set S 1 = nI (R 49) := hA.2.2.1 1 (by omega)
    have t2 : s_set S 2 = nI (R 50) := hA.2.2.1 2 (by omega)
    rw [if_neg q, if_neg (nI_m9 (by omega)), s_amount hA n6 (by omega), bd_some, L5000, pk_sub hx5, t1, t2, nI_add]
    by_cases y : R 49 + R 50 ≤ 5000 - amN R (nxN n R 0)
    · have hf : ∀ b, fdN n R b = R b := fun b => by unfold fdN; rw [if_neg q, if_pos y]
      have hh : hdN n R = 0 := by unfold hdN; rw [if_neg q, if_pos y]
      have c5 := hA.2.2.2.2.1 5 (by omega) (by omega)
      have s1 := hA.cou n6 (j := 5) (by omega) (by omega) (R (54 + 5) + R 49)
      have c6 := s1.2.2.2.2.1 6 (by omega) (by omega)
      rw [upN_o (by omega)] at c6
      rw [if_pos (by rw [nI_leF (by omega) (by omega)]; exact y), nm_e2, nm_e2, c5, nI_add, nm_e2]
      generalize su_cou S (upd (s_cou S) 5 (nI (R (54 + 5) + R 49))) = S1 at s1 c6 ⊢
      rw [c6, nI_add, nm_e2]
      have h := s_flowOn_93 hg 2000 0 _ ((s1.cou n6 (j := 6) (by omega) (by omega) (R (54 + 6) + R 50)).cg n6 fun k hk => ?_) (by omega) (by omega)
      · rw [cmN_0, cmN_0, hf, hf] at h
        exact h
      · rw [cl0 n6, hf, hf, hh]
        unfold upN
        by_cases k2 : k = 60
        · rw [k2]; rfl
        · rw [if_neg (by omega)]
          by_cases k1 : k = 59
          · rw [k1]; rfl
          · rw [if_neg (by omega)]
            try rw [if_neg k1]
            try rw [if_neg k2]
            by_cases k3 : k = 63
            · rw [if_pos k3, k3]; rfl
            · rw [if_neg k3]
    · rw [if_neg (by rw [nI_leF (by omega) (by omega)]; exact y)]
      exact s_flow_held hA hg (fun b => by unfold fdN; rw [if_neg q, if_neg y]) (by unfold hdN; rw [if_neg q, if_neg y])
end SF
