/-! the reference carries the flows out: its walk -/
section RG3
variable {M : MdV} {n : Nat} {R : Nat → Nat} {fl sa : Nat → Int32}
theorem r_go_219a (hn : n ≤ 6) (hF : FlN n R fl sa n) {k : Int32 → Int32 → Int32 → (Nat → Int32) → (Nat → Int32) → (Nat → Int32) → Option ((Nat → Int32) × (Nat → Int32) × (Nat → Int32))} {x2 x4 : Int32} {j : Nat} {r : Nat → Int32} {P : Nat → Nat} (hr : RR r P) (hj : j < n) (h1 : gwN n R j ≤ P (6 + j)) (h2 : gsN n R j ≤ P (12 + j)) :
    ∃ r', RR r' (upN (upN (upN (upN P (6 + j) (P (6 + j) - gwN n R j)) (12 + j) (P (12 + j) - gsN n R j)) 61 (P 61 + gwN n R j)) 62 (P 62 + gsN n R j)) ∧ f_X2_go_219 k fl sa x2 x4 (nI j) (-9) r = k x2 x4 (nI (j + 1)) r' fl sa := by
  obtain ⟨f1, f2⟩ := hF j hj
  have hfs : fl j - sa j = nI (gwN n R j) := by rw [f1, f2, pk_sub (by omega), Nat.add_sub_cancel]
  have s1 := hr.up (6 + j) (P (6 + j) - gwN n R j)
  have s2 := s1.up (12 + j) (P (12 + j) - gsN n R j)
  have s3 := s2.up 61 (P 61 + gwN n R j)
  have s4 := s3.up 62 (P 62 + gsN n R j)
  unfold f_X2_go_219
  rw [gb_in (by omega) (by omega), gb_in (by omega) (by omega), nI_cl (by omega), hfs, nm_e2, L6, nI_add, gb_in (by omega) (by omega), gb_in (by omega) (by omega), nI_cl (by omega), hr (6 + j) (by omega), pk_sub h1, nm_e2]
  rw [L12, nI_add, gb_in (by omega) (by omega), gb_in (by omega) (by omega), gb_in (by omega) (by omega), nI_cl (by omega), s1 (12 + j) (by omega), upN_o (by omega), f2, pk_sub h2, nm_e2, if_pos rfl]
  rw [s2 61 (by omega), upN_o (by omega), upN_o (by omega), nI_add, nm_e2, gb_in (by omega) (by omega), s3 62 (by omega), upN_o (by omega), upN_o (by omega), upN_o (by omega), nI_add, nm_e2, nI_s1]
  exact ⟨_, s4, rfl⟩
theorem r_go_219b (hn : n ≤ 6) (hF : FlN n R fl sa n) {k : Int32 → Int32 → Int32 → (Nat → Int32) → (Nat → Int32) → (Nat → Int32) → Option ((Nat → Int32) × (Nat → Int32) × (Nat → Int32))} {x2 x4 : Int32} {j : Nat} {r : Nat → Int32} {P : Nat → Nat} (hr : RR r P) (hj : j < n) (h1 : gwN n R j ≤ P (6 + j)) (h2 : gsN n R j ≤ P (12 + j)) {t : Nat} (hjt : j < t) (ht : t < n) :
    ∃ r', RR r' (upN (upN (upN (upN P (6 + j) (P (6 + j) - gwN n R j)) (12 + j) (P (12 + j) - gsN n R j)) (6 + t) (P (6 + t) + gwN n R j)) (12 + t) (P (12 + t) + gsN n R j)) ∧ f_X2_go_219 k fl sa x2 x4 (nI j) (nI t) r = k x2 x4 (nI (j + 1)) r' fl sa := by
  obtain ⟨f1, f2⟩ := hF j hj
  have hfs : fl j - sa j = nI (gwN n R j) := by rw [f1, f2, pk_sub (by omega), Nat.add_sub_cancel]
  have s1 := hr.up (6 + j) (P (6 + j) - gwN n R j)
  have s2 := s1.up (12 + j) (P (12 + j) - gsN n R j)
  have s3 := s2.up (6 + t) (P (6 + t) + gwN n R j)
  have s4 := s3.up (12 + t) (P (12 + t) + gsN n R j)
  unfold f_X2_go_219
  rw [gb_in (by omega) (by omega), gb_in (by omega) (by omega), nI_cl (by omega), hfs, nm_e2, L6, nI_add, gb_in (by omega) (by omega), gb_in (by omega) (by omega), nI_cl (by omega), hr (6 + j) (by omega), pk_sub h1, nm_e2]
  rw [L12, nI_add, gb_in (by omega) (by omega), gb_in (by omega) (by omega), gb_in (by omega) (by omega), nI_cl (by omega), s1 (12 + j) (by omega), upN_o (by omega), f2, pk_sub h2, nm_e2, if_neg (nI_m9 (by omega))]
  rw [nI_add, gb_in (by omega) (by omega), gb_in (by omega) (by omega), nI_cl (by omega), s2 (6 + t) (by omega), upN_o (by omega), upN_o (by omega), nI_add, nm_e2]
  rw [nI_add, gb_in (by omega) (by omega), gb_in (by omega) (by omega), gb_in (by omega) (by omega), nI_cl (by omega), s3 (12 + t) (by omega), upN_o (by omega), upN_o (by omega), upN_o (by omega), nI_add, nm_e2, nI_s1]
  exact ⟨_, s4, rfl⟩
theorem cpN_gw (hn : n ≤ 6) {j : Nat} (hj : j < n) : gwN n R j ≤ cpN n R j (6 + j) ∧ gsN n R j ≤ cpN n R j (12 + j) := by
  have h1 := gwN_le (n := n) (R := R) (i := j)
  have h2 := gsN_le (n := n) (R := R) (i := j)
  by_cases w : R (42 + j) = 0
  · rw [cpN_w hj w, cpN_s hn hj w, if_neg (by omega), if_neg (by omega)]
    omega
  · rw [cpN_w0 hj w, cpN_s0 hn hj w]
    omega
theorem r_go_189 (hm : m_n M = nI n) (hg : GN n R) (hF : FlN n R fl sa n) {x2 x4 : Int32} (hx : (x4 = 0 ∧ nxN n R 0 < n ∧ x2 = nI (nxN n R 0) ∧ R 49 + R 50 ≤ 5000 - amN R (nxN n R 0)) ∨ (x4 = 1 ∧ (nxN n R 0 < n → ¬ R 49 + R 50 ≤ 5000 - amN R (nxN n R 0)))) : ∀ (fu j : Nat) (r : Nat → Int32), RR r (cpN n R j) → j ≤ n → n - j < fu → ∃ r', RR r' (flN n R) ∧ f_X2_go_189 M fu x2 x4 (nI j) r fl sa = some (r', fl, sa)
  | 0, j, r, _, hj, hf => by omega
  | fu + 1, j, r, hr, hj, hf => by
    obtain ⟨⟨n2, n6⟩, hge, -⟩ := id hg
    have hlR : ∀ i, i < n → R (42 + i) < 2147483648 := fun i hi => by have := (hge i hi).2.2.2.2.2.2; omega
    have c42 : ∀ i, i < n → cpN n R j (42 + i) = R (42 + i) := fun i hi => cpN_o (by omega) (by omega) (by omega) (by omega)
    have hl : ∀ i, i < n → cpN n R j (42 + i) < 2147483648 := fun i hi => by rw [c42 i hi]; exact hlR i hi
    rw [f_X2_go_189, hm]
    by_cases e : n = j
    · subst e
      have hfe := fun k hk => fed_eq (n := n) (R := R) n6 (k := k) hk
      have e63 := cpN_o (n := n) (R := R) (j := n) (k := 63) (by omega) (by omega) (by omega) (by omega)
      rw [if_pos (by rw [nI_leF (by omega) (by omega)]; omega)]
      rcases hx with ⟨x4e, h1, x2e, h2⟩ | ⟨x4e, h1⟩
      · have ht := h1
        have hfe2 := hfe
        generalize nxN n R 0 = t at h1 x2e h2 hfe ht
        have e49 := cpN_o (n := n) (R := R) (j := n) (k := 49) (by omega) (by omega) (by omega) (by omega)
        have e50 := cpN_o (n := n) (R := R) (j := n) (k := 50) (by omega) (by omega) (by omega) (by omega)
        have e59 := cpN_o (n := n) (R := R) (j := n) (k := 59) (by omega) (by omega) (by omega) (by omega)
        have e60 := cpN_o (n := n) (R := R) (j := n) (k := 60) (by omega) (by omega) (by omega) (by omega)
        have s1 := hr.up (6 + t) (cpN n R n (6 + t) + R 49)
        have s2 := s1.up (12 + t) (cpN n R n (12 + t) + R 50)
        have s3 := s2.up 59 (R 59 + R 49)
        have s4 := s3.up 60 (R 60 + R 50)
        rw [x4e, if_pos rfl, x2e, L6, nI_add, gb_in (by omega) (by omega), gb_in (by omega) (by omega), nI_cl (by omega), hr (6 + t) (by omega), hr 49 (by omega), e49, nI_add, nm_e2]
        rw [L12, nI_add, gb_in (by omega) (by omega), gb_in (by omega) (by omega), nI_cl (by omega), s1 (12 + t) (by omega), s1 50 (by omega), upN_o (by omega), upN_o (by omega), e50, nI_add, nm_e2]
        rw [s2 59 (by omega), s2 49 (by omega), upN_o (by omega), upN_o (by omega), upN_o (by omega), upN_o (by omega), e59, e49, nI_add, nm_e2]
        rw [s3 60 (by omega), s3 50 (by omega), upN_o (by omega), upN_o (by omega), upN_o (by omega), upN_o (by omega), upN_o (by omega), upN_o (by omega), e60, e50, nI_add, nm_e2]
        refine ⟨_, s4.cg fun k hk => ?_, rfl⟩
        rw [hfe k hk, if_neg (by omega), if_pos h2]
      · rw [x4e, if_neg (by decide), hr 63 (by omega), e63, nI_s1, nm_e2]
        refine ⟨_, (hr.up 63 (R 63 + 1)).cg fun k hk => ?_, rfl⟩
        rw [hfe k hk]
        by_cases q : nxN n R 0 = n
        · rw [if_pos q]
        · have := nxN_le (n := n) (R := R) (j := 0) (by omega)
          rw [if_neg q, if_neg (h1 (by omega))]
    · have hjn : j < n := by omega
      obtain ⟨b1, b2⟩ := cpN_gw (R := R) n6 hjn
      rw [if_neg (by rw [nI_leF (by omega) (by omega)]; omega), r_works hr (by omega) (hl j hjn), bd_some, c42 j hjn]
      by_cases w : R (42 + j) = 0
      · have e61 := cpN_61 (R := R) (j := j) n6
        have e62 := cpN_62 (R := R) (j := j) n6
        have ej : nxN n R j = j := by rw [nxN_s hjn, if_pos w]
        rw [ej, if_neg (by omega), Nat.add_zero] at e61 e62
        have hB := fun k => cpN_B (R := R) (k := k) n6 hjn w
        rw [if_pos w, if_neg (by decide), r_behind hm n6 hr hl hjn, bd_some, nxN_cg (R := R) (by omega) c42]
        by_cases q : nxN n R (j + 1) = n
        · rw [if_pos q]
          obtain ⟨r', a, b⟩ := r_go_219a (k := f_X2_go_189 M fu) (x2 := x2) (x4 := x4) n6 hF hr hjn b1 b2
          rw [b]
          refine r_go_189 hm hg hF hx fu (j + 1) r' (a.cg fun k hk => ?_) (by omega) (by omega)
          rw [hB k, if_pos q, e61, e62]
        · have hx2 := nxN_le (n := n) (R := R) (j := j + 1) (by omega)
          rw [if_neg q]
          obtain ⟨r', a, b⟩ := r_go_219b (k := f_X2_go_189 M fu) (x2 := x2) (x4 := x4) n6 hF hr hjn b1 b2 (t := nxN n R (j + 1)) (by omega) (by omega)
          rw [b]
          refine r_go_189 hm hg hF hx fu (j + 1) r' (a.cg fun k hk => ?_) (by omega) (by omega)
          have hw := nxN_w (n := n) (R := R) (j := j + 1) (by omega) (by omega)
          have i0 : ∀ f, inN n R f j (nxN n R (j + 1)) = 0 := fun f => by unfold inN; rw [if_neg (by omega), ej, if_neg (by omega)]
          have et := cpN_w (R := R) (j := j) (i := nxN n R (j + 1)) (n := n) (by omega) hw
          have es := cpN_s (R := R) (j := j) (i := nxN n R (j + 1)) (n := n) n6 (by omega) hw
          rw [i0, if_neg (by omega), Nat.add_zero, Nat.sub_zero] at et es
          rw [hB k, if_neg q, et, es]
          rfl
      · have g1 : gwN n R j = 0 := if_neg w
        have g2 : gsN n R j = 0 := if_neg w
        rw [if_neg w, if_pos (by rfl)]
        obtain ⟨r', a, b⟩ := r_go_219a (k := f_X2_go_189 M fu) (x2 := x2) (x4 := x4) n6 hF hr hjn b1 b2
        rw [b]
        refine r_go_189 hm hg hF hx fu (j + 1) r' (a.cg fun k hk => ?_) (by omega) (by omega)
        rw [cpN_A hjn w, g1, g2, Nat.sub_zero, Nat.sub_zero, Nat.add_zero, Nat.add_zero]
        unfold upN
        by_cases k1 : k = 62
        · rw [if_pos k1, k1]
        · rw [if_neg k1]
          by_cases k2 : k = 61
          · rw [if_pos k2, k2]
          · rw [if_neg k2]
            by_cases k3 : k = 12 + j
            · rw [if_pos k3, k3]
            · rw [if_neg k3]
              by_cases k4 : k = 6 + j
              · rw [if_pos k4, k4]
              · rw [if_neg k4]
theorem r_go (hm : m_n M = nI n) {r : Nat → Int32} (hr : RR r R) (hg : GN n R) : ∃ r' fl' sa', RR r' (flN n R) ∧ f_X2_go M r fl sa = some (r', fl', sa') := by
  obtain ⟨⟨n2, n6⟩, hge, h48, h49, h50, -⟩ := id hg
  have hl : ∀ i, i < n → R (42 + i) < 2147483648 := fun i hi => by have := (hge i hi).2.2.2.2.2.2; omega
  have hx := nxN_le (n := n) (R := R) (j := 0) (by omega)
  have hF0 : FlN n R fl sa 0 := fun i hi => absurd hi (by omega)
  have h0 : RR r (cpN n R 0) := hr.cg fun k _ => (cpN_0 n6).symm
  unfold f_X2_go
  rw [r_behind0 hm n6 hr hl, bd_some, hr 49 (by omega), hr 50 (by omega), nI_add, nm_e2]
  by_cases q : nxN n R 0 = n
  · rw [if_pos q, if_pos rfl]
    obtain ⟨fl', sa', a, b⟩ := r_go_46 (x2 := (-9)) (x4 := 1) hm hr hg 2000 0 fl sa hF0 (by omega) (by omega)
    rw [L0, b]
    obtain ⟨r', c, d⟩ := r_go_189 (x2 := (-9)) (x4 := 1) hm hg a (Or.inr ⟨rfl, fun h => by omega⟩) 2000 0 r h0 (by omega) (by omega)
    exact ⟨r', fl', sa', c, d⟩
  · have hx5 : amN R (nxN n R 0) ≤ 5000 := (hge _ (by omega)).2.1
    rw [if_neg q, if_neg (nI_m9 (by omega)), r_amount hr (by omega), bd_some, L5000, pk_sub hx5]
    by_cases y : R 49 + R 50 ≤ 5000 - amN R (nxN n R 0)
    · rw [if_pos (by rw [nI_leF (by omega) (by omega)]; exact y)]
      obtain ⟨fl', sa', a, b⟩ := r_go_46 (x2 := nI (nxN n R 0)) (x4 := 0) hm hr hg 2000 0 fl sa hF0 (by omega) (by omega)
      have b2 : f_X2_go_46 M r 2000 (nI (nxN n R 0)) 0 0 fl sa = _ := b
      rw [b2]
      obtain ⟨r', c, d⟩ := r_go_189 (x2 := nI (nxN n R 0)) (x4 := 0) hm hg a (Or.inl ⟨rfl, by omega, rfl, y⟩) 2000 0 r h0 (by omega) (by omega)
      exact ⟨r', fl', sa', c, d⟩
    · rw [if_neg (by rw [nI_leF (by omega) (by omega)]; exact y)]
      obtain ⟨fl', sa', a, b⟩ := r_go_46 (x2 := nI (nxN n R 0)) (x4 := 1) hm hr hg 2000 0 fl sa hF0 (by omega) (by omega)
      have b2 : f_X2_go_46 M r 2000 (nI (nxN n R 0)) 1 0 fl sa = _ := b
      rw [b2]
      obtain ⟨r', c, d⟩ := r_go_189 (x2 := nI (nxN n R 0)) (x4 := 1) hm hg a (Or.inr ⟨rfl, fun _ => y⟩) 2000 0 r h0 (by omega) (by omega)
      exact ⟨r', fl', sa', c, d⟩
end RG3
