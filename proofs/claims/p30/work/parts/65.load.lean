/-! the text read and loaded -/
theorem rt_bd {L : Nat} {C : Nat → Nat} {W : Nat → Nat} (h : rtN L C = .inr W) : ∀ j, j < 6 + 6 * W 0 → LLN (kdN j) ≤ W j ∧ W j ≤ GGN (kdN j) := by
  unfold rtN at h
  by_cases e0 : L = 0
  · rw [if_pos e0] at h; cases h
  · rw [if_neg e0] at h
    by_cases e1 : C 0 = 69
    · rw [if_pos e1] at h
      cases hx : raN L C 1 0 1 (fun _ => 0) with
      | inl e => rw [hx] at h; cases h
      | inr p =>
        obtain ⟨q, W1⟩ := p
        rw [hx] at h
        dsimp only at h
        obtain ⟨h1, h2, h3⟩ := raN_q _ _ _ _ _ _ hx (by omega)
        cases hy : raN L C (5 + 6 * W1 0) 1 q W1 with
        | inl e => rw [hy] at h; cases h
        | inr p2 =>
          obtain ⟨q2, W2⟩ := p2
          rw [hy] at h
          dsimp only at h
          obtain ⟨g1, g2, g3⟩ := raN_q _ _ _ _ _ _ hy h1
          split at h
          · cases h
            have e := g2 0 (by omega)
            intro j hj
            by_cases j0 : j = 0
            · subst j0
              rw [e]
              exact h3 0 (by omega) (by omega)
            · exact g3 j (by omega) (by omega)
          · cases h
    · rw [if_neg e1] at h; cases h
theorem fill_N {lf : Nat} {v : Int32} (hl : lf < 2000) : ∀ (r j fu : Nat) (g : Nat → Int32), j + r = lf → r < fu → (∀ k, k < j → g k = v) → ∃ g', f_J7_fill_53178_5 lf v fu (nI j) (nI lf) g = some g' ∧ ∀ k, k < lf → g' k = v
  | r, j, 0, g, _, h, _ => by omega
  | 0, j, fu + 1, g, hj, _, hg => by
    rw [f_J7_fill_53178_5, if_pos ((nI_leF (by omega) (by omega)).mpr (by omega))]
    exact ⟨g, rfl, fun k hk => hg k (by omega)⟩
  | r + 1, j, fu + 1, g, hj, hf, hg => by
    rw [f_J7_fill_53178_5, if_neg (by rw [nI_leF (by omega) (by omega)]; omega), gb_in (by omega) (by omega), nI_cl (by omega), nm_e2, nI_s1]
    refine fill_N hl r (j + 1) fu _ (by omega) (by omega) fun k hk => ?_
    unfold upd
    by_cases e : k = j
    · rw [if_pos e]
    · rw [if_neg e]; exact hg k (by omega)
theorem fill_0 {lf : Nat} (hl : lf < 2000) (g : Nat → Int32) (v : Int32) : ∃ g', f_J7_fill_53178 lf g v = some g' ∧ ∀ k, k < lf → g' k = v := by
  obtain ⟨g', h1, h2⟩ := fill_N (v := v) hl lf 0 2000 g (by omega) (by omega) (fun k hk => by omega)
  refine ⟨g', ?_, h2⟩
  unfold f_J7_fill_53178
  have e : Int32.ofNat lf = nI lf := rfl
  rw [nm_e2, e, L0, h1]
def stK (S S' : StV) : Prop := s_n S' = s_n S ∧ s_clk S' = s_clk S ∧ s_set S' = s_set S ∧ s_cou S' = s_cou S ∧ s_scl S' = s_scl S ∧ s_lef S' = s_lef S
def stE (S : StV) (W : Nat → Nat) (i : Nat) : Prop := ∀ j, j < i → s_are S j = nI (W (6 + 6 * j)) ∧ s_wat S j = nI (W (6 + 6 * j + 1)) ∧ s_sol S j = nI (W (6 + 6 * j + 2)) ∧ s_val S j = nI (W (6 + 6 * j + 3)) ∧ s_ble S j = nI (W (6 + 6 * j + 4)) ∧ s_sca S j = nI (W (6 + 6 * j + 5))
theorem s_take49 {nf : Nat → Int32} {W : Nat → Nat} {n : Nat} (hn : n ≤ 6) (hW : ∀ k, k < 6 + 6 * n → nf k = nI (W k)) : ∀ (r i fu : Nat) (S : StV), i + r = n → r < fu → s_n S = nI n → stE S W i → ∃ S', f_X0_takeNumbers_49 nf fu (nI i) S = some S' ∧ stK S S' ∧ stE S' W n
  | r, i, 0, S, _, h, _, _ => by omega
  | 0, i, fu + 1, S, hi, _, hs, hE => by
    rw [f_X0_takeNumbers_49, hs, if_pos ((nI_leF (by omega) (by omega)).mpr (by omega))]
    exact ⟨S, rfl, ⟨rfl, rfl, rfl, rfl, rfl, rfl⟩, by rw [← show i = n by omega]; exact hE⟩
  | r + 1, i, fu + 1, S, hi, hf, hs, hE => by
    rw [f_X0_takeNumbers_49, hs, if_neg (by rw [nI_leF (by omega) (by omega)]; omega), if_neg (by rw [L6, nI_leF (by omega) (by omega)]; omega), L6, pk_mul, nI_add, nm_e2, nI_s1, L2, show (3 : Int32) = nI 3 from rfl, show (4 : Int32) = nI 4 from rfl, L5, nI_add, nI_add, nI_add, nI_add]
    simp only [gb_in (show 6 + 6 * i < 42 by omega) (show 6 + 6 * i < 2147483648 by omega), gb_in (show 6 + 6 * i + 1 < 42 by omega) (show 6 + 6 * i + 1 < 2147483648 by omega), gb_in (show 6 + 6 * i + 2 < 42 by omega) (show 6 + 6 * i + 2 < 2147483648 by omega), gb_in (show 6 + 6 * i + 3 < 42 by omega) (show 6 + 6 * i + 3 < 2147483648 by omega), gb_in (show 6 + 6 * i + 4 < 42 by omega) (show 6 + 6 * i + 4 < 2147483648 by omega), gb_in (show 6 + 6 * i + 5 < 42 by omega) (show 6 + 6 * i + 5 < 2147483648 by omega), gb_in (show i < 6 by omega) (show i < 2147483648 by omega), nm_e2, nI_cl (show 6 + 6 * i < 2147483648 by omega), nI_cl (show 6 + 6 * i + 1 < 2147483648 by omega), nI_cl (show 6 + 6 * i + 2 < 2147483648 by omega), nI_cl (show 6 + 6 * i + 3 < 2147483648 by omega), nI_cl (show 6 + 6 * i + 4 < 2147483648 by omega), nI_cl (show 6 + 6 * i + 5 < 2147483648 by omega), nI_cl (show i < 2147483648 by omega), nI_s1, hW (6 + 6 * i) (by omega), hW (6 + 6 * i + 1) (by omega), hW (6 + 6 * i + 2) (by omega), hW (6 + 6 * i + 3) (by omega), hW (6 + 6 * i + 4) (by omega), hW (6 + 6 * i + 5) (by omega)]
    obtain ⟨S1, e1⟩ : ∃ y, y = su_are S (upd (s_are S) i (nI (W (6 + 6 * i)))) := ⟨_, rfl⟩
    rw [← e1]
    obtain ⟨S2, e2⟩ : ∃ y, y = su_wat S1 (upd (s_wat S1) i (nI (W (6 + 6 * i + 1)))) := ⟨_, rfl⟩
    rw [← e2]
    obtain ⟨S3, e3⟩ : ∃ y, y = su_sol S2 (upd (s_sol S2) i (nI (W (6 + 6 * i + 2)))) := ⟨_, rfl⟩
    rw [← e3]
    obtain ⟨S4, e4⟩ : ∃ y, y = su_val S3 (upd (s_val S3) i (nI (W (6 + 6 * i + 3)))) := ⟨_, rfl⟩
    rw [← e4]
    obtain ⟨S5, e5⟩ : ∃ y, y = su_ble S4 (upd (s_ble S4) i (nI (W (6 + 6 * i + 4)))) := ⟨_, rfl⟩
    rw [← e5]
    obtain ⟨S6, e6⟩ : ∃ y, y = su_sca S5 (upd (s_sca S5) i (nI (W (6 + 6 * i + 5)))) := ⟨_, rfl⟩
    rw [← e6]
    have a1 : s_are S6 = upd (s_are S) i (nI (W (6 + 6 * i))) := by rw [e6, e5, e4, e3, e2, e1]; rfl
    have a2 : s_wat S6 = upd (s_wat S) i (nI (W (6 + 6 * i + 1))) := by rw [e6, e5, e4, e3, e2, e1]; rfl
    have a3 : s_sol S6 = upd (s_sol S) i (nI (W (6 + 6 * i + 2))) := by rw [e6, e5, e4, e3, e2, e1]; rfl
    have a4 : s_val S6 = upd (s_val S) i (nI (W (6 + 6 * i + 3))) := by rw [e6, e5, e4, e3, e2, e1]; rfl
    have a5 : s_ble S6 = upd (s_ble S) i (nI (W (6 + 6 * i + 4))) := by rw [e6, e5, e4, e3, e2, e1]; rfl
    have a6 : s_sca S6 = upd (s_sca S) i (nI (W (6 + 6 * i + 5))) := by rw [e6, e5, e4, e3, e2, e1]; rfl
    have k6 : stK S S6 := by rw [e6, e5, e4, e3, e2, e1]; exact ⟨rfl, rfl, rfl, rfl, rfl, rfl⟩
    obtain ⟨S', g1, g2, g3⟩ := s_take49 hn hW r (i + 1) fu S6 (by omega) (by omega) (k6.1.trans hs) (fun j hj => by
      rw [a1, a2, a3, a4, a5, a6]
      unfold upd
      by_cases e : j = i
      · rw [if_pos e, if_pos e, if_pos e, if_pos e, if_pos e, if_pos e, e]
        exact ⟨rfl, rfl, rfl, rfl, rfl, rfl⟩
      · rw [if_neg e, if_neg e, if_neg e, if_neg e, if_neg e, if_neg e]
        exact hE j (by omega))
    exact ⟨S', g1, ⟨g2.1.trans k6.1, g2.2.1.trans k6.2.1, g2.2.2.1.trans k6.2.2.1, g2.2.2.2.1.trans k6.2.2.2.1, g2.2.2.2.2.1.trans k6.2.2.2.2.1, g2.2.2.2.2.2.trans k6.2.2.2.2.2⟩, g3⟩
theorem row_e {W : Nat → Nat} {n i w : Nat} (hi : i < n) (hn : n ≤ 6) (hw : w < 6) : rowF W (6 + 6 * n) (6 * w + i) = W (6 + 6 * i + w) := by
  unfold rowF
  rw [if_pos (by omega), if_pos (by omega)]
  congr 1
  omega
theorem row_s {W : Nat → Nat} {n j : Nat} (hj : j < 5) : rowF W (6 + 6 * n) (48 + j) = W (1 + j) := by
  unfold rowF
  rw [if_neg (by omega), if_pos (by omega), if_pos (by omega)]
  congr 1
  omega
theorem row_0 {W : Nat → Nat} {k p : Nat} (h : (36 ≤ p ∧ p < 48) ∨ 53 ≤ p) : rowF W k p = 0 := by
  unfold rowF
  rw [if_neg (by omega), if_neg (by omega)]
theorem s_take {nf : Nat → Int32} {W : Nat → Nat} {S : StV} (h2 : 2 ≤ W 0) (h6 : W 0 ≤ 6) (hW : ∀ k, k < 6 + 6 * W 0 → nf k = nI (W k)) : ∃ S', f_X0_takeNumbers S nf = some S' ∧ AgS (W 0) 0 S' (rowF W (6 + 6 * W 0)) := by
  unfold f_X0_takeNumbers
  rw [hW 0 (by omega), nm_e2, nm_e2, nm_e2, nm_e2]
  obtain ⟨S1, e1⟩ : ∃ y, y = su_clk (su_set (su_n S (nI (W 0))) (va_cpy nf (s_set (su_n S (nI (W 0)))) 1 0 5)) 0 := ⟨_, rfl⟩
  rw [← e1]
  obtain ⟨g1, k1, k2⟩ := fill_0 (lf := 10) (by omega) (s_cou S1) 0
  rw [k1, bd_some, nm_e2]
  obtain ⟨S2, e2⟩ : ∃ y, y = su_cou S1 g1 := ⟨_, rfl⟩
  rw [← e2]
  obtain ⟨g2, k3, k4⟩ := fill_0 (lf := 6) (by omega) (s_scl S2) 0
  rw [k3, bd_some, nm_e2]
  obtain ⟨S3, e3⟩ : ∃ y, y = su_scl S2 g2 := ⟨_, rfl⟩
  rw [← e3]
  obtain ⟨g3, k5, k6⟩ := fill_0 (lf := 6) (by omega) (s_lef S3) 0
  rw [k5, bd_some, nm_e2]
  obtain ⟨S4, e4⟩ : ∃ y, y = su_lef S3 g3 := ⟨_, rfl⟩
  rw [← e4]
  have b1 : s_n S4 = nI (W 0) := by rw [e4, e3, e2, e1]; rfl
  have b2 : s_clk S4 = 0 := by rw [e4, e3, e2, e1]; rfl
  have b3 : s_set S4 = va_cpy nf (s_set (su_n S (nI (W 0)))) 1 0 5 := by rw [e4, e3, e2, e1]; rfl
  have b4 : s_cou S4 = g1 := by rw [e4, e3, e2]; rfl
  have b5 : s_scl S4 = g2 := by rw [e4, e3]; rfl
  have b6 : s_lef S4 = g3 := by rw [e4]; rfl
  obtain ⟨S', g1', ⟨c1, c2, c3, c4, c5, c6⟩, c7⟩ := s_take49 (W := W) h6 hW (W 0) 0 2000 S4 (by omega) (by omega) b1 (fun j hj => by omega)
  refine ⟨S', g1', c1.trans b1, ?_, fun j hj => ?_, ?_, fun j h0 hj => ?_, fun i hi => ?_⟩
  · rw [c2, b2, row_0 (by omega)]
    rfl
  · rw [c3, b3, row_s hj]
    unfold va_cpy
    rw [if_pos (by omega), Nat.sub_zero]
    exact hW (1 + j) (by omega)
  · rw [c4, b4, k2 0 (by omega), row_0 (by omega)]
    rfl
  · rw [c4, b4, k2 j hj, row_0 (by omega)]
    rfl
  · obtain ⟨d1, d2, d3, d4, d5, d6⟩ := c7 i hi
    refine ⟨?_, ?_, ?_, ?_, ?_, ?_, ?_, ?_⟩
    · rw [d1, show i = 6 * 0 + i by omega, row_e (w := 0) hi h6 (by omega), show 6 * 0 + i = i by omega]
      rfl
    · rw [d2, show 6 + i = 6 * 1 + i by omega, row_e hi h6 (by omega)]
    · rw [d3, show 12 + i = 6 * 2 + i by omega, row_e hi h6 (by omega)]
    · rw [d4, show 18 + i = 6 * 3 + i by omega, row_e hi h6 (by omega)]
    · rw [d5, show 24 + i = 6 * 4 + i by omega, row_e hi h6 (by omega)]
    · rw [d6, show 30 + i = 6 * 5 + i by omega, row_e hi h6 (by omega)]
    · rw [c5, b5, k4 i (by omega), row_0 (by omega)]
      rfl
    · rw [c6, b6, k6 i (by omega), row_0 (by omega)]
      rfl
theorem row_ok {W : Nat → Nat} {c : Nat} (h2 : 2 ≤ W 0) (h6 : W 0 ≤ 6) (hb : ∀ j, j < 6 + 6 * W 0 → LLN (kdN j) ≤ W j ∧ W j ≤ GGN (kdN j)) : okR c (W 0) (rowF W (6 + 6 * W 0)) := by
  have hk : ∀ i w, w < 6 → kdN (6 + 6 * i + w) = 6 + w := fun i w hw => by
    unfold kdN
    rw [if_neg (by omega)]
    omega
  have hv : ∀ i w, i < W 0 → w < 6 → LLN (6 + w) ≤ W (6 + 6 * i + w) ∧ W (6 + 6 * i + w) ≤ GGN (6 + w) := fun i w hi hw => by
    have := hb (6 + 6 * i + w) (by omega)
    rw [hk i w hw] at this
    exact this
  refine ⟨⟨⟨h2, h6⟩, fun i hi => ?_, ?_⟩, by rw [row_0 (by omega)]; omega, by rw [row_0 (by omega)]; omega⟩
  · have a0 := hv i 0 hi (by omega)
    have a1 := (hv i 1 hi (by omega)).2
    have a2 := (hv i 2 hi (by omega)).2
    have a3 := (hv i 3 hi (by omega)).2
    have a4 := (hv i 4 hi (by omega)).2
    have a5 := (hv i 5 hi (by omega)).2
    have z0 : 1 ≤ W (6 + 6 * i + 0) ∧ W (6 + 6 * i + 0) ≤ 9 := a0
    have z1 : W (6 + 6 * i + 1) ≤ 4000 := a1
    have z2 : W (6 + 6 * i + 2) ≤ 1000 := a2
    have z3 : W (6 + 6 * i + 3) ≤ 999 := a3
    have z4 : W (6 + 6 * i + 4) ≤ 90 := a4
    have z5 : W (6 + 6 * i + 5) ≤ 99 := a5
    unfold GE
    have y0 := row_e (W := W) (w := 0) hi h6 (by omega)
    rw [show 6 * 0 + i = i by omega] at y0
    rw [y0, show 6 + i = 6 * 1 + i by omega, row_e hi h6 (by omega), show 12 + i = 6 * 2 + i by omega, row_e hi h6 (by omega), show 18 + i = 6 * 3 + i by omega, row_e hi h6 (by omega), show 24 + i = 6 * 4 + i by omega, row_e hi h6 (by omega), show 30 + i = 6 * 5 + i by omega, row_e hi h6 (by omega), row_0 (p := 36 + i) (by omega), row_0 (p := 42 + i) (by omega)]
    exact ⟨z0, by omega, z3, z4, z5, by omega, by omega⟩
  · have s0 : W 1 ≤ 999 := (hb 1 (by omega)).2
    have s1 : W 2 ≤ 999 := (hb 2 (by omega)).2
    have s2 : W 3 ≤ 99 := (hb 3 (by omega)).2
    have s3 : W 4 ≤ 99 := (hb 4 (by omega)).2
    have s4 : 1 ≤ W 5 ∧ W 5 ≤ 20 := hb 5 (by omega)
    have y0 := row_s (W := W) (n := W 0) (j := 0) (by omega)
    have y1 := row_s (W := W) (n := W 0) (j := 1) (by omega)
    have y2 := row_s (W := W) (n := W 0) (j := 2) (by omega)
    have y3 := row_s (W := W) (n := W 0) (j := 3) (by omega)
    have y4 := row_s (W := W) (n := W 0) (j := 4) (by omega)
    exact ⟨by rw [y0]; exact s0, by rw [y1]; exact s1, by rw [y2]; exact s2, by rw [y3]; exact s3, by rw [y4]; exact s4.1, by rw [y4]; exact s4.2⟩
theorem raN_e {L : Nat} {C : Nat → Nat} : ∀ (r k q e : Nat) (W : Nat → Nat), raN L C r k q W = .inl e → q ≤ L → e ≤ L
  | 0, k, q, e, W, h, _ => by
    rw [raN] at h
    cases h
  | r + 1, k, q, e, W, h, hq => by
    cases hx : rdN L C (GGN (kdN k)) (LLN (kdN k)) (DDN (kdN k)) 0 q with
    | inl e1 =>
      rw [raN_i hx] at h
      cases h
      exact rdN_e _ _ _ _ hx hq
    | inr p =>
      obtain ⟨v, q1⟩ := p
      rw [raN_s hx] at h
      exact raN_e r (k + 1) q1 e _ h ((rdN_q _ _ _ _ _ hx).2 (tabs (kdN k) kdN_lt).2.2.2.2.1)
section LD
variable {c : Nat} {T : TrV} {N : StV} {Q : PoV} {M : MdV}
theorem inv_sm {T' : TrV} {mn act scs : Int32} {now dia kep isk scr : Nat → Int32} (h : INVc c T N Q mn now dia act kep isk scs scr) (g : smT T T') : INVc c T' N Q mn now dia act kep isk scs scr := by
  obtain ⟨n, R, h1, h2, h3, h4, ⟨L, C, t1, t2, t3, t4⟩, ⟨a, ds, r1, r2, r3, w, r4, r5, r6⟩, h7⟩ := h
  obtain ⟨g1, g2, g3, g4, g5⟩ := g
  exact ⟨n, R, h1, h2, h3, h4, ⟨L, C, t1, g1.trans t2, t3, by rw [g2]; exact t4⟩, ⟨a, ds, r1, r2, g4.trans r3, w, r4, g3.trans r5, r6⟩, by unfold SlotC; rw [g5]; exact h7⟩
theorem inv_mR {rd q : Int32} {rw : Nat → Int32} (M : MdV) (h : INV c T N Q M) : INV c T N Q (mR M rd rw q) := by
  obtain ⟨a1, a2, a3, a4, a5, a6, a7, a8, a9, a10, a11, a12, a13, a14, a15⟩ := M
  exact h
theorem ref_mR {rd q : Int32} {rw : Nat → Int32} (M : MdV) : m_ref (mR M rd rw q) = m_ref M := by
  obtain ⟨a1, a2, a3, a4, a5, a6, a7, a8, a9, a10, a11, a12, a13, a14, a15⟩ := M
  rfl
theorem inv_tx (h : INV c T N Q M) : ∃ L C, txH T L C ∧ mxH M L C := by
  obtain ⟨n, R, h1, h2, h3, h4, ⟨L, C, t1, t2, t3, t4⟩, h6, h7⟩ := h
  exact ⟨L, C, ⟨t2, t3, fun k hk => (t4 k hk).2⟩, ⟨t1, t3, fun k hk => ⟨(t4 k hk).1, (t4 k hk).2.2⟩⟩⟩
theorem q_errorPosition (h : INV c T N Q M) : ∃ v T' M', f_X1_errorPosition T = some (.inr (v, T')) ∧ f_X2_errorPosition M = some (v, M') ∧ m_ref M' = 0 ∧ INV (c + 1) T' N Q M' := by
  have h0 := inv_ref (x := 0) M h
  obtain ⟨L, C, hT, hM⟩ := inv_tx h0
  obtain ⟨T', g1, g2, -⟩ := s_read hT
  obtain ⟨rd', rw', q', k1, -⟩ := r_read hM
  refine ⟨rtV (rtN L C), T', mR (mu_ref M 0) rd' rw' q', ?_, ?_, ?_, ?_⟩
  · unfold f_X1_errorPosition
    rw [g1, bn_r]
  · unfold f_X2_errorPosition
    rw [nm_e2, k1, bd_some]
  · rw [ref_mR]
    rfl
  · exact INV.up (c := c) (M := mR (mu_ref M 0) rd' rw' q') (inv_sm (inv_mR (mu_ref M 0) h0) g2) (by omega)
theorem ld_view {now i1 i2 : Nat → Int32} {x y : Int32} (M : MdV) (h : INVc c T N Q x now (m_dia M) y (m_kep M) i2 (m_scs M) (m_scr M)) : INV c T N Q (mu_isk (mu_isk (mu_act (mu_now (mu_n M x) now) y) i1) i2) := by
  obtain ⟨a1, a2, a3, a4, a5, a6, a7, a8, a9, a10, a11, a12, a13, a14, a15⟩ := M
  exact h
theorem ld_n {now i1 i2 : Nat → Int32} {x y : Int32} (M : MdV) : m_n (mu_isk (mu_isk (mu_act (mu_now (mu_n M x) now) y) i1) i2) = x := by
  obtain ⟨a1, a2, a3, a4, a5, a6, a7, a8, a9, a10, a11, a12, a13, a14, a15⟩ := M
  rfl
theorem ld_now {now i1 i2 : Nat → Int32} {x y : Int32} (M : MdV) : m_now (mu_isk (mu_isk (mu_act (mu_now (mu_n M x) now) y) i1) i2) = now := by
  obtain ⟨a1, a2, a3, a4, a5, a6, a7, a8, a9, a10, a11, a12, a13, a14, a15⟩ := M
  rfl
theorem ld_ref {now i1 i2 : Nat → Int32} {x y : Int32} (M : MdV) : m_ref (mu_isk (mu_isk (mu_act (mu_now (mu_n M x) now) y) i1) i2) = m_ref M := by
  obtain ⟨a1, a2, a3, a4, a5, a6, a7, a8, a9, a10, a11, a12, a13, a14, a15⟩ := M
  rfl
theorem ld_i1 {now : Nat → Int32} {x y : Int32} (M : MdV) : m_isk (mu_act (mu_now (mu_n M x) now) y) = m_isk M := by
  obtain ⟨a1, a2, a3, a4, a5, a6, a7, a8, a9, a10, a11, a12, a13, a14, a15⟩ := M
  rfl
theorem ld_i2 {now i1 : Nat → Int32} {x y : Int32} (M : MdV) : m_isk (mu_isk (mu_act (mu_now (mu_n M x) now) y) i1) = i1 := by
  obtain ⟨a1, a2, a3, a4, a5, a6, a7, a8, a9, a10, a11, a12, a13, a14, a15⟩ := M
  rfl
theorem ld_rr {x : Int32} (M : MdV) : m_rrw (mu_n M x) = m_rrw M := rfl
theorem b0 : vp_nar .boolean 0 = 0 := by decide
theorem q_load (h : INV c T N Q M) : (∃ v T' N' M', f_X1_load T N = some (.inr (v, T', N')) ∧ f_X2_load M = some (v, M') ∧ m_ref M' = 0 ∧ INV (c + 1) T' N' Q M') ∨ ∃ T' M', f_X1_load T N = some (.inl (xS, T')) ∧ f_X2_load M = some (0, M') ∧ m_ref M' = 1 ∧ INV (c + 1) T' N Q M' := by
  obtain ⟨L, C, hT, hM⟩ := inv_tx h
  obtain ⟨T', g1, g2, g3⟩ := s_read hT
  obtain ⟨rd', rw', q', k1, k2⟩ := r_read hM
  unfold f_X1_load f_X2_load
  rw [g1, bn_r, k1, bd_some]
  dsimp only
  have hi := inv_mR (rd := rd') (q := q') (rw := rw') M h
  have hL := hT.2.1
  cases hx : rtN L C with
  | inl e =>
    right
    have he : e ≤ 120 := by
      unfold rtN at hx
      split at hx
      · cases hx; omega
      · split at hx
        · cases hy : raN L C 1 0 1 (fun _ => 0) with
          | inl e1 => rw [hy] at hx; cases hx; exact Nat.le_trans (raN_e _ _ _ _ _ hy (by omega)) hL
          | inr p =>
            obtain ⟨q1, W1⟩ := p
            rw [hy] at hx
            dsimp only at hx
            have hq1 := (raN_q _ _ _ _ _ _ hy (by omega)).1
            cases hz : raN L C (5 + 6 * W1 0) 1 q1 W1 with
            | inl e1 => rw [hz] at hx; cases hx; exact Nat.le_trans (raN_e _ _ _ _ _ hz hq1) hL
            | inr p2 =>
              obtain ⟨q2, W2⟩ := p2
              rw [hz] at hx
              dsimp only at hx
              have hq2 := (raN_q _ _ _ _ _ _ hz hq1).1
              split at hx
              · cases hx
              · cases hx; omega
        · cases hx; omega
    have e9 : ¬ rtV (.inl e) = -9 := nI_m9 (by omega)
    rw [if_neg e9, if_neg e9]
    unfold f_X2_load_15
    rw [refused_1 (by decide), bd_some]
    exact ⟨T', mu_ref (mR M rd' rw' q') 1, rfl, rfl, rfl, INV.up (c := c) (M := mu_ref (mR M rd' rw' q') 1) (inv_sm (inv_ref (x := 1) _ hi) g2) (by omega)⟩
  | inr W =>
    left
    obtain ⟨k3, w2, w6, k4⟩ := k2 W hx
    have g4 := g3 W hx
    obtain ⟨N', n1, n2⟩ := s_take (S := N) w2 w6 g4
    have hok := row_ok (c := c + 1) w2 w6 (rt_bd hx)
    have e9 : rtV (.inr W : Nat ⊕ (Nat → Nat)) = -9 := rfl
    obtain ⟨M0, hM0⟩ : ∃ y, y = mu_ref (mR M rd' rw' q') 0 := ⟨_, rfl⟩
    have hi0 : INV c T N Q M0 := by rw [hM0]; exact inv_ref (x := 0) _ hi
    have m1 : m_rdn M0 = nI (W 0) := by
      rw [hM0]
      show m_rdn (mR M rd' rw' q') = _
      rw [mR_grdn, k3]
    have m2 : m_rrw M0 = rw' := by
      rw [hM0]
      show m_rrw (mR M rd' rw' q') = _
      rw [mR_grrw]
    have m3 : m_ref M0 = 0 := by rw [hM0]; rfl
    obtain ⟨nw, d1, b1'⟩ := r_copy (t := m_now (mu_n M0 (nI (W 0)))) k4
    obtain ⟨n, R, -, -, -, -, ⟨L2, C2, t1, t2, t3, t4⟩, ⟨a, ds, r1, r2, r3, w, r4, r5, r6⟩, h7⟩ := id hi0
    obtain ⟨s1, s2, s3, s4, s5⟩ := id g2
    obtain ⟨T2, eT2⟩ : ∃ y, y = tu_fil (tu_fil (tu_rcn T' 0) (upd (tr_fil (tu_rcn T' 0)) 0 0)) (upd (tr_fil (tu_fil (tu_rcn T' 0) (upd (tr_fil (tu_rcn T' 0)) 0 0))) 1 0) := ⟨_, rfl⟩
    refine ⟨nI (smN (rowF W (6 + 6 * W 0)) 6 (W 0)) + nI (smN (rowF W (6 + 6 * W 0)) 12 (W 0)), T2, N', mu_isk (mu_isk (mu_act (mu_now (mu_n M0 (nI (W 0))) nw) 0) (upd (m_isk M0) 0 0)) (upd (upd (m_isk M0) 0 0) 1 0), ?_, ?_, ?_, ?_⟩
    · rw [if_pos e9, n1, bd_some, nm_e2]
      have l0 : f_X1_load_37 2000 0 (tu_rcn T' 0) N' = f_X1_load_37 1999 1 (tu_fil (tu_rcn T' 0) (upd (tr_fil (tu_rcn T' 0)) 0 0)) N' := by
        rw [show 2000 = 1999 + 1 from rfl, f_X1_load_37, if_neg (by decide), gb_t (by decide), b0, nm_e2]
        rfl
      have l1 : f_X1_load_37 1999 1 (tu_fil (tu_rcn T' 0) (upd (tr_fil (tu_rcn T' 0)) 0 0)) N' = f_X1_load_37 1998 2 T2 N' := by
        rw [show 1999 = 1998 + 1 from rfl, f_X1_load_37, if_neg (by decide), gb_t (by decide), b0, nm_e2, eT2]
        rfl
      rw [l0, l1, show 1998 = 1997 + 1 from rfl, f_X1_load_37, if_pos (by decide), s_water n2 w6, s_solids n2 w6, bd_some, bd_some]
    · rw [if_pos e9]
      unfold f_X2_load_15
      rw [refused_0, bd_some]
      dsimp only
      rw [if_pos rfl, ← hM0, m1, nm_e2, nm_e2, ld_rr, m2, d1, bd_some, nm_e2, nm_e2, b0, ld_i1, nm_e2, ld_i2, nm_e2, ld_now, show (6 : Int32) = nI 6 from rfl, show (12 : Int32) = nI 12 from rfl, r_sum (ld_n M0) w6 b1' (by omega), r_sum (ld_n M0) w6 b1' (by omega), bd_some, bd_some]
    · rw [ld_ref]
      exact m3
    · have f1 : tr_tln T2 = tr_tln T := by rw [eT2]; exact s1
      have f2 : tr_txt T2 = tr_txt T := by rw [eT2]; exact s2
      have f3 : tr_nws T2 = tr_nws T := by rw [eT2]; exact s3
      have f4 : tr_rcn T2 = 0 := by rw [eT2]; rfl
      have f5 : tr_fil T2 = upd (upd (tr_fil T') 0 0) 1 0 := by rw [eT2]; rfl
      refine ld_view M0 ⟨W 0, rowF W (6 + 6 * W 0), rfl, b1', n2, hok, ⟨L2, C2, t1, f1.trans t2, t3, by rw [f2]; exact t4⟩, ⟨0, ds, by omega, rfl, f4, w, r4, f3.trans r5, fun j hj => by omega⟩, fun s hs => Or.inl ?_⟩
      rw [f5]
      unfold upd
      rcases (show s = 0 ∨ s = 1 by omega) with rfl | rfl
      · exact ⟨rfl, rfl⟩
      · exact ⟨rfl, rfl⟩
end LD
