/-! the washing, walked -/
theorem mx_5 {v : Nat} (h : v ≤ 99) : mx 0 (nI v - nI 5) = nI (v - 5) := by
  unfold mx
  by_cases e : 5 ≤ v
  · rw [pk_sub e, L0]
    by_cases z : 0 < v - 5
    · first
        | rw [if_pos (by rw [nI_ltF (by omega) (by omega)]; exact z)]
        | rw [if_neg (by rw [nI_leF (by omega) (by omega)]; omega)]
        | rw [if_neg (by rw [nI_ltF (by omega) (by omega)]; omega)]
        | rw [if_pos (by rw [nI_leF (by omega) (by omega)]; omega)]
    · have : v - 5 = 0 := by omega
      rw [this]
      split <;> rfl
  · have : v = 0 ∨ v = 1 ∨ v = 2 ∨ v = 3 ∨ v = 4 := by omega
    rcases this with rfl | rfl | rfl | rfl | rfl <;> decide
theorem AgS.clk {n d v : Nat} {S : StV} {R : Nat → Nat} (h : AgS n d S R) (hn : n ≤ 6) : AgS n d (su_clk S (nI v)) (upN R 53 v) := by
  obtain ⟨h1, h2, h3, h4, h5, h6⟩ := h
  refine ⟨h1, ?_, fun j hj => ?_, ?_, fun j h0 hj => ?_, fun i hi => ?_⟩
  · rw [upN_s]; rfl
  · rw [upN_o (by omega)]; exact h3 j hj
  · rw [upN_o (by omega)]; exact h4
  · rw [upN_o (by omega)]; exact h5 j h0 hj
  · obtain ⟨a1, a2, a3, a4, a5, a6, a7, a8⟩ := h6 i hi
    exact ⟨by rw [upN_o (by omega)]; exact a1, by rw [upN_o (by omega)]; exact a2, by rw [upN_o (by omega)]; exact a3, by rw [upN_o (by omega)]; exact a4, by rw [upN_o (by omega)]; exact a5, by rw [upN_o (by omega)]; exact a6, by rw [upN_o (by omega)]; exact a7, by rw [upN_o (by omega)]; exact a8⟩
section TW
variable {M : MdV} {n : Nat} {R : Nat → Nat}
theorem r_ws (hm : m_n M = nI n) (hg : GN n R) {fl sa : Nat → Int32} : ∀ (fu j : Nat) (r : Nat → Int32), RR r (wsN R j) → j ≤ n → n - j < fu → ∃ r', RR r' (upN (wsN R n) 53 (R 53 + 1)) ∧ f_X2_tickOn_101 M fu (nI j) r fl sa = some (r', fl, sa)
  | 0, j, r, _, hj, hf => by omega
  | fu + 1, j, r, hr, hj, hf => by
    obtain ⟨⟨n2, n6⟩, hge, -⟩ := id hg
    rw [f_X2_tickOn_101, hm]
    by_cases e : n = j
    · subst e
      rw [if_pos (by rw [nI_leF (by omega) (by omega)]; omega), hr 53 (by omega), wsN_o n6 (by omega), nI_s1, nm_e2]
      exact ⟨_, hr.up 53 _, rfl⟩
    · have hjn : j < n := by omega
      obtain ⟨g1, g3, g4, g5, g6, g7, g8⟩ := hge j hjn
      have e42 : wsN R j (42 + j) = R (42 + j) := wsN_o (by omega) (by omega)
      have e30 : wsN R j (30 + j) = R (30 + j) := wsN_o (by omega) (by omega)
      rw [if_neg (by rw [nI_leF (by omega) (by omega)]; omega), r_works hr (by omega) (by rw [e42]; omega), bd_some, e42]
      by_cases w : R (42 + j) = 0
      · rw [if_pos w, if_neg (by decide), nI_s1]
        exact r_ws hm hg fu (j + 1) r (hr.cg fun k _ => (wsN_skip w).symm) (by omega) (by omega)
      · have key : ∃ r', RR r' (upN (wsN R n) 53 (R 53 + 1)) ∧ f_X2_tickOn_144 (f_X2_tickOn_101 M fu) fl sa (nI j) (nI (R (30 + j) - 5)) (nI (30 + j)) r = some (r', fl, sa) := by
          have s1 := hr.up (30 + j) (R (30 + j) - 5)
          have s2 := s1.up (42 + j) (R (42 + j) - 1)
          unfold f_X2_tickOn_144
          rw [gb_in (by omega) (by omega), nI_cl (by omega), nm_e2, L42, nI_add, gb_in (by omega) (by omega), gb_in (by omega) (by omega), nI_cl (by omega), s1 (42 + j) (by omega), upN_o (by omega), e42, L1, pk_sub (show 1 ≤ R (42 + j) by omega), nm_e2, nI_add]
          exact r_ws hm hg fu (j + 1) _ (s2.cg fun k _ => (wsN_step (by omega) w).symm) (by omega) (by omega)
        rw [if_neg w, if_pos (by rfl), L30, nI_add, gb_in (by omega) (by omega), nI_cl (by omega), hr (30 + j) (by omega), e30, L5]
        by_cases z : 5 ≤ R (30 + j)
        · rw [if_pos (by rw [nI_leF (by omega) (by omega)]; exact z), gb_in (by omega) (by omega), pk_sub z]
          exact key
        · rw [if_neg (by rw [nI_leF (by omega) (by omega)]; exact z), L0]
          rw [show R (30 + j) - 5 = 0 by omega] at key
          exact key
theorem s_ws (hg : GN n R) : ∀ (fu j : Nat) (S : StV), AgS n 0 S (wsN R j) → j ≤ n → n - j < fu → ∃ S', f_X0_washOn_2 fu (nI j) S = some S' ∧ AgS n 0 S' (wsN R n)
  | 0, j, S, _, hj, hf => by omega
  | fu + 1, j, S, hA, hj, hf => by
    obtain ⟨⟨n2, n6⟩, hge, -⟩ := id hg
    rw [f_X0_washOn_2, hA.1]
    by_cases e : n = j
    · subst e
      rw [if_pos (by rw [nI_leF (by omega) (by omega)]; omega)]
      exact ⟨S, rfl, hA⟩
    · have hjn : j < n := by omega
      obtain ⟨g1, g3, g4, g5, g6, g7, g8⟩ := hge j hjn
      have e42 : wsN R j (42 + j) = R (42 + j) := wsN_o (by omega) (by omega)
      have e30 : wsN R j (30 + j) = R (30 + j) := wsN_o (by omega) (by omega)
      obtain ⟨-, -, -, -, -, a6, -, a8⟩ := hA.2.2.2.2.2 j hjn
      rw [e42] at a8
      rw [e30] at a6
      have c0 : nI (R (42 + j)) ≤ 0 ↔ R (42 + j) ≤ 0 := by rw [L0, nI_leF (by omega) (by omega)]
      rw [if_neg (by rw [nI_leF (by omega) (by omega)]; omega), gb_in (by omega) (by omega), nI_cl (by omega), a8]
      by_cases w : R (42 + j) = 0
      · rw [if_pos (c0.mpr (by omega)), nI_s1]
        exact s_ws hg fu (j + 1) S (hA.cg n6 fun k _ => (wsN_skip w).symm) (by omega) (by omega)
      · have s1 := hA.sca n6 hjn (R (30 + j) - 5)
        rw [if_neg (fun h => w (by have := c0.mp h; omega)), gb_in (by omega) (by omega), a6, L5, mx_5 g6, nm_e2, gb_in (by omega) (by omega), nm_e2]
        generalize su_sca S (upd (s_sca S) j (nI (R (30 + j) - 5))) = S1 at s1 ⊢
        obtain ⟨-, -, -, -, -, -, -, b8⟩ := s1.2.2.2.2.2 j hjn
        rw [upN_o (by omega), e42] at b8
        rw [gb_in (by omega) (by omega), gb_in (by omega) (by omega), b8, L1, pk_sub (show 1 ≤ R (42 + j) by omega), nm_e2, nI_add]
        exact s_ws hg fu (j + 1) _ ((s1.lef n6 hjn _).cg n6 fun k _ => (wsN_step (by omega) w).symm) (by omega) (by omega)
theorem s_washOn {S : StV} (hA : AgS n 0 S R) (hg : GN n R) : ∃ S', f_X0_washOn S = some S' ∧ AgS n 0 S' (wsN R n) :=
  s_ws hg 2000 0 S (hA.cg hg.1.2 fun k _ => wsN_0.symm) (by omega) (by have := hg.1.2; omega)
/-! the turn -/
theorem s_tu (hg : GN n R) {S : StV} (hA : AgS n 0 S R) : ∀ (fu b j : Nat), b < n → j ≤ n → n - j < fu → ∃ S', f_X0_beginWashInTurn_32 S fu (nI b) (nI j) = some S' ∧ AgS n 0 S' (if R (30 + mxN R (n - j) j b) = 0 then R else upN R (42 + mxN R (n - j) j b) (R 52))
  | 0, b, j, _, hj, hf => by omega
  | fu + 1, b, j, hb, hj, hf => by
    obtain ⟨⟨n2, n6⟩, hge, -⟩ := id hg
    have g6 : ∀ i, i < n → R (30 + i) ≤ 99 := fun i hi => (hge i hi).2.2.2.2.1
    have a6 : ∀ i, i < n → s_sca S i = nI (R (30 + i)) := fun i hi => (hA.2.2.2.2.2 i hi).2.2.2.2.2.1
    have g6b := g6 b hb
    rw [f_X0_beginWashInTurn_32, hA.1]
    by_cases e : n = j
    · subst e
      have c0 : nI (R (30 + b)) ≤ 0 ↔ R (30 + b) ≤ 0 := by rw [L0, nI_leF (by omega) (by omega)]
      have t4 : s_set S 4 = nI (R 52) := hA.2.2.1 4 (by omega)
      rw [if_pos (by rw [nI_leF (by omega) (by omega)]; omega), gb_in (by omega) (by omega), nI_cl (by omega), a6 b hb, Nat.sub_self]
      rw [mxN]
      by_cases z : R (30 + b) = 0
      · rw [if_pos (c0.mpr (by omega)), if_pos z]
        exact ⟨S, rfl, hA⟩
      · rw [if_neg (fun h => z (by have := c0.mp h; omega)), if_neg z, gb_in (by omega) (by omega), t4, nm_e2]
        exact ⟨_, rfl, hA.lef n6 hb _⟩
    · have g6j := g6 j (by omega)
      rw [if_neg (by rw [nI_leF (by omega) (by omega)]; omega), gb_in (by omega) (by omega), gb_in (by omega) (by omega), nI_cl (by omega), nI_cl (by omega), a6 j (by omega), a6 b hb, nI_s1, show n - j = (n - (j + 1)) + 1 by omega, mxN]
      by_cases z : R (30 + j) ≤ R (30 + b)
      · rw [if_pos (by rw [nI_leF (by omega) (by omega)]; exact z), if_pos z]
        exact s_tu hg hA fu b (j + 1) hb (by omega) (by omega)
      · rw [if_neg (by rw [nI_leF (by omega) (by omega)]; exact z), if_neg z]
        exact s_tu hg hA fu j (j + 1) (by omega) (by omega) (by omega)
theorem s_turn {S : StV} (hA : AgS n 0 S R) (hg : GN n R) (hc : R 53 < 2147483648) : ∃ S', f_X0_beginWashInTurn S = some S' ∧ AgS n 0 S' (trnN n R) := by
  obtain ⟨⟨n2, n6⟩, hge, h48, h49, h50, h51, -⟩ := id hg
  have hl : ∀ i, i < n → R (42 + i) < 2147483648 := fun i hi => by have := (hge i hi).2.2.2.2.2.2; omega
  have t3 : s_set S 3 = nI (R 51) := hA.2.2.1 3 (by omega)
  have c0 : nI (R 51) = 0 ↔ R 51 = 0 := by rw [L0]; exact nI_iff (by omega) (by omega)
  unfold f_X0_beginWashInTurn trnN
  rw [t3, nm_e2]
  by_cases z : R 51 = 0
  · rw [if_pos (c0.mpr z), if_pos z]
    exact ⟨S, rfl, hA⟩
  · have c1 : nI (R 53 % R 51) = 0 ↔ R 53 % R 51 = 0 := by
      have := Nat.mod_lt (R 53) (show 0 < R 51 by omega)
      rw [L0]
      exact nI_iff (by omega) (by omega)
    rw [if_neg (show ¬ nI (R 51) = 0 from fun h => z (c0.mp h)), if_neg z, gb_nz (by omega) (by omega), hA.2.1, nI_rm hc (by omega) (by omega)]
    by_cases y : R 53 % R 51 = 0
    · have hwc := wcN_le R n
      have c2 : nI (wcN R n) ≤ 0 ↔ wcN R n ≤ 0 := by rw [L0, nI_leF (by omega) (by omega)]
      rw [if_pos (c1.mpr y), if_pos y, s_washed hA n6 hl, bd_some]
      by_cases x : wcN R n = 0
      · rw [if_pos (c2.mpr (by omega)), if_pos x]
        exact s_tu hg hA 2000 0 1 (by omega) (by omega) (by omega)
      · rw [if_neg (show ¬ nI (wcN R n) ≤ 0 from fun h => x (by have := c2.mp h; omega)), if_neg x]
        exact ⟨S, rfl, hA⟩
    · rw [if_neg (show ¬ nI (R 53 % R 51) = 0 from fun h => y (c1.mp h)), if_neg y]
      exact ⟨S, rfl, hA⟩
def rTail (M : MdV) (r fl sa : Nat → Int32) : Option ((Nat → Int32) × (Nat → Int32) × (Nat → Int32)) := bd (f_X2_boil M r) fun q => bd (f_X2_go M q fl sa) fun ⟨a, b, c⟩ => f_X2_tickOn_101 M 2000 0 a b c
theorem r_tail (hm : m_n M = nI n) {r fl sa : Nat → Int32} (hr : RR r R) (hg : GN n R) : ∃ r' fl' sa', RR r' (taN n R) ∧ rTail M r fl sa = some (r', fl', sa') := by
  have n6 := hg.1.2
  obtain ⟨q, e, hq⟩ := r_boil hm hr hg
  obtain ⟨a, b, c, ha, e2⟩ := r_go (fl := fl) (sa := sa) hm hq hg.boil
  obtain ⟨r', h1, h2⟩ := r_ws (fl := b) (sa := c) hm hg.boil.flow 2000 0 a (ha.cg fun k _ => wsN_0.symm) (by omega) (by omega)
  refine ⟨r', b, c, h1, ?_⟩
  unfold rTail
  rw [e, bd_some, e2, bd_some]
  exact h2
theorem r_tu (hm : m_n M = nI n) {r fl sa : Nat → Int32} (hr : RR r R) (hg : GN n R) (hw : wcN R n = 0) : ∀ (fu b j : Nat), b < n → j ≤ n → n - j < fu → ∃ r1, f_X2_tickOn_31 M fl r sa fu (nI b) (nI j) = rTail M r1 fl sa ∧ RR r1 (if R (30 + mxN R (n - j) j b) = 0 then R else upN R (42 + mxN R (n - j) j b) (R 52))
  | 0, b, j, _, hj, hf => by omega
  | fu + 1, b, j, hb, hj, hf => by
    obtain ⟨⟨n2, n6⟩, hge, -⟩ := id hg
    have g6 : ∀ i, i < n → R (30 + i) ≤ 99 := fun i hi => (hge i hi).2.2.2.2.1
    have g6b := g6 b hb
    rw [f_X2_tickOn_31, hm]
    by_cases e : n = j
    · subst e
      have c0 : nI (R (30 + b)) ≤ 0 ↔ R (30 + b) ≤ 0 := by rw [L0, nI_leF (by omega) (by omega)]
      rw [if_pos (by rw [nI_leF (by omega) (by omega)]; omega), L30, nI_add, gb_in (by omega) (by omega), nI_cl (by omega), hr (30 + b) (by omega), Nat.sub_self]
      rw [mxN]
      by_cases z : R (30 + b) = 0
      · rw [if_pos (c0.mpr (by omega)), if_pos z, L42, nI_add, gb_in (by omega) (by omega), nI_cl (by omega), nm_e2]
        refine ⟨_, rfl, (hr.up (42 + b) 0).cg fun k _ => ?_⟩
        have := wcN_none n hw b hb
        unfold upN
        by_cases k1 : k = 42 + b
        · rw [if_pos k1, k1, this]
        · rw [if_neg k1]
      · rw [if_neg (fun h => z (by have := c0.mp h; omega)), if_neg z, L42, nI_add, gb_in (by omega) (by omega), nI_cl (by omega), hr 52 (by omega), nm_e2]
        exact ⟨_, rfl, hr.up (42 + b) (R 52)⟩
    · have g6j := g6 j (by omega)
      rw [if_neg (by rw [nI_leF (by omega) (by omega)]; omega), L30, nI_add, nI_add, gb_in (by omega) (by omega), gb_in (by omega) (by omega), nI_cl (by omega), nI_cl (by omega), hr (30 + j) (by omega), hr (30 + b) (by omega), nI_s1, show n - j = (n - (j + 1)) + 1 by omega, mxN]
      by_cases z : R (30 + j) ≤ R (30 + b)
      · rw [if_pos (by rw [nI_leF (by omega) (by omega)]; exact z), if_pos z]
        exact r_tu hm hr hg hw fu b (j + 1) hb (by omega) (by omega)
      · rw [if_neg (by rw [nI_leF (by omega) (by omega)]; exact z), if_neg z]
        exact r_tu hm hr hg hw fu j (j + 1) (by omega) (by omega) (by omega)
theorem r_tickOn (hm : m_n M = nI n) {r fl sa : Nat → Int32} (hr : RR r R) (hg : GN n R) (hc : R 53 < 2147483648) : ∃ r' fl' sa', RR r' (tkN n R) ∧ f_X2_tickOn M r fl sa = some (r', fl', sa') := by
  obtain ⟨⟨n2, n6⟩, hge, h48, h49, h50, h51, -⟩ := id hg
  have hl : ∀ i, i < n → R (42 + i) < 2147483648 := fun i hi => by have := (hge i hi).2.2.2.2.2.2; omega
  have c0 : nI (R 51) ≤ 0 ↔ R 51 ≤ 0 := by rw [L0, nI_leF (by omega) (by omega)]
  have hgt := hg.turn
  unfold f_X2_tickOn tkN
  unfold trnN at hgt ⊢
  rw [hr 51 (by omega), hr 53 (by omega)]
  by_cases z : R 51 = 0
  · rw [if_pos (c0.mpr (by omega)), if_pos z]
    exact r_tail hm hr hg
  · have c1 : nI (R 53 % R 51) = 0 ↔ R 53 % R 51 = 0 := by
      have := Nat.mod_lt (R 53) (show 0 < R 51 by omega)
      rw [L0]
      exact nI_iff (by omega) (by omega)
    rw [if_neg (show ¬ nI (R 51) ≤ 0 from fun h => z (by have := c0.mp h; omega)), if_neg z, gb_nz (by omega) (by omega), nI_rm hc (by omega) (by omega)]
    rw [if_neg z] at hgt
    by_cases y : R 53 % R 51 = 0
    · have hwc := wcN_le R n
      have c2 : nI (wcN R n) = 0 ↔ wcN R n = 0 := by rw [L0]; exact nI_iff (by omega) (by omega)
      rw [if_pos (c1.mpr y), if_pos y, r_washed hm n6 hr hl, bd_some]
      rw [if_pos y] at hgt
      by_cases x : wcN R n = 0
      · rw [if_pos (c2.mpr x), if_pos x]
        rw [if_pos x] at hgt
        obtain ⟨r1, e1, hr1⟩ := r_tu (fl := fl) (sa := sa) hm hr hg x 2000 0 1 (by omega) (by omega) (by omega)
        have e2 : f_X2_tickOn_31 M fl r sa 2000 0 1 = rTail M r1 fl sa := e1
        rw [e2]
        exact r_tail hm hr1 hgt
      · rw [if_neg (show ¬ nI (wcN R n) = 0 from fun h => x (c2.mp h)), if_neg x]
        exact r_tail hm hr hg
    · rw [if_neg (show ¬ nI (R 53 % R 51) = 0 from fun h => y (c1.mp h)), if_neg y]
      exact r_tail hm hr hg
/-! ticks, one after the other -/
def tkM (n : Nat) : Nat → (Nat → Nat) → (Nat → Nat)
  | 0, R => R
  | m + 1, R => tkM n m (tkN n R)
end TW
section TM
variable {M : MdV} {n : Nat}
theorem GN.ticks {n : Nat} : ∀ (m : Nat) (R : Nat → Nat), GN n R → GN n (tkM n m R)
  | 0, _, h => h
  | m + 1, R, h => GN.ticks m _ h.tick
theorem tkM_53 : ∀ (m : Nat) (R : Nat → Nat), GN n R → tkM n m R 53 = R 53 + m
  | 0, _, _ => rfl
  | m + 1, R, h => by
    rw [tkM, tkM_53 m _ h.tick, tkN_53 h]
    omega
theorem s_pass_9 {x2 : Int32} : ∀ (m fu x3 : Nat) (S : StV) (R : Nat → Nat), AgS n 0 S R → GN n R → R 53 + m < 2147483648 → x3 + m < 2147483648 → m < fu → ∃ S', f_X0_pass_9 (nI (x3 + m)) fu x2 (nI x3) S = some (nI (tkM n m R 55) - x2, S') ∧ AgS n 0 S' (tkM n m R)
  | _, 0, _, _, _, _, _, _, _, hf => by omega
  | 0, fu + 1, x3, S, R, hA, hg, hc, hx, hf => by
    rw [f_X0_pass_9, if_pos (by rw [nI_leF (by omega) (by omega)]; omega), hA.2.2.2.2.1 1 (by omega) (by omega)]
    exact ⟨S, rfl, hA⟩
  | m + 1, fu + 1, x3, S, R, hA, hg, hc, hx, hf => by
    have n6 := hg.1.2
    obtain ⟨S1, e1, h1⟩ := s_turn hA hg (by omega)
    obtain ⟨S2, e2, h2⟩ := s_boilAll h1 hg.turn
    obtain ⟨S3, e3, h3⟩ := s_flowOn h2 hg.turn.boil
    obtain ⟨S4, e4, h4⟩ := s_washOn h3 hg.turn.boil.flow
    have e53 : s_clk S4 = nI (flN n (boilN n (trnN n R)) 53) := by rw [h4.2.1, wsN_o n6 (by omega)]
    rw [f_X0_pass_9, if_neg (by rw [nI_leF (by omega) (by omega)]; omega), e1, bd_some, e2, bd_some, e3, bd_some, e4, bd_some, e53, nI_s1, nm_e2, nm_e2, nI_s1, tkM]
    have ih := s_pass_9 (x2 := x2) m fu (x3 + 1) _ (tkN n R) (h4.clk (v := flN n (boilN n (trnN n R)) 53 + 1) n6) hg.tick (by rw [tkN_53 hg]; omega) (by omega) (by omega)
    rw [show x3 + 1 + m = x3 + (m + 1) by omega] at ih
    exact ih
theorem s_pass {m : Nat} {S : StV} {R : Nat → Nat} (hA : AgS n 0 S R) (hg : GN n R) (hc : R 53 + m < 2147483648) (hm : m < 2000) : ∃ S', f_X0_pass S (nI m) = some (nI (tkM n m R 55) - nI (R 55), S') ∧ AgS n 0 S' (tkM n m R) := by
  unfold f_X0_pass
  rw [hA.2.2.2.2.1 1 (by omega) (by omega), nm_e2]
  have h := s_pass_9 (x2 := nI (R 55)) m 2000 0 S R hA hg hc (by omega) hm
  rw [Nat.zero_add] at h
  exact h
theorem r_ticks_8 (hn : m_n M = nI n) {x3 : Int32} : ∀ (m fu x4 : Nat) (r fl sa : Nat → Int32) (R : Nat → Nat), RR r R → GN n R → R 53 + m < 2147483648 → x4 + m < 2147483648 → m < fu → ∃ r' fl' sa', f_X2_ticksOn_8 M (nI (x4 + m)) fu x3 (nI x4) r fl sa = some (nI (tkM n m R 55) - x3, r', fl', sa') ∧ RR r' (tkM n m R)
  | _, 0, _, _, _, _, _, _, _, _, _, hf => by omega
  | 0, fu + 1, x4, r, fl, sa, R, hr, hg, hc, hx, hf => by
    rw [f_X2_ticksOn_8, if_pos (by rw [nI_leF (by omega) (by omega)]; omega), hr 55 (by omega)]
    exact ⟨r, fl, sa, rfl, hr⟩
  | m + 1, fu + 1, x4, r, fl, sa, R, hr, hg, hc, hx, hf => by
    obtain ⟨r1, fl1, sa1, h1, e1⟩ := r_tickOn (fl := fl) (sa := sa) hn hr hg (by omega)
    rw [f_X2_ticksOn_8, if_neg (by rw [nI_leF (by omega) (by omega)]; omega), e1, bd_some]
    have ih := r_ticks_8 hn (x3 := x3) m fu (x4 + 1) r1 fl1 sa1 (tkN n R) h1 hg.tick (by rw [tkN_53 hg]; omega) (by omega) (by omega)
    rw [show x4 + 1 + m = x4 + (m + 1) by omega, ← nI_s1] at ih
    exact ih
theorem r_ticksOn (hn : m_n M = nI n) {m : Nat} {r fl sa : Nat → Int32} {R : Nat → Nat} (hr : RR r R) (hg : GN n R) (hc : R 53 + m < 2147483648) (hm : m < 2000) : ∃ r' fl' sa', f_X2_ticksOn M r fl sa (nI m) = some (nI (tkM n m R 55) - nI (R 55), r', fl', sa') ∧ RR r' (tkM n m R) := by
  unfold f_X2_ticksOn
  rw [hr 55 (by omega), nm_e2]
  have h := r_ticks_8 hn (x3 := nI (R 55)) m 2000 0 r fl sa R hr hg hc (by omega) hm
  rw [Nat.zero_add] at h
  exact h
end TM
