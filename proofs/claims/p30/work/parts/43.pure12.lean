/-! the train's state and the reference's row, and what a question gives -/
def RelN (M : MdV) (N : StV) (n : Nat) (R : Nat → Nat) : Prop := m_n M = nI n ∧ RR (m_now M) R ∧ AgS n 0 N R ∧ GN n R ∧ R 53 < 2000000000
/-- a question that leaves all as it is: its answer, or its refusal (and the code of the refusal) -/
def qO {α : Type} (M : MdV) (cs : List (String × Int32)) (z : α) (x : Option (String ⊕ α)) (y : Option (α × MdV)) : Prop :=
  (∃ v, x = some (.inr v) ∧ y = some (v, mu_ref M 0)) ∨ ∃ E c, (E, c) ∈ cs ∧ x = some (.inl E) ∧ y = some (z, mu_ref M c)
abbrev xR : String := "java/lang/IllegalArgumentException"
abbrev xS : String := "java/lang/IllegalStateException"
abbrev xB : String := "java/lang/IndexOutOfBoundsException"
theorem bx_r {α β : Type} (a : α) (k : α → Option (String ⊕ β)) : bx (some (.inr a)) k = k a := rfl
theorem bx_e {α β : Type} (E : String) (k : α → Option (String ⊕ β)) : bx (some (.inl E) : Option (String ⊕ α)) k = some (.inl E) := rfl
theorem bn_r {α β : Type} (a : α) (k : α → Option β) : bn (some (.inr a) : Option (String ⊕ α)) k = k a := rfl
section QU
variable {M : MdV} {T : TrV} {N : StV} {n : Nat} {R : Nat → Nat}
theorem eff (hm : m_n M = nI n) (hN : s_n N = nI n) (h2 : 2 ≤ n) (h6 : n ≤ 6) {p : Int32} : (f_X1_checkEffect T N p = some (.inl xB) ∧ f_X2_isEffect M p = some 0) ∨ ∃ i, i < n ∧ p = nI i ∧ f_X1_checkEffect T N p = some (.inr ()) ∧ f_X2_isEffect M p = some 1 := by
  unfold f_X1_checkEffect f_X2_isEffect
  rw [hm, hN, L1, pk_sub (show 1 ≤ n by omega), in_32 (lo := 0) (hi := nI (n - 1)) (by decide) rfl, bd_some]
  by_cases x : p < 0
  · rw [if_pos x, if_pos x]
    exact Or.inl ⟨rfl, rfl⟩
  · obtain ⟨j, hj, rfl⟩ := nI_of x
    have hj' : j < 2147483648 := hj
    rw [if_neg x, if_neg x]
    by_cases y : j < n
    · rw [if_pos (by rw [nI_ltF hj' (by omega)]; exact y), if_neg (by rw [nI_ltF (by omega) hj']; omega)]
      exact Or.inr ⟨j, y, rfl, rfl, rfl⟩
    · rw [if_neg (by rw [nI_ltF hj' (by omega)]; exact y), if_pos (by rw [nI_ltF (by omega) hj']; omega)]
      exact Or.inl ⟨rfl, rfl⟩
def abV (n : Nat) (R : Nat → Nat) (j : Nat) : Nat := if j = 0 then n else if j ≤ 5 then R (47 + j) else if j = 6 then R 53 else if j = 7 then wcN R n else if j = 8 then smN R 6 n else smN R 12 n
theorem q_about (h : RelN M N n R) {p : Int32} : qO M [(xR, 1)] 0 (f_X1_about T N p) (f_X2_about M p) := by
  obtain ⟨hm, hr, hA, hg, -⟩ := h
  obtain ⟨⟨n2, n6⟩, hge, -⟩ := id hg
  have hl : ∀ i, i < n → R (42 + i) < 2147483648 := fun i hi => by have := (hge i hi).2.2.2.2.2.2; omega
  unfold f_X1_about f_X2_about
  rcases rng (p := p) (lo := 0) (hi := 9) (a := 0) (b := 9) (by decide) (by decide) with ⟨e1, e2⟩ | ⟨h0, h9, e1, e2⟩
  · refine Or.inr ⟨xR, 1, by decide, by rw [e1, bx_e], ?_⟩
    rw [e2, bd_some, if_pos rfl]
    unfold f_X2_about_18
    rw [refused_1 (by decide), bd_some]
    rfl
  · obtain ⟨j, hj, rfl⟩ := nI_of2 (n := 9) (by decide) (Int32.not_lt.mpr h0) h9
    refine Or.inl ⟨nI (abV n R j), ?_, ?_⟩
    · rw [e1, bx_r]
      have hc : j = 0 ∨ j = 1 ∨ j = 2 ∨ j = 3 ∨ j = 4 ∨ j = 5 ∨ j = 6 ∨ j = 7 ∨ j = 8 ∨ j = 9 := by omega
      rcases hc with rfl | rfl | rfl | rfl | rfl | rfl | rfl | rfl | rfl | rfl <;> (repeat first | rw [if_neg (by decide)] | rw [if_pos (by decide)])
      · rw [hA.1]; rfl
      · rw [show nI 1 - 1 = nI 0 by decide, gb_in (by omega) (by omega), nI_cl (by omega), hA.2.2.1 0 (by omega)]; rfl
      · rw [show nI 2 - 1 = nI 1 by decide, gb_in (by omega) (by omega), nI_cl (by omega), hA.2.2.1 1 (by omega)]; rfl
      · rw [show nI 3 - 1 = nI 2 by decide, gb_in (by omega) (by omega), nI_cl (by omega), hA.2.2.1 2 (by omega)]; rfl
      · rw [show nI 4 - 1 = nI 3 by decide, gb_in (by omega) (by omega), nI_cl (by omega), hA.2.2.1 3 (by omega)]; rfl
      · rw [show nI 5 - 1 = nI 4 by decide, gb_in (by omega) (by omega), nI_cl (by omega), hA.2.2.1 4 (by omega)]; rfl
      · rw [hA.2.1]; rfl
      · rw [s_washed hA n6 hl, bd_some]; rfl
      · rw [s_water hA n6, bd_some]; rfl
      · rw [s_solids hA n6, bd_some]; rfl
    · rw [e2, bd_some, if_neg (by decide)]
      unfold f_X2_about_18
      rw [refused_0, bd_some]
      dsimp only
      have hr' : RR (m_now (mu_ref M 0)) R := hr
      have hm' : m_n (mu_ref M 0) = nI n := hm
      have hc : j = 0 ∨ j = 1 ∨ j = 2 ∨ j = 3 ∨ j = 4 ∨ j = 5 ∨ j = 6 ∨ j = 7 ∨ j = 8 ∨ j = 9 := by omega
      rcases hc with rfl | rfl | rfl | rfl | rfl | rfl | rfl | rfl | rfl | rfl <;> (repeat first | rw [if_neg (by decide)] | rw [if_pos (by decide)])
      · rw [hm']; rfl
      · rw [show 48 + nI 1 - 1 = nI 48 by decide, gb_in (by omega) (by omega), nI_cl (by omega), hr' 48 (by omega)]; rfl
      · rw [show 48 + nI 2 - 1 = nI 49 by decide, gb_in (by omega) (by omega), nI_cl (by omega), hr' 49 (by omega)]; rfl
      · rw [show 48 + nI 3 - 1 = nI 50 by decide, gb_in (by omega) (by omega), nI_cl (by omega), hr' 50 (by omega)]; rfl
      · rw [show 48 + nI 4 - 1 = nI 51 by decide, gb_in (by omega) (by omega), nI_cl (by omega), hr' 51 (by omega)]; rfl
      · rw [show 48 + nI 5 - 1 = nI 52 by decide, gb_in (by omega) (by omega), nI_cl (by omega), hr' 52 (by omega)]; rfl
      · rw [hr' 53 (by omega)]; rfl
      · rw [r_washed hm' n6 hr' hl, bd_some]; rfl
      · rw [L6, r_sum hm' n6 hr' (by omega), bd_some]; rfl
      · rw [L12, r_sum hm' n6 hr' (by omega), bd_some]; rfl
theorem q_total (h : RelN M N n R) {p : Int32} : qO M [(xR, 1)] 0 (f_X1_total T N p) (f_X2_total M p) := by
  obtain ⟨hm, hr, hA, hg, -⟩ := h
  unfold f_X1_total f_X2_total
  rcases rng (p := p) (lo := 0) (hi := 9) (a := 0) (b := 9) (by decide) (by decide) with ⟨e1, e2⟩ | ⟨h0, h9, e1, e2⟩
  · refine Or.inr ⟨xR, 1, by decide, by rw [e1, bx_e], ?_⟩
    rw [e2, bd_some, if_pos rfl]
    unfold f_X2_total_18
    rw [refused_1 (by decide), bd_some]
    rfl
  · obtain ⟨j, hj, rfl⟩ := nI_of2 (n := 9) (by decide) (Int32.not_lt.mpr h0) h9
    have hr' : RR (m_now (mu_ref M 0)) R := hr
    refine Or.inl ⟨nI (R (54 + j)), ?_, ?_⟩
    · rw [e1, bx_r]
      have hc : s_cou N j = nI (R (54 + j)) := by
        by_cases z : j = 0
        · subst z
          have h4 := hA.2.2.2.1
          rw [nI_0] at h4
          exact (Int32.add_zero _).symm.trans h4
        · exact hA.2.2.2.2.1 j (by omega) (by omega)
      rw [gb_in (by omega) (by omega), nI_cl (by omega), hc]
    · rw [e2, bd_some, if_neg (by decide)]
      unfold f_X2_total_18
      rw [refused_0, bd_some]
      dsimp only
      rw [if_pos rfl, show (54 : Int32) = nI 54 from rfl, nI_add, gb_in (by omega) (by omega), nI_cl (by omega), hr' _ (by omega)]
theorem q_effect (h : RelN M N n R) {p w : Int32} : qO M [(xB, 1), (xR, 2)] 0 (f_X1_effect T N p w) (f_X2_effect M p w) := by
  obtain ⟨hm, hr, hA, hg, -⟩ := h
  obtain ⟨⟨n2, n6⟩, hge, -⟩ := id hg
  have hr' : RR (m_now (mu_ref M 0)) R := hr
  unfold f_X1_effect f_X2_effect
  rcases eff (T := T) (p := p) hm hA.1 n2 n6 with ⟨e1, e2⟩ | ⟨i, hi, rfl, e1, e2⟩
  · refine Or.inr ⟨xB, 1, by decide, by rw [e1, bx_e], ?_⟩
    rw [e2, bd_some, if_pos rfl]
    unfold f_X2_effect_30
    rw [refused_1 (by decide), bd_some]
    rfl
  · rw [e1, e2, bx_r, bd_some, if_neg (by decide)]
    rcases rng (p := w) (lo := 0) (hi := 9) (a := 0) (b := 9) (by decide) (by decide) with ⟨e1, e2⟩ | ⟨h0, h9, e1, e2⟩
    · refine Or.inr ⟨xR, 2, by decide, by rw [e1, bx_e], ?_⟩
      rw [e2, bd_some, if_pos rfl]
      unfold f_X2_effect_30
      rw [refused_1 (by decide), bd_some]
      rfl
    · obtain ⟨j, hj, rfl⟩ := nI_of2 (n := 9) (by decide) (Int32.not_lt.mpr h0) h9
      refine Or.inl ⟨nI (deV R i j), ?_, ?_⟩
      · rw [e1, bx_r]
        rw [s_number hA n6 hi (hge i hi) hj, bd_some]
      · rw [e2, bd_some, if_neg (by decide)]
        unfold f_X2_effect_30
        rw [refused_0, bd_some]
        dsimp only
        rw [if_pos rfl, r_detail hr' (by omega) (hge i hi) hj, bd_some]
theorem q_neighbor (h : RelN M N n R) {p w : Int32} : qO M [(xB, 1)] 0 (f_X1_neighbor T N p w) (f_X2_neighbor M p w) := by
  obtain ⟨hm, hr, hA, hg, -⟩ := h
  obtain ⟨⟨n2, n6⟩, hge, -⟩ := id hg
  have hl : ∀ i, i < n → R (42 + i) < 2147483648 := fun i hi => by have := (hge i hi).2.2.2.2.2.2; omega
  have hr' : RR (m_now (mu_ref M 0)) R := hr
  have hm' : m_n (mu_ref M 0) = nI n := hm
  unfold f_X1_neighbor f_X2_neighbor
  rcases eff (T := T) (p := p) hm hA.1 n2 n6 with ⟨e1, e2⟩ | ⟨i, hi, rfl, e1, e2⟩
  · refine Or.inr ⟨xB, 1, by decide, by rw [e1, bx_e], ?_⟩
    rw [e2, bd_some, if_pos rfl]
    unfold f_X2_neighbor_14
    rw [refused_1 (by decide), bd_some]
    rfl
  · rw [e1, e2, bx_r, bd_some, if_neg (show ¬ (1 : Int32) = 0 by decide)]
    unfold f_X2_neighbor_14
    rw [refused_0, bd_some]
    dsimp only
    rw [if_pos (show (0 : Int32) = 0 from rfl)]
    by_cases z : w = 0
    · rw [if_pos z, if_pos z]
      unfold f_X0_effectBefore f_X2_before
      rw [nm_e2, nm_e2, r_before_4 hr' n6 hl 2000 i (by omega) (by omega), s_before_4 hA n6 hl 2000 i (by omega) (by omega), bd_some, bd_some]
      exact Or.inl ⟨_, rfl, rfl⟩
    · rw [if_neg z, if_neg z, s_behind hA n6 hl hi, r_behind hm' n6 hr' hl hi, bd_some, bd_some]
      exact Or.inl ⟨_, rfl, rfl⟩
end QU
