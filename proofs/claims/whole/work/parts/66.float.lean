/-! economy and share: no NaN (the ground for that comes last) -/
/-- no NaN as a double, and equal to itself -/
def okF (v : UInt32) : Prop := vf_n64 (FP.f2d v) ∧ FP.dcmp (FP.f2d v) (FP.f2d v) = some .eq
def NaNok : Prop := ∀ a b : Int32, b ≠ 0 → nn32 (FP.fdiv (FP.i2f a) (FP.i2f b)) = true ∧ okF (FP.fdiv (FP.i2f a) (FP.i2f b))
section FL
variable {c : Nat} {T : TrV} {N : StV} {Q : PoV} {M : MdV}
theorem q_economy (hF : NaNok) (hz : okF FP.fconst0) (h : INV c T N Q M) (hc : c ≤ 600) : ∃ v, f_X1_economy T N = some (.inr v) ∧ f_X2_economy M = some (v, mu_ref M 0) ∧ okF v := by
  obtain ⟨n, R, h1, h2, h3, h4, h5, h6, h7⟩ := h
  have hb : R 54 < 2147483648 := by have := h4.2.2; omega
  have c0 : s_cou N 0 = nI (R 54) := h3.c0 (show 0 < 10 by omega)
  have c1 : s_cou N 1 = nI (R 55) := h3.c0 (show 1 < 10 by omega)
  have r0 : m_now (mu_ref M 0) 54 = nI (R 54) := h2 54 (by omega)
  have r1 : m_now (mu_ref M 0) 55 = nI (R 55) := h2 55 (by omega)
  unfold f_X1_economy f_X2_economy
  rw [nm_e2, nm_e2, c0, c1, r0, r1]
  by_cases e : R 54 = 0
  · rw [e, if_pos (by decide), if_pos (by decide)]
    exact ⟨_, rfl, rfl, hz⟩
  · have hne : nI (R 54) ≠ 0 := fun z => e ((nI_iff hb (by omega)).mp z)
    rw [if_neg (nI_nle (by omega) (lt31 hb)), if_neg hne, gb_t (hF _ _ hne).1, gb_t (hF _ _ hne).1]
    exact ⟨_, rfl, rfl, (hF _ _ hne).2⟩
theorem q_share (hF : NaNok) (h : INV c T N Q M) {p : Int32} : qO M [(xB, 1)] FP.fconst0 (f_X1_share T N p) (f_X2_share M p) := by
  obtain ⟨n, R, h1, h2, h3, h4, h5, h6, h7⟩ := h
  obtain ⟨⟨n2, n6⟩, hge, -⟩ := id h4.1
  unfold f_X1_share f_X2_share f_X2_share_14
  rcases eff (T := T) h1 h3.1 n2 n6 (p := p) with ⟨e1, e2⟩ | ⟨i, hi, rfl, e1, e2⟩
  · refine Or.inr ⟨xB, 1, by decide, by rw [e1, bx_e], ?_⟩
    rw [e2, bd_some, if_pos rfl, refused_1 (by decide), bd_some]
    rfl
  · have hE := hge i hi
    have ha : amN R i ≤ 5000 := hE.2.1
    have hr : RR (m_now (mu_ref M 0)) R := h2
    rw [e1, e2, bx_r, bd_some, if_neg (show ¬ (1 : Int32) = 0 by decide), s_amount h3 n6 hi, bd_some, refused_0, bd_some]
    dsimp only
    rw [if_pos (show (0 : Int32) = 0 from rfl), r_amount hr (by omega), bd_some]
    by_cases e : amN R i = 0
    · rw [e, if_pos (show nI 0 ≤ 0 by decide), if_pos (show nI 0 = 0 from rfl)]
      exact Or.inl ⟨_, rfl, rfl⟩
    · have hne : nI (amN R i) ≠ 0 := fun z => e ((nI_iff (by omega) (by omega)).mp z)
      rw [if_neg (nI_nle (by omega) (lt31 (by omega))), if_neg hne, gb_in (by omega) (by omega), nI_cl (by omega), (h3.2.2.2.2.2 i hi).2.2.1, gb_t (hF _ _ hne).1, show (12 : Int32) = nI 12 from rfl, nI_add, gb_in (by omega) (by omega), bd_some, nI_cl (by omega), hr (12 + i) (by omega), gb_t (hF _ _ hne).1]
      exact Or.inl ⟨_, rfl, rfl⟩
end FL
