/-! the text -/
def TxN (M : MdV) (T : TrV) (L : Nat) (C : Nat → Nat) : Prop := m_scs M = nI L ∧ tr_tln T = nI L ∧ L ≤ 120 ∧ ∀ k, k < L → m_scr M k = nI (C k) ∧ tr_txt T k = nI (C k) ∧ C k ≤ 255
theorem nar_c : ∀ c : Nat, c < 256 → vp_nar .char (((nI c).toUInt32 % 65536).toInt32) = nI c := by decide +kernel
section TX
variable {M : MdV} {T : TrV} {L : Nat} {C : Nat → Nat}
theorem q_clearText (h : TxN M T L C) : f_X1_clearText T = some (.inr (nI L, tu_tln T 0)) ∧ f_X2_clearText M = some (nI L, mu_scs (mu_ref M 0) 0) ∧ TxN (mu_scs (mu_ref M 0) 0) (tu_tln T 0) 0 C := by
  obtain ⟨h1, h2, h3, h4⟩ := h
  refine ⟨?_, ?_, rfl, rfl, by omega, fun k hk => absurd hk (by omega)⟩
  · unfold f_X1_clearText
    rw [h2, nm_e2, nm_e2]
  · unfold f_X2_clearText
    have h1' : m_scs (mu_ref M 0) = nI L := h1
    rw [nm_e2, h1', nm_e2, nm_e2]
theorem q_append (h : TxN M T L C) {p : Int32} :
    (f_X1_append T p = some (.inl xR) ∧ f_X2_append M p = some (0, mu_ref M 1)) ∨ (f_X1_append T p = some (.inl xS) ∧ f_X2_append M p = some (0, mu_ref M 2)) ∨
    ∃ c T' M', L < 120 ∧ f_X1_append T p = some (.inr (nI (L + 1), T')) ∧ f_X2_append M p = some (nI (L + 1), M') ∧ TxN M' T' (L + 1) (upN C L c) ∧ T' = tu_tln (tu_txt T (upd (tr_txt T) L (nI c))) (nI (L + 1)) ∧ M' = mu_scs (mu_scr (mu_ref M 0) (upd (m_scr (mu_ref M 0)) L (nI c))) (nI (L + 1)) := by
  obtain ⟨h1, h2, h3, h4⟩ := h
  have h1' : m_scs (mu_ref M 0) = nI L := h1
  have c120 : (120 : Int32) = nI 120 := rfl
  unfold f_X1_append f_X2_append
  rcases rng (p := p) (lo := 0) (hi := 255) (a := 0) (b := 255) (by decide) (by decide) with ⟨e1, e2⟩ | ⟨k0, k9, e1, e2⟩
  · refine Or.inl ⟨by rw [e1, bx_e], ?_⟩
    unfold f_X2_append_31
    rw [e2, bd_some, if_pos rfl, refused_1 (by decide), bd_some]
    rfl
  · obtain ⟨c, hc, rfl⟩ := nI_of2 (n := 255) (by decide) (Int32.not_lt.mpr k0) k9
    rw [e1, e2, bx_r, bd_some, if_neg (show ¬ (1 : Int32) = 0 by decide), h1, h2, c120]
    by_cases z : L < 120
    · refine Or.inr (Or.inr ⟨c, _, _, z, ?_, ?_, ?_, rfl, rfl⟩)
      · rw [if_pos (by rw [nI_ltF (by omega) (by omega)]; exact z), gb_in (by omega) (by omega), nI_cl (by omega), nar_c c (by omega), nm_e2]
        have e3 : tr_tln (tu_txt T (upd (tr_txt T) L (nI c))) = nI L := h2
        rw [e3, nI_s1, nm_e2, nm_e2]
        rfl
      · unfold f_X2_append_31
        rw [if_neg (by rw [nI_iff (by omega) (by omega)]; omega), refused_0, bd_some]
        dsimp only
        rw [if_pos rfl, h1', gb_in (by omega) (by omega), nI_cl (by omega), nm_e2]
        have e3 : m_scs (mu_scr (mu_ref M 0) (upd (m_scr (mu_ref M 0)) L (nI c))) = nI L := h1
        rw [e3, nI_s1, nm_e2, nm_e2]
        rfl
      · refine ⟨rfl, rfl, by omega, fun k hk => ?_⟩
        show upd (m_scr M) L (nI c) k = _ ∧ upd (tr_txt T) L (nI c) k = _ ∧ _
        unfold upd upN
        by_cases y : k = L
        · rw [if_pos y, if_pos y, if_pos y]; exact ⟨rfl, rfl, hc⟩
        · rw [if_neg y, if_neg y, if_neg y]; exact h4 k (by omega)
    · refine Or.inr (Or.inl ⟨?_, ?_⟩)
      · rw [if_neg (by rw [nI_ltF (by omega) (by omega)]; exact z)]
      · unfold f_X2_append_31
        rw [if_pos (by rw [nI_iff (by omega) (by omega)]; omega), refused_1 (by decide), bd_some]
        rfl
end TX
