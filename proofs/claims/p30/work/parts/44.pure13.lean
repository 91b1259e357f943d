/-! questions that try on a trial state -/
def qT (M : MdV) (cs : List (String × Int32)) (x : Option (String ⊕ (Int32 × StV))) (y : Option (Int32 × MdV)) : Prop :=
  (∃ v V t f s, x = some (.inr (v, V)) ∧ y = some (v, mu_sal (mu_flo (mu_tri (mu_ref M 0) t) f) s)) ∨ ∃ E c, (E, c) ∈ cs ∧ x = some (.inl E) ∧ y = some (0, mu_ref M c)
theorem AgS.c0 {n : Nat} {S : StV} {R : Nat → Nat} (h : AgS n 0 S R) {j : Nat} (hj : j < 10) : s_cou S j = nI (R (54 + j)) := by
  by_cases z : j = 0
  · subst z
    have h4 := h.2.2.2.1
    rw [nI_0] at h4
    exact (Int32.add_zero _).symm.trans h4
  · exact h.2.2.2.2.1 j (by omega) hj
theorem GN.left {n i w : Nat} {R : Nat → Nat} (hg : GN n R) (hi : i < n) (hw : w ≤ 20) : GN n (upN R (42 + i) w) := by
  obtain ⟨⟨n2, n6⟩, hge, hs⟩ := hg
  refine ⟨⟨n2, n6⟩, fun q hq => ?_, ?_⟩
  · obtain ⟨g1, g3, g4, g5, g6, g7, g8⟩ := hge q hq
    unfold GE
    rw [upN_o (k := q) (by omega), upN_o (k := 6 + q) (by omega), upN_o (k := 12 + q) (by omega), upN_o (k := 18 + q) (by omega), upN_o (k := 24 + q) (by omega), upN_o (k := 30 + q) (by omega), upN_o (k := 36 + q) (by omega)]
    refine ⟨g1, g3, g4, g5, g6, g7, ?_⟩
    unfold upN
    split
    · exact hw
    · exact g8
  · rw [upN_o (k := 48) (by omega), upN_o (k := 49) (by omega), upN_o (k := 50) (by omega), upN_o (k := 51) (by omega), upN_o (k := 52) (by omega)]
    exact hs
/-! the reference's fields, changed -/
section MDL
theorem mk_tri (a1 : Int32) (a2 : Int32) (a3 : Int32) (a4 : Int32) (a5 : Int32) (a6 : Int32) (a7 : Nat → Int32) (a8 : Nat → Int32) (a9 : Nat → Int32) (a10 : Nat → Int32) (a11 : Nat → Int32) (a12 : Nat → Int32) (a13 : Nat → Int32) (a14 : Nat → Int32) (a15 : Nat → Int32) (x : Nat → Int32) : mu_tri (a1, a2, a3, a4, a5, a6, a7, a8, a9, a10, a11, a12, a13, a14, a15) x = (a1, a2, a3, a4, a5, a6, a7, a8, a9, x, a11, a12, a13, a14, a15) := rfl
theorem mk_flo (a1 : Int32) (a2 : Int32) (a3 : Int32) (a4 : Int32) (a5 : Int32) (a6 : Int32) (a7 : Nat → Int32) (a8 : Nat → Int32) (a9 : Nat → Int32) (a10 : Nat → Int32) (a11 : Nat → Int32) (a12 : Nat → Int32) (a13 : Nat → Int32) (a14 : Nat → Int32) (a15 : Nat → Int32) (x : Nat → Int32) : mu_flo (a1, a2, a3, a4, a5, a6, a7, a8, a9, a10, a11, a12, a13, a14, a15) x = (a1, a2, a3, a4, a5, a6, a7, a8, a9, a10, a11, a12, a13, x, a15) := rfl
theorem mk_sal (a1 : Int32) (a2 : Int32) (a3 : Int32) (a4 : Int32) (a5 : Int32) (a6 : Int32) (a7 : Nat → Int32) (a8 : Nat → Int32) (a9 : Nat → Int32) (a10 : Nat → Int32) (a11 : Nat → Int32) (a12 : Nat → Int32) (a13 : Nat → Int32) (a14 : Nat → Int32) (a15 : Nat → Int32) (x : Nat → Int32) : mu_sal (a1, a2, a3, a4, a5, a6, a7, a8, a9, a10, a11, a12, a13, a14, a15) x = (a1, a2, a3, a4, a5, a6, a7, a8, a9, a10, a11, a12, a13, a14, x) := rfl
theorem gk_tri (a1 : Int32) (a2 : Int32) (a3 : Int32) (a4 : Int32) (a5 : Int32) (a6 : Int32) (a7 : Nat → Int32) (a8 : Nat → Int32) (a9 : Nat → Int32) (a10 : Nat → Int32) (a11 : Nat → Int32) (a12 : Nat → Int32) (a13 : Nat → Int32) (a14 : Nat → Int32) (a15 : Nat → Int32) : m_tri (a1, a2, a3, a4, a5, a6, a7, a8, a9, a10, a11, a12, a13, a14, a15) = a10 := rfl
theorem gk_flo (a1 : Int32) (a2 : Int32) (a3 : Int32) (a4 : Int32) (a5 : Int32) (a6 : Int32) (a7 : Nat → Int32) (a8 : Nat → Int32) (a9 : Nat → Int32) (a10 : Nat → Int32) (a11 : Nat → Int32) (a12 : Nat → Int32) (a13 : Nat → Int32) (a14 : Nat → Int32) (a15 : Nat → Int32) : m_flo (a1, a2, a3, a4, a5, a6, a7, a8, a9, a10, a11, a12, a13, a14, a15) = a14 := rfl
theorem gk_sal (a1 : Int32) (a2 : Int32) (a3 : Int32) (a4 : Int32) (a5 : Int32) (a6 : Int32) (a7 : Nat → Int32) (a8 : Nat → Int32) (a9 : Nat → Int32) (a10 : Nat → Int32) (a11 : Nat → Int32) (a12 : Nat → Int32) (a13 : Nat → Int32) (a14 : Nat → Int32) (a15 : Nat → Int32) : m_sal (a1, a2, a3, a4, a5, a6, a7, a8, a9, a10, a11, a12, a13, a14, a15) = a15 := rfl
theorem gk_n (a1 : Int32) (a2 : Int32) (a3 : Int32) (a4 : Int32) (a5 : Int32) (a6 : Int32) (a7 : Nat → Int32) (a8 : Nat → Int32) (a9 : Nat → Int32) (a10 : Nat → Int32) (a11 : Nat → Int32) (a12 : Nat → Int32) (a13 : Nat → Int32) (a14 : Nat → Int32) (a15 : Nat → Int32) : m_n (a1, a2, a3, a4, a5, a6, a7, a8, a9, a10, a11, a12, a13, a14, a15) = a5 := rfl
theorem gk_now (a1 : Int32) (a2 : Int32) (a3 : Int32) (a4 : Int32) (a5 : Int32) (a6 : Int32) (a7 : Nat → Int32) (a8 : Nat → Int32) (a9 : Nat → Int32) (a10 : Nat → Int32) (a11 : Nat → Int32) (a12 : Nat → Int32) (a13 : Nat → Int32) (a14 : Nat → Int32) (a15 : Nat → Int32) : m_now (a1, a2, a3, a4, a5, a6, a7, a8, a9, a10, a11, a12, a13, a14, a15) = a9 := rfl
variable (M : MdV) (t t' f f' s s' : Nat → Int32)
theorem md_tt : mu_tri (mu_tri M t) t' = mu_tri M t' := by
  obtain ⟨a1, a2, a3, a4, a5, a6, a7, a8, a9, a10, a11, a12, a13, a14, a15⟩ := M
  rw [mk_tri, mk_tri, mk_tri]
theorem md_t3 : mu_tri (mu_sal (mu_flo (mu_tri M t) f) s) t' = mu_sal (mu_flo (mu_tri M t') f) s := by
  obtain ⟨a1, a2, a3, a4, a5, a6, a7, a8, a9, a10, a11, a12, a13, a14, a15⟩ := M
  rw [mk_tri, mk_flo, mk_sal, mk_tri, mk_tri, mk_flo, mk_sal]
theorem md_ff : mu_flo (mu_sal (mu_flo M f) s) f' = mu_sal (mu_flo M f') s := by
  obtain ⟨a1, a2, a3, a4, a5, a6, a7, a8, a9, a10, a11, a12, a13, a14, a15⟩ := M
  rw [mk_flo, mk_sal, mk_flo, mk_flo, mk_sal]
theorem md_ss : mu_sal (mu_sal M s) s' = mu_sal M s' := by
  obtain ⟨a1, a2, a3, a4, a5, a6, a7, a8, a9, a10, a11, a12, a13, a14, a15⟩ := M
  rw [mk_sal, mk_sal, mk_sal]
theorem md_gt : m_tri (mu_sal (mu_flo (mu_tri M t) f) s) = t := by
  obtain ⟨a1, a2, a3, a4, a5, a6, a7, a8, a9, a10, a11, a12, a13, a14, a15⟩ := M
  rw [mk_tri, mk_flo, mk_sal, gk_tri]
theorem md_gf : m_flo (mu_sal (mu_flo M f) s) = f := by
  obtain ⟨a1, a2, a3, a4, a5, a6, a7, a8, a9, a10, a11, a12, a13, a14, a15⟩ := M
  rw [mk_flo, mk_sal, gk_flo]
theorem md_gs : m_sal (mu_sal M s) = s := by
  obtain ⟨a1, a2, a3, a4, a5, a6, a7, a8, a9, a10, a11, a12, a13, a14, a15⟩ := M
  rw [mk_sal, gk_sal]
theorem md_gn : m_n (mu_sal (mu_flo (mu_tri M t) f) s) = m_n M := by
  obtain ⟨a1, a2, a3, a4, a5, a6, a7, a8, a9, a10, a11, a12, a13, a14, a15⟩ := M
  rw [mk_tri, mk_flo, mk_sal, gk_n, gk_n]
theorem md_gw : m_now (mu_sal (mu_flo (mu_tri M t) f) s) = m_now M := by
  obtain ⟨a1, a2, a3, a4, a5, a6, a7, a8, a9, a10, a11, a12, a13, a14, a15⟩ := M
  rw [mk_tri, mk_flo, mk_sal, gk_now, gk_now]
end MDL
section QT
variable {M : MdV} {T : TrV} {N V : StV} {n : Nat} {R : Nat → Nat}
theorem r_trial (hm : m_n M = nI n) {t : Nat → Int32} {P : Nat → Nat} (ht : RR t P) (hg : GN n P) {m : Nat} (hc : P 53 + m < 2147483648) (hm2 : m < 2000) : ∃ t' f' s', f_X2_ticksOn (mu_tri M t) (m_tri (mu_tri M t)) (m_flo (mu_tri M t)) (m_sal (mu_tri M t)) (nI m) = some (nI (tkM n m P 55) - nI (P 55), t', f', s') ∧ RR t' (tkM n m P) :=
  r_ticksOn (M := mu_tri M t) (r := t) (fl := m_flo M) (sa := m_sal M) hm ht hg hc hm2
theorem q_growth (h : RelN M N n R) {p w : Int32} : qT M [(xR, 1)] (f_X1_growth T N V p w) (f_X2_growth M p w) := by
  obtain ⟨hm, hr, hA, hg, hc⟩ := h
  obtain ⟨⟨n2, n6⟩, hge, -⟩ := id hg
  have hr' : RR (m_now (mu_ref M 0)) R := hr
  have hm' : m_n (mu_ref M 0) = nI n := hm
  unfold f_X1_growth f_X2_growth
  rcases rng (p := p) (lo := 1) (hi := 99) (a := 1) (b := 99) (by decide) (by decide) with ⟨e1, e2⟩ | ⟨h0, h9, e1, e2⟩
  · refine Or.inr ⟨xR, 1, by decide, by rw [e1, bx_e], ?_⟩
    rw [e2, bd_some, if_pos rfl]
    unfold f_X2_growth_29 f_X2_growth_30
    rw [refused_1 (by decide), bd_some]
    rfl
  · obtain ⟨m, hm9, rfl⟩ := nI_of2 (n := 99) (by decide) (Int32.not_lt.mpr (Int32.le_trans (by decide) h0)) h9
    rw [e1, e2, bx_r, bd_some, if_neg (by decide)]
    rcases rng (p := w) (lo := 0) (hi := 9) (a := 0) (b := 9) (by decide) (by decide) with ⟨e3, e4⟩ | ⟨k0, k9, e3, e4⟩
    · refine Or.inr ⟨xR, 1, by decide, by rw [e3, bx_e], ?_⟩
      rw [e4, bd_some, if_pos rfl]
      unfold f_X2_growth_29 f_X2_growth_30
      rw [refused_1 (by decide), bd_some]
      rfl
    · obtain ⟨j, hj, rfl⟩ := nI_of2 (n := 9) (by decide) (Int32.not_lt.mpr k0) k9
      obtain ⟨V1, c1, a1⟩ := s_copy (S := V) hA n6
      obtain ⟨V2, c2, a2⟩ := s_pass (m := m) a1 hg (by omega) (by omega)
      obtain ⟨t1, d1, b1⟩ := r_copy (t := m_tri (mu_ref M 0)) hr'
      obtain ⟨t2, f2, s2, d2, b2⟩ := r_trial (M := mu_ref M 0) hm' b1 hg (m := m) (by omega) (by omega)
      refine Or.inl ⟨nI (tkM n m R (54 + j)) - nI (R (54 + j)), V2, t2, f2, s2, ?_, ?_⟩
      · rw [e3, bx_r, c1, bd_some, c2, bd_some]
        dsimp only
        rw [gb_in (by omega) (by omega), gb_in (by omega) (by omega), nI_cl (by omega), a2.c0 (by omega), hA.c0 (by omega)]
      · have g1 := b2 (54 + j) (by omega)
        have g2 := hr (54 + j) (by omega)
        rw [e4, bd_some, if_neg (by decide)]
        unfold f_X2_growth_30
        rw [refused_0, bd_some]
        dsimp only
        rw [if_pos rfl, d1, bd_some, nm_e2, d2, bd_some]
        dsimp only
        rw [nm_e2, show (54 : Int32) = nI 54 from rfl, nI_add, gb_in (by omega) (by omega), gb_in (by omega) (by omega), nI_cl (by omega)]
        have g3 : m_now (mu_ref M 0) (54 + j) = nI (R (54 + j)) := g2
        rw [md_tt, md_gt, md_gw, g1, g3]
theorem q_ahead (h : RelN M N n R) {p u w : Int32} : qT M [(xB, 1), (xR, 2)] (f_X1_ahead T N V p u w) (f_X2_ahead M p u w) := by
  obtain ⟨hm, hr, hA, hg, hc⟩ := h
  obtain ⟨⟨n2, n6⟩, hge, -⟩ := id hg
  have hr' : RR (m_now (mu_ref M 0)) R := hr
  have hm' : m_n (mu_ref M 0) = nI n := hm
  unfold f_X1_ahead f_X2_ahead
  rcases eff (T := T) (p := p) hm hA.1 n2 n6 with ⟨e1, e2⟩ | ⟨i, hi, rfl, e1, e2⟩
  · refine Or.inr ⟨xB, 1, by decide, by rw [e1, bx_e], ?_⟩
    rw [e2, bd_some, if_pos rfl]
    unfold f_X2_ahead_42
    rw [refused_1 (by decide), bd_some]
    rfl
  · rw [e1, e2, bx_r, bd_some, if_neg (by decide)]
    rcases rng (p := u) (lo := 0) (hi := 99) (a := 0) (b := 99) (by decide) (by decide) with ⟨e1, e2⟩ | ⟨h0, h9, e1, e2⟩
    · refine Or.inr ⟨xR, 2, by decide, by rw [e1, bx_e], ?_⟩
      rw [e2, bd_some, if_pos rfl]
      unfold f_X2_ahead_37 f_X2_ahead_42
      rw [refused_1 (by decide), bd_some]
      rfl
    · obtain ⟨m, hm9, rfl⟩ := nI_of2 (n := 99) (by decide) (Int32.not_lt.mpr h0) h9
      rw [e1, e2, bx_r, bd_some, if_neg (by decide)]
      rcases rng (p := w) (lo := 0) (hi := 9) (a := 0) (b := 9) (by decide) (by decide) with ⟨e3, e4⟩ | ⟨k0, k9, e3, e4⟩
      · refine Or.inr ⟨xR, 2, by decide, by rw [e3, bx_e], ?_⟩
        rw [e4, bd_some, if_pos rfl]
        unfold f_X2_ahead_37 f_X2_ahead_42
        rw [refused_1 (by decide), bd_some]
        rfl
      · obtain ⟨j, hj, rfl⟩ := nI_of2 (n := 9) (by decide) (Int32.not_lt.mpr k0) k9
        obtain ⟨V1, c1, a1⟩ := s_copy (S := V) hA n6
        obtain ⟨V2, c2, a2⟩ := s_pass (m := m) a1 hg (by omega) (by omega)
        obtain ⟨t1, d1, b1⟩ := r_copy (t := m_tri (mu_ref M 0)) hr'
        obtain ⟨t2, f2, s2, d2, b2⟩ := r_trial (M := mu_ref M 0) hm' b1 hg (m := m) (by omega) (by omega)
        have hge2 := (GN.ticks m R hg).2.1 i hi
        refine Or.inl ⟨nI (deV (tkM n m R) i j), V2, t2, f2, s2, ?_, ?_⟩
        · rw [e3, bx_r, c1, bd_some, c2, bd_some]
          dsimp only
          rw [s_number a2 n6 hi hge2 hj, bd_some]
        · rw [e4, bd_some, if_neg (by decide)]
          unfold f_X2_ahead_42
          rw [refused_0, bd_some]
          dsimp only
          rw [if_pos rfl, d1, bd_some, nm_e2, d2, bd_some]
          dsimp only
          rw [nm_e2]
          have g := r_detail b2 (show i < 6 by omega) hge2 hj
          rw [md_tt, md_gt, g, bd_some]
theorem q_washGain (h : RelN M N n R) {p u w : Int32} : qT M [(xB, 1), (xR, 2), (xS, 3)] (f_X1_washGain T N V p u w) (f_X2_washGain M p u w) := by
  obtain ⟨hm, hr, hA, hg, hc⟩ := h
  obtain ⟨⟨n2, n6⟩, hge, -⟩ := id hg
  have hr' : RR (m_now (mu_ref M 0)) R := hr
  have hm' : m_n (mu_ref M 0) = nI n := hm
  unfold f_X1_washGain f_X2_washGain
  rcases eff (T := T) (p := p) hm hA.1 n2 n6 with ⟨e1, e2⟩ | ⟨i, hi, rfl, e1, e2⟩
  · refine Or.inr ⟨xB, 1, by decide, by rw [e1, bx_e], ?_⟩
    rw [e2, bd_some, if_pos rfl]
    unfold f_X2_washGain_57
    rw [refused_1 (by decide), bd_some]
    rfl
  · rw [e1, e2, bx_r, bd_some, if_neg (by decide)]
    rcases rng (p := u) (lo := 1) (hi := 20) (a := 1) (b := 20) (by decide) (by decide) with ⟨e1, e2⟩ | ⟨h0, h9, e1, e2⟩
    · refine Or.inr ⟨xR, 2, by decide, by rw [e1, bx_e], ?_⟩
      rw [e2, bd_some, if_pos rfl]
      unfold f_X2_washGain_37 f_X2_washGain_57
      rw [refused_1 (by decide), bd_some]
      rfl
    · obtain ⟨z, hz, rfl⟩ := nI_of2 (n := 20) (by decide) (Int32.not_lt.mpr (Int32.le_trans (by decide) h0)) h9
      rw [e1, e2, bx_r, bd_some, if_neg (by decide)]
      rcases rng (p := w) (lo := 1) (hi := 99) (a := 1) (b := 99) (by decide) (by decide) with ⟨e3, e4⟩ | ⟨k0, k9, e3, e4⟩
      · refine Or.inr ⟨xR, 2, by decide, by rw [e3, bx_e], ?_⟩
        rw [e4, bd_some, if_pos rfl]
        unfold f_X2_washGain_37 f_X2_washGain_57
        rw [refused_1 (by decide), bd_some]
        rfl
      · obtain ⟨m, hm9, rfl⟩ := nI_of2 (n := 99) (by decide) (Int32.not_lt.mpr (Int32.le_trans (by decide) k0)) k9
        obtain ⟨-, -, -, -, -, -, -, a8⟩ := hA.2.2.2.2.2 i hi
        have g8 := (hge i hi).2.2.2.2.2.2
        have c0 : nI (R (42 + i)) ≤ 0 ↔ R (42 + i) ≤ 0 := by rw [L0, nI_leF (by omega) (by omega)]
        rw [e3, e4, bx_r, bd_some, if_neg (by decide), r_works hr (by omega) (by omega), bd_some]
        unfold f_X1_checkWorks
        rw [gb_in (by omega) (by omega), nI_cl (by omega), a8]
        by_cases x : R (42 + i) = 0
        · obtain ⟨V1, c1, a1⟩ := s_copy (S := V) hA n6
          obtain ⟨V2, c2, a2⟩ := s_pass (m := m) a1 hg (by omega) (by omega)
          obtain ⟨V3, c3, a3⟩ := s_copy (S := V2) hA n6
          have hg2 := hg.left hi hz
          have a4 := a3.lef n6 hi z
          obtain ⟨V5, c5, a5⟩ := s_pass (m := m) a4 hg2 (by rw [upN_o (by omega)]; omega) (by omega)
          obtain ⟨t1, d1, b1⟩ := r_copy (t := m_tri (mu_ref M 0)) hr'
          obtain ⟨t2, f2, s2, d2, b2⟩ := r_trial (M := mu_ref M 0) hm' b1 hg (m := m) (by omega) (by omega)
          obtain ⟨t3, d3, b3⟩ := r_copy (t := t2) hr'
          have b4 := b3.up (42 + i) z
          obtain ⟨t5, f5, s5, d5, b5⟩ := r_ticksOn (M := mu_sal (mu_flo (mu_tri (mu_ref M 0) (upd t3 (42 + i) (nI z))) f2) s2) (r := upd t3 (42 + i) (nI z)) (fl := f2) (sa := s2) ((md_gn _ _ _ _).trans hm') b4 hg2 (m := m) (by rw [upN_o (by omega)]; omega) (by omega)
          refine Or.inl ⟨(nI (tkM n m (upN R (42 + i) z) 55) - nI (upN R (42 + i) z 55)) - (nI (tkM n m R 55) - nI (R 55)), V5, t5, f5, s5, ?_, ?_⟩
          · rw [if_pos (c0.mpr (by omega)), bx_r, c1, bd_some, c2, bd_some]
            dsimp only
            rw [c3, bd_some, gb_in (by omega) (by omega), nm_e2, c5, bd_some]
          · rw [if_pos x, if_neg (by decide)]
            unfold f_X2_washGain_57
            rw [refused_0, bd_some]
            dsimp only
            rw [if_pos rfl, d1, bd_some, nm_e2, d2, bd_some]
            dsimp only
            rw [nm_e2, md_tt, md_gw, md_gt, d3, bd_some, nm_e2, md_t3, L42, nI_add, gb_in (by omega) (by omega), nI_cl (by omega), nm_e2, md_gt, md_t3, md_gt, md_gf, md_gs, d5, bd_some]
            dsimp only
            rw [nm_e2, md_t3, md_ff, md_ss]
        · refine Or.inr ⟨xS, 3, by decide, ?_, ?_⟩
          · rw [if_neg (fun h => x (by have := c0.mp h; omega)), bx_e]
          · rw [if_neg x, if_pos (by rfl)]
            unfold f_X2_washGain_57
            rw [refused_1 (by decide), bd_some]
            rfl
/-- ticks until the scale is there -/
theorem sc_loop (hm : m_n M = nI n) {i z : Nat} (hi : i < n) (hz : z ≤ 99) : ∀ (fu x : Nat) (V : StV) (t f s : Nat → Int32) (P : Nat → Nat), AgS n 0 V P → RR t P → GN n P → P 53 + (202 - x) < 2147483648 → x ≤ 201 → 202 - x < fu → ∃ v V' t' f' s', f_X1_scaledAfter_25 (nI i) (nI z) fu (nI x) V = some (.inr (v, V')) ∧ f_X2_scaledAfter_55 (nI i) (nI z) fu (nI x) (mu_sal (mu_flo (mu_tri M t) f) s) = some (v, mu_sal (mu_flo (mu_tri M t') f') s')
  | 0, x, _, _, _, _, _, _, _, _, _, _, hf => by omega
  | fu + 1, x, V, t, f, s, P, hA, ht, hg, hc, hx, hf => by
    obtain ⟨⟨n2, n6⟩, hge, -⟩ := id hg
    have g6 := (hge i hi).2.2.2.2.1
    have c2 : (200 : Int32) = nI 200 := rfl
    rw [f_X1_scaledAfter_25, f_X2_scaledAfter_55, c2]
    by_cases e : 200 < x
    · rw [if_pos (by rw [nI_ltF (by omega) (by omega)]; exact e), if_pos (by rw [nI_ltF (by omega) (by omega)]; exact e)]
      exact ⟨_, V, t, f, s, rfl, rfl⟩
    · obtain ⟨-, -, -, -, -, a6, -⟩ := hA.2.2.2.2.2 i hi
      have g := ht (30 + i) (by omega)
      have e3 : ¬ nI 200 < nI x := by rw [nI_ltF (by omega) (by omega)]; exact e
      rw [if_neg e3, if_neg e3, gb_in (by omega) (by omega), L30, nI_add, gb_in (by omega) (by omega), nI_cl (by omega), nI_cl (by omega), a6, md_gt, g]
      by_cases y : P (30 + i) < z
      · obtain ⟨V1, c1, a1⟩ := s_pass (m := 1) hA hg (by omega) (by omega)
        obtain ⟨t1, f1, s1, b1, d1⟩ := r_tickOn (M := mu_sal (mu_flo (mu_tri M t) f) s) (r := t) (fl := f) (sa := s) ((md_gn _ _ _ _).trans hm) ht hg (by omega)
        rw [if_pos (by rw [nI_ltF (by omega) (by omega)]; exact y), if_pos (by rw [nI_ltF (by omega) (by omega)]; exact y), L1, c1, bd_some, md_gf, md_gs, d1, bd_some]
        dsimp only
        rw [nm_e2, md_t3, md_ff, md_ss, nI_add]
        exact sc_loop hm hi hz fu (x + 1) V1 t1 f1 s1 (tkN n P) a1 b1 hg.tick (by rw [tkN_53 hg]; omega) (by omega) (by omega)
      · rw [if_neg (by rw [nI_ltF (by omega) (by omega)]; exact y), if_neg (by rw [nI_ltF (by omega) (by omega)]; exact y)]
        exact ⟨_, V, t, f, s, rfl, rfl⟩
theorem q_scaledAfter (h : RelN M N n R) {p u : Int32} : qT M [(xB, 1), (xR, 2)] (f_X1_scaledAfter T N V p u) (f_X2_scaledAfter M p u) := by
  obtain ⟨hm, hr, hA, hg, hc⟩ := h
  obtain ⟨⟨n2, n6⟩, hge, -⟩ := id hg
  have hr' : RR (m_now (mu_ref M 0)) R := hr
  have hm' : m_n (mu_ref M 0) = nI n := hm
  unfold f_X1_scaledAfter f_X2_scaledAfter
  rcases eff (T := T) (p := p) hm hA.1 n2 n6 with ⟨e1, e2⟩ | ⟨i, hi, rfl, e1, e2⟩
  · refine Or.inr ⟨xB, 1, by decide, by rw [e1, bx_e], ?_⟩
    rw [e2, bd_some, if_pos rfl]
    unfold f_X2_scaledAfter_30
    rw [refused_1 (by decide), bd_some]
    rfl
  · rw [e1, e2, bx_r, bd_some, if_neg (by decide)]
    rcases rng (p := u) (lo := 1) (hi := 99) (a := 1) (b := 99) (by decide) (by decide) with ⟨e1, e2⟩ | ⟨h0, h9, e1, e2⟩
    · refine Or.inr ⟨xR, 2, by decide, by rw [e1, bx_e], ?_⟩
      rw [e2, bd_some, if_pos rfl]
      unfold f_X2_scaledAfter_30
      rw [refused_1 (by decide), bd_some]
      rfl
    · obtain ⟨z, hz, rfl⟩ := nI_of2 (n := 99) (by decide) (Int32.not_lt.mpr (Int32.le_trans (by decide) h0)) h9
      obtain ⟨V1, c1, a1⟩ := s_copy (S := V) hA n6
      obtain ⟨t1, d1, b1⟩ := r_copy (t := m_tri (mu_ref M 0)) hr'
      obtain ⟨v, V', t', f', s', x1, y1⟩ := sc_loop (M := mu_ref M 0) hm' hi hz 2000 0 V1 t1 (m_flo M) (m_sal M) R a1 b1 hg (by omega) (by omega) (by omega)
      refine Or.inl ⟨v, V', t', f', s', ?_, ?_⟩
      · rw [e1, bx_r, c1, bd_some]
        exact x1
      · rw [e2, bd_some, if_neg (by decide)]
        unfold f_X2_scaledAfter_30
        rw [refused_0, bd_some]
        dsimp only
        rw [if_pos rfl, d1, bd_some, nm_e2]
        exact y1
end QT
