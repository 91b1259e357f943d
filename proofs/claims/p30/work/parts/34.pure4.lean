/-! the class's boiling -/
theorem wcN_full {R : Nat → Nat} : ∀ n, wcN R n = n → ∀ i, i < n → R (42 + i) ≠ 0
  | 0, _, i, hi => by omega
  | n + 1, h, i, hi => by
    rw [wcN] at h
    have h1 := wcN_le R n
    by_cases w : R (42 + n) = 0
    · rw [if_pos w] at h; omega
    · rw [if_neg w] at h
      by_cases e : i = n
      · rw [e]; exact w
      · exact wcN_full n (by omega) i (by omega)
theorem wcN_part {R : Nat → Nat} : ∀ n, wcN R n ≠ n → ∃ i, i < n ∧ R (42 + i) = 0
  | 0, h => absurd rfl h
  | n + 1, h => by
    rw [wcN] at h
    by_cases w : R (42 + n) = 0
    · exact ⟨n, by omega, w⟩
    · rw [if_neg w] at h
      obtain ⟨i, h1, h2⟩ := wcN_part (R := R) n (fun e => h (by omega))
      exact ⟨i, by omega, h2⟩
theorem bo1_keep {R : Nat → Nat} {i h k : Nat} (h1 : k ≠ 6 + i) (h2 : k ≠ 30 + i) (h3 : k ≠ 36 + i) (h4 : k ≠ 55) (h5 : k ≠ 56) (h6 : k ≠ 58) : bo1 R i h k = R k := by
  unfold bo1
  rw [upN_o h2, upN_o h3, upN_o h6, upN_o h5, upN_o h4, upN_o h1]
theorem boL_keep {k : Nat} (hk : (42 ≤ k ∧ k ≤ 54) ∨ k = 57 ∨ (59 ≤ k)) : ∀ (d i h : Nat) (R : Nat → Nat), i + d ≤ 6 → (boL d i h R).2 k = R k
  | 0, i, h, R, _ => rfl
  | d + 1, i, h, R, hi => by
    rw [boL]
    by_cases w : R (42 + i) = 0
    · rw [if_pos w, boL_keep hk d (i + 1) _ _ (by omega), bo1_keep (by omega) (by omega) (by omega) (by omega) (by omega) (by omega)]
    · rw [if_neg w, boL_keep hk d (i + 1) _ _ (by omega)]
section SB
variable {n d i : Nat} {S : StV} {R : Nat → Nat}
theorem s_boil (h : AgS n d S R) (hn : n ≤ 6) (hi : i < n) (hg : GE R i) {h0 : Nat} (hh : h0 ≤ 999) : ∃ S', f_X0_boil S (nI i) (nI h0) = some (nI (vaN R i h0 - blN R i h0), S') ∧ AgS n d S' (bo1 R i h0) := by
  obtain ⟨⟨g1, g2⟩, g3, g4, g5, g6, g7, g8⟩ := id hg
  have hv := vaN_le (R := R) (i := i) (h := h0)
  have hpw := pwN_le (R := R) (i := i) g2
  have hth := thN_le (R := R) (i := i)
  have hbl := blN_le (R := R) (i := i) (h := h0) g5
  have hm : min h0 (pwN R i) ≤ 90 := Nat.le_trans (Nat.min_le_right _ _) hpw
  have h1 := vth_le (v := min h0 (pwN R i)) (R := R) (i := i)
  have h2 := vth_lt (v := min h0 (pwN R i)) (R := R) (i := i) hm
  have h3 : vaN R i h0 * R (24 + i) ≤ 8100 := Nat.le_trans (Nat.mul_le_mul (show vaN R i h0 ≤ 90 by omega) g5) (by omega)
  have h4 : vaN R i h0 * thN R i ≤ 9000 := vth_lt (by omega)
  have h5 : vaN R i h0 * thN R i / 10 ≤ 900 := by omega
  have hgr : grN R i h0 ≤ 1899 := by unfold grN; omega
  obtain ⟨-, a2, -, -, a5, -⟩ := h.2.2.2.2.2 i hi
  unfold f_X0_boil
  rw [s_thickness h hn hi hg, bd_some, s_power h hn hi hg, bd_some, mn_N (by omega) (by omega), nm_e2, pk_mul, L200, nI_dv (by omega) (by omega) (by omega), pk_sub h1, nm_e2, gb_in (by omega) (by omega), nI_cl (by omega), a2, mn_N (by omega) (by omega)]
  rw [show min (min h0 (pwN R i) - min h0 (pwN R i) * thN R i / 200) (R (6 + i)) = vaN R i h0 from rfl]
  rw [nm_e2, gb_in (by omega) (by omega), a5, pk_mul, L100, nI_dv (by omega) (by omega) (by omega)]
  rw [show vaN R i h0 * R (24 + i) / 100 = blN R i h0 from rfl]
  rw [nm_e2, gb_in (by omega) (by omega), gb_in (by omega) (by omega), pk_sub hv.2.2, nm_e2]
  have s1 := h.wat hn hi (R (6 + i) - vaN R i h0)
  generalize su_wat S (upd (s_wat S) i (nI (R (6 + i) - vaN R i h0))) = S1 at s1 ⊢
  rw [s1.2.2.2.2.1 1 (by omega) (by omega), nI_add, nm_e2]
  have s2 := s1.cou hn (j := 1) (by omega) (by omega) (upN R (6 + i) (R (6 + i) - vaN R i h0) (54 + 1) + vaN R i h0)
  generalize su_cou S1 (upd (s_cou S1) 1 (nI (upN R (6 + i) (R (6 + i) - vaN R i h0) (54 + 1) + vaN R i h0))) = S2 at s2 ⊢
  rw [s2.2.2.2.2.1 2 (by omega) (by omega), nI_add, nm_e2]
  have s3 := s2.cou hn (j := 2) (by omega) (by omega) (upN (upN R (6 + i) (R (6 + i) - vaN R i h0)) (54 + 1) (upN R (6 + i) (R (6 + i) - vaN R i h0) (54 + 1) + vaN R i h0) (54 + 2) + blN R i h0)
  generalize su_cou S2 (upd (s_cou S2) 2 _) = S3 at s3 ⊢
  rw [s3.2.2.2.2.1 4 (by omega) (by omega), pk_sub hv.1, nI_add, nm_e2]
  have s4 := s3.cou hn (j := 4) (by omega) (by omega) (upN (upN (upN R (6 + i) (R (6 + i) - vaN R i h0)) (54 + 1) (upN R (6 + i) (R (6 + i) - vaN R i h0) (54 + 1) + vaN R i h0)) (54 + 2) (upN (upN R (6 + i) (R (6 + i) - vaN R i h0)) (54 + 1) (upN R (6 + i) (R (6 + i) - vaN R i h0) (54 + 1) + vaN R i h0) (54 + 2) + blN R i h0) (54 + 4) + (h0 - vaN R i h0))
  generalize su_cou S3 (upd (s_cou S3) 4 _) = S4 at s4 ⊢
  generalize hR4 : upN (upN (upN (upN R (6 + i) (R (6 + i) - vaN R i h0)) (54 + 1) _) (54 + 2) _) (54 + 4) _ = R4 at s4
  have e30 : R4 (30 + i) = R (30 + i) := by rw [← hR4, upN_o (by omega), upN_o (by omega), upN_o (by omega), upN_o (by omega)]
  have e36 : R4 (36 + i) = R (36 + i) := by rw [← hR4, upN_o (by omega), upN_o (by omega), upN_o (by omega), upN_o (by omega)]
  obtain ⟨-, -, -, -, -, b6, b7, -⟩ := s4.2.2.2.2.2 i hi
  rw [gb_in (by omega) (by omega), b7, e36, pk_mul, L10, nI_dv (by omega) (by omega) (by omega), nI_add]
  rw [show R (36 + i) + vaN R i h0 * thN R i / 10 = grN R i h0 from rfl]
  rw [nm_e2, gb_in (by omega) (by omega), b6, e30, L1000, nI_dv (by omega) (by omega) (by omega), nI_add, L99, mn_N (by omega) (by omega), nm_e2, gb_in (by omega) (by omega), nm_e2]
  have s5 := s4.sca hn hi (min 99 (R (30 + i) + grN R i h0 / 1000))
  generalize su_sca S4 (upd (s_sca S4) i _) = S5 at s5 ⊢
  rw [gb_in (by omega) (by omega), pk_mul, pk_sub (show grN R i h0 / 1000 * 1000 ≤ grN R i h0 by omega), show grN R i h0 - grN R i h0 / 1000 * 1000 = grN R i h0 % 1000 by omega, nm_e2, pk_sub hbl]
  refine ⟨_, rfl, (s5.scl hn hi (grN R i h0 % 1000)).cg hn fun k hk => ?_⟩
  rw [← hR4]
  unfold bo1 upN
  by_cases e1 : k = 36 + i
  · simp only [e1, if_true, show ¬ 36 + i = 30 + i by omega, if_false]
  · by_cases e2 : k = 30 + i
    · simp only [e2, if_true, show ¬ 30 + i = 36 + i by omega, if_false]
    · by_cases e3 : k = 58
      · simp only [e1, e2, e3, if_true, if_false, show ¬ 58 = 36 + i by omega, show ¬ 58 = 30 + i by omega, show ¬ (54 + 4) = (54 + 2) by omega, show ¬ (54 + 4) = (54 + 1) by omega, show ¬ (54 + 4) = 6 + i by omega]
      · by_cases e4 : k = 56
        · simp only [e1, e2, e3, e4, if_true, if_false, show ¬ 56 = 36 + i by omega, show ¬ 56 = 30 + i by omega, show ¬ 56 = 54 + 4 by omega, show ¬ 56 = 58 by omega, show ¬ (54 + 2) = (54 + 1) by omega, show ¬ (54 + 2) = 6 + i by omega]
        · by_cases e5 : k = 55
          · simp only [e1, e2, e3, e4, e5, if_true, if_false, show ¬ 55 = 36 + i by omega, show ¬ 55 = 30 + i by omega, show ¬ 55 = 54 + 4 by omega, show ¬ 55 = 54 + 2 by omega, show ¬ 55 = 58 by omega, show ¬ 55 = 56 by omega, show ¬ (54 + 1) = 6 + i by omega]
          · simp only [e1, e2, e3, e4, e5, if_false, show ¬ k = 54 + 4 by omega, show ¬ k = 54 + 2 by omega, show ¬ k = 54 + 1 by omega]
theorem s_boilAll_no (h : AgS n d S R) (hn : n ≤ 6) (hw : ∀ i, i < n → R (42 + i) ≠ 0) (hl : ∀ i, i < n → R (42 + i) < 2147483648) : ∀ (fu j : Nat) (x : Int32), j ≤ n → n - j < fu → f_X0_boilAll_11 fu x 0 (nI j) S = some S
  | 0, j, x, hj, hf => by omega
  | fu + 1, j, x, hj, hf => by
    rw [f_X0_boilAll_11, h.1]
    by_cases e : n = j
    · subst e
      rw [if_pos (by rw [nI_leF (by omega) (by omega)]; omega), if_pos rfl]
    · have a8 := (h.2.2.2.2.2 j (by omega)).2.2.2.2.2.2.2
      rw [if_neg (by rw [nI_leF (by omega) (by omega)]; omega), gb_in (by omega) (by omega), nI_cl (by omega), a8, L0, if_neg (by rw [nI_iff (hl j (by omega)) (by omega)]; exact hw j (by omega)), nI_s1]
      exact s_boilAll_no h hn hw hl fu (j + 1) x (by omega) (by omega)
theorem s_boilAll_11 (hn : n ≤ 6) : ∀ (fu j h0 fl : Nat) (S : StV) (R : Nat → Nat), AgS n (R 48) S R → (∀ i, j ≤ i → i < n → GE R i) → (fl = 1 ∨ (fl = 0 ∧ ∃ i, j ≤ i ∧ i < n ∧ R (42 + i) = 0)) → j ≤ n → n - j < fu → h0 ≤ 999 → ∃ S', f_X0_boilAll_11 fu (nI h0) (nI fl) (nI j) S = some S' ∧ AgS n 0 S' (upN (boL (n - j) j h0 R).2 57 ((boL (n - j) j h0 R).2 57 + (boL (n - j) j h0 R).1))
  | 0, j, h0, fl, S, R, _, _, _, hj, hf, _ => by omega
  | fu + 1, j, h0, fl, S, R, hA, hg, hfl, hj, hf, hh => by
    rw [f_X0_boilAll_11, hA.1]
    by_cases e : n = j
    · subst e
      have hfl1 : fl = 1 := by
        rcases hfl with h | ⟨-, i, h1, h2, -⟩
        · exact h
        · omega
      rw [if_pos (by rw [nI_leF (by omega) (by omega)]; omega), hfl1, if_neg (by decide), nm_e2, nm_e2, Nat.sub_self]
      obtain ⟨h1, h2, h3, h4, h5, h6⟩ := id hA
      have hB : AgS n 0 (su_cou S (upd (s_cou S) 0 (s_cou S 0 + s_set S 0))) R := by
        refine ⟨h1, h2, h3, ?_, fun q hq0 hq => ?_, h6⟩
        · show upd (s_cou S) 0 (s_cou S 0 + s_set S 0) 0 + nI 0 = _
          unfold upd
          rw [if_pos rfl, h3 0 (by omega), h4, nI_add]
          rfl
        · show upd (s_cou S) 0 (s_cou S 0 + s_set S 0) q = _
          unfold upd
          rw [if_neg (by omega)]
          exact h5 q hq0 hq
      have e3 : s_cou (su_cou S (upd (s_cou S) 0 (s_cou S 0 + s_set S 0))) 3 = nI (R 57) := hB.2.2.2.2.1 3 (by omega) (by omega)
      refine ⟨_, rfl, ?_⟩
      rw [e3, nI_add]
      exact hB.cou hn (j := 3) (by omega) (by omega) _
    · have hgj := hg j (Nat.le_refl _) (by omega)
      obtain ⟨⟨g1, g2⟩, g3, g4, g5, g6, g7, g8⟩ := id hgj
      have a8 := (hA.2.2.2.2.2 j (by omega)).2.2.2.2.2.2.2
      rw [if_neg (by rw [nI_leF (by omega) (by omega)]; omega), gb_in (by omega) (by omega), nI_cl (by omega), a8, L0]
      rw [show n - j = (n - (j + 1)) + 1 by omega, boL]
      by_cases w : R (42 + j) = 0
      · obtain ⟨S', b1, b2⟩ := s_boil hA hn (by omega) hgj hh
        have hv := vaN_le (R := R) (i := j) (h := h0)
        have e48 : bo1 R j h0 48 = R 48 := bo1_keep (by omega) (by omega) (by omega) (by omega) (by omega) (by omega)
        rw [if_pos (by rw [w]), if_pos w, b1, bd_some, nI_s1]
        exact s_boilAll_11 hn fu (j + 1) _ 1 S' _ (by rw [e48]; exact b2) (fun i h1 h2 => GE.bo1 (by omega) (by omega) (by omega) (hg i (by omega) h2)) (Or.inl rfl) (by omega) (by omega) (by omega)
      · rw [if_neg (by rw [nI_iff (by omega) (by omega)]; exact w), if_neg w, nI_s1]
        refine s_boilAll_11 hn fu (j + 1) h0 fl S R hA (fun i h1 h2 => hg i (by omega) h2) ?_ (by omega) (by omega) hh
        rcases hfl with h | ⟨h, i, h1, h2, h3⟩
        · exact Or.inl h
        · refine Or.inr ⟨h, i, ?_, h2, h3⟩
          rcases Nat.lt_or_ge j i with q | q
          · exact q
          · have : i = j := by omega
            subst this
            exact absurd h3 w
theorem s_boilAll (hA : AgS n 0 S R) (hg : GN n R) : ∃ S', f_X0_boilAll S = some S' ∧ AgS n 0 S' (boilN n R) := by
  obtain ⟨⟨n2, n6⟩, hge, hs, -⟩ := id hg
  have hl : ∀ i, i < n → R (42 + i) < 2147483648 := fun i hi => by have := (hge i hi).2.2.2.2.2.2; omega
  unfold f_X0_boilAll boilN
  rw [nm_e2, hA.2.2.1 0 (by omega)]
  by_cases e : wcN R n = n
  · rw [if_pos e]
    exact ⟨S, s_boilAll_no hA n6 (wcN_full n e) hl 2000 0 _ (by omega) (by omega), hA⟩
  · rw [if_neg e]
    obtain ⟨i, hi, w⟩ := wcN_part n e
    have hB : AgS n (R 48) S (upN R 54 (R 54 + R 48)) := by
      obtain ⟨h1, h2, h3, h4, h5, h6⟩ := hA
      refine ⟨h1, by rw [upN_o (by omega)]; exact h2, fun j hj => by rw [upN_o (by omega)]; exact h3 j hj, ?_, fun j h0 hj => by rw [upN_o (by omega)]; exact h5 j h0 hj, fun q hq => ?_⟩
      · rw [upN_s, ← nI_add, ← h4]
        have : s_cou S 0 + nI 0 = s_cou S 0 := by rw [nI_0]; exact Int32.add_zero _
        rw [this]
      · obtain ⟨a1, a2, a3, a4, a5, a6, a7, a8⟩ := h6 q hq
        exact ⟨by rw [upN_o (by omega)]; exact a1, by rw [upN_o (by omega)]; exact a2, by rw [upN_o (by omega)]; exact a3, by rw [upN_o (by omega)]; exact a4, by rw [upN_o (by omega)]; exact a5, by rw [upN_o (by omega)]; exact a6, by rw [upN_o (by omega)]; exact a7, by rw [upN_o (by omega)]; exact a8⟩
    have e48 : upN R 54 (R 54 + R 48) 48 = R 48 := upN_o (by omega)
    have h1 := s_boilAll_11 (n := n) n6 2000 0 (R 48) 0 S (upN R 54 (R 54 + R 48)) (by rw [e48]; exact hB) (fun i _ hi => ?_) (Or.inr ⟨rfl, i, by omega, hi, by rw [upN_o (by omega)]; exact w⟩) (by omega) (by omega) hs
    · exact h1
    · have := hge i hi
      unfold GE upN at *
      simp only [show ¬ i = 54 by omega, show ¬ 6 + i = 54 by omega, show ¬ 12 + i = 54 by omega, show ¬ 18 + i = 54 by omega, show ¬ 24 + i = 54 by omega, show ¬ 30 + i = 54 by omega, show ¬ 36 + i = 54 by omega, show ¬ 42 + i = 54 by omega, if_false]
      exact this
end SB
