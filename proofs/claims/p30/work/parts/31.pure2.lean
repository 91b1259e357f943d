/-! a tick's parts, in numbers -/
theorem r_less {a b : Nat} (ha : a < 2147483648) (hb : b < 2147483648) : f_X2_less (nI a) (nI b) = some (nI (min a b)) := by
  unfold f_X2_less
  by_cases e : b ≤ a
  · rw [if_pos (by rw [nI_leF hb ha]; exact e), Nat.min_eq_right e]
  · rw [if_neg (by rw [nI_leF hb ha]; exact e), Nat.min_eq_left (by omega)]
theorem mn_N {a b : Nat} (ha : a < 2147483648) (hb : b < 2147483648) : mn (nI a) (nI b) = nI (min a b) := by
  unfold mn
  by_cases e : b < a
  · rw [if_pos (by rw [nI_ltF hb ha]; exact e), Nat.min_eq_right (by omega)]
  · rw [if_neg (by rw [nI_ltF hb ha]; exact e), Nat.min_eq_left (by omega)]
theorem thN_le {R : Nat → Nat} {i : Nat} : thN R i ≤ 100 := by
  unfold thN amN
  rcases Nat.eq_zero_or_pos (R (6 + i) + R (12 + i)) with e | e
  · rw [e, Nat.div_zero]; omega
  · rw [Nat.div_le_iff_le_mul_add_pred e]
    have : R (12 + i) ≤ R (6 + i) + R (12 + i) := by omega
    have := Nat.mul_le_mul_left 100 this
    rw [Nat.mul_comm]
    omega
theorem pwN_le {R : Nat → Nat} {i : Nat} (h : R i ≤ 9) : pwN R i ≤ 90 := by
  unfold pwN
  rw [Nat.div_le_iff_le_mul_add_pred (by omega)]
  have : 100 * R i ≤ 900 := by omega
  have h2 : 90 * 10 ≤ 90 * (10 + R (30 + i)) := Nat.mul_le_mul_left 90 (by omega)
  rw [Nat.mul_comm]
  omega
/-- the vapor of an effect -/
def vaN (R : Nat → Nat) (i h : Nat) : Nat := min (min h (pwN R i) - min h (pwN R i) * thN R i / 200) (R (6 + i))
def blN (R : Nat → Nat) (i h : Nat) : Nat := vaN R i h * R (24 + i) / 100
def grN (R : Nat → Nat) (i h : Nat) : Nat := R (36 + i) + vaN R i h * thN R i / 10
def bo1 (R : Nat → Nat) (i h : Nat) : Nat → Nat :=
  upN (upN (upN (upN (upN (upN R (6 + i) (R (6 + i) - vaN R i h)) 55 (R 55 + vaN R i h)) 56 (R 56 + blN R i h)) 58 (R 58 + (h - vaN R i h))) (36 + i) (grN R i h % 1000)) (30 + i) (min 99 (R (30 + i) + grN R i h / 1000))
/-- effects boil, d of them, from i on, with the heat h -/
def boL : Nat → Nat → Nat → (Nat → Nat) → Nat × (Nat → Nat)
  | 0, _, h, R => (h, R)
  | d + 1, i, h, R => if R (42 + i) = 0 then boL d (i + 1) (vaN R i h - blN R i h) (bo1 R i h) else boL d (i + 1) h R
def boilN (n : Nat) (R : Nat → Nat) : Nat → Nat := if wcN R n = n then R else upN (boL n 0 (R 48) (upN R 54 (R 54 + R 48))).2 57 ((boL n 0 (R 48) (upN R 54 (R 54 + R 48))).2 57 + (boL n 0 (R 48) (upN R 54 (R 54 + R 48))).1)
theorem vaN_le {R : Nat → Nat} {i h : Nat} : vaN R i h ≤ h ∧ vaN R i h ≤ pwN R i ∧ vaN R i h ≤ R (6 + i) := by
  unfold vaN
  refine ⟨?_, ?_, Nat.min_le_right _ _⟩
  · exact Nat.le_trans (Nat.min_le_left _ _) (Nat.le_trans (Nat.sub_le _ _) (Nat.min_le_left _ _))
  · exact Nat.le_trans (Nat.min_le_left _ _) (Nat.le_trans (Nat.sub_le _ _) (Nat.min_le_right _ _))
theorem blN_le {R : Nat → Nat} {i h : Nat} (hb : R (24 + i) ≤ 90) : blN R i h ≤ vaN R i h := by
  unfold blN
  rw [Nat.div_le_iff_le_mul_add_pred (by omega)]
  have := Nat.mul_le_mul_left (vaN R i h) (show R (24 + i) ≤ 100 by omega)
  rw [Nat.mul_comm 100]
  omega
theorem vth_le {v : Nat} {R : Nat → Nat} {i : Nat} : v * thN R i / 200 ≤ v := by
  rw [Nat.div_le_iff_le_mul_add_pred (by omega)]
  have := Nat.mul_le_mul_left v (thN_le (R := R) (i := i))
  rw [Nat.mul_comm 200]
  omega
theorem vth_lt {v : Nat} {R : Nat → Nat} {i : Nat} (h : v ≤ 90) : v * thN R i ≤ 9000 := Nat.le_trans (Nat.mul_le_mul h (thN_le (R := R) (i := i))) (by omega)
theorem GE.bo1 {R : Nat → Nat} {i j h : Nat} (hj : j < 6) (hi : i < 6) (hij : i ≠ j) (hg : GE R i) : GE (bo1 R j h) i := by
  unfold GE at hg ⊢
  unfold _root_.Jvm.Pilot.@@N@@.bo1 upN
  simp only [show ¬ i = 30 + j by omega, show ¬ i = 36 + j by omega, show ¬ i = 58 by omega, show ¬ i = 56 by omega, show ¬ i = 55 by omega, show ¬ i = 6 + j by omega,
    show ¬ 6 + i = 30 + j by omega, show ¬ 6 + i = 36 + j by omega, show ¬ 6 + i = 58 by omega, show ¬ 6 + i = 56 by omega, show ¬ 6 + i = 55 by omega, show ¬ 6 + i = 6 + j by omega,
    show ¬ 12 + i = 30 + j by omega, show ¬ 12 + i = 36 + j by omega, show ¬ 12 + i = 58 by omega, show ¬ 12 + i = 56 by omega, show ¬ 12 + i = 55 by omega, show ¬ 12 + i = 6 + j by omega,
    show ¬ 18 + i = 30 + j by omega, show ¬ 18 + i = 36 + j by omega, show ¬ 18 + i = 58 by omega, show ¬ 18 + i = 56 by omega, show ¬ 18 + i = 55 by omega, show ¬ 18 + i = 6 + j by omega,
    show ¬ 24 + i = 30 + j by omega, show ¬ 24 + i = 36 + j by omega, show ¬ 24 + i = 58 by omega, show ¬ 24 + i = 56 by omega, show ¬ 24 + i = 55 by omega, show ¬ 24 + i = 6 + j by omega,
    show ¬ 30 + i = 30 + j by omega, show ¬ 30 + i = 36 + j by omega, show ¬ 30 + i = 58 by omega, show ¬ 30 + i = 56 by omega, show ¬ 30 + i = 55 by omega, show ¬ 30 + i = 6 + j by omega,
    show ¬ 36 + i = 30 + j by omega, show ¬ 36 + i = 36 + j by omega, show ¬ 36 + i = 58 by omega, show ¬ 36 + i = 56 by omega, show ¬ 36 + i = 55 by omega, show ¬ 36 + i = 6 + j by omega,
    show ¬ 42 + i = 30 + j by omega, show ¬ 42 + i = 36 + j by omega, show ¬ 42 + i = 58 by omega, show ¬ 42 + i = 56 by omega, show ¬ 42 + i = 55 by omega, show ¬ 42 + i = 6 + j by omega, if_false]
  exact hg
section RB
variable {M : MdV} {r : Nat → Int32} {R : Nat → Nat} {n i : Nat}
/-- the growth goes into the scale -/
theorem r_boil_156 {k : Int32 → Int32 → (Nat → Int32) → Option (Nat → Int32)} {x5 x6 : Int32} (hi : i < 6) : ∀ (fu : Nat) (r : Nat → Int32) (R : Nat → Nat), RR r R → R (36 + i) < 1000 * fu → R (36 + i) < 1000000 → R (30 + i) ≤ 99 → ∃ r', RR r' (upN (upN R (36 + i) (R (36 + i) % 1000)) (30 + i) (min 99 (R (30 + i) + R (36 + i) / 1000))) ∧ f_X2_boil_156 k fu (nI i) x5 x6 r = k (x5 - x6) (nI (i + 1)) r'
  | 0, r, R, h, h1, _, _ => by omega
  | fu + 1, r, R, h, h1, h2, h3 => by
    rw [f_X2_boil_156, L36, nI_add, gb_in (by omega) (by omega), nI_cl (by omega), h _ (by omega), L1000]
    by_cases e : R (36 + i) < 1000
    · refine ⟨r, h.cg fun q hq => ?_, ?_⟩
      · unfold upN
        by_cases e1 : q = 30 + i
        · rw [if_pos e1, e1]; omega
        · rw [if_neg e1]
          by_cases e2 : q = 36 + i
          · rw [if_pos e2, e2]; omega
          · rw [if_neg e2]
      · rw [if_pos (by rw [nI_ltF (by omega) (by omega)]; exact e), nm_e2, nI_s1]
    · have hs : nI (R (36 + i)) - nI 1000 = nI (R (36 + i) - 1000) := pk_sub (by omega)
      rw [if_neg (by rw [nI_ltF (by omega) (by omega)]; exact e), gb_in (by omega) (by omega), gb_in (by omega) (by omega), nm_e2, hs, L30, nI_add, gb_in (by omega) (by omega), nI_cl (by omega)]
      have h4 := h.up (36 + i) (R (36 + i) - 1000)
      have h5 : upd r (36 + i) (nI (R (36 + i) - 1000)) (30 + i) = nI (R (30 + i)) := by rw [h4 _ (by omega), upN_o (by omega)]
      rw [h5, L99]
      by_cases e3 : 99 ≤ R (30 + i)
      · rw [if_pos (by rw [nI_leF (by omega) (by omega)]; exact e3), gb_in (by omega) (by omega), nm_e2]
        obtain ⟨r', a, b⟩ := r_boil_156 (k := k) (x5 := x5) (x6 := x6) hi fu _ _ (h4.up (30 + i) 99) (by rw [upN_o (by omega), upN_s]; omega) (by rw [upN_o (by omega), upN_s]; omega) (by rw [upN_s]; omega)
        refine ⟨r', a.cg fun q hq => ?_, b⟩
        unfold upN
        by_cases e1 : q = 30 + i
        · simp only [e1, if_true, show ¬ 36 + i = 30 + i by omega, if_false]; omega
        · by_cases e2 : q = 36 + i
          · simp only [e2, if_true, show ¬ 36 + i = 30 + i by omega, if_false]; omega
          · simp only [e1, e2, if_false]
      · rw [if_neg (by rw [nI_leF (by omega) (by omega)]; exact e3), gb_in (by omega) (by omega), gb_in (by omega) (by omega), nm_e2, nI_s1]
        obtain ⟨r', a, b⟩ := r_boil_156 (k := k) (x5 := x5) (x6 := x6) hi fu _ _ (h4.up (30 + i) (R (30 + i) + 1)) (by rw [upN_o (by omega), upN_s]; omega) (by rw [upN_o (by omega), upN_s]; omega) (by rw [upN_s]; omega)
        refine ⟨r', a.cg fun q hq => ?_, b⟩
        unfold upN
        by_cases e1 : q = 30 + i
        · simp only [e1, if_true, show ¬ 36 + i = 30 + i by omega, if_false]; omega
        · by_cases e2 : q = 36 + i
          · simp only [e2, if_true, show ¬ 36 + i = 30 + i by omega, if_false]; omega
          · simp only [e1, e2, if_false]
end RB
section RB2
variable {M : MdV} {n : Nat}
theorem r_boil_28 (hn : m_n M = nI n) (hn6 : n ≤ 6) : ∀ (fu j h : Nat) (r : Nat → Int32) (R : Nat → Nat), RR r R → (∀ i, j ≤ i → i < n → GE R i) → j ≤ n → n - j < fu → h ≤ 999 → ∃ r', f_X2_boil_28 M fu (nI h) (nI j) r = some r' ∧ RR r' (upN (boL (n - j) j h R).2 57 ((boL (n - j) j h R).2 57 + (boL (n - j) j h R).1))
  | 0, j, h, r, R, _, _, hj, hf, _ => by omega
  | fu + 1, j, h, r, R, hr, hg, hj, hf, hh => by
    rw [f_X2_boil_28, hn]
    by_cases e : n = j
    · subst e
      rw [if_pos (by rw [nI_leF (by omega) (by omega)]; omega), nm_e2, hr _ (by omega), nI_add, Nat.sub_self]
      exact ⟨_, rfl, hr.up 57 _⟩
    · have hgj := hg j (Nat.le_refl _) (by omega)
      obtain ⟨⟨g1, g2⟩, g3, g4, g5, g6, g7, g8⟩ := id hgj
      have hv := vaN_le (R := R) (i := j) (h := h)
      have hpw := pwN_le (R := R) (i := j) g2
      have hth := thN_le (R := R) (i := j)
      have hbl := blN_le (R := R) (i := j) (h := h) g5
      rw [if_neg (by rw [nI_leF (by omega) (by omega)]; omega), r_works hr (by omega) (by omega), bd_some, L0]
      rw [show n - j = (n - (j + 1)) + 1 by omega, boL]
      by_cases w : R (42 + j) = 0
      · rw [if_pos w, if_neg (by decide), if_pos w, r_thickness hr (by omega) hgj, bd_some, r_power hr (by omega) hgj, bd_some, r_less (by omega) (by omega), bd_some, L6, nI_add, gb_in (by omega) (by omega), nI_cl (by omega), hr _ (by omega)]
        have hm : min h (pwN R j) ≤ 90 := Nat.le_trans (Nat.min_le_right _ _) hpw
        have h1 := vth_le (v := min h (pwN R j)) (R := R) (i := j)
        have h2 := vth_lt (v := min h (pwN R j)) (R := R) (i := j) hm
        rw [pk_mul, L200, nI_dv (by omega) (by omega) (by omega), pk_sub h1, r_less (by omega) (by omega), bd_some]
        rw [show min (min h (pwN R j) - min h (pwN R j) * thN R j / 200) (R (6 + j)) = vaN R j h from rfl]
        have h3 : vaN R j h * R (24 + j) ≤ 8100 := Nat.le_trans (Nat.mul_le_mul (show vaN R j h ≤ 90 by omega) g5) (by omega)
        have h4 : vaN R j h * thN R j ≤ 9000 := vth_lt (by omega)
        rw [L24, nI_add, gb_in (by omega) (by omega), nI_cl (by omega), hr _ (by omega), pk_mul, L100, nI_dv (by omega) (by omega) (by omega), nm_e2]
        rw [gb_in (by omega) (by omega), gb_in (by omega) (by omega), pk_sub hv.2.2, nm_e2]
        have s1 := hr.up (6 + j) (R (6 + j) - vaN R j h)
        rw [show upd r (6 + j) (nI (R (6 + j) - vaN R j h)) 55 = nI (R 55) by rw [s1 _ (by omega), upN_o (by omega)], nI_add, nm_e2]
        have s2 := s1.up 55 (R 55 + vaN R j h)
        rw [show upd (upd r (6 + j) (nI (R (6 + j) - vaN R j h))) 55 (nI (R 55 + vaN R j h)) 56 = nI (R 56) by rw [s2 _ (by omega), upN_o (by omega), upN_o (by omega)]]
        rw [show vaN R j h * R (24 + j) / 100 = blN R j h from rfl, nI_add, nm_e2]
        have s3 := s2.up 56 (R 56 + blN R j h)
        rw [show upd (upd (upd r (6 + j) (nI (R (6 + j) - vaN R j h))) 55 (nI (R 55 + vaN R j h))) 56 (nI (R 56 + blN R j h)) 58 = nI (R 58) by rw [s3 _ (by omega), upN_o (by omega), upN_o (by omega), upN_o (by omega)], pk_sub hv.1, nI_add, nm_e2]
        have s4 := s3.up 58 (R 58 + (h - vaN R j h))
        generalize hr4 : upd (upd (upd (upd r (6 + j) (nI (R (6 + j) - vaN R j h))) 55 (nI (R 55 + vaN R j h))) 56 (nI (R 56 + blN R j h))) 58 (nI (R 58 + (h - vaN R j h))) = r4 at s4 ⊢
        have e36 : r4 (36 + j) = nI (R (36 + j)) := by rw [s4 _ (by omega), upN_o (by omega), upN_o (by omega), upN_o (by omega), upN_o (by omega)]
        rw [L36, nI_add, gb_in (by omega) (by omega), gb_in (by omega) (by omega), nI_cl (by omega), e36, pk_mul, L10, nI_dv (by omega) (by omega) (by omega), nI_add, nm_e2]
        have s5 := s4.up (36 + j) (R (36 + j) + vaN R j h * thN R j / 10)
        have h5 : vaN R j h * thN R j / 10 ≤ 900 := by omega
        obtain ⟨r', a, b⟩ := r_boil_156 (k := f_X2_boil_28 M fu) (x5 := nI (vaN R j h)) (x6 := nI (blN R j h)) (i := j) (by omega) 2000 _ _ s5 (by rw [upN_s]; omega) (by rw [upN_s]; omega) (by rw [upN_o (by omega), upN_o (by omega), upN_o (by omega), upN_o (by omega), upN_o (by omega)]; exact g6)
        refine b ▸ ?_
        rw [pk_sub hbl]
        have a2 : RR r' (bo1 R j h) := a.cg fun q hq => by
          unfold bo1 grN upN
          by_cases e1 : q = 30 + j
          · simp only [e1, if_true, show ¬ 30 + j = 36 + j by omega, show ¬ 36 + j = 30 + j by omega, show ¬ 30 + j = 58 by omega, show ¬ 30 + j = 56 by omega, show ¬ 30 + j = 55 by omega, show ¬ 30 + j = 6 + j by omega, if_false]
          · by_cases e2 : q = 36 + j
            · simp only [e2, if_true, show ¬ 36 + j = 30 + j by omega, if_false]
            · simp only [e1, e2, if_false]
        exact r_boil_28 hn hn6 fu (j + 1) _ r' _ a2 (fun i h1 h2 => GE.bo1 (by omega) (by omega) (by omega) (hg i (by omega) h2)) (by omega) (by omega) (by omega)
      · rw [if_neg w, if_pos rfl, if_neg w, nI_s1]
        exact r_boil_28 hn hn6 fu (j + 1) h r R hr (fun i h1 h2 => hg i (by omega) h2) (by omega) (by omega) hh
theorem r_boil (hn : m_n M = nI n) {r : Nat → Int32} {R : Nat → Nat} (hr : RR r R) (hg : GN n R) : ∃ r', f_X2_boil M r = some r' ∧ RR r' (boilN n R) := by
  obtain ⟨⟨n2, n6⟩, hge, hs, -⟩ := id hg
  unfold f_X2_boil boilN
  rw [r_washed hn n6 hr (fun i hi => by have := (hge i hi).2.2.2.2.2.2; omega), bd_some, hn]
  by_cases e : wcN R n = n
  · rw [if_pos (by rw [e]), if_pos e]
    exact ⟨r, rfl, hr⟩
  · rw [if_neg (by rw [nI_iff (by have := wcN_le R n; omega) (by omega)]; exact e), if_neg e, nm_e2, hr _ (by omega), hr _ (by omega), nI_add, nm_e2, L0]
    have h1 := r_boil_28 hn n6 2000 0 (R 48) _ _ (hr.up 54 (R 54 + R 48)) (fun i _ hi => ?_) (by omega) (by omega) hs
    · exact h1
    · have := hge i hi
      unfold GE upN at *
      simp only [show ¬ i = 54 by omega, show ¬ 6 + i = 54 by omega, show ¬ 12 + i = 54 by omega, show ¬ 18 + i = 54 by omega, show ¬ 24 + i = 54 by omega, show ¬ 30 + i = 54 by omega, show ¬ 36 + i = 54 by omega, show ¬ 42 + i = 54 by omega, if_false]
      exact this
end RB2
