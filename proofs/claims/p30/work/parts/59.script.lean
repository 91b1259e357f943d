/-! scripts of commands -/
theorem md_tri (M : MdV) (t : Nat → Int32) : mu_sal (mu_flo (mu_tri M t) (m_flo M)) (m_sal M) = mu_tri M t := by
  obtain ⟨a1, a2, a3, a4, a5, a6, a7, a8, a9, a10, a11, a12, a13, a14, a15⟩ := M
  rfl
/-- a command's outcome: whether it succeeds, and the trial behind it -/
def cR (M : MdV) (n : Nat) (P : Nat → Nat) (x : Option (String ⊕ (Int32 × StV))) (y : Option (Int32 × MdV)) : Prop :=
  ∃ b V' P' t f s, x = some (.inr (b, V')) ∧ y = some (b, mu_sal (mu_flo (mu_tri M t) f) s) ∧ (b = 0 ∨ b = 1) ∧ AgS n 0 V' P' ∧ RR t P' ∧ GN n P' ∧ P' 53 ≤ P 53 + 99
section SC
variable {M : MdV} {T : TrV} {V : StV} {n : Nat} {P : Nat → Nat}
theorem cR_id {b : Int32} (hb : b = 0 ∨ b = 1) (hA : AgS n 0 V P) (hr : RR (m_tri M) P) (hg : GN n P) : cR M n P (some (.inr (b, V))) (some (b, M)) :=
  ⟨b, V, P, m_tri M, m_flo M, m_sal M, rfl, by rw [md_self], hb, hA, hr, hg, by omega⟩
theorem cR_tri {V' : StV} {P' : Nat → Nat} {t : Nat → Int32} (hA : AgS n 0 V' P') (hr : RR t P') (hg : GN n P') (h : P' 53 ≤ P 53 + 99) : cR M n P (some (.inr (1, V'))) (some (1, mu_tri M t)) :=
  ⟨1, V', P', t, m_flo M, m_sal M, rfl, by rw [md_tri], Or.inr rfl, hA, hr, hg, h⟩
theorem isb_of {b : Int32} (h : b = 0 ∨ b = 1) : isb b = true := by rcases h with rfl | rfl <;> decide
theorem isE (hm : m_n M = nI n) (n2 : 2 ≤ n) (n6 : n ≤ 6) {i : Nat} (hi : i < 2147483648) : f_X2_isEffect M (nI i) = some (if i < n then 1 else 0) := by
  unfold f_X2_isEffect
  rw [hm, L1, pk_sub (show 1 ≤ n by omega), in_32 (lo := 0) (hi := nI (n - 1)) (by decide) rfl, if_neg (nI_pos (lt31 hi)), bd_some]
  by_cases h : i < n
  · rw [if_neg (by rw [nI_ltF (by omega) hi]; omega), if_pos h]
    rfl
  · rw [if_pos (by rw [nI_ltF (by omega) hi]; omega), if_neg h]
    rfl
theorem r_effc (hA : AgS n 0 V P) (hm : m_n M = nI n) (hr : RR (m_tri M) P) (hg : GN n P) {d i xyz mid xy g : Nat} (hd : 3 ≤ d ∧ d ≤ 6) (hi9 : i ≤ 9) (hx : xyz = 100 * mid + xy) (hxy : xy < 100) (hmid : mid < 10)
    (y : Option (Int32 × MdV)) (hy : y = (if d = 3 then (bd (f_X2_isEffect M (nI i)) fun v_20 => if v_20 = 0 then (some (0, M)) else (gb (inb (18 + nI i) 64) <| nm (mu_tri M (upd (m_tri M) (18 + nI i).toNatClampNeg (nI xyz))) fun q_24 => some (1, q_24))) else (if d = 4 then (bd (f_X2_isEffect M (nI i)) fun v_26 => if v_26 = 0 then (some (0, M)) else (if nI mid = 0 then (bd (f_X2_in ((nI xy).toInt64) 1 20) fun v_30 => if v_30 = 0 then (some (0, M)) else (bd (f_X2_works (m_tri M) (nI i)) fun v_33 => if v_33 = 0 then (some (0, M)) else (gb (inb (42 + nI i) 64) <| nm (mu_tri M (upd (m_tri M) (42 + nI i).toNatClampNeg (nI xy))) fun q_37 => some (1, q_37)))) else (some (0, M)))) else (if d = 5 then (bd (f_X2_isEffect M (nI i)) fun v_39 => if v_39 = 0 then (some (0, M)) else (if nI mid = 0 then (bd (f_X2_thickness (m_tri M) (nI i)) fun v_43 => if v_43 < nI xy then (some (0, M)) else (some (1, M))) else (some (0, M)))) else (bd (f_X2_isEffect M (nI i)) fun v_47 => if v_47 = 0 then (some (0, M)) else (if nI mid = 0 then (gb (inb (30 + nI i) 64) <| if nI xy < ((m_tri M) (30 + nI i).toNatClampNeg) then (some (0, M)) else (some (1, M))) else (some (0, M)))))))) :
    cR M n P (f_X1_runEffectCommand T V (nI d) (nI i) (nI xyz)) y := by
  obtain ⟨⟨n2, n6⟩, hge, -⟩ := id hg
  subst hy
  unfold f_X1_runEffectCommand
  rw [hA.1, isE hm n2 n6 (show i < 2147483648 by omega), bd_some, bd_some, bd_some, bd_some]
  by_cases hin : i < n
  · rw [if_pos ((nI_ltF (by omega) (by omega)).mpr hin)]
    simp only [if_pos hin, if_neg (show ¬ (1 : Int32) = 0 by decide)]
    have hE := hge i hin
    by_cases d3 : d = 3
    · rw [if_pos (by rw [d3]; rfl), if_pos d3, gb_in (by omega) (by omega), nI_cl (by omega), nm_e2, show (18 : Int32) = nI 18 from rfl, nI_add, gb_in (by omega) (by omega), nI_cl (by omega), nm_e2]
      exact cR_tri (hA.val n6 hin xyz) (hr.up (18 + i) xyz) (hg.valve hin (by omega)) (by rw [upN_o (by omega)]; omega)
    · rw [if_neg (by rw [show (3 : Int32) = nI 3 from rfl, nI_iff (by omega) (by omega)]; exact d3), if_neg d3]
      by_cases hm0 : mid = 0
      · have hxyz : xyz = xy := by omega
        subst hm0
        simp only [if_pos (show nI 0 = 0 from rfl)]
        rw [if_pos (by rw [L99, nI_leF (by omega) (by omega)]; omega), hxyz]
        by_cases d5 : d = 5
        · rw [if_pos (by rw [d5]; rfl), if_neg (show ¬ d = 4 by omega), if_pos d5, s_thickness hA n6 hin hE, bd_some, r_thickness hr (by omega) hE, bd_some]
          split
          · exact cR_id (Or.inl rfl) hA hr hg
          · exact cR_id (Or.inr rfl) hA hr hg
        · rw [if_neg (by rw [L5, nI_iff (by omega) (by omega)]; exact d5)]
          by_cases d6 : d = 6
          · rw [if_pos (by rw [d6]; rfl), if_neg (show ¬ d = 4 by omega), if_neg d5, gb_in (by omega) (by omega), nI_cl (by omega), (hA.2.2.2.2.2 i hin).2.2.2.2.2.1, L30, nI_add, gb_in (by omega) (by omega), nI_cl (by omega), hr _ (by omega)]
            split
            · exact cR_id (Or.inl rfl) hA hr hg
            · exact cR_id (Or.inr rfl) hA hr hg
          · have d4 : d = 4 := by omega
            have hl : P (42 + i) ≤ 20 := hE.2.2.2.2.2.2
            rw [if_neg (by rw [L6, nI_iff (by omega) (by omega)]; exact d6), if_pos d4]
            rcases rng (p := nI xy) (lo := 1) (hi := 20) (a := 1) (b := 20) (by decide) (by decide) with ⟨e1, e2⟩ | ⟨h0, h9, e1, e2⟩
            · rw [e2, bd_some, if_pos rfl]
              by_cases q1 : nI xy < 1
              · rw [if_pos q1]
                exact cR_id (Or.inl rfl) hA hr hg
              · rw [if_neg q1, if_pos]
                · exact cR_id (Or.inl rfl) hA hr hg
                · refine Int32.not_le.mp fun q2 => ?_
                  unfold f_X1_checkRange at e1
                  rw [if_neg q1, if_pos q2] at e1
                  cases e1
            · have hx20 : xy ≤ 20 := by
                have := (nI_leF (b := 20) (by omega) (by omega)).mp h9
                exact this
              rw [e2, bd_some, if_neg (Int32.not_lt.mpr h0), if_neg (Int32.not_lt.mpr h9), if_neg (show ¬ (1 : Int32) = 0 by decide), gb_in (by omega) (by omega), nI_cl (by omega), (hA.2.2.2.2.2 i hin).2.2.2.2.2.2.2, r_works hr (by omega) (by omega), bd_some]
              by_cases w : P (42 + i) = 0
              · rw [w]
                simp only [if_true]
                rw [if_pos (show nI 0 ≤ 0 by decide), gb_in (by omega) (by omega), nm_e2, if_neg (show ¬ nI 1 = 0 by decide), L42, nI_add, gb_in (by omega) (by omega), nI_cl (by omega), nm_e2]
                exact cR_tri (hA.lef n6 hin xy) (hr.up (42 + i) xy) (hg.left hin hx20) (by rw [upN_o (by omega)]; omega)
              · rw [if_neg (by rw [L0, nI_leF (by omega) (by omega)]; omega), if_neg w, if_pos (show nI 0 = 0 from rfl)]
                exact cR_id (Or.inl rfl) hA hr hg
      · have hne : ¬ nI mid = 0 := by rw [L0, nI_iff (by omega) (by omega)]; exact hm0
        simp only [if_neg hne]
        rw [if_neg (by rw [L99, nI_leF (by omega) (by omega)]; omega)]
        split
        · exact cR_id (Or.inl rfl) hA hr hg
        · split
          · exact cR_id (Or.inl rfl) hA hr hg
          · exact cR_id (Or.inl rfl) hA hr hg
  · rw [if_neg (by rw [nI_ltF (by omega) (by omega)]; exact hin)]
    simp only [if_neg hin, if_pos (show (0 : Int32) = 0 from rfl)]
    repeat (split; exact cR_id (Or.inl rfl) hA hr hg)
    first | exact cR_id (Or.inl rfl) hA hr hg | (rename_i hx; exact absurd trivial hx)
theorem r_cmd (hA : AgS n 0 V P) (hm : m_n M = nI n) (hr : RR (m_tri M) P) (hg : GN n P) (hc : P 53 + 99 < 2147483648) {g : Nat} (h5 : g < 100000) : cR M n P (f_X1_runCommand T V (nI g)) (f_X2_command M (nI g)) := by
  obtain ⟨⟨n2, n6⟩, hge, hst⟩ := id hg
  have hl : ∀ j, j < n → P (42 + j) < 2147483648 := fun j hj => by have := (hge j hj).2.2.2.2.2.2; omega
  unfold f_X1_runCommand f_X2_command
  rw [show (10000 : Int32) = nI 10000 from rfl, show (10 : Int32) = nI 10 from rfl, show (100 : Int32) = nI 100 from rfl, show (1000 : Int32) = nI 1000 from rfl]
  rw [nI_rm (d := 10000) (by omega) (by omega) (by omega), nI_rm (d := 100) (a := g) (by omega) (by omega) (by omega), nI_rm (d := 1000) (a := g) (by omega) (by omega) (by omega), nI_dv (d := 10000) (by omega) (by omega) (by omega), nI_dv (d := 1000) (a := g) (by omega) (by omega) (by omega), nI_dv (d := 100) (a := g) (by omega) (by omega) (by omega), nI_rm (d := 10) (a := g / 1000) (by omega) (by omega) (by omega), nI_rm (d := 10) (a := g / 100) (by omega) (by omega) (by omega)]
  simp only [nm_e2]
  rw [nI_rm (d := 1000) (a := g % 10000) (by omega) (by omega) (by omega), nI_dv (d := 1000) (a := g % 10000) (by omega) (by omega) (by omega)]
  obtain ⟨d, hd⟩ : ∃ d, d = g / 10000 := ⟨_, rfl⟩
  obtain ⟨op, hop⟩ : ∃ op, op = g % 10000 := ⟨_, rfl⟩
  have e1 : g / 1000 % 10 = op / 1000 := by omega
  have e2 : g % 1000 = op % 1000 := by omega
  have e3 : g / 100 % 10 = op / 100 % 10 := by omega
  have e4 : g % 100 = op % 100 := by omega
  have hop9 : op < 10000 := by omega
  have hd9 : d < 10 := by omega
  rw [← hd, ← hop, e1, e2, e3, e4]
  clear hd hop e1 e2 e3 e4 h5
  have ne : ∀ a b : Nat, a < 2147483648 → b < 2147483648 → a ≠ b → ¬ nI a = nI b := fun a b h1 h2 h3 h4 => h3 ((nI_iff h1 h2).mp h4)
  have c3 : (3 : Int32) = nI 3 := rfl
  have c4 : (4 : Int32) = nI 4 := rfl
  have c7 : (7 : Int32) = nI 7 := rfl
  have c8 : (8 : Int32) = nI 8 := rfl
  have c9 : (9 : Int32) = nI 9 := rfl
  rcases (show d = 1 ∨ d = 2 ∨ d = 3 ∨ d = 4 ∨ d = 5 ∨ d = 6 ∨ d = 7 ∨ d = 8 ∨ (d = 0 ∨ d = 9) by omega) with rfl | rfl | rfl | rfl | rfl | rfl | rfl | rfl | hdd
  · rw [if_pos (show nI 1 = 1 from rfl), if_pos (show nI 1 = 1 from rfl)]
    by_cases q1 : op < 1
    · rw [if_pos (by rw [L1, nI_ltF (by omega) (by omega)]; exact q1), show op = 0 by omega]
      exact cR_id (Or.inl rfl) hA hr hg
    · rw [if_neg (by rw [L1, nI_ltF (by omega) (by omega)]; exact q1)]
      by_cases q2 : op ≤ 99
      · rw [if_pos (by rw [L99, nI_leF (by omega) (by omega)]; exact q2), show op / 1000 = 0 by omega, show op / 100 % 10 = 0 by omega, show op % 100 = op by omega, if_pos (show nI 0 = 0 from rfl), if_pos (show nI 0 = 0 from rfl), if_neg (show ¬ nI op = 0 from ne op 0 (by omega) (by omega) (by omega))]
        obtain ⟨V1, k1, a1⟩ := s_pass (m := op) hA hg (by omega) (by omega)
        obtain ⟨t', f', s', k2, a2⟩ := r_ticksOn hm (m := op) (fl := m_flo M) (sa := m_sal M) hr hg (by omega) (by omega)
        rw [k1, bd_some, k2, bd_some]
        dsimp only
        exact ⟨1, V1, tkM n op P, t', f', s', rfl, rfl, Or.inr rfl, a1, a2, GN.ticks op P hg, by rw [tkM_53 op P hg]; omega⟩
      · rw [if_neg (by rw [L99, nI_leF (by omega) (by omega)]; exact q2)]
        by_cases q3 : op / 1000 = 0
        · rw [q3, if_pos (show nI 0 = 0 from rfl), if_neg (show ¬ nI (op / 100 % 10) = 0 from ne _ 0 (by omega) (by omega) (by omega))]
          exact cR_id (Or.inl rfl) hA hr hg
        · rw [if_neg (show ¬ nI (op / 1000) = 0 from ne _ 0 (by omega) (by omega) q3)]
          exact cR_id (Or.inl rfl) hA hr hg
  · rw [if_neg (show ¬ nI 2 = 1 by decide), if_neg (show ¬ nI 2 = 1 by decide), if_pos (show nI 2 = 2 from rfl), if_pos (show nI 2 = 2 from rfl), show tG 1 = nI 999 from rfl]
    by_cases q1 : op ≤ 999
    · rw [if_pos ((nI_leF (by omega) (by omega)).mpr q1), show op / 1000 = 0 by omega, if_pos (show nI 0 = 0 from rfl), show op % 1000 = op by omega]
      exact cR_tri (hA.set n6 (j := 0) (by omega) op) (hr.up 48 op) (hg.steam q1) (by rw [upN_o (by omega)]; omega)
    · rw [if_neg (fun h => q1 ((nI_leF (by omega) (by omega)).mp h)), if_neg (show ¬ nI (op / 1000) = 0 from ne _ 0 (by omega) (by omega) (by omega))]
      exact cR_id (Or.inl rfl) hA hr hg
  all_goals rw [if_neg (show ¬ nI _ = 1 by first | decide | (rcases hdd with rfl | rfl <;> decide)), if_neg (show ¬ nI _ = 1 by first | decide | (rcases hdd with rfl | rfl <;> decide)), if_neg (show ¬ nI _ = 2 by first | decide | (rcases hdd with rfl | rfl <;> decide)), if_neg (show ¬ nI _ = 2 by first | decide | (rcases hdd with rfl | rfl <;> decide))]
  · rw [if_pos (show nI 3 = 3 from rfl), if_pos (show nI 3 = 3 from rfl)]
    obtain ⟨b, V', P', t, f, s, z1, z2, z3, z4⟩ := r_effc (T := T) hA hm hr hg (d := 3) (i := op / 1000) (xyz := op % 1000) (mid := op / 100 % 10) (xy := op % 100) (g := 0) (by omega) (by omega) (by omega) (by omega) (by omega) _ rfl
    rw [z1, bn_r]
    dsimp only
    rw [gb_t (isb_of z3)]
    exact ⟨b, V', P', t, f, s, rfl, z2, z3, z4⟩
  · rw [if_neg (show ¬ nI 4 = 3 by decide), if_neg (show ¬ nI 4 = 3 by decide), if_pos (show nI 4 = 4 from rfl), if_pos (show nI 4 = 4 from rfl)]
    obtain ⟨b, V', P', t, f, s, z1, z2, z3, z4⟩ := r_effc (T := T) hA hm hr hg (d := 4) (i := op / 1000) (xyz := op % 1000) (mid := op / 100 % 10) (xy := op % 100) (g := 0) (by omega) (by omega) (by omega) (by omega) (by omega) _ rfl
    rw [z1, bn_r]
    dsimp only
    rw [gb_t (isb_of z3)]
    exact ⟨b, V', P', t, f, s, rfl, z2, z3, z4⟩
  · rw [if_neg (show ¬ nI 5 = 3 by decide), if_neg (show ¬ nI 5 = 3 by decide), if_neg (show ¬ nI 5 = 4 by decide), if_neg (show ¬ nI 5 = 4 by decide), if_pos (show nI 5 = 5 from rfl), if_pos (show nI 5 = 5 from rfl)]
    obtain ⟨b, V', P', t, f, s, z1, z2, z3, z4⟩ := r_effc (T := T) hA hm hr hg (d := 5) (i := op / 1000) (xyz := op % 1000) (mid := op / 100 % 10) (xy := op % 100) (g := 0) (by omega) (by omega) (by omega) (by omega) (by omega) _ rfl
    rw [z1, bn_r]
    dsimp only
    rw [gb_t (isb_of z3)]
    exact ⟨b, V', P', t, f, s, rfl, z2, z3, z4⟩
  · rw [if_neg (show ¬ nI 6 = 3 by decide), if_neg (show ¬ nI 6 = 3 by decide), if_neg (show ¬ nI 6 = 4 by decide), if_neg (show ¬ nI 6 = 4 by decide), if_neg (show ¬ nI 6 = 5 by decide), if_neg (show ¬ nI 6 = 5 by decide), if_pos (show nI 6 = 6 from rfl), if_pos (show nI 6 = 6 from rfl)]
    obtain ⟨b, V', P', t, f, s, z1, z2, z3, z4⟩ := r_effc (T := T) hA hm hr hg (d := 6) (i := op / 1000) (xyz := op % 1000) (mid := op / 100 % 10) (xy := op % 100) (g := 0) (by omega) (by omega) (by omega) (by omega) (by omega) _ rfl
    rw [z1, bn_r]
    dsimp only
    rw [gb_t (isb_of z3)]
    exact ⟨b, V', P', t, f, s, rfl, z2, z3, z4⟩
  · rw [if_neg (show ¬ nI 7 = 3 by decide), if_neg (show ¬ nI 7 = 3 by decide), if_neg (show ¬ nI 7 = 4 by decide), if_neg (show ¬ nI 7 = 4 by decide), if_neg (show ¬ nI 7 = 5 by decide), if_neg (show ¬ nI 7 = 5 by decide), if_neg (show ¬ nI 7 = 6 by decide), if_neg (show ¬ nI 7 = 6 by decide), if_pos (show nI 7 = 7 from rfl), if_pos (show nI 7 = 7 from rfl), c9]
    by_cases q1 : op ≤ 9
    · rw [if_neg (by rw [nI_ltF (by omega) (by omega)]; omega), show op / 1000 = 0 by omega, if_pos (show nI 0 = 0 from rfl), show op % 1000 = op by omega, if_neg (by rw [nI_leF (by omega) (by omega)]; omega), s_washed hA n6 hl, r_washed hm n6 hr hl, bd_some, bd_some]
      split
      · exact cR_id (Or.inr rfl) hA hr hg
      · exact cR_id (Or.inl rfl) hA hr hg
    · rw [if_pos ((nI_ltF (by omega) (by omega)).mpr (by omega))]
      by_cases q3 : op / 1000 = 0
      · rw [q3, if_pos (show nI 0 = 0 from rfl), if_pos ((nI_leF (by omega) (by omega)).mpr (by omega))]
        exact cR_id (Or.inl rfl) hA hr hg
      · rw [if_neg (show ¬ nI (op / 1000) = 0 from ne _ 0 (by omega) (by omega) q3)]
        exact cR_id (Or.inl rfl) hA hr hg
  · rw [if_neg (show ¬ nI 8 = 3 by decide), if_neg (show ¬ nI 8 = 3 by decide), if_neg (show ¬ nI 8 = 4 by decide), if_neg (show ¬ nI 8 = 4 by decide), if_neg (show ¬ nI 8 = 5 by decide), if_neg (show ¬ nI 8 = 5 by decide), if_neg (show ¬ nI 8 = 6 by decide), if_neg (show ¬ nI 8 = 6 by decide), if_neg (show ¬ nI 8 = 7 by decide), if_neg (show ¬ nI 8 = 7 by decide), if_pos (show nI 8 = 8 from rfl), if_pos (show nI 8 = 8 from rfl), show (999 : Int32) = nI 999 from rfl]
    by_cases q1 : op ≤ 999
    · rw [if_neg (by rw [nI_ltF (by omega) (by omega)]; omega), show op / 1000 = 0 by omega, if_pos (show nI 0 = 0 from rfl), show op % 1000 = op by omega, hA.c0 (show 0 < 10 by omega), hr 54 (by omega)]
      split
      · exact cR_id (Or.inl rfl) hA hr hg
      · exact cR_id (Or.inr rfl) hA hr hg
    · rw [if_pos ((nI_ltF (by omega) (by omega)).mpr (by omega)), if_neg (show ¬ nI (op / 1000) = 0 from ne _ 0 (by omega) (by omega) (by omega))]
      exact cR_id (Or.inl rfl) hA hr hg
  · rcases hdd with rfl | rfl
    · exact cR_id (Or.inl rfl) hA hr hg
    · exact cR_id (Or.inl rfl) hA hr hg
/-- the rest of a script without its last groups -/
theorem r_wlg {j : Nat} (hj : j ≤ 3) : ∀ (r i x : Nat) (fu : Nat), i + r = j → x < 9223372036854775808 → r < fu → f_X1_withoutLastGroups_5 (nI j) fu (lN x) (nI i) = some (.inr (lN (x / 100000 ^ r)))
  | r, i, x, 0, _, _, h => by omega
  | 0, i, x, fu + 1, hi, hx, _ => by
    rw [f_X1_withoutLastGroups_5, if_pos ((nI_leF (by omega) (by omega)).mpr (by omega)), Nat.pow_zero, Nat.div_one]
  | r + 1, i, x, fu + 1, hi, hx, hf => by
    rw [f_X1_withoutLastGroups_5, if_neg (by rw [nI_leF (by omega) (by omega)]; omega), nI_s1, show (100000 : Int64) = lN 100000 from rfl, pk_lDiv hx (by omega) (by omega), nm_e2, r_wlg hj r (i + 1) (x / 100000) fu (by omega) (by omega) (by omega), Nat.div_div_eq_div_mul, Nat.pow_succ, Nat.mul_comm]
theorem wlg {j x : Nat} (hj : j ≤ 3) (hx : x < 9223372036854775808) : f_X1_withoutLastGroups (lN x) (nI j) = some (.inr (lN (x / 100000 ^ j))) := r_wlg hj j 0 x 2000 (by omega) hx (by omega)
theorem tenT {j : Nat} (hj : j ≤ 3) : f_X2_tenTo (5 * nI j) = some (lN (100000 ^ j)) := by
  rcases (show j = 0 ∨ j = 1 ∨ j = 2 ∨ j = 3 by omega) with rfl | rfl | rfl | rfl <;> decide +kernel
theorem md_c1 (M : MdV) (t f s t' f' s' : Nat → Int32) : mu_sal (mu_flo (mu_tri (mu_sal (mu_flo (mu_tri M t) f) s) t') f') s' = mu_sal (mu_flo (mu_tri M t') f') s' := by
  rw [md_t3, md_ff, md_ss]
theorem sc_run {k x : Nat} (hk : 1 ≤ k ∧ k ≤ 3) (hx : x < 9223372036854775808) (hm : m_n M = nI n) : ∀ (r i fu : Nat) (V : StV) (P : Nat → Nat) (t f s : Nat → Int32), i + r = k → r < fu → AgS n 0 V P → RR t P → GN n P → P 53 + 99 * r < 2147483648 →
    ∃ v V' t' f' s', f_X1_runScript_46 T (nI k) (lN x) fu (nI i) V = some (.inr (v, V')) ∧ f_X2_runScript_60 (nI k) (lN x) fu (nI i) (mu_sal (mu_flo (mu_tri M t) f) s) = some (v, mu_sal (mu_flo (mu_tri M t') f') s')
  | r, i, 0, V, P, t, f, s, _, h, _, _, _, _ => by omega
  | 0, i, fu + 1, V, P, t, f, s, hi, _, _, _, _, _ => by
    rw [f_X1_runScript_46, f_X2_runScript_60, if_pos ((nI_leF (by omega) (by omega)).mpr (by omega)), if_pos ((nI_leF (by omega) (by omega)).mpr (by omega))]
    exact ⟨-9, V, t, f, s, rfl, rfl⟩
  | r + 1, i, fu + 1, V, P, t, f, s, hi, hf, hA, hr, hg, hc => by
    have e1 : nI k - 1 - nI i = nI (k - 1 - i) := by rw [L1, pk_sub (by omega), pk_sub (by omega)]
    have hp : 0 < 100000 ^ (k - 1 - i) := Nat.pow_pos (by omega)
    have hp9 : 100000 ^ (k - 1 - i) < 9223372036854775808 := by
      rcases (show k - 1 - i = 0 ∨ k - 1 - i = 1 ∨ k - 1 - i = 2 by omega) with z | z | z <;> rw [z] <;> decide
    have hd : x / 100000 ^ (k - 1 - i) < 9223372036854775808 := Nat.lt_of_le_of_lt (Nat.div_le_self _ _) hx
    have e2 : ∀ y : Nat, y < 9223372036854775808 → (lN y - lN y / 100000 * 100000).toInt32 = nI (y % 100000) := fun y hy => by
      rw [show (100000 : Int64) = lN 100000 from rfl, pk_lRem hy (by omega) (by omega), lN_i]
    have hmt : m_n (mu_sal (mu_flo (mu_tri M t) f) s) = nI n := by rw [md_gn]; exact hm
    have hrt : RR (m_tri (mu_sal (mu_flo (mu_tri M t) f) s)) P := by rw [md_gt]; exact hr
    obtain ⟨b, V', P', t', f', s', z1, z2, z3, z4, z5, z6, z7⟩ := r_cmd (T := T) hA hmt hrt hg (by omega) (g := x / 100000 ^ (k - 1 - i) % 100000) (Nat.mod_lt _ (by omega))
    rw [f_X1_runScript_46, f_X2_runScript_60, if_neg (by rw [nI_leF (by omega) (by omega)]; omega), if_neg (by rw [nI_leF (by omega) (by omega)]; omega), e1, wlg (by omega) hx, bn_r, e2 _ hd, nm_e2, z1, bn_r, tenT (by omega), bd_some]
    have hz : nzl (lN (100000 ^ (k - 1 - i))) = true := nzl_t fun q => by
      have := (pk_lEQ (b := 0) hp9 (by omega)).mp q
      omega
    rw [gb_t hz, pk_lDiv hx hp hp9, e2 _ hd, z2, bd_some]
    dsimp only
    rw [md_c1]
    by_cases hb : b = 0
    · rw [if_pos hb, if_pos hb]
      exact ⟨nI i, V', t', f', s', rfl, rfl⟩
    · rw [if_neg hb, if_neg hb, nI_s1]
      exact sc_run hk hx hm r (i + 1) fu V' P' t' f' s' (by omega) (by omega) z4 z5 z6 (by omega)
theorem q_runScript {N : StV} {R : Nat → Nat} (h : RelN M N n R) {p : Int32} {u : Int64} : qT M [(xR, 1)] (f_X1_runScript T N V p u) (f_X2_runScript M p u) := by
  obtain ⟨hm, hr, hA, hg, hc⟩ := h
  obtain ⟨⟨n2, n6⟩, hge, -⟩ := id hg
  have ref : f_X2_runScript_34 M p u 1 = some (0, mu_ref M 1) := by
    unfold f_X2_runScript_34
    rw [refused_1 (by decide), bd_some]
    rfl
  unfold f_X1_runScript f_X2_runScript f_X2_runScript_33
  rcases rng (p := p) (lo := 1) (hi := 3) (a := 1) (b := 3) (by decide) (by decide) with ⟨e1, e2⟩ | ⟨h0, h9, e1, e2⟩
  · refine Or.inr ⟨xR, 1, by decide, by rw [e1, bx_e], ?_⟩
    rw [e2, bd_some, if_pos rfl, ref]
  · obtain ⟨k, hk3, rfl⟩ := nI_of2 (n := 3) (by decide) (Int32.not_lt.mpr (Int32.le_trans (by decide) h0)) h9
    have hk1 : 1 ≤ k := (nI_leF (a := 1) (by omega) (by omega)).mp h0
    rw [e1, e2, bx_r, bd_some, if_neg (show ¬ (1 : Int32) = 0 by decide), tenT hk3, bd_some]
    have hp9 : 100000 ^ k < 9223372036854775808 := by
      rcases (show k = 1 ∨ k = 2 ∨ k = 3 by omega) with z | z | z <;> rw [z] <;> decide
    have hp : 0 < 100000 ^ k := Nat.pow_pos (by omega)
    unfold f_X2_in
    by_cases hu : u < 0
    · refine Or.inr ⟨xR, 1, by decide, by rw [if_pos ((lg_cmp_lt _ _).mpr hu)], ?_⟩
      rw [if_pos ((lg_cmp_lt _ _).mpr hu), bd_some, if_pos rfl, ref]
    · obtain ⟨x, hx, rfl⟩ := pk_lOf hu
      have hx9 : x < 9223372036854775808 := hx
      rw [if_neg (fun q => hu ((lg_cmp_lt _ _).mp q)), if_neg (fun q => hu ((lg_cmp_lt _ _).mp q)), wlg hk3 hx9, bn_r, show (1 : Int64) = lN 1 from rfl, lN_sub (by omega)]
      have hd : x / 100000 ^ k < 9223372036854775808 := Nat.lt_of_le_of_lt (Nat.div_le_self _ _) hx9
      by_cases y : x < 100000 ^ k
      · rw [Nat.div_eq_of_lt y, if_pos (by decide), if_neg (fun q => by
          have := (pk_lLT (by omega) hx).mp ((lg_cmp_gt _ _).mp q)
          omega), bd_some, if_neg (show ¬ (1 : Int32) = 0 by decide)]
        unfold f_X2_runScript_34
        rw [refused_0, bd_some]
        dsimp only
        obtain ⟨V1, c1, a1⟩ := s_copy (S := V) hA n6
        have hr' : RR (m_now (mu_ref M 0)) R := hr
        obtain ⟨t1, d1, b1⟩ := r_copy (t := m_tri (mu_ref M 0)) hr'
        have hm' : m_n (mu_ref M 0) = nI n := hm
        obtain ⟨v, V', t', f', s', g1, g2⟩ := sc_run (T := T) ⟨hk1, hk3⟩ hx9 hm' k 0 2000 V1 R t1 (m_flo (mu_ref M 0)) (m_sal (mu_ref M 0)) (by omega) (by omega) a1 b1 hg (by omega)
        rw [md_tri] at g2
        refine Or.inl ⟨v, V', t', f', s', ?_, ?_⟩
        · rw [c1, bd_some]
          exact g1
        · rw [if_pos rfl, d1, bd_some, nm_e2]
          exact g2
      · have hq : ¬ lg_cmp (lN (x / 100000 ^ k)) 0 ≤ 0 := by
          have h1 : 1 ≤ x / 100000 ^ k := (Nat.le_div_iff_mul_le hp).mpr (by omega)
          intro q
          have h2 : ¬ 0 < lg_cmp (lN (x / 100000 ^ k)) 0 := Int32.not_lt.mpr q
          exact h2 ((lg_cmp_gt _ _).mpr ((pk_lLT (a := 0) (by omega) hd).mpr (by omega)))
        refine Or.inr ⟨xR, 1, by decide, by rw [if_neg hq], ?_⟩
        rw [if_pos ((lg_cmp_gt _ _).mpr ((pk_lLT (by omega) hx).mpr (by omega))), bd_some, if_pos rfl, ref]
end SC
