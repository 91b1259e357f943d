/-! actions -/
def aO (c : Nat) (M : MdV) (cs : List (String × Int32)) (x : Option (String ⊕ (Int32 × TrV × StV × PoV))) (y : Option (Int32 × MdV)) : Prop :=
  (∃ v T' N' Q' M', x = some (.inr (v, T', N', Q')) ∧ y = some (v, M') ∧ m_ref M' = 0 ∧ INV (c + 1) T' N' Q' M') ∨ ∃ E cd, (E, cd) ∈ cs ∧ x = some (.inl E) ∧ y = some (0, mu_ref M cd)
theorem tkN_54 {n : Nat} {R : Nat → Nat} (hg : GN n R) : tkN n R 54 ≤ R 54 + 999 ∧ R 54 ≤ tkN n R 54 := by
  obtain ⟨⟨n2, n6⟩, hge, hs⟩ := id hg.turn
  have ht : tuN n R < n := mxN_lt (n - 1) 1 0 (by omega) (by omega)
  have e1 : trnN n R 54 = R 54 := by
    unfold trnN
    split
    · rfl
    · split
      · split
        · split
          · rfl
          · exact upN_o (by omega)
        · rfl
      · rfl
  unfold tkN taN
  rw [upN_o (by omega), wsN_o n6 (by omega), flN_o (by omega) (by omega) (by omega), ← e1]
  generalize trnN n R = P at *
  unfold boilN
  split
  · omega
  · rw [upN_o (by omega), boL_keep (Or.inl ⟨by omega, by omega⟩) n 0 (P 48) _ (by omega), upN_s]
    have := hs.1
    omega
theorem tkM_54 {n : Nat} : ∀ (m : Nat) (R : Nat → Nat), GN n R → tkM n m R 54 ≤ R 54 + 999 * m
  | 0, R, _ => Nat.le_refl _
  | m + 1, R, hg => by
    rw [tkM]
    have h1 := (tkN_54 hg).1
    have h2 := tkM_54 m _ hg.tick
    omega
theorem okR.ticks {c n m : Nat} {R : Nat → Nat} (h : okR c n R) (hm : m ≤ 99) : okR (c + 1) n (tkM n m R) := by
  obtain ⟨h1, h2, h3⟩ := h
  have e := tkM_53 m R h1
  have e2 := tkM_54 m R h1
  exact ⟨GN.ticks m R h1, by omega, by omega⟩
theorem okR.set {c n k v : Nat} {R : Nat → Nat} (h : okR c n R) (hg : GN n (upN R k v)) (h3 : k ≠ 53) (h4 : k ≠ 54) : okR (c + 1) n (upN R k v) := by
  obtain ⟨h1, h2, h5⟩ := h
  refine ⟨hg, ?_, ?_⟩
  · rw [upN_o (Ne.symm h3)]; omega
  · rw [upN_o (Ne.symm h4)]; omega
theorem n_chg (M : MdV) (q now : Nat → Int32) (x : Int32) : m_n (mu_now (mu_act (mu_dia M q) x) now) = m_n M := by obtain ⟨a1, a2, a3, a4, a5, a6, a7, a8, a9, a10, a11, a12, a13, a14, a15⟩ := M; rfl
theorem now_chg (M : MdV) (q now : Nat → Int32) (x : Int32) : m_now (mu_now (mu_act (mu_dia M q) x) now) = now := by obtain ⟨a1, a2, a3, a4, a5, a6, a7, a8, a9, a10, a11, a12, a13, a14, a15⟩ := M; rfl
theorem ref_chg (M : MdV) (q now : Nat → Int32) (x : Int32) : m_ref (mu_now (mu_act (mu_dia M q) x) now) = m_ref M := by obtain ⟨a1, a2, a3, a4, a5, a6, a7, a8, a9, a10, a11, a12, a13, a14, a15⟩ := M; rfl
theorem n_not (M : MdV) (q : Nat → Int32) (x : Int32) : m_n (mu_act (mu_dia M q) x) = m_n M := by obtain ⟨a1, a2, a3, a4, a5, a6, a7, a8, a9, a10, a11, a12, a13, a14, a15⟩ := M; rfl
theorem now_not (M : MdV) (q : Nat → Int32) (x : Int32) : m_now (mu_act (mu_dia M q) x) = m_now M := by obtain ⟨a1, a2, a3, a4, a5, a6, a7, a8, a9, a10, a11, a12, a13, a14, a15⟩ := M; rfl
theorem ref_tck (M : MdV) (q r f s : Nat → Int32) (x : Int32) : m_ref (mu_sal (mu_flo (mu_now (mu_act (mu_dia M q) x) r) f) s) = m_ref M := by obtain ⟨a1, a2, a3, a4, a5, a6, a7, a8, a9, a10, a11, a12, a13, a14, a15⟩ := M; rfl
theorem inv_chg {c : Nat} {T : TrV} {N : StV} {Q : PoV} {q now : Nat → Int32} {x : Int32} (M : MdV) (h : INVc c T N Q (m_n M) now q x (m_kep M) (m_isk M) (m_scs M) (m_scr M)) : INV c T N Q (mu_now (mu_act (mu_dia M q) x) now) := by
  obtain ⟨a1, a2, a3, a4, a5, a6, a7, a8, a9, a10, a11, a12, a13, a14, a15⟩ := M
  exact h
theorem inv_tck {c : Nat} {T : TrV} {N : StV} {Q : PoV} {q now f s : Nat → Int32} {x : Int32} (M : MdV) (h : INVc c T N Q (m_n M) now q x (m_kep M) (m_isk M) (m_scs M) (m_scr M)) : INV c T N Q (mu_sal (mu_flo (mu_now (mu_act (mu_dia M q) x) now) f) s) := by
  obtain ⟨a1, a2, a3, a4, a5, a6, a7, a8, a9, a10, a11, a12, a13, a14, a15⟩ := M
  exact h
theorem inv_ref {c : Nat} {T : TrV} {N : StV} {Q : PoV} {x : Int32} (M : MdV) (h : INV c T N Q M) : INV c T N Q (mu_ref M x) := by
  obtain ⟨a1, a2, a3, a4, a5, a6, a7, a8, a9, a10, a11, a12, a13, a14, a15⟩ := M
  exact h
theorem ref_ref (M : MdV) (x : Int32) : m_ref (mu_ref M x) = x := rfl
section AC
variable {c : Nat} {T : TrV} {N : StV} {Q : PoV} {M : MdV}
theorem q_tick (h : INV c T N Q M) (hc : c ≤ 600) {p : Int32} : aO c M [(xR, 1)] (f_X1_tick T N Q p) (f_X2_tick M p) := by
  obtain ⟨n, R, h1, h2, h3, h4, h5, h6, h7⟩ := id h
  unfold f_X1_tick f_X2_tick f_X2_tick_18
  rcases rng (p := p) (lo := 1) (hi := 99) (a := 1) (b := 99) (by decide) (by decide) with ⟨e1, e2⟩ | ⟨h0, h9, e1, e2⟩
  · refine Or.inr ⟨xR, 1, by decide, by rw [e1, bx_e], ?_⟩
    rw [e2, bd_some, if_pos rfl, refused_1 (by decide), bd_some]
    rfl
  · obtain ⟨m, hm9, rfl⟩ := nI_of2 (n := 99) (by decide) (Int32.not_lt.mpr (Int32.le_trans (by decide) h0)) h9
    obtain ⟨M0, hM0⟩ : ∃ y, y = mu_ref M 0 := ⟨_, rfl⟩
    have j1 : m_n M0 = nI n := by rw [hM0]; exact h1
    have j2 : RR (m_now M0) R := by rw [hM0]; exact h2
    have j5 : ∃ L C, TxC (m_scs M0) (m_scr M0) T L C := by rw [hM0]; exact h5
    have j6 : ∃ a ds, RingC c n T Q (m_dia M0) (m_act M0) a ds := by rw [hM0]; exact h6
    have j7 : SlotC c n T Q (m_kep M0) (m_isk M0) := by rw [hM0]; exact h7
    have j8 : m_ref M0 = 0 := by rw [hM0]; rfl
    obtain ⟨T', Q', q, x, r1, r2, r3⟩ := q_remember (M := M0) j1 j2 h3 h4 j5 j6 j7
    have hcl := h4.2.1
    obtain ⟨N', c2, a2⟩ := s_pass (m := m) h3 h4.1 (by omega) (by omega)
    have hm' : m_n (mu_act (mu_dia M0 q) x) = nI n := (n_not M0 q x).trans j1
    have hr' : RR (m_now (mu_act (mu_dia M0 q) x)) R := by rw [now_not]; exact j2
    obtain ⟨r', fl', sa', d2, b2⟩ := r_ticksOn hm' (m := m) (fl := m_flo (mu_act (mu_dia M0 q) x)) (sa := m_sal (mu_act (mu_dia M0 q) x)) hr' h4.1 (by omega) (by omega)
    refine Or.inl ⟨nI (tkM n m R 55) - nI (R 55), T', N', Q', mu_sal (mu_flo (mu_now (mu_act (mu_dia M0 q) x) r') fl') sa', ?_, ?_, (ref_tck M0 q r' fl' sa' x).trans j8, ?_⟩
    · rw [e1, bx_r, r1, bn_r]
      dsimp only
      rw [c2, bd_some]
    · rw [e2, bd_some, if_neg (by decide), refused_0, bd_some]
      dsimp only
      rw [if_pos rfl, ← hM0, r2, bd_some, d2, bd_some]
      dsimp only
      rw [nm_e2]
    · exact inv_tck M0 (r3 N' _ r' a2 (h4.ticks hm9) b2)
theorem chg {q : Nat → Int32} {x y : Int32} {k : Nat} (h : f_X2_note M = some (mu_act (mu_dia M q) x)) (hk : k < 64) : f_X2_change M (nI k) y = some (m_now M k, mu_now (mu_act (mu_dia M q) x) (upd (m_now M) k y)) := by
  unfold f_X2_change
  rw [h, bd_some, gb_in hk (by omega), nI_cl (by omega), nm_e2, gb_in hk (by omega), nm_e2]
  rw [now_not]
theorem GN.bleed {n i w : Nat} {R : Nat → Nat} (hg : GN n R) (hi : i < n) (hw : w ≤ 90) : GN n (upN R (24 + i) w) := by
  obtain ⟨⟨n2, n6⟩, hge, hs⟩ := hg
  refine ⟨⟨n2, n6⟩, fun q hq => ?_, ?_⟩
  · obtain ⟨g1, g3, g4, g5, g6, g7, g8⟩ := hge q hq
    unfold GE
    rw [upN_o (k := q) (by omega), upN_o (k := 6 + q) (by omega), upN_o (k := 12 + q) (by omega), upN_o (k := 18 + q) (by omega), upN_o (k := 30 + q) (by omega), upN_o (k := 36 + q) (by omega), upN_o (k := 42 + q) (by omega)]
    refine ⟨g1, g3, g4, ?_, g6, g7, g8⟩
    by_cases e : q = i
    · rw [e, upN_s]; exact hw
    · rw [upN_o (by omega)]; exact g5
  · rw [upN_o (k := 48) (by omega), upN_o (k := 49) (by omega), upN_o (k := 50) (by omega), upN_o (k := 51) (by omega), upN_o (k := 52) (by omega)]
    exact hs
theorem GN.sett {n j w : Nat} {R : Nat → Nat} (hg : GN n R) (hj : j < 5) (hw : w ≤ (if j < 2 then 999 else if j < 4 then 99 else 20)) (hw1 : j = 4 → 1 ≤ w) (h2 : j = 2 → w ≤ 99) : GN n (upN R (48 + j) w) := by
  obtain ⟨⟨n2, n6⟩, hge, hs⟩ := hg
  refine ⟨⟨n2, n6⟩, fun q hq => ?_, ?_⟩
  · obtain ⟨g1, g3, g4, g5, g6, g7, g8⟩ := hge q hq
    unfold GE
    rw [upN_o (k := q) (by omega), upN_o (k := 6 + q) (by omega), upN_o (k := 12 + q) (by omega), upN_o (k := 18 + q) (by omega), upN_o (k := 24 + q) (by omega), upN_o (k := 30 + q) (by omega), upN_o (k := 36 + q) (by omega), upN_o (k := 42 + q) (by omega)]
    exact ⟨g1, g3, g4, g5, g6, g7, g8⟩
  · obtain ⟨s1, s2, s3, s4, s5, s6⟩ := hs
    unfold upN
    rcases (show j = 0 ∨ j = 1 ∨ j = 2 ∨ j = 3 ∨ j = 4 by omega) with rfl | rfl | rfl | rfl | rfl <;> simp at hw hw1 ⊢ <;> omega
theorem q_setValve (h : INV c T N Q M) {p u : Int32} : aO c M [(xB, 1), (xR, 2)] (f_X1_setValve T N Q p u) (f_X2_setValve M p u) := by
  obtain ⟨n, R, h1, h2, h3, h4, h5, h6, h7⟩ := id h
  obtain ⟨⟨n2, n6⟩, hge, -⟩ := id h4.1
  unfold f_X1_setValve f_X2_setValve f_X2_setValve_30
  rcases eff (T := T) h1 h3.1 n2 n6 (p := p) with ⟨e1, e2⟩ | ⟨i, hi, rfl, e1, e2⟩
  · refine Or.inr ⟨xB, 1, by decide, by rw [e1, bx_e], ?_⟩
    rw [e2, bd_some, if_pos rfl, refused_1 (by decide), bd_some]
    rfl
  · rw [e1, e2, bx_r, bd_some, if_neg (by decide)]
    rcases rng (p := u) (lo := 0) (hi := 999) (a := 0) (b := 999) (by decide) (by decide) with ⟨e3, e4⟩ | ⟨k0, k9, e3, e4⟩
    · refine Or.inr ⟨xR, 2, by decide, by rw [e3, bx_e], ?_⟩
      rw [e4, bd_some, if_pos rfl, refused_1 (by decide), bd_some]
      rfl
    · obtain ⟨v, hv, rfl⟩ := nI_of2 (n := 999) (by decide) (Int32.not_lt.mpr k0) k9
      obtain ⟨M0, hM0⟩ : ∃ y, y = mu_ref M 0 := ⟨_, rfl⟩
      have j1 : m_n M0 = nI n := by rw [hM0]; exact h1
      have j2 : RR (m_now M0) R := by rw [hM0]; exact h2
      have j5 : ∃ L C, TxC (m_scs M0) (m_scr M0) T L C := by rw [hM0]; exact h5
      have j6 : ∃ a ds, RingC c n T Q (m_dia M0) (m_act M0) a ds := by rw [hM0]; exact h6
      have j7 : SlotC c n T Q (m_kep M0) (m_isk M0) := by rw [hM0]; exact h7
      have j8 : m_ref M0 = 0 := by rw [hM0]; rfl
      obtain ⟨T', Q', q, x, r1, r2, r3⟩ := q_remember (M := M0) j1 j2 h3 h4 j5 j6 j7
      refine Or.inl ⟨nI (R (18 + i)), T', su_val N (upd (s_val N) i (nI v)), Q', mu_now (mu_act (mu_dia M0 q) x) (upd (m_now M0) (18 + i) (nI v)), ?_, ?_, (ref_chg M0 q _ x).trans j8, inv_chg M0 (r3 _ _ _ (h3.val n6 hi v) (h4.set (h4.1.valve hi hv) (by omega) (by omega)) (j2.up (18 + i) v))⟩
      · rw [e3, bx_r, r1, bn_r]
        dsimp only
        rw [gb_in (by omega) (by omega), nI_cl (by omega), nm_e2, gb_in (by omega) (by omega), nm_e2, (h3.2.2.2.2.2 i hi).2.2.2.1]
      · rw [e4, bd_some, if_neg (by decide), refused_0, bd_some]
        dsimp only
        rw [if_pos rfl, ← hM0, show (18 : Int32) = nI 18 from rfl, nI_add, chg r2 (by omega), bd_some]
        dsimp only
        rw [j2 _ (by omega)]
theorem q_setBleed (h : INV c T N Q M) {p u : Int32} : aO c M [(xB, 1), (xR, 2)] (f_X1_setBleed T N Q p u) (f_X2_setBleed M p u) := by
  obtain ⟨n, R, h1, h2, h3, h4, h5, h6, h7⟩ := id h
  obtain ⟨⟨n2, n6⟩, hge, -⟩ := id h4.1
  unfold f_X1_setBleed f_X2_setBleed f_X2_setBleed_30
  rcases eff (T := T) h1 h3.1 n2 n6 (p := p) with ⟨e1, e2⟩ | ⟨i, hi, rfl, e1, e2⟩
  · refine Or.inr ⟨xB, 1, by decide, by rw [e1, bx_e], ?_⟩
    rw [e2, bd_some, if_pos rfl, refused_1 (by decide), bd_some]
    rfl
  · rw [e1, e2, bx_r, bd_some, if_neg (by decide)]
    rcases rng (p := u) (lo := 0) (hi := 90) (a := 0) (b := 90) (by decide) (by decide) with ⟨e3, e4⟩ | ⟨k0, k9, e3, e4⟩
    · refine Or.inr ⟨xR, 2, by decide, by rw [e3, bx_e], ?_⟩
      rw [e4, bd_some, if_pos rfl, refused_1 (by decide), bd_some]
      rfl
    · obtain ⟨v, hv, rfl⟩ := nI_of2 (n := 90) (by decide) (Int32.not_lt.mpr k0) k9
      obtain ⟨M0, hM0⟩ : ∃ y, y = mu_ref M 0 := ⟨_, rfl⟩
      have j1 : m_n M0 = nI n := by rw [hM0]; exact h1
      have j2 : RR (m_now M0) R := by rw [hM0]; exact h2
      have j5 : ∃ L C, TxC (m_scs M0) (m_scr M0) T L C := by rw [hM0]; exact h5
      have j6 : ∃ a ds, RingC c n T Q (m_dia M0) (m_act M0) a ds := by rw [hM0]; exact h6
      have j7 : SlotC c n T Q (m_kep M0) (m_isk M0) := by rw [hM0]; exact h7
      have j8 : m_ref M0 = 0 := by rw [hM0]; rfl
      obtain ⟨T', Q', q, x, r1, r2, r3⟩ := q_remember (M := M0) j1 j2 h3 h4 j5 j6 j7
      refine Or.inl ⟨nI (R (24 + i)), T', su_ble N (upd (s_ble N) i (nI v)), Q', mu_now (mu_act (mu_dia M0 q) x) (upd (m_now M0) (24 + i) (nI v)), ?_, ?_, (ref_chg M0 q _ x).trans j8, inv_chg M0 (r3 _ _ _ (h3.ble n6 hi v) (h4.set (h4.1.bleed hi hv) (by omega) (by omega)) (j2.up (24 + i) v))⟩
      · rw [e3, bx_r, r1, bn_r]
        dsimp only
        rw [gb_in (by omega) (by omega), nI_cl (by omega), nm_e2, gb_in (by omega) (by omega), nm_e2, (h3.2.2.2.2.2 i hi).2.2.2.2.1]
      · rw [e4, bd_some, if_neg (by decide), refused_0, bd_some]
        dsimp only
        rw [if_pos rfl, ← hM0, show (24 : Int32) = nI 24 from rfl, nI_add, chg r2 (by omega), bd_some]
        dsimp only
        rw [j2 _ (by omega)]
theorem q_wash (h : INV c T N Q M) {p u : Int32} : aO c M [(xB, 1), (xR, 2), (xS, 3)] (f_X1_wash T N Q p u) (f_X2_wash M p u) := by
  obtain ⟨n, R, h1, h2, h3, h4, h5, h6, h7⟩ := id h
  obtain ⟨⟨n2, n6⟩, hge, -⟩ := id h4.1
  unfold f_X1_wash f_X2_wash f_X2_wash_45
  rcases eff (T := T) h1 h3.1 n2 n6 (p := p) with ⟨e1, e2⟩ | ⟨i, hi, rfl, e1, e2⟩
  · refine Or.inr ⟨xB, 1, by decide, by rw [e1, bx_e], ?_⟩
    rw [e2, bd_some, if_pos rfl, refused_1 (by decide), bd_some]
    rfl
  · rw [e1, e2, bx_r, bd_some, if_neg (by decide)]
    rcases rng (p := u) (lo := 1) (hi := 20) (a := 1) (b := 20) (by decide) (by decide) with ⟨e3, e4⟩ | ⟨k0, k9, e3, e4⟩
    · refine Or.inr ⟨xR, 2, by decide, by rw [e3, bx_e], ?_⟩
      rw [e4, bd_some, if_pos rfl, refused_1 (by decide), bd_some]
      rfl
    · obtain ⟨v, hv, rfl⟩ := nI_of2 (n := 20) (by decide) (Int32.not_lt.mpr (Int32.le_trans (by decide) k0)) k9
      have hl : R (42 + i) ≤ 20 := (hge i hi).2.2.2.2.2.2
      have hlf : s_lef N i = nI (R (42 + i)) := (h3.2.2.2.2.2 i hi).2.2.2.2.2.2.2
      rw [e3, e4, bx_r, bd_some, if_neg (by decide), r_works h2 (by omega) (by omega), bd_some]
      unfold f_X1_checkWorks
      rw [gb_in (by omega) (by omega), nI_cl (by omega), hlf]
      by_cases e5 : R (42 + i) = 0
      · rw [e5]
        simp only [if_true]
        rw [if_pos (by decide), bx_r, if_neg (by decide), refused_0, bd_some]
        obtain ⟨M0, hM0⟩ : ∃ y, y = mu_ref M 0 := ⟨_, rfl⟩
        have j1 : m_n M0 = nI n := by rw [hM0]; exact h1
        have j2 : RR (m_now M0) R := by rw [hM0]; exact h2
        have j5 : ∃ L C, TxC (m_scs M0) (m_scr M0) T L C := by rw [hM0]; exact h5
        have j6 : ∃ a ds, RingC c n T Q (m_dia M0) (m_act M0) a ds := by rw [hM0]; exact h6
        have j7 : SlotC c n T Q (m_kep M0) (m_isk M0) := by rw [hM0]; exact h7
        have j8 : m_ref M0 = 0 := by rw [hM0]; rfl
        obtain ⟨T', Q', q, x, r1, r2, r3⟩ := q_remember (M := M0) j1 j2 h3 h4 j5 j6 j7
        have hg' := h4.1.left hi hv
        have hA' := h3.lef n6 hi v
        have hl2 : ∀ j, j < n → upN R (42 + i) v (42 + j) < 2147483648 := fun j hj => by have := (hg'.2.1 j hj).2.2.2.2.2.2; omega
        refine Or.inl ⟨nI (wcN (upN R (42 + i) v) n), T', su_lef N (upd (s_lef N) i (nI v)), Q', mu_now (mu_act (mu_dia M0 q) x) (upd (m_now M0) (42 + i) (nI v)), ?_, ?_, (ref_chg M0 q _ x).trans j8, inv_chg M0 (r3 _ _ _ hA' (h4.set hg' (by omega) (by omega)) (j2.up (42 + i) v))⟩
        · rw [r1, bn_r]
          dsimp only
          rw [gb_in (by omega) (by omega), nm_e2, s_washed hA' n6 hl2, bd_some]
        · dsimp only
          rw [if_pos rfl, ← hM0, show (42 : Int32) = nI 42 from rfl, nI_add, chg r2 (by omega), bd_some]
          dsimp only
          have hm' : m_n (mu_now (mu_act (mu_dia M0 q) x) (upd (m_now M0) (42 + i) (nI v))) = nI n := (n_chg M0 q _ x).trans j1
          have hr' : RR (m_now (mu_now (mu_act (mu_dia M0 q) x) (upd (m_now M0) (42 + i) (nI v)))) (upN R (42 + i) v) := by rw [now_chg]; exact j2.up (42 + i) v
          rw [r_washed hm' n6 hr' hl2, bd_some]
      · rw [if_neg e5]
        refine Or.inr ⟨xS, 3, by decide, ?_, ?_⟩
        · rw [if_neg (by rw [L0, nI_leF (by omega) (by omega)]; omega), bx_e]
        · rw [if_pos (by decide), refused_1 (by decide), bd_some]
          rfl
theorem q_endWash (h : INV c T N Q M) {p : Int32} : aO c M [(xB, 1), (xS, 2)] (f_X1_endWash T N Q p) (f_X2_endWash M p) := by
  obtain ⟨n, R, h1, h2, h3, h4, h5, h6, h7⟩ := id h
  obtain ⟨⟨n2, n6⟩, hge, -⟩ := id h4.1
  unfold f_X1_endWash f_X2_endWash f_X2_endWash_29
  rcases eff (T := T) h1 h3.1 n2 n6 (p := p) with ⟨e1, e2⟩ | ⟨i, hi, rfl, e1, e2⟩
  · refine Or.inr ⟨xB, 1, by decide, by rw [e1, bx_e], ?_⟩
    rw [e2, bd_some, if_pos rfl, refused_1 (by decide), bd_some]
    rfl
  · have hl : R (42 + i) ≤ 20 := (hge i hi).2.2.2.2.2.2
    have hlf : s_lef N i = nI (R (42 + i)) := (h3.2.2.2.2.2 i hi).2.2.2.2.2.2.2
    rw [e1, e2, bx_r, bd_some, if_neg (by decide), r_works h2 (by omega) (by omega), bd_some, gb_in (by omega) (by omega), nI_cl (by omega), hlf, nm_e2]
    by_cases e5 : R (42 + i) = 0
    · rw [e5]
      simp only [if_true]
      refine Or.inr ⟨xS, 2, by decide, ?_, ?_⟩
      · rw [if_pos (by decide)]
      · rw [if_neg (by decide), refused_1 (by decide), bd_some]
        rfl
    · rw [if_neg e5]
      obtain ⟨M0, hM0⟩ : ∃ y, y = mu_ref M 0 := ⟨_, rfl⟩
      have j1 : m_n M0 = nI n := by rw [hM0]; exact h1
      have j2 : RR (m_now M0) R := by rw [hM0]; exact h2
      have j5 : ∃ L C, TxC (m_scs M0) (m_scr M0) T L C := by rw [hM0]; exact h5
      have j6 : ∃ a ds, RingC c n T Q (m_dia M0) (m_act M0) a ds := by rw [hM0]; exact h6
      have j7 : SlotC c n T Q (m_kep M0) (m_isk M0) := by rw [hM0]; exact h7
      have j8 : m_ref M0 = 0 := by rw [hM0]; rfl
      obtain ⟨T', Q', q, x, r1, r2, r3⟩ := q_remember (M := M0) j1 j2 h3 h4 j5 j6 j7
      refine Or.inl ⟨nI (R (42 + i)), T', su_lef N (upd (s_lef N) i (nI 0)), Q', mu_now (mu_act (mu_dia M0 q) x) (upd (m_now M0) (42 + i) (nI 0)), ?_, ?_, (ref_chg M0 q _ x).trans j8, inv_chg M0 (r3 _ _ _ (h3.lef n6 hi 0) (h4.set (h4.1.left hi (by omega)) (by omega) (by omega)) (j2.up (42 + i) 0))⟩
      · rw [if_neg (by rw [L0, nI_iff (by omega) (by omega)]; exact e5), r1, bn_r]
        dsimp only
        rw [gb_in (by omega) (by omega), nm_e2]
        rfl
      · rw [if_pos (by decide), refused_0, bd_some]
        dsimp only
        rw [if_pos rfl, ← hM0, show (42 : Int32) = nI 42 from rfl, nI_add, chg r2 (by omega), bd_some]
        dsimp only
        rw [j2 _ (by omega)]
        rfl
end AC
