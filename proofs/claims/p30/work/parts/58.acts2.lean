/-! set, undo, save, restore -/
section AD
variable {c : Nat} {T : TrV} {N : StV} {Q : PoV} {M : MdV}
theorem inv_und {now : Nat → Int32} {x : Int32} (M : MdV) (h : INVc c T N Q (m_n M) now (m_dia M) x (m_kep M) (m_isk M) (m_scs M) (m_scr M)) : INV c T N Q (mu_now (mu_act M x) now) := by
  obtain ⟨a1, a2, a3, a4, a5, a6, a7, a8, a9, a10, a11, a12, a13, a14, a15⟩ := M
  exact h
theorem inv_und2 {now : Nat → Int32} {x : Int32} (M : MdV) (h : INVc c T N Q (m_n M) now (m_dia M) x (m_kep M) (m_isk M) (m_scs M) (m_scr M)) : INV c T N Q (mu_act (mu_now M now) x) := by
  obtain ⟨a1, a2, a3, a4, a5, a6, a7, a8, a9, a10, a11, a12, a13, a14, a15⟩ := M
  exact h
theorem inv_sav {kep isk : Nat → Int32} (M : MdV) (h : INVc c T N Q (m_n M) (m_now M) (m_dia M) (m_act M) kep isk (m_scs M) (m_scr M)) : INV c T N Q (mu_kep (mu_isk M isk) kep) := by
  obtain ⟨a1, a2, a3, a4, a5, a6, a7, a8, a9, a10, a11, a12, a13, a14, a15⟩ := M
  exact h
theorem set_core {n : Nat} {R : Nat → Nat} (h : INV c T N Q M) (h1 : m_n M = nI n) (h2 : RR (m_now M) R) (h3 : AgS n 0 N R) (h4 : okR c n R) (h5 : ∃ L C, TxC (m_scs M) (m_scr M) T L C) (h6 : ∃ a ds, RingC c n T Q (m_dia M) (m_act M) a ds) (h7 : SlotC c n T Q (m_kep M) (m_isk M)) {j v : Nat} (hj : j < 5) (hg : GN n (upN R (48 + j) v)) :
    ∃ T' Q' M', (bn (f_X1_remember T N Q) fun ⟨q_9, q_10⟩ => gb (inb (nI j) 5) <| nm ((s_set N) (nI j).toNatClampNeg) fun v_14 => gb (inb (nI j) 5) <| nm (su_set N (upd (s_set N) (nI j).toNatClampNeg (nI v))) fun q_16 => some (.inr (v_14, q_9, q_16, q_10)) : Option (String ⊕ (Int32 × TrV × StV × PoV))) = some (.inr (nI (R (48 + j)), T', su_set N (upd (s_set N) j (nI v)), Q')) ∧ f_X2_set_66 M (nI j) (nI v) 0 = some (nI (R (48 + j)), M') ∧ m_ref M' = 0 ∧ INV (c + 1) T' (su_set N (upd (s_set N) j (nI v))) Q' M' := by
  obtain ⟨⟨n2, n6⟩, hge, -⟩ := id h4.1
  obtain ⟨M0, hM0⟩ : ∃ y, y = mu_ref M 0 := ⟨_, rfl⟩
  have j1 : m_n M0 = nI n := by rw [hM0]; exact h1
  have j2 : RR (m_now M0) R := by rw [hM0]; exact h2
  have j5 : ∃ L C, TxC (m_scs M0) (m_scr M0) T L C := by rw [hM0]; exact h5
  have j6 : ∃ a ds, RingC c n T Q (m_dia M0) (m_act M0) a ds := by rw [hM0]; exact h6
  have j7 : SlotC c n T Q (m_kep M0) (m_isk M0) := by rw [hM0]; exact h7
  have j8 : m_ref M0 = 0 := by rw [hM0]; rfl
  obtain ⟨T', Q', q, x, r1, r2, r3⟩ := q_remember (M := M0) j1 j2 h3 h4 j5 j6 j7
  refine ⟨T', Q', mu_now (mu_act (mu_dia M0 q) x) (upd (m_now M0) (48 + j) (nI v)), ?_, ?_, (ref_chg M0 q _ x).trans j8, inv_chg M0 (r3 _ _ _ (h3.set n6 hj v) (h4.set hg (by omega) (by omega)) (j2.up (48 + j) v))⟩
  · rw [r1, bn_r]
    dsimp only
    rw [gb_in hj (by omega), nI_cl (by omega), nm_e2, gb_in hj (by omega), nm_e2, h3.2.2.1 j hj]
  · unfold f_X2_set_66
    rw [refused_0, bd_some]
    dsimp only
    rw [if_pos rfl, ← hM0, r2, bd_some, show (48 : Int32) = nI 48 from rfl, nI_add, gb_in (by omega) (by omega), nI_cl (by omega), nm_e2, gb_in (by omega) (by omega), now_not, nm_e2, j2 _ (by omega)]
theorem set_ref (v : Int32) {p u : Int32} (e : f_X2_in p.toInt64 0 4 = some 0) : f_X2_set_43 M p u v = some (0, mu_ref M 1) := by
  unfold f_X2_set_43 f_X2_set_65 f_X2_set_66
  rw [e, bd_some, if_pos rfl, refused_1 (by decide), bd_some]
  rfl
theorem set_ref2 {p u : Int32} (e : f_X2_in p.toInt64 0 4 = some 1) : f_X2_set_43 M p u 0 = some (0, mu_ref M 1) := by
  unfold f_X2_set_43 f_X2_set_65 f_X2_set_66
  rw [e, bd_some, if_neg (by decide), if_pos rfl, refused_1 (by decide), bd_some]
  rfl
theorem set_go {p u : Int32} (e : f_X2_in p.toInt64 0 4 = some 1) : f_X2_set_43 M p u 1 = f_X2_set_66 M p u 0 := by
  unfold f_X2_set_43
  rw [e, bd_some, if_neg (by decide), if_neg (by decide)]
theorem q_set (h : INV c T N Q M) {p u : Int32} : aO c M [(xR, 1)] (f_X1_set T N Q p u) (f_X2_set M p u) := by
  obtain ⟨n, R, h1, h2, h3, h4, h5, h6, h7⟩ := id h
  unfold f_X1_set f_X2_set
  rcases rng (p := p) (lo := 0) (hi := 4) (a := 0) (b := 4) (by decide) (by decide) with ⟨e1, e2⟩ | ⟨h0, h9, e1, e2⟩
  · refine Or.inr ⟨xR, 1, by decide, by rw [e1, bx_e], ?_⟩
    have some2 : ∀ (lo hi : Int32) (a b : Int64), a = lo.toInt64 → b = hi.toInt64 → ∃ v, f_X2_in u.toInt64 a b = some v := fun lo hi a b h8 h9 => by
      rcases rng (p := u) (lo := lo) (hi := hi) h8 h9 with ⟨-, z⟩ | ⟨-, -, -, z⟩ <;> exact ⟨_, z⟩
    obtain ⟨v1, z1⟩ := some2 1 20 1 20 (by decide) (by decide)
    obtain ⟨v2, z2⟩ := some2 0 99 0 99 (by decide) (by decide)
    obtain ⟨v3, z3⟩ := some2 0 999 0 999 (by decide) (by decide)
    rw [z1, z2, z3, bd_some, bd_some, bd_some, set_ref v1 e2, set_ref v2 e2, set_ref v3 e2, ite_self, ite_self]
  · obtain ⟨j, hj, rfl⟩ := nI_of2 (n := 4) (by decide) (Int32.not_lt.mpr h0) h9
    rw [e1, bx_r]
    have h1j : (1 : Int32) + nI j = nI (1 + j) := by rw [L1, nI_add]
    rw [h1j, gb_in (by omega) (by omega), gb_in (by omega) (by omega), nI_cl (by omega)]
    have hc : j = 0 ∨ j = 1 ∨ j = 2 ∨ j = 3 ∨ j = 4 := by omega
    have go : ∀ (lo hi : Int32) (a b : Int64) (H0 : Nat), a = lo.toInt64 → b = hi.toInt64 → hi.toInt = H0 → (0 : Int32) ≤ lo → (∀ v, v ≤ H0 → lo ≤ nI v → GN n (upN R (48 + j) v)) → tL (1 + j) = lo → tG (1 + j) = hi → aO c M [(xR, 1)] (bx (f_X1_checkRange u (tL (1 + j)) (tG (1 + j))) fun _ => bn (f_X1_remember T N Q) fun ⟨q_9, q_10⟩ => gb (inb (nI j) 5) <| nm ((s_set N) (nI j).toNatClampNeg) fun v_14 => gb (inb (nI j) 5) <| nm (su_set N (upd (s_set N) (nI j).toNatClampNeg u)) fun q_16 => some (.inr (v_14, q_9, q_16, q_10))) (bd (f_X2_in u.toInt64 a b) fun v_17 => f_X2_set_43 M (nI j) u v_17) := by
      intro lo hi a b H0 ha hb hH h0 hg hlo hhi
      rw [hlo, hhi]
      rcases rng (p := u) ha hb with ⟨e3, e4⟩ | ⟨k0, k9, e3, e4⟩
      · refine Or.inr ⟨xR, 1, by decide, by rw [e3, bx_e], ?_⟩
        rw [e4, bd_some, set_ref2 e2]
      · obtain ⟨v, hv, rfl⟩ := nI_of2 hH (Int32.not_lt.mpr (Int32.le_trans h0 k0)) k9
        obtain ⟨T', Q', M', r1, r2, r3, r4⟩ := set_core h h1 h2 h3 h4 h5 h6 h7 (j := j) (v := v) (by omega) (hg v hv k0)
        refine Or.inl ⟨nI (R (48 + j)), T', su_set N (upd (s_set N) j (nI v)), Q', M', ?_, ?_, r3, r4⟩
        · rw [e3, bx_r]
          exact r1
        · rw [e4, bd_some, set_go e2]
          exact r2
    have gl : ∀ v, (1 : Int32) ≤ nI v → v ≤ 20 → 1 ≤ v := fun v q1 q2 => by
      rw [L1] at q1
      exact (nI_leF (by omega) (by omega)).mp q1
    rcases hc with rfl | rfl | rfl | rfl | rfl
    · rw [if_neg (by decide)]
      exact go 0 999 0 999 999 (by decide) (by decide) (by decide) (by decide) (fun v hv _ => h4.1.sett (by omega) (by simpa using hv) (by omega) (by omega)) rfl rfl
    · rw [if_neg (by decide)]
      exact go 0 999 0 999 999 (by decide) (by decide) (by decide) (by decide) (fun v hv _ => h4.1.sett (by omega) (by simpa using hv) (by omega) (by omega)) rfl rfl
    · rw [if_pos (by decide), if_neg (by decide)]
      exact go 0 99 0 99 99 (by decide) (by decide) (by decide) (by decide) (fun v hv _ => h4.1.sett (by omega) (by simpa using hv) (by omega) (by omega)) rfl rfl
    · rw [if_pos (by decide), if_neg (by decide)]
      exact go 0 99 0 99 99 (by decide) (by decide) (by decide) (by decide) (fun v hv _ => h4.1.sett (by omega) (by simpa using hv) (by omega) (by omega)) rfl rfl
    · rw [if_pos (by decide), if_pos (by decide)]
      exact go 1 20 1 20 20 (by decide) (by decide) (by decide) (by decide) (fun v hv hv1 => h4.1.sett (by omega) (by simpa using hv) (fun _ => gl v hv1 hv) (by omega)) rfl rfl
theorem q_undo (h : INV c T N Q M) : aO c M [(xS, 1)] (f_X1_undo T N Q) (f_X2_undo M) := by
  obtain ⟨n, R, h1, h2, h3, h4, h5, ⟨a, ds, hr⟩, h7⟩ := id h
  obtain ⟨⟨n2, n6⟩, hge, -⟩ := id h4.1
  obtain ⟨a14, hact, hrcn, w, hw14, hnws, hring⟩ := hr
  unfold f_X1_undo f_X2_undo f_X2_undo_13
  rw [hrcn, hact]
  by_cases e : a = 0
  · subst e
    refine Or.inr ⟨xS, 1, by decide, by rw [if_pos (by decide)], ?_⟩
    rw [if_pos (by decide), refused_1 (by decide), bd_some]
    rfl
  · obtain ⟨k1, k2, S, k3, k4⟩ := hring (a - 1) (by omega)
    rw [show 3 + (w + 15 + (a - 1) - a) % 14 = 3 + w by omega] at k3
    have hsq : sq Q (3 + w) = S := by unfold sq; rw [k3]; rfl
    obtain ⟨N', c2, a2⟩ := s_copy (S := N) k4 n6
    obtain ⟨M0, hM0⟩ : ∃ y, y = mu_ref M 0 := ⟨_, rfl⟩
    have j2 : m_dia (mu_act M0 (nI (a - 1))) = m_dia M := by rw [hM0]; rfl
    have j3 : m_act M0 = nI a := by rw [hM0]; exact hact
    have j4 : m_act (mu_act M0 (nI (a - 1))) = nI (a - 1) := rfl
    obtain ⟨nw, d1, d2, -⟩ := r_cpy (f := m_dia M) (lf := 896) (lt := 64) (a := 64 * (a - 1)) (b := 0) (m := 64) (by omega) (by omega) (by omega) (by omega) (by omega) (m_now (mu_act M0 (nI (a - 1))))
    have hRR : RR nw (ds (a - 1)) := fun k hk => by
      have := d2 k hk
      rw [Nat.zero_add] at this
      rw [this]
      exact k2 k hk
    have hQ : ∀ i, uq Q (3 + w) S i = Q i := fun i => by
      by_cases hi : i = 3 + w
      · rw [hi, uq_s, k3]
      · rw [uq_o hi]
    have inv : ∀ T', tr_tln T' = tr_tln T → tr_txt T' = tr_txt T → tr_fil T' = tr_fil T → tr_rcn T' = nI (a - 1) → tr_nws T' = nI ((w + 13) % 14) → INVc (c + 1) T' N' (uq Q (3 + w) S) (m_n M0) nw (m_dia M0) (nI (a - 1)) (m_kep M0) (m_isk M0) (m_scs M0) (m_scr M0) := by
      intro T' t1 t2 t3 t4 t5
      refine ⟨n, ds (a - 1), by rw [hM0]; exact h1, hRR, a2, k1.up (by omega), ?_, ⟨a - 1, ds, by omega, rfl, t4, (w + 13) % 14, by omega, t5, fun j hj => ?_⟩, fun s hs => ?_⟩
      · obtain ⟨L, C, y1, y2, y3, y4⟩ := h5
        exact ⟨L, C, by rw [hM0]; exact y1, t1.trans y2, y3, by rw [t2, hM0]; exact y4⟩
      · obtain ⟨z1, z2, S9, z3, z4⟩ := hring j (by omega)
        refine ⟨z1.up (by omega), by rw [hM0]; exact z2, S9, ?_, z4⟩
        rw [hQ, ← z3]
        congr 1
        omega
      · rw [t3]
        rcases h7 s hs with ⟨y1, y2⟩ | ⟨y1, y2, K, y3, y4, S9, y5, y6⟩
        · exact Or.inl ⟨y1, by rw [hM0]; exact y2⟩
        · exact Or.inr ⟨y1, by rw [hM0]; exact y2, K, y3.up (by omega), by rw [hM0]; exact y4, S9, by rw [hQ]; exact y5, y6⟩
    have hy : (if nI a = 0 then bd (f_X2_refused M 1) fun x => (match x with | (v_1, q_2) => if v_1 = 0 then (nm ((m_act q_2) - 1) fun v_5 => nm (mu_act q_2 v_5) fun q_6 => bd (f_X2_copy 896 64 (m_dia q_6) (m_now q_6) (64 * (m_act q_6)) 0 64) fun q_7 => nm (mu_now q_6 q_7) fun q_9 => some ((m_act q_9), q_9)) else (some (0, q_2))) else bd (f_X2_refused M 0) fun x => (match x with | (v_1, q_2) => if v_1 = 0 then (nm ((m_act q_2) - 1) fun v_5 => nm (mu_act q_2 v_5) fun q_6 => bd (f_X2_copy 896 64 (m_dia q_6) (m_now q_6) (64 * (m_act q_6)) 0 64) fun q_7 => nm (mu_now q_6 q_7) fun q_9 => some ((m_act q_9), q_9)) else (some (0, q_2)))) = some (nI (a - 1), mu_now (mu_act M0 (nI (a - 1))) nw) := by
      rw [if_neg (by rw [L0, nI_iff (by omega) (by omega)]; exact e), refused_0, bd_some]
      dsimp only
      rw [if_pos rfl, ← hM0, j3, L1, pk_sub (by omega), nm_e2, nm_e2, j2, j4, show (64 : Int32) = nI 64 from rfl, pk_mul, L0, d1, bd_some, nm_e2]
      have j5 : m_act (mu_now (mu_act M0 (nI (a - 1))) nw) = nI (a - 1) := by
        obtain ⟨a1, a2, a3, a4, a5, a6, a7, a8, a9, a10, a11, a12, a13, a14, a15⟩ := M0
        rfl
      rw [j5]
    have hrf : m_ref (mu_now (mu_act M0 (nI (a - 1))) nw) = 0 := by
      have j8 : m_ref M0 = 0 := by rw [hM0]; rfl
      obtain ⟨a1, a2, a3, a4, a5, a6, a7, a8, a9, a10, a11, a12, a13, a14, a15⟩ := M0
      exact j8
    rw [if_neg (by rw [L0, nI_iff (by omega) (by omega)]; exact e), hnws, gb_in (by omega) (by omega), nI_cl (by omega), hsq, c2, bd_some]
    by_cases e2 : w = 0
    · rw [if_pos (by rw [L0, nI_leF (by omega) (by omega)]; omega), nm_e2]
      have t4 : tr_rcn (tu_nws T 13) = nI a := hrcn
      rw [t4, L1, pk_sub (by omega), nm_e2, nm_e2]
      exact Or.inl ⟨nI (a - 1), tu_rcn (tu_nws T 13) (nI (a - 1)), N', uq Q (3 + w) S, mu_now (mu_act M0 (nI (a - 1))) nw, rfl, hy, hrf, inv_und M0 (inv _ rfl rfl rfl rfl (by subst e2; rfl))⟩
    · rw [if_neg (by rw [L0, nI_leF (by omega) (by omega)]; omega), L1, pk_sub (by omega), nm_e2, nm_e2]
      have t4 : tr_rcn (tu_nws T (nI (w - 1))) = nI a := hrcn
      rw [t4, pk_sub (by omega), nm_e2, nm_e2]
      exact Or.inl ⟨nI (a - 1), tu_rcn (tu_nws T (nI (w - 1))) (nI (a - 1)), N', uq Q (3 + w) S, mu_now (mu_act M0 (nI (a - 1))) nw, rfl, hy, hrf, inv_und M0 (inv _ rfl rfl rfl rfl (by show nI (w - 1) = _; congr 1; omega))⟩
theorem slt {p : Int32} : (f_X1_checkSlot p = some (.inl xB) ∧ f_X2_in p.toInt64 0 1 = some 0) ∨ ∃ s, s < 2 ∧ p = nI s ∧ f_X1_checkSlot p = some (.inr ()) ∧ f_X2_in p.toInt64 0 1 = some 1 := by
  unfold f_X1_checkSlot
  rcases rng (p := p) (lo := 0) (hi := 1) (a := 0) (b := 1) (by decide) (by decide) with ⟨e1, e2⟩ | ⟨h0, h9, e1, e2⟩
  · refine Or.inl ⟨?_, e2⟩
    by_cases x : p < 0
    · rw [if_pos x]
    · rw [if_neg x, if_neg]
      intro y
      have z : p ≤ 1 := by
        have y1 := Int32.lt_iff_toInt_lt.mp y
        rw [Int32.le_iff_toInt_le]
        have e8 : (2 : Int32).toInt = 2 := by decide
        have e9 : (1 : Int32).toInt = 1 := by decide
        omega
      unfold f_X1_checkRange at e1
      rw [if_neg x, if_pos z] at e1
      cases e1
  · obtain ⟨s, hs, rfl⟩ := nI_of2 (n := 1) (by decide) (Int32.not_lt.mpr h0) h9
    refine Or.inr ⟨s, by omega, rfl, ?_, e2⟩
    rw [if_neg (Int32.not_lt.mpr h0), if_pos (by rw [L2, nI_ltF (by omega) (by omega)]; omega)]
theorem b1 : vp_nar .boolean 1 = 1 := by decide
theorem q_save (h : INV c T N Q M) {p : Int32} : (∃ v T' Q' M', f_X1_save T N Q p = some (.inr (v, T', Q')) ∧ f_X2_save M p = some (v, M') ∧ m_ref M' = 0 ∧ INV (c + 1) T' N Q' M') ∨ (f_X1_save T N Q p = some (.inl xB) ∧ f_X2_save M p = some (0, mu_ref M 1)) := by
  obtain ⟨n, R, h1, h2, h3, h4, h5, ⟨a, ds, hr⟩, h7⟩ := id h
  obtain ⟨⟨n2, n6⟩, hge, -⟩ := id h4.1
  unfold f_X1_save f_X2_save f_X2_save_16
  rcases slt (p := p) with ⟨e1, e2⟩ | ⟨s, hs, rfl, e1, e2⟩
  · refine Or.inr ⟨by rw [e1, bx_e], ?_⟩
    rw [e2, bd_some, if_pos rfl, refused_1 (by decide), bd_some]
    rfl
  · obtain ⟨S', c2, a2⟩ := s_copy (S := sq Q (17 + s)) h3 n6
    obtain ⟨M0, hM0⟩ : ∃ y, y = mu_ref M 0 := ⟨_, rfl⟩
    have g1 : m_now (mu_isk M0 (upd (m_isk M0) s 1)) = m_now M := by rw [hM0]; rfl
    have g2 : m_kep (mu_isk M0 (upd (m_isk M0) s 1)) = m_kep M := by rw [hM0]; rfl
    obtain ⟨kp, d1, d2, d3⟩ := r_cpy (f := m_now M) (lf := 64) (lt := 128) (a := 0) (b := 64 * s) (m := 64) (by omega) (by omega) (by omega) (by omega) (by omega) (m_kep M)
    refine Or.inl ⟨nI (R 53), tu_fil T (upd (tr_fil T) s 1), uq Q (17 + s) S', mu_kep (mu_isk M0 (upd (m_isk M0) s 1)) kp, ?_, ?_, ?_, inv_sav M0 ?_⟩
    · rw [e1, bx_r, gb_in (by omega) (by omega), nI_cl (by omega), c2, bd_some, gb_in (by omega) (by omega), b1, nm_e2, h3.2.1]
    · rw [e2, bd_some, if_neg (by decide), refused_0, bd_some]
      dsimp only
      rw [if_pos rfl, ← hM0, gb_in (by omega) (by omega), nI_cl (by omega), b1, nm_e2, g1, g2, show (64 : Int32) = nI 64 from rfl, pk_mul, L0, d1, bd_some, nm_e2]
      have g3 : m_now (mu_kep (mu_isk M0 (upd (m_isk M0) s 1)) kp) 53 = nI (R 53) := by
        have : m_now M0 53 = nI (R 53) := by rw [hM0]; exact h2 53 (by omega)
        obtain ⟨a1, a2, a3, a4, a5, a6, a7, a8, a9, a10, a11, a12, a13, a14, a15⟩ := M0
        exact this
      rw [g3]
    · have : m_ref M0 = 0 := by rw [hM0]; rfl
      obtain ⟨a1, a2, a3, a4, a5, a6, a7, a8, a9, a10, a11, a12, a13, a14, a15⟩ := M0
      exact this
    · obtain ⟨a14, hact, hrcn, w, hw14, hnws, hring⟩ := hr
      refine ⟨n, R, by rw [hM0]; exact h1, by rw [hM0]; exact h2, h3, h4.up (by omega), by rw [hM0]; exact h5, ⟨a, ds, a14, by rw [hM0]; exact hact, hrcn, w, hw14, hnws, fun j hj => ?_⟩, fun z hz => ?_⟩
      · obtain ⟨z1, z2, S9, z3, z4⟩ := hring j (by omega)
        exact ⟨z1.up (by omega), by rw [hM0]; exact z2, S9, by rw [uq_o (by omega)]; exact z3, z4⟩
      · have hk : m_isk M0 = m_isk M := by rw [hM0]; rfl
        rw [hk]
        show ((upd (tr_fil T) s 1) z = 0 ∧ _) ∨ ((upd (tr_fil T) s 1) z = 1 ∧ _)
        unfold upd
        by_cases e : z = s
        · rw [if_pos e, if_pos e]
          refine Or.inr ⟨rfl, rfl, R, h4.up (by omega), fun k hk => ?_, S', by rw [e, uq_s], a2⟩
          rw [e, d2 k hk, Nat.zero_add]
          exact h2 k hk
        · rw [if_neg e, if_neg e]
          rcases h7 z hz with ⟨y1, y2⟩ | ⟨y1, y2, K, y3, y4, S9, y5, y6⟩
          · exact Or.inl ⟨y1, y2⟩
          · exact Or.inr ⟨y1, y2, K, y3.up (by omega), fun k hk => by rw [d3 _ (by omega)]; exact y4 k hk, S9, by rw [uq_o (by omega)]; exact y5, y6⟩
theorem q_restore (h : INV c T N Q M) {p : Int32} : aO c M [(xB, 1), (xS, 2)] (f_X1_restore T N Q p) (f_X2_restore M p) := by
  obtain ⟨n, R, h1, h2, h3, h4, h5, ⟨a, ds, hr⟩, h7⟩ := id h
  obtain ⟨⟨n2, n6⟩, hge, -⟩ := id h4.1
  unfold f_X1_restore f_X2_restore f_X2_restore_29
  rcases slt (p := p) with ⟨e1, e2⟩ | ⟨s, hs, rfl, e1, e2⟩
  · refine Or.inr ⟨xB, 1, by decide, by rw [e1, bx_e], ?_⟩
    rw [e2, bd_some, if_pos rfl, refused_1 (by decide), bd_some]
    rfl
  · rw [e1, e2, bx_r, bd_some, if_neg (show ¬ (1 : Int32) = 0 by decide), gb_in (by omega) (by omega), gb_in (by omega) (by omega), gb_in (by omega) (by omega), nI_cl (by omega)]
    rcases h7 s hs with ⟨y1, y2⟩ | ⟨y1, y2, K, y3, y4, S9, y5, y6⟩
    · rw [y1, y2, if_pos rfl, if_pos rfl]
      refine Or.inr ⟨xS, 2, by decide, rfl, ?_⟩
      rw [refused_1 (by decide), bd_some]
      rfl
    · rw [y1, y2, if_neg (by decide), if_neg (by decide)]
      have hsq : sq Q (17 + s) = S9 := by unfold sq; rw [y5]; rfl
      obtain ⟨N', c2, a2⟩ := s_copy (S := N) y6 n6
      obtain ⟨M0, hM0⟩ : ∃ y, y = mu_ref M 0 := ⟨_, rfl⟩
      obtain ⟨nw, d1, d2, -⟩ := r_cpy (f := m_kep M) (lf := 128) (lt := 64) (a := 64 * s) (b := 0) (m := 64) (by omega) (by omega) (by omega) (by omega) (by omega) (m_now M0)
      have hRR : RR nw K := fun k hk => by
        have := d2 k hk
        rw [Nat.zero_add] at this
        rw [this]
        exact y4 k hk
      have hQ : ∀ i, uq Q (17 + s) S9 i = Q i := fun i => by
        by_cases hi : i = 17 + s
        · rw [hi, uq_s, y5]
        · rw [uq_o hi]
      refine Or.inl ⟨nI (K 53), tu_rcn T 0, N', uq Q (17 + s) S9, mu_act (mu_now M0 nw) 0, ?_, ?_, ?_, inv_und2 M0 ?_⟩
      · rw [hsq, c2, bd_some, nm_e2, a2.2.1]
      · rw [refused_0, bd_some]
        dsimp only
        have g2 : m_kep M0 = m_kep M := by rw [hM0]; rfl
        rw [if_pos rfl, ← hM0, g2, show (64 : Int32) = nI 64 from rfl, pk_mul, L0, d1, bd_some, nm_e2, nm_e2]
        have g3 : m_now (mu_act (mu_now M0 nw) (nI 0)) 53 = nI (K 53) := by
          have : nw 53 = nI (K 53) := hRR 53 (by omega)
          obtain ⟨a1, a2, a3, a4, a5, a6, a7, a8, a9, a10, a11, a12, a13, a14, a15⟩ := M0
          exact this
        rw [g3]
      · have : m_ref M0 = 0 := by rw [hM0]; rfl
        obtain ⟨a1, a2, a3, a4, a5, a6, a7, a8, a9, a10, a11, a12, a13, a14, a15⟩ := M0
        exact this
      · obtain ⟨a14, hact, hrcn, w, hw14, hnws, hring⟩ := hr
        refine ⟨n, K, by rw [hM0]; exact h1, hRR, a2, y3.up (by omega), by rw [hM0]; exact h5, ⟨0, ds, by omega, rfl, rfl, w, hw14, hnws, fun j hj => by omega⟩, fun z hz => ?_⟩
        rcases h7 z hz with ⟨y1, y2⟩ | ⟨y1, y2, K9, y3, y4, S8, y5, y6⟩
        · exact Or.inl ⟨y1, by rw [hM0]; exact y2⟩
        · exact Or.inr ⟨y1, by rw [hM0]; exact y2, K9, y3.up (by omega), by rw [hM0]; exact y4, S8, by rw [hQ]; exact y5, y6⟩
end AD
