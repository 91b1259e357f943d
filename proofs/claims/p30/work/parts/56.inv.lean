/-! the invariant: what both hold after so many calls -/
def okR (c n : Nat) (R : Nat → Nat) : Prop := GN n R ∧ R 53 ≤ 99 * c ∧ R 54 ≤ 98901 * c
theorem okR.up {c c' n : Nat} {R : Nat → Nat} (h : okR c n R) (hc : c ≤ c') : okR c' n R := by
  obtain ⟨h1, h2, h3⟩ := h
  exact ⟨h1, by omega, by omega⟩
def TxC (scs : Int32) (scr : Nat → Int32) (T : TrV) (L : Nat) (C : Nat → Nat) : Prop := scs = nI L ∧ tr_tln T = nI L ∧ L ≤ 120 ∧ ∀ k, k < L → scr k = nI (C k) ∧ tr_txt T k = nI (C k) ∧ C k ≤ 255
def RingC (c n : Nat) (T : TrV) (Q : PoV) (dia : Nat → Int32) (act : Int32) (a : Nat) (ds : Nat → Nat → Nat) : Prop :=
  a ≤ 14 ∧ act = nI a ∧ tr_rcn T = nI a ∧ ∃ w, w < 14 ∧ tr_nws T = nI w ∧ ∀ j, j < a → okR c n (ds j) ∧ (∀ k, k < 64 → dia (64 * j + k) = nI (ds j k)) ∧ ∃ S, Q (3 + (w + 15 + j - a) % 14) = some S ∧ AgS n 0 S (ds j)
def SlotC (c n : Nat) (T : TrV) (Q : PoV) (kep isk : Nat → Int32) : Prop :=
  ∀ s, s < 2 → (tr_fil T s = 0 ∧ isk s = 0) ∨ (tr_fil T s = 1 ∧ isk s = 1 ∧ ∃ K, okR c n K ∧ (∀ k, k < 64 → kep (64 * s + k) = nI (K k)) ∧ ∃ S, Q (17 + s) = some S ∧ AgS n 0 S K)
def INVc (c : Nat) (T : TrV) (N : StV) (Q : PoV) (mn : Int32) (now dia : Nat → Int32) (act : Int32) (kep isk : Nat → Int32) (scs : Int32) (scr : Nat → Int32) : Prop :=
  ∃ n R, mn = nI n ∧ RR now R ∧ AgS n 0 N R ∧ okR c n R ∧ (∃ L C, TxC scs scr T L C) ∧ (∃ a ds, RingC c n T Q dia act a ds) ∧ SlotC c n T Q kep isk
def INV (c : Nat) (T : TrV) (N : StV) (Q : PoV) (M : MdV) : Prop := INVc c T N Q (m_n M) (m_now M) (m_dia M) (m_act M) (m_kep M) (m_isk M) (m_scs M) (m_scr M)
theorem RingC.up {c c' n a : Nat} {T : TrV} {Q : PoV} {dia : Nat → Int32} {act : Int32} {ds : Nat → Nat → Nat} (h : RingC c n T Q dia act a ds) (hc : c ≤ c') : RingC c' n T Q dia act a ds := by
  obtain ⟨h1, h2, h3, w, h4, h5, h6⟩ := h
  exact ⟨h1, h2, h3, w, h4, h5, fun j hj => ⟨(h6 j hj).1.up hc, (h6 j hj).2⟩⟩
theorem SlotC.up {c c' n : Nat} {T : TrV} {Q : PoV} {kep isk : Nat → Int32} (h : SlotC c n T Q kep isk) (hc : c ≤ c') : SlotC c' n T Q kep isk := by
  intro s hs
  rcases h s hs with h | ⟨h1, h2, K, h3, h4⟩
  · exact Or.inl h
  · exact Or.inr ⟨h1, h2, K, h3.up hc, h4⟩
theorem INV.up {c c' : Nat} {T : TrV} {N : StV} {Q : PoV} {M : MdV} (h : INV c T N Q M) (hc : c ≤ c') : INV c' T N Q M := by
  obtain ⟨n, R, h1, h2, h3, h4, h5, ⟨a, ds, h6⟩, h7⟩ := h
  exact ⟨n, R, h1, h2, h3, h4.up hc, h5, ⟨a, ds, h6.up hc⟩, h7.up hc⟩
theorem INV.rel {c : Nat} {T : TrV} {N : StV} {Q : PoV} {M : MdV} (h : INV c T N Q M) (hc : c ≤ 600) : ∃ n R, RelN M N n R ∧ okR c n R := by
  obtain ⟨n, R, h1, h2, h3, h4, h5, h6, h7⟩ := h
  exact ⟨n, R, ⟨h1, h2, h3, h4.1, by have := h4.2.1; omega⟩, h4⟩
/-! copying, in general -/
theorem r_cpy_3 {f : Nat → Int32} {lf lt a b m : Nat} (ha : a + m ≤ lf) (hb : b + m ≤ lt) (hf : lf < 2147483648) (ht : lt < 2147483648) (t0 : Nat → Int32) : ∀ (fu j : Nat) (t : Nat → Int32), j ≤ m → m - j < fu → (∀ k, k < j → t (b + k) = f (a + k)) → (∀ k, (k < b ∨ b + m ≤ k) → t k = t0 k) → ∃ t', f_X2_copy_3 f lf lt (nI a) (nI b) (nI m) fu (nI j) t = some t' ∧ (∀ k, k < m → t' (b + k) = f (a + k)) ∧ ∀ k, (k < b ∨ b + m ≤ k) → t' k = t0 k
  | 0, j, t, _, h, _, _ => by omega
  | fu + 1, j, t, hj, h, h1, h2 => by
    rw [f_X2_copy_3]
    by_cases e : j = m
    · subst e
      rw [if_pos ((nI_leF (by omega) (by omega)).mpr (Nat.le_refl _))]
      exact ⟨t, rfl, h1, h2⟩
    · rw [if_neg (by rw [nI_leF (by omega) (by omega)]; omega), nI_add, nI_add, gb_in (by omega) (by omega), gb_in (by omega) (by omega), nI_cl (by omega), nI_cl (by omega), nm_e2, nI_s1]
      refine r_cpy_3 ha hb hf ht t0 fu (j + 1) _ (by omega) (by omega) (fun k hk => ?_) fun k hk => ?_
      · unfold upd
        by_cases e2 : k = j
        · rw [if_pos (by omega), e2]
        · rw [if_neg (by omega)]; exact h1 k (by omega)
      · unfold upd
        rw [if_neg (by omega)]
        exact h2 k hk
theorem r_cpy {f : Nat → Int32} {lf lt a b m : Nat} (ha : a + m ≤ lf) (hb : b + m ≤ lt) (hf : lf < 2147483648) (ht : lt < 2147483648) (hm : m < 2000) (t : Nat → Int32) : ∃ t', f_X2_copy lf lt f t (nI a) (nI b) (nI m) = some t' ∧ (∀ k, k < m → t' (b + k) = f (a + k)) ∧ ∀ k, (k < b ∨ b + m ≤ k) → t' k = t k :=
  r_cpy_3 ha hb hf ht t 2000 0 t (by omega) (by omega) (fun k hk => by omega) fun _ _ => rfl
theorem r_cpS_3 {f : Nat → Int32} : ∀ (fu j : Nat) (t : Nat → Int32), j ≤ 832 → 832 - j < fu → (∀ k, k < j → t k = f (64 + k)) → (∀ k, j ≤ k → t k = f k) → ∃ t', f_X2_copyS_3 896 (nI 64) (nI 0) (nI 832) fu (nI j) t = some t' ∧ ∀ k, k < 832 → t' k = f (64 + k)
  | 0, j, t, _, h, _, _ => by omega
  | fu + 1, j, t, hj, h, h1, h2 => by
    rw [f_X2_copyS_3]
    by_cases e : j = 832
    · subst e
      rw [if_pos ((nI_leF (by omega) (by omega)).mpr (Nat.le_refl _))]
      exact ⟨t, rfl, h1⟩
    · rw [if_neg (by rw [nI_leF (by omega) (by omega)]; omega), nI_add, nI_add, Nat.zero_add, gb_in (by omega) (by omega), gb_in (by omega) (by omega), nI_cl (by omega), nI_cl (by omega), nm_e2, nI_s1]
      refine r_cpS_3 fu (j + 1) _ (by omega) (by omega) (fun k hk => ?_) fun k hk => ?_
      · unfold upd
        by_cases e2 : k = j
        · rw [if_pos e2, e2]; exact h2 _ (by omega)
        · rw [if_neg e2]; exact h1 k (by omega)
      · unfold upd
        rw [if_neg (by omega)]
        exact h2 k (by omega)
theorem r_cpS (f : Nat → Int32) : ∃ t', f_X2_copyS 896 f (nI 64) (nI 0) (nI 832) = some t' ∧ ∀ k, k < 832 → t' k = f (64 + k) :=
  r_cpS_3 2000 0 f (by omega) (by omega) (fun k hk => by omega) fun _ _ => rfl
/-! an action is remembered -/
theorem r_note36 {M : MdV} {a : Nat} (ha : m_act M = nI a) (h13 : a ≤ 13) : ∃ q, f_X2_note_36 M = some (mu_act (mu_dia M q) (nI (a + 1))) ∧ (∀ k, k < 64 → q (64 * a + k) = m_now M k) ∧ ∀ k, k < 64 * a → q k = m_dia M k := by
  obtain ⟨q, h1, h2, h3⟩ := r_cpy (f := m_now M) (lf := 64) (lt := 896) (a := 0) (b := 64 * a) (m := 64) (by omega) (by omega) (by omega) (by omega) (by omega) (m_dia M)
  refine ⟨q, ?_, fun k hk => by rw [h2 k hk, Nat.zero_add], fun k hk => h3 k (Or.inl hk)⟩
  unfold f_X2_note_36
  have e1 : (64 : Int32) * m_act M = nI (64 * a) := by rw [ha, show (64 : Int32) = nI 64 from rfl, pk_mul]
  rw [e1, L0, show (64 : Int32) = nI 64 from rfl, h1, bd_some, nm_e2]
  have e2 : m_act (mu_dia M q) = nI a := ha
  rw [e2, nI_s1, nm_e2, nm_e2]
theorem r_note {M : MdV} {c n a : Nat} {T : TrV} {Q : PoV} {R : Nat → Nat} {ds : Nat → Nat → Nat} (hr : RR (m_now M) R) (h : RingC c n T Q (m_dia M) (m_act M) a ds) (hok : okR c n R) :
    ∃ (q : Nat → Int32) (ds' : Nat → Nat → Nat), f_X2_note M = some (mu_act (mu_dia M q) (nI (min (a + 1) 14))) ∧ (∀ j, j < min (a + 1) 14 → ∀ k, k < 64 → q (64 * j + k) = nI (ds' j k)) ∧ ds' (min (a + 1) 14 - 1) = R ∧ ∀ j, j < min (a + 1) 14 - 1 → ds' j = ds (j + (a + 1 - min (a + 1) 14)) := by
  obtain ⟨h1, h2, h3, w, h4, h5, h6⟩ := h
  by_cases e : a = 14
  · subst e
    obtain ⟨q1, g1, g2⟩ := r_cpS (m_dia M)
    have ha : m_act (mu_act (mu_dia M q1) (nI 13)) = nI 13 := rfl
    obtain ⟨q2, k1, k2, k3⟩ := r_note36 (M := mu_act (mu_dia M q1) (nI 13)) (a := 13) ha (by omega)
    refine ⟨q2, fun j => if j = 13 then R else ds (j + 1), ?_, ?_, rfl, ?_⟩
    · unfold f_X2_note
      rw [h2, if_pos (by decide), show (64 : Int32) = nI 64 from rfl, L0, show (832 : Int32) = nI 832 from rfl, g1, bd_some, nm_e2]
      have e2 : m_act (mu_dia M q1) = nI 14 := h2
      rw [e2, L1, pk_sub (by omega), nm_e2, nm_e2]
      exact k1.trans (by obtain ⟨a1, a2, a3, a4, a5, a6, a7, a8, a9, a10, a11, a12, a13, a14, a15⟩ := M; rfl)
    · intro j hj k hk
      show q2 (64 * j + k) = nI ((if j = 13 then R else ds (j + 1)) k)
      by_cases e3 : j = 13
      · rw [if_pos e3, e3, k2 k hk]
        exact hr k hk
      · rw [if_neg e3, k3 _ (by omega)]
        show q1 (64 * j + k) = _
        rw [g2 _ (by omega), show 64 + (64 * j + k) = 64 * (j + 1) + k by omega]
        exact (h6 (j + 1) (by omega)).2.1 k hk
    · intro j hj
      show (if j = 13 then R else ds (j + 1)) = _
      rw [if_neg (by omega), show j + (14 + 1 - min (14 + 1) 14) = j + 1 by omega]
  · obtain ⟨q2, k1, k2, k3⟩ := r_note36 (M := M) h2 (by omega)
    refine ⟨q2, fun j => if j = a then R else ds j, ?_, ?_, ?_, ?_⟩
    · unfold f_X2_note
      rw [h2, if_neg (by rw [show (14 : Int32) = nI 14 from rfl, nI_iff (by omega) (by omega)]; exact e), k1, Nat.min_eq_left (by omega)]
    · intro j hj k hk
      show q2 (64 * j + k) = nI ((if j = a then R else ds j) k)
      by_cases e3 : j = a
      · rw [if_pos e3, e3, k2 k hk]
        exact hr k hk
      · rw [if_neg e3, k3 _ (by omega)]
        exact (h6 j (by omega)).2.1 k hk
    · show (if min (a + 1) 14 - 1 = a then R else _) = R
      rw [if_pos (by omega)]
    · intro j hj
      show (if j = a then R else ds j) = _
      rw [if_neg (by omega), show j + (a + 1 - min (a + 1) 14) = j by omega]
theorem uq_o {Q : PoV} {i j : Nat} {S : StV} (h : j ≠ i) : uq Q i S j = Q j := by simp [uq, h]
theorem uq_s {Q : PoV} {i : Nat} {S : StV} : uq Q i S i = some S := by simp [uq]
theorem s_rem {T : TrV} {N : StV} {Q : PoV} {n a w : Nat} {R : Nat → Nat} (hA : AgS n 0 N R) (hn : n ≤ 6) (ha : tr_rcn T = nI a) (ha14 : a ≤ 14) (hw : tr_nws T = nI w) (hw14 : w < 14) :
    ∃ T' S', f_X1_remember T N Q = some (.inr (T', uq Q (3 + (w + 1) % 14) S')) ∧ AgS n 0 S' R ∧ tr_nws T' = nI ((w + 1) % 14) ∧ tr_rcn T' = nI (min (a + 1) 14) ∧ tr_tln T' = tr_tln T ∧ tr_txt T' = tr_txt T ∧ tr_fil T' = tr_fil T := by
  have key : ∀ w', w' < 14 → ∃ T' S', (nm (tu_nws T (nI w')) fun q_12 => gb (inb (tr_nws q_12) 14) <| bd (f_X0_copyFrom (sq Q (3 + (tr_nws q_12).toNatClampNeg)) N) fun q_16 => if 14 ≤ (tr_rcn q_12) then (some (.inr (q_12, uq Q (3 + (tr_nws q_12).toNatClampNeg) q_16))) else (nm ((tr_rcn q_12) + 1) fun v_19 => nm (tu_rcn q_12 v_19) fun q_20 => some (.inr (q_20, uq Q (3 + (tr_nws q_12).toNatClampNeg) q_16)))) = (some (.inr (T', uq Q (3 + w') S')) : Option (String ⊕ (TrV × PoV))) ∧ AgS n 0 S' R ∧ tr_nws T' = nI w' ∧ tr_rcn T' = nI (min (a + 1) 14) ∧ tr_tln T' = tr_tln T ∧ tr_txt T' = tr_txt T ∧ tr_fil T' = tr_fil T := by
    intro w' hw'
    have e1 : tr_nws (tu_nws T (nI w')) = nI w' := rfl
    have e2 : tr_rcn (tu_nws T (nI w')) = nI a := ha
    rw [nm_e2, e1, e2, gb_in (by omega) (by omega), nI_cl (by omega)]
    obtain ⟨S', c1, c2⟩ := s_copy (S := sq Q (3 + w')) hA hn
    rw [c1, bd_some]
    by_cases e3 : 14 ≤ a
    · rw [if_pos (by rw [show (14 : Int32) = nI 14 from rfl, nI_leF (by omega) (by omega)]; exact e3)]
      exact ⟨_, S', rfl, c2, rfl, by rw [e2]; congr 1; omega, rfl, rfl, rfl⟩
    · rw [if_neg (by rw [show (14 : Int32) = nI 14 from rfl, nI_leF (by omega) (by omega)]; exact e3), nI_s1, nm_e2, nm_e2]
      exact ⟨_, S', rfl, c2, rfl, by rw [show min (a + 1) 14 = a + 1 by omega]; rfl, rfl, rfl, rfl⟩
  unfold f_X1_remember
  rw [hw, nI_s1]
  by_cases e : 14 ≤ w + 1
  · rw [if_pos (by rw [show (14 : Int32) = nI 14 from rfl, nI_leF (by omega) (by omega)]; exact e), show (w + 1) % 14 = 0 by omega]
    exact key 0 (by omega)
  · rw [if_neg (by rw [show (14 : Int32) = nI 14 from rfl, nI_leF (by omega) (by omega)]; exact e), show (w + 1) % 14 = w + 1 by omega, nm_e2]
    exact key (w + 1) (by omega)
/-- both remember; what comes then keeps the invariant -/
theorem q_remember {c : Nat} {T : TrV} {N : StV} {Q : PoV} {M : MdV} {n : Nat} {R : Nat → Nat} (h1 : m_n M = nI n) (h2 : RR (m_now M) R) (h3 : AgS n 0 N R) (h4 : okR c n R) (h5 : ∃ L C, TxC (m_scs M) (m_scr M) T L C) (h6 : ∃ a ds, RingC c n T Q (m_dia M) (m_act M) a ds) (h7 : SlotC c n T Q (m_kep M) (m_isk M)) :
    ∃ T' Q' q x, f_X1_remember T N Q = some (.inr (T', Q')) ∧ f_X2_note M = some (mu_act (mu_dia M q) x) ∧ ∀ N' R' now', AgS n 0 N' R' → okR (c + 1) n R' → RR now' R' → INVc (c + 1) T' N' Q' (m_n M) now' q x (m_kep M) (m_isk M) (m_scs M) (m_scr M) := by
  obtain ⟨a, ds, hr⟩ := h6
  obtain ⟨q, ds', g1, g2, g3, g4⟩ := r_note h2 hr h4
  obtain ⟨a14, hact, hrcn, w, hw14, hnws, hring⟩ := hr
  obtain ⟨T', S', k1, k2, k3, k4, k5, k6, k7⟩ := s_rem (Q := Q) h3 h4.1.1.2 hrcn a14 hnws hw14
  refine ⟨T', _, q, _, k1, g1, fun N' R' now' b1 b2 b3 => ⟨n, R', h1, b3, b1, b2, ?_, ⟨min (a + 1) 14, ds', by omega, rfl, k4, (w + 1) % 14, by omega, k3, fun j hj => ?_⟩, ?_⟩⟩
  · obtain ⟨L, C, t1, t2, t3, t4⟩ := h5
    exact ⟨L, C, t1, by rw [k5]; exact t2, t3, by rw [k6]; exact t4⟩
  · by_cases e : j = min (a + 1) 14 - 1
    · subst e
      refine ⟨by rw [g3]; exact h4.up (by omega), g2 _ hj, S', ?_, by rw [g3]; exact k2⟩
      rw [show 3 + ((w + 1) % 14 + 15 + (min (a + 1) 14 - 1) - min (a + 1) 14) % 14 = 3 + (w + 1) % 14 by omega]
      exact uq_s
    · have e2 := g4 j (by omega)
      obtain ⟨r1, r2, S9, r3, r4⟩ := hring (j + (a + 1 - min (a + 1) 14)) (by omega)
      refine ⟨by rw [e2]; exact r1.up (by omega), g2 j hj, S9, ?_, by rw [e2]; exact r4⟩
      rw [uq_o (by omega), ← r3]
      congr 1
      omega
  · intro s hs
    rcases h7 s hs with ⟨t1, t2⟩ | ⟨t1, t2, K, t3, t4, S9, t5, t6⟩
    · exact Or.inl ⟨by rw [k7]; exact t1, t2⟩
    · exact Or.inr ⟨by rw [k7]; exact t1, t2, K, t3.up (by omega), t4, S9, by rw [uq_o (by omega)]; exact t5, t6⟩
