/-! the reference's best turns -/
section T4
variable {M : MdV} {n : Nat} {R : Nat → Nat}
theorem r_t103 (hm : m_n M = nI n) {d t vap dn : Nat} {tr f s : Nat → Int32} (hr : RR tr (chR R d)) (hg : GN n R) (hd : d ≤ n) (hc : R 53 + 5 < 2147483648) (ht : t ≤ 2) (K : Int32 → Int32 → Int32 → MdV → Option (Int32 × MdV)) :
    ∃ r' f' s', f_X2_turns_103 K (nI ((n + 1) ^ t)) (nI vap) (nI dn) (mu_sal (mu_flo (mu_tri M tr) f) s) = K (nI (if t = 0 then 1 else (n + 1) ^ (t - 1))) (nI (vap + vpC n R d)) (nI (dn + 1)) (mu_sal (mu_flo (mu_tri M r') f') s') ∧ RR r' (nxR5 n R d) := by
  obtain ⟨⟨n2, n6⟩, -⟩ := id hg
  have hm' : m_n (mu_sal (mu_flo (mu_tri M tr) f) s) = nI n := by rw [md_gn]; exact hm
  have hgc := hg.ch hd
  have e53 : chR R d 53 = R 53 := chR_o (by omega) (by omega)
  have e55 : chR R d 55 = R 55 := chR_o (by omega) (by omega)
  have hvp := vpC_le hg hd
  obtain ⟨r', f', s', k1, k2⟩ := r_ticksOn hm' (m := 5) (fl := f) (sa := s) hr hgc (by rw [e53]; omega) (by omega)
  rw [e55, pk_sub (by omega)] at k1
  refine ⟨r', f', s', ?_, k2⟩
  unfold f_X2_turns_103
  have k1' : f_X2_ticksOn (mu_sal (mu_flo (mu_tri M tr) f) s) tr f s 5 = some (nI (vpC n R d), r', f', s') := k1
  rw [md_gt, md_gf, md_gs, k1', bd_some]
  dsimp only
  rw [md_c1, nm_e2, nI_add, nm_e2, md_gn, hm, nI_s1, nI_s1]
  by_cases t0 : t = 0
  · subst t0
    rw [Nat.pow_zero, if_pos (by rw [nI_leF (by omega) (by omega)]; omega), if_pos rfl]
    rfl
  · obtain ⟨t1, rfl⟩ : ∃ t1, t = t1 + 1 := ⟨t - 1, by omega⟩
    have hp : 1 ≤ (n + 1) ^ t1 := Nat.pow_pos (Nat.succ_pos n)
    have hq : (n + 1) ^ t1 ≤ 7 := by
      rcases (show t1 = 0 ∨ t1 = 1 by omega) with z | z <;> rw [z]
      · rw [Nat.pow_zero]; omega
      · rw [Nat.pow_one]; omega
    have e1 : (n + 1) ^ (t1 + 1) = (n + 1) * (n + 1) ^ t1 := by rw [Nat.pow_succ, Nat.mul_comm]
    have h1 := Nat.mul_le_mul_left (n + 1) hp
    have h2 := Nat.mul_le_mul (show n + 1 ≤ 7 by omega) hq
    rw [if_neg (by rw [e1, nI_leF (by omega) (by omega)]; omega), gb_nz (by omega) (by omega), e1, nI_dv (by omega) (by omega) (by omega), Nat.mul_div_cancel_left _ (Nat.succ_pos n), nm_e2, if_neg t0, Nat.add_sub_cancel]
theorem r_t47 {k way : Nat} (hm : m_n M = nI n) (hk : k ≤ 3) (hway : way < 400) : ∀ (t dn fu vap : Nat) (R : Nat → Nat) (tr f s : Nat → Int32), dn + t = k → t < fu → RR tr R → GN n R → R 53 + 5 * t < 2147483648 →
    ∃ t' f' s', f_X2_turns_47 (nI k) (nI way) fu (nI (if t = 0 then 1 else (n + 1) ^ (t - 1))) (nI vap) (nI dn) (mu_sal (mu_flo (mu_tri M tr) f) s) = some (match svN n t R way with
      | none => -9
      | some v => nI (vap + v), mu_sal (mu_flo (mu_tri M t') f') s')
  | t, dn, 0, vap, R, tr, f, s, _, h, _, _, _ => by omega
  | 0, dn, fu + 1, vap, R, tr, f, s, hd, _, hr, hg, _ => by
    rw [f_X2_turns_47, if_pos ((nI_leF (by omega) (by omega)).mpr (by omega))]
    exact ⟨tr, f, s, rfl⟩
  | t + 1, dn, fu + 1, vap, R, tr, f, s, hd, hf, hr, hg, hc => by
    obtain ⟨⟨n2, n6⟩, hge, -⟩ := id hg
    have hp : 1 ≤ (n + 1) ^ t := Nat.pow_pos (Nat.succ_pos n)
    have hq : (n + 1) ^ t ≤ 49 := by
      rcases (show t = 0 ∨ t = 1 ∨ t = 2 by omega) with z | z | z <;> rw [z]
      · rw [Nat.pow_zero]; omega
      · rw [Nat.pow_one]; omega
      · have := Nat.mul_le_mul (show n + 1 ≤ 7 by omega) (show n + 1 ≤ 7 by omega)
        rw [Nat.pow_succ, Nat.pow_one]
        exact this
    obtain ⟨d, hdd⟩ : ∃ d, d = way / (n + 1) ^ t % (n + 1) := ⟨_, rfl⟩
    have hd9 : d < n + 1 := by rw [hdd]; exact Nat.mod_lt _ (Nat.succ_pos n)
    rw [f_X2_turns_47, if_neg (by rw [nI_leF (by omega) (by omega)]; omega), if_neg (show ¬ t + 1 = 0 by omega), Nat.add_sub_cancel, md_gn, hm, nI_s1, gb_nz (by omega) (by omega), gb_nz (by omega) (by omega), nI_dv (by omega) (by omega) (by omega), nI_rm (by have := Nat.div_le_self way ((n + 1) ^ t); omega) (by omega) (by omega), ← hdd, nm_e2, svN, ← hdd, L1]
    have go : ∀ (tr2 : Nat → Int32), RR tr2 (chR R d) → ∃ t' f' s', f_X2_turns_103 (f_X2_turns_47 (nI k) (nI way) fu) (nI ((n + 1) ^ t)) (nI vap) (nI dn) (mu_sal (mu_flo (mu_tri M tr2) f) s) = some (match (svN n t (nxR5 n R d) way).map (fun v => vpC n R d + v) with
        | none => -9
        | some v => nI (vap + v), mu_sal (mu_flo (mu_tri M t') f') s') := by
      intro tr2 hr2
      obtain ⟨r', f', s', k1, k2⟩ := r_t103 (vap := vap) (dn := dn) (t := t) (f := f) (s := s) hm hr2 hg (by omega) (by omega) (by omega) (f_X2_turns_47 (nI k) (nI way) fu)
      have hgn := hg.nx (show d ≤ n by omega)
      have e53 : nxR5 n R d 53 = R 53 + 5 := by
        unfold nxR5
        rw [tkM_53 5 _ (hg.ch (by omega)), chR_o (by omega) (by omega)]
      obtain ⟨t', f2, s2, k3⟩ := r_t47 hm hk hway t (dn + 1) fu (vap + vpC n R d) (nxR5 n R d) r' f' s' (by omega) (by omega) k2 hgn (by omega)
      refine ⟨t', f2, s2, ?_⟩
      rw [k1, k3]
      cases svN n t (nxR5 n R d) way with
      | none => rfl
      | some v =>
        show some (nI (vap + vpC n R d + v), _) = some (nI (vap + (vpC n R d + v)), _)
        rw [Nat.add_assoc]
    by_cases d0 : d = 0
    · have e0 : nI d - nI 1 = (-1 : Int32) := by rw [d0]; decide
      have hok : okC R d := Or.inl d0
      rw [e0, if_pos (by decide), if_pos hok]
      unfold f_X2_turns_87
      rw [if_pos (by decide)]
      exact go tr (by unfold chR; rw [if_pos d0]; exact hr)
    · have hl : R (42 + (d - 1)) ≤ 20 := (hge (d - 1) (by omega)).2.2.2.2.2.2
      rw [pk_sub (by omega), if_neg (nI_pos (lt31 (by omega))), md_gt, r_works hr (by omega) (by omega), bd_some]
      by_cases hw : R (42 + (d - 1)) = 0
      · have hok : okC R d := Or.inr hw
        rw [if_pos hw, if_neg (show ¬ nI 1 = 0 by decide), if_pos hok]
        unfold f_X2_turns_87
        rw [if_neg (nI_pos (lt31 (by omega))), L42, nI_add, gb_in (by omega) (by omega), nI_cl (by omega), md_gt, md_t3, nm_e2]
        refine go _ ?_
        unfold chR
        rw [if_neg d0]
        exact hr.up (42 + (d - 1)) 5
      · have hok : ¬ okC R d := fun z => by
          rcases z with z | z
          · exact d0 z
          · exact hw z
        rw [if_neg hw, if_pos (show nI 0 = 0 from rfl), if_neg hok]
        exact ⟨tr, f, s, rfl⟩
theorem r_t20 {k way : Nat} (hm : m_n M = nI n) (n6 : n ≤ 6) (hk : k ≤ 3) : ∀ (r j fu : Nat), j + 1 + r = k → r < fu → f_X2_turns_20 (nI k) (nI way) fu (nI ((n + 1) ^ j)) (nI (j + 1)) M = f_X2_turns_47 (nI k) (nI way) 2000 (nI ((n + 1) ^ (k - 1))) 0 0 M
  | r, j, 0, _, h => by omega
  | 0, j, fu + 1, hj, _ => by
    rw [f_X2_turns_20, if_pos ((nI_leF (by omega) (by omega)).mpr (by omega)), show k - 1 = j by omega]
  | r + 1, j, fu + 1, hj, hf => by
    rw [f_X2_turns_20, if_neg (by rw [nI_leF (by omega) (by omega)]; omega), hm, nI_s1, pk_mul, ← Nat.pow_succ, nm_e2, nI_s1]
    exact r_t20 hm n6 hk r (j + 1) fu (by omega) (by omega)
theorem r_turns {k way : Nat} (hm : m_n M = nI n) (hr : RR (m_now M) R) (hg : GN n R) (hc : R 53 + 15 < 2147483648) (hk : 1 ≤ k ∧ k ≤ 3) (hway : way < 400) : ∃ t' f' s', f_X2_turns M (nI k) (nI way) = some (match svN n k R way with
      | none => -9
      | some v => nI v, mu_sal (mu_flo (mu_tri M t') f') s') := by
  obtain ⟨⟨n2, n6⟩, hge, -⟩ := id hg
  obtain ⟨t1, d1, b1⟩ := r_copy (t := m_tri M) hr
  have hm' : m_n (mu_tri M t1) = nI n := hm
  unfold f_X2_turns
  have e20 := r_t20 (M := mu_tri M t1) (way := way) hm' n6 hk.2 (k - 1) 0 2000 (by omega) (by omega)
  rw [Nat.pow_zero] at e20
  have e20' : f_X2_turns_20 (nI k) (nI way) 2000 1 1 (mu_tri M t1) = f_X2_turns_47 (nI k) (nI way) 2000 (nI ((n + 1) ^ (k - 1))) 0 0 (mu_tri M t1) := e20
  rw [d1, bd_some, nm_e2, e20']
  obtain ⟨t', f', s', g⟩ := r_t47 (M := M) (k := k) (way := way) hm hk.2 hway k 0 2000 0 R t1 (m_flo M) (m_sal M) (by omega) (by omega) b1 hg (by omega)
  rw [if_neg (by omega), md_tri] at g
  refine ⟨t', f', s', ?_⟩
  have g' : f_X2_turns_47 (nI k) (nI way) 2000 (nI ((n + 1) ^ (k - 1))) 0 0 (mu_tri M t1) = _ := g
  rw [g']
  cases svN n k R way with
  | none => rfl
  | some v =>
    show some (nI (0 + v), _) = _
    rw [Nat.zero_add]
theorem r_b62 {k : Nat} (hm : m_n M = nI n) (hr : RR (m_now M) R) (hg : GN n R) (hc : R 53 + 15 < 2147483648) (hk : 1 ≤ k ∧ k ≤ 3) {u : Int32} : ∀ (r w fu b fo : Nat) (t f s : Nat → Int32), w + r = (n + 1) ^ k → r < fu → IsB (svN n k R) w b fo →
    ∃ best found t' f' s', f_X2_bestTurns_62 (nI k) u fu (nI ((n + 1) ^ k)) (nI b) (nI fo) (nI w) (mu_sal (mu_flo (mu_tri M t) f) s) = some (if u = 0 then nI best else nI (found / (n + 1) ^ (k - 1)) - 1, mu_sal (mu_flo (mu_tri M t') f') s') ∧ IsB (svN n k R) ((n + 1) ^ k) best found := by
  obtain ⟨⟨n2, n6⟩, hge, -⟩ := id hg
  have hp : 1 ≤ (n + 1) ^ (k - 1) := Nat.pow_pos (Nat.succ_pos n)
  have e1 : (n + 1) ^ k = (n + 1) * (n + 1) ^ (k - 1) := by
    obtain ⟨k1, rfl⟩ : ∃ k1, k = k1 + 1 := ⟨k - 1, by omega⟩
    rw [Nat.pow_succ, Nat.mul_comm, Nat.add_sub_cancel]
  have hq : (n + 1) ^ (k - 1) ≤ 49 := by
    rcases (show k - 1 = 0 ∨ k - 1 = 1 ∨ k - 1 = 2 by omega) with z | z | z <;> rw [z]
    · rw [Nat.pow_zero]; omega
    · rw [Nat.pow_one]; omega
    · have := Nat.mul_le_mul (show n + 1 ≤ 7 by omega) (show n + 1 ≤ 7 by omega)
      rw [Nat.pow_succ, Nat.pow_one]
      exact this
  have hB : (n + 1) ^ k ≤ 343 := by
    rw [e1]
    exact Nat.mul_le_mul (show n + 1 ≤ 7 by omega) hq
  have hsv : ∀ w v, svN n k R w = some v → v ≤ 8100 := fun w v h => by
    have h1 := sv_le k R w v h
    have h2 := bsN_le k R hg
    omega
  intro r
  induction r with
  | zero =>
    intro w fu b fo t f s hw hf hI
    obtain ⟨fu', rfl⟩ : ∃ f', fu = f' + 1 := ⟨fu - 1, by omega⟩
    have hwe : w = (n + 1) ^ k := by omega
    refine ⟨b, fo, t, f, s, ?_, by rw [← hwe]; exact hI⟩
    have hfo := hI.1
    rw [f_X2_bestTurns_62, if_pos ((nI_leF (by omega) (by omega)).mpr (by omega)), md_gn, hm, nI_s1]
    by_cases hu : u = 0
    · rw [if_pos hu, if_pos hu]
    · rw [if_neg hu, if_neg hu, gb_nz (by omega) (by omega), nI_dv (by omega) (by omega) (by omega), e1, Nat.mul_div_cancel_left _ (Nat.succ_pos n), gb_nz (by omega) (by omega), nI_dv (by omega) (by omega) (by omega)]
  | succ r ih =>
    intro w fu b fo t f s hw hf hI
    obtain ⟨fu', rfl⟩ : ∃ f', fu = f' + 1 := ⟨fu - 1, by omega⟩
    have hbb := hsv fo b hI.2.1
    have hm' : m_n (mu_sal (mu_flo (mu_tri M t) f) s) = nI n := by rw [md_gn]; exact hm
    have hr' : RR (m_now (mu_sal (mu_flo (mu_tri M t) f) s)) R := by rw [md_gw]; exact hr
    obtain ⟨t1, f1, s1, g⟩ := r_turns (k := k) (way := w) hm' hr' hg hc hk (by omega)
    rw [f_X2_bestTurns_62, if_neg (by rw [nI_leF (by omega) (by omega)]; omega), g, bd_some]
    dsimp only
    rw [md_c1]
    obtain ⟨i1, i2, i3, i4⟩ := id hI
    cases hs : svN n k R w with
    | none =>
      dsimp only
      have hle : (-9 : Int32) ≤ nI b := by
        rw [Int32.le_iff_toInt_le, nI_toInt (lt31 (by omega))]
        have : (-9 : Int32).toInt = -9 := by decide
        omega
      unfold f_X2_bestTurns_91
      rw [if_pos hle, if_pos hle, nI_s1]
      exact ih (w + 1) fu' b fo t1 f1 s1 (by omega) (by omega) ⟨by omega, i2, fun x v hx hv => by
        by_cases e : x = w
        · rw [e, hs] at hv; cases hv
        · exact i3 x v (by omega) hv, i4⟩
    | some v =>
      have hv9 := hsv w v hs
      dsimp only
      unfold f_X2_bestTurns_91
      by_cases hle : v ≤ b
      · have hle' := (nI_leF (a := v) (b := b) (by omega) (by omega)).mpr hle
        rw [if_pos hle', if_pos hle', nI_s1]
        exact ih (w + 1) fu' b fo t1 f1 s1 (by omega) (by omega) ⟨by omega, i2, fun x y hx hy => by
          by_cases e : x = w
          · rw [e, hs] at hy; cases hy; exact hle
          · exact i3 x y (by omega) hy, i4⟩
      · have hle' : ¬ nI v ≤ nI b := fun z => hle ((nI_leF (by omega) (by omega)).mp z)
        rw [if_neg hle', if_neg hle', nI_s1]
        exact ih (w + 1) fu' v w t1 f1 s1 (by omega) (by omega) ⟨by omega, hs, fun x y hx hy => by
          by_cases e : x = w
          · rw [e, hs] at hy; cases hy; omega
          · have := i3 x y (by omega) hy
            omega, fun x y hx hy => by
          have := i3 x y hx hy
          omega⟩
theorem r_b31 {k : Nat} (hm : m_n M = nI n) (n6 : n ≤ 6) (hk : k ≤ 3) {u : Int32} : ∀ (r j fu : Nat), j + r = k → r < fu → f_X2_bestTurns_31 (nI k) u fu (nI ((n + 1) ^ j)) (nI j) M = f_X2_bestTurns_62 (nI k) u 2000 (nI ((n + 1) ^ k)) (-9) 0 0 M
  | r, j, 0, _, h => by omega
  | 0, j, fu + 1, hj, _ => by
    rw [f_X2_bestTurns_31, if_pos ((nI_leF (by omega) (by omega)).mpr (by omega)), show j = k by omega]
  | r + 1, j, fu + 1, hj, hf => by
    rw [f_X2_bestTurns_31, if_neg (by rw [nI_leF (by omega) (by omega)]; omega), hm, nI_s1, pk_mul, ← Nat.pow_succ, nm_e2, nI_s1]
    exact r_b31 hm n6 hk r (j + 1) fu (by omega) (by omega)
theorem q_bestTurns {N : StV} (h : RelN M N n R) {p u : Int32} : (f_X1_checkRange p 1 3 = some (.inl xR) ∧ f_X2_bestTurns M p u = some (0, mu_ref M 1)) ∨ ∃ t, t ≤ 2 ∧ p = nI (t + 1) ∧ ∃ t' f s, f_X2_bestTurns M p u = some (if u = 0 then nI (fsN (ovN n t R) n).1 else nI (fsN (ovN n t R) n).2 - 1, mu_sal (mu_flo (mu_tri (mu_ref M 0) t') f) s) := by
  obtain ⟨hm, hr, hA, hg, hc⟩ := h
  obtain ⟨⟨n2, n6⟩, hge, -⟩ := id hg
  unfold f_X2_bestTurns
  rcases rng (p := p) (lo := 1) (hi := 3) (a := 1) (b := 3) (by decide) (by decide) with ⟨e1, e2⟩ | ⟨h0, h9, e1, e2⟩
  · refine Or.inl ⟨e1, ?_⟩
    rw [e2, bd_some, if_pos rfl, refused_1 (by decide), bd_some]
    rfl
  · obtain ⟨k, hk3, rfl⟩ := nI_of2 (n := 3) (by decide) (Int32.not_lt.mpr (Int32.le_trans (by decide) h0)) h9
    have hk1 : 1 ≤ k := (nI_leF (a := 1) (by omega) (by omega)).mp h0
    obtain ⟨t, rfl⟩ : ∃ t, k = t + 1 := ⟨k - 1, by omega⟩
    refine Or.inr ⟨t, by omega, rfl, ?_⟩
    rw [e2, bd_some, if_neg (show ¬ (1 : Int32) = 0 by decide), refused_0, bd_some]
    dsimp only
    rw [if_pos rfl]
    obtain ⟨M0, hM0⟩ : ∃ y, y = mu_ref M 0 := ⟨_, rfl⟩
    have j1 : m_n M0 = nI n := by rw [hM0]; exact hm
    have j2 : RR (m_now M0) R := by rw [hM0]; exact hr
    rw [← hM0]
    have e31 := r_b31 (M := M0) (u := u) j1 n6 hk3 (t + 1) 0 2000 (by omega) (by omega)
    rw [Nat.pow_zero] at e31
    have e31' : f_X2_bestTurns_31 (nI (t + 1)) u 2000 1 0 M0 = _ := e31
    rw [e31']
    obtain ⟨t1, f1, s1, g⟩ := r_turns (k := t + 1) (way := 0) j1 j2 hg (by omega) ⟨hk1, hk3⟩ (by omega)
    have hs0 : ∀ (t : Nat) (R : Nat → Nat), ∃ v, svN n t R 0 = some v := by
      intro t
      induction t with
      | zero => intro R; exact ⟨0, rfl⟩
      | succ t ih =>
        intro R
        have hok : okC R 0 := Or.inl rfl
        rw [svN, Nat.zero_div, Nat.zero_mod, if_pos hok]
        obtain ⟨v, hv⟩ := ih (nxR5 n R 0)
        rw [hv]
        exact ⟨_, rfl⟩
    obtain ⟨v0, hv0⟩ := hs0 (t + 1) R
    rw [hv0] at g
    dsimp only at g
    have hv9 : v0 ≤ 8100 := by
      have h1 := sv_le (t + 1) R 0 v0 hv0
      have h2 := bsN_le (t + 1) R hg
      omega
    have hp : 1 ≤ (n + 1) ^ (t + 1) := Nat.pow_pos (Nat.succ_pos n)
    have hlt : ∀ x : Nat, 1 ≤ x → x ≤ 400 → ¬ nI x ≤ 0 := fun x h1 h2 => nI_nle (by omega) (lt31 (by omega))
    have hB : (n + 1) ^ (t + 1) ≤ 343 := by
      have h7 : n + 1 ≤ 7 := by omega
      rcases (show t = 0 ∨ t = 1 ∨ t = 2 by omega) with z | z | z <;> rw [z]
      · rw [Nat.zero_add, Nat.pow_one]; omega
      · have := Nat.mul_le_mul h7 h7
        rw [Nat.pow_succ, Nat.pow_one]
        omega
      · have := Nat.mul_le_mul (Nat.mul_le_mul h7 h7) h7
        rw [Nat.pow_succ, Nat.pow_succ, Nat.pow_one]
        omega
    have g' : f_X2_turns M0 (nI (t + 1)) 0 = _ := g
    rw [show 2000 = 1999 + 1 from rfl, f_X2_bestTurns_62, if_neg (hlt _ hp (by omega)), g', bd_some]
    dsimp only
    have hle : ¬ nI v0 ≤ -9 := by
      intro z
      have z1 : (nI v0).toInt ≤ (-9 : Int32).toInt := Int32.le_iff_toInt_le.mp z
      rw [nI_toInt (lt31 (by omega))] at z1
      have z2 : (-9 : Int32).toInt = -9 := by decide
      omega
    unfold f_X2_bestTurns_91
    rw [if_neg hle, if_neg hle]
    obtain ⟨best, found, t2, f2, s2, k1, k2⟩ := r_b62 (u := u) j1 j2 hg (by omega) ⟨hk1, hk3⟩ ((n + 1) ^ (t + 1) - 1) 1 1999 v0 0 t1 f1 s1 (by omega) (by omega) ⟨by omega, hv0, fun x v hx hv => by
      have : x = 0 := by omega
      subst this
      rw [hv0] at hv
      cases hv
      exact Nat.le_refl _, fun x v hx _ => by omega⟩
    obtain ⟨b1, b2⟩ := best_eq k2
    rw [Nat.add_sub_cancel, b1, b2] at k1
    exact ⟨t2, f2, s2, k1⟩
end T4
