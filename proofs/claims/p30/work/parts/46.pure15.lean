section SE2
variable {R P : Nat → Nat}
theorem wsN_cg {n : Nat} (hn : n ≤ 6) (e : sE R P) : sE (wsN R n) (wsN P n) := by
  intro k k1 k2 k3
  unfold wsN
  by_cases a : 30 ≤ k ∧ k < 30 + n
  · rw [e (k + 12) (by omega) (by omega) (by omega), e k k1 k2 k3]
  · rw [if_neg (show ¬ (30 ≤ k ∧ k < 30 + n ∧ R (k + 12) ≠ 0) from fun h => a ⟨h.1, h.2.1⟩), if_neg (show ¬ (30 ≤ k ∧ k < 30 + n ∧ P (k + 12) ≠ 0) from fun h => a ⟨h.1, h.2.1⟩), e k k1 k2 k3]
theorem trnN_cg {n : Nat} (h2 : 2 ≤ n) (hn : n ≤ 6) (e : sE R P) : sE (trnN n R) (trnN n P) ∧ trnN n R 48 = R 48 ∧ trnN n P 48 = P 48 := by
  have hk : ∀ Q : Nat → Nat, trnN n Q 48 = Q 48 := fun Q => by
    have ht : tuN n Q < n := mxN_lt (n - 1) 1 0 (by omega) (by omega)
    unfold trnN
    split
    · rfl
    · split
      · split
        · split
          · rfl
          · exact upN_o (by omega)
        · rfl
      · rfl
  refine ⟨?_, hk R, hk P⟩
  have ht : tuN n P < n := mxN_lt (n - 1) 1 0 (by omega) (by omega)
  have et : tuN n R = tuN n P := mxN_cg e (n - 1) 1 0 (by omega) (by omega)
  unfold trnN
  rw [et, e 51 (by omega) (by omega) (by omega), e 53 (by omega) (by omega) (by omega), wcN_cg e n hn, e (30 + tuN n P) (by omega) (by omega) (by omega)]
  by_cases a : P 51 = 0
  · rw [if_pos a, if_pos a]; exact e
  · rw [if_neg a, if_neg a]
    by_cases b : P 53 % P 51 = 0
    · rw [if_pos b, if_pos b]
      by_cases c : wcN P n = 0
      · rw [if_pos c, if_pos c]
        by_cases d : P (30 + tuN n P) = 0
        · rw [if_pos d, if_pos d]; exact e
        · rw [if_neg d, if_neg d]
          intro k k1 k2 k3
          unfold upN
          rw [e 52 (by omega) (by omega) (by omega), e k k1 k2 k3]
      · rw [if_neg c, if_neg c]; exact e
    · rw [if_neg b, if_neg b]; exact e
theorem tkN_cg {n : Nat} (hg : GN n R) (e : sE R P) (h1 : 90 ≤ R 48) (h2 : 90 ≤ P 48) : sE (tkN n R) (tkN n P) ∧ tkN n R 48 = R 48 ∧ tkN n P 48 = P 48 := by
  obtain ⟨⟨n2, n6⟩, -⟩ := id hg
  obtain ⟨a1, a2, a3⟩ := trnN_cg n2 n6 e
  obtain ⟨b1, b2, b3⟩ := boilN_cg hg.turn a1 (by omega) (by omega)
  have c1 := flN_cg n6 b1
  have d1 := wsN_cg n6 c1
  unfold tkN taN
  refine ⟨fun k k1 k2 k3 => ?_, ?_, ?_⟩
  · rw [c1 53 (by omega) (by omega) (by omega)]
    unfold upN
    split
    · rfl
    · exact d1 k k1 k2 k3
  · rw [upN_o (by omega), wsN_o n6 (by omega), flN_o (by omega) (by omega) (by omega), b2, a2]
  · rw [upN_o (by omega), wsN_o n6 (by omega), flN_o (by omega) (by omega) (by omega), b3, a3]
theorem tkM_cg {n : Nat} : ∀ (m : Nat) (R P : Nat → Nat), GN n R → sE R P → 90 ≤ R 48 → 90 ≤ P 48 → sE (tkM n m R) (tkM n m P)
  | 0, _, _, _, e, _, _ => e
  | m + 1, R, P, hg, e, h1, h2 => by
    obtain ⟨a, b, c⟩ := tkN_cg hg e h1 h2
    exact tkM_cg m _ _ hg.tick a (by omega) (by omega)
end SE2
theorem GN.steam {n x : Nat} {R : Nat → Nat} (hg : GN n R) (hx : x ≤ 999) : GN n (upN R 48 x) := by
  obtain ⟨⟨n2, n6⟩, hge, h48, h49, h50, h51, h52⟩ := hg
  refine ⟨⟨n2, n6⟩, fun i hi => GE.cg (by omega) (hge i hi) fun k hk => upN_o (by omega), ?_⟩
  rw [upN_s, upN_o (k := 49) (by omega), upN_o (k := 50) (by omega), upN_o (k := 51) (by omega), upN_o (k := 52) (by omega)]
  exact ⟨hx, h49, h50, h51, h52⟩
/-- the vapor with the steam x -/
def stV (n m : Nat) (R : Nat → Nat) (x : Nat) : Int32 := nI (tkM n m (upN R 48 x) 55) - nI (R 55)
theorem stV_90 {n m x : Nat} {R : Nat → Nat} (hg : GN n R) (h1 : 90 ≤ x) (h2 : x ≤ 999) : stV n m R x = stV n m R 90 := by
  unfold stV
  rw [tkM_cg m (upN R 48 x) (upN R 48 90) (hg.steam h2) (fun k k1 _ _ => by rw [upN_o k1, upN_o k1]) (by rw [upN_s]; omega) (by rw [upN_s]; omega) 55 (by omega) (by omega) (by omega)]
section SF2
variable {M : MdV} {T : TrV} {N : StV} {n m : Nat} {R : Nat → Nat} {p : Int32}
theorem st_step (hm : m_n M = nI n) (hr : RR (m_now M) R) (hg : GN n R) (hc : R 53 + m < 2147483648) (hm2 : m < 2000) {x : Nat} (hx : x ≤ 999) (t f s : Nat → Int32) (fu : Nat) :
    ∃ t' f' s', f_X2_steamFor_40 p (nI m) (fu + 1) (nI x) (mu_sal (mu_flo (mu_tri M t) f) s) = if stV n m R x < p then f_X2_steamFor_40 p (nI m) fu (nI (x + 1)) (mu_sal (mu_flo (mu_tri M t') f') s') else some (nI x, mu_sal (mu_flo (mu_tri M t') f') s') := by
  obtain ⟨t1, d1, b1⟩ := r_copy (t := t) hr
  have b2 := b1.up 48 x
  obtain ⟨t2, f2, s2, d2, b3⟩ := r_ticksOn (M := mu_sal (mu_flo (mu_tri M (upd t1 48 (nI x))) f) s) (r := upd t1 48 (nI x)) (fl := f) (sa := s) ((md_gn _ _ _ _).trans hm) b2 (hg.steam hx) (m := m) (by rw [upN_o (by omega)]; exact hc) hm2
  rw [upN_o (k := 55) (by omega)] at d2
  refine ⟨t2, f2, s2, ?_⟩
  rw [f_X2_steamFor_40, show (999 : Int32) = nI 999 from rfl, if_neg (by rw [nI_ltF (by omega) (by omega)]; omega), md_gw, md_gt, d1, bd_some, nm_e2, md_t3, md_gt, nm_e2, md_t3, md_gt, md_gf, md_gs, d2, bd_some]
  dsimp only
  rw [nm_e2, md_t3, md_ff, md_ss, nI_s1]
  rfl
theorem st_none (hm : m_n M = nI n) (hr : RR (m_now M) R) (hg : GN n R) (hc : R 53 + m < 2147483648) (hm2 : m < 2000) (h9 : stV n m R 90 < p) : ∀ (fu x : Nat) (t f s : Nat → Int32), 90 ≤ x → x ≤ 1000 → 1001 - x < fu → ∃ t' f' s', f_X2_steamFor_40 p (nI m) fu (nI x) (mu_sal (mu_flo (mu_tri M t) f) s) = some (-9, mu_sal (mu_flo (mu_tri M t') f') s')
  | 0, x, _, _, _, _, _, hf => by omega
  | fu + 1, x, t, f, s, h1, h2, hf => by
    by_cases e : 999 < x
    · rw [f_X2_steamFor_40, show (999 : Int32) = nI 999 from rfl, if_pos (by rw [nI_ltF (by omega) (by omega)]; exact e)]
      exact ⟨t, f, s, rfl⟩
    · obtain ⟨t1, f1, s1, a⟩ := st_step (p := p) (M := M) hm hr hg hc hm2 (show x ≤ 999 by omega) t f s fu
      rw [a, if_pos (by rw [stV_90 hg h1 (by omega)]; exact h9)]
      exact st_none hm hr hg hc hm2 h9 fu (x + 1) t1 f1 s1 (by omega) (by omega) (by omega)
theorem st_loop (hm : m_n M = nI n) (hr : RR (m_now M) R) (hA : AgS n 0 N R) (hg : GN n R) (hc : R 53 + m < 2147483648) (hm2 : m < 2000) : ∀ (fu fw x : Nat) (V : StV) (t f s : Nat → Int32), x ≤ 91 → (x = 91 → stV n m R 90 < p) → 92 - x < fu → 1001 - x < fw → ∃ v V' t' f' s', f_X1_steamFor_17 N p (nI m) fu (nI x) V = some (.inr (v, V')) ∧ f_X2_steamFor_40 p (nI m) fw (nI x) (mu_sal (mu_flo (mu_tri M t) f) s) = some (v, mu_sal (mu_flo (mu_tri M t') f') s')
  | 0, _, x, _, _, _, _, _, _, hf, _ => by omega
  | fu + 1, 0, x, _, _, _, _, _, _, _, hf => by omega
  | fu + 1, fw + 1, x, V, t, f, s, hx, h9, hf, hw => by
    have n6 := hg.1.2
    by_cases e : x = 91
    · obtain ⟨t', f', s', a⟩ := st_none (p := p) hm hr hg hc hm2 (h9 e) (fw + 1) x t f s (by omega) (by omega) (by omega)
      refine ⟨-9, V, t', f', s', ?_, a⟩
      rw [f_X1_steamFor_17, show (90 : Int32) = nI 90 from rfl, if_pos (by rw [nI_ltF (by omega) (by omega)]; omega)]
    · obtain ⟨V1, c1, a1⟩ := s_copy (S := V) hA n6
      have a2 := a1.set n6 (j := 0) (by omega) x
      obtain ⟨V2, c2, a3⟩ := s_pass (m := m) a2 (hg.steam (show x ≤ 999 by omega)) (by rw [upN_o (by omega)]; exact hc) hm2
      rw [upN_o (k := 55) (by omega)] at c2
      obtain ⟨t1, f1, s1, a⟩ := st_step (p := p) (M := M) hm hr hg hc hm2 (show x ≤ 999 by omega) t f s fw
      have c3 : f_X0_pass (su_set V1 (upd (s_set V1) 0 (nI x))) (nI m) = some (stV n m R x, V2) := c2
      rw [a, f_X1_steamFor_17, show (90 : Int32) = nI 90 from rfl, if_neg (by rw [nI_ltF (by omega) (by omega)]; omega), c1, bd_some, nm_e2, c3, bd_some]
      dsimp only
      by_cases y : stV n m R x < p
      · rw [if_pos y, if_pos y, nI_s1]
        exact st_loop hm hr hA hg hc hm2 fu fw (x + 1) V2 t1 f1 s1 (by omega) (fun h => by rw [← (show x = 90 by omega)]; exact y) (by omega) (by omega)
      · rw [if_neg y, if_neg y]
        exact ⟨_, V2, t1, f1, s1, rfl, rfl⟩
theorem md_self (M : MdV) : mu_sal (mu_flo (mu_tri M (m_tri M)) (m_flo M)) (m_sal M) = M := by
  obtain ⟨a1, a2, a3, a4, a5, a6, a7, a8, a9, a10, a11, a12, a13, a14, a15⟩ := M
  rw [gk_tri, gk_flo, gk_sal, mk_tri, mk_flo, mk_sal]
theorem q_steamFor {V : StV} (h : RelN M N n R) {u : Int32} : qT M [(xR, 1)] (f_X1_steamFor T N V p u) (f_X2_steamFor M p u) := by
  obtain ⟨hm, hr, hA, hg, hc⟩ := h
  have hm' : m_n (mu_ref M 0) = nI n := hm
  have hr' : RR (m_now (mu_ref M 0)) R := hr
  unfold f_X1_steamFor f_X2_steamFor
  rcases rng (p := p) (lo := 0) (hi := 9999) (a := 0) (b := 9999) (by decide) (by decide) with ⟨e1, e2⟩ | ⟨-, -, e1, e2⟩
  · refine Or.inr ⟨xR, 1, by decide, by rw [e1, bx_e], ?_⟩
    rw [e2, bd_some, if_pos rfl, refused_1 (by decide), bd_some]
    rfl
  · rw [e1, e2, bx_r, bd_some, if_neg (by decide)]
    rcases rng (p := u) (lo := 1) (hi := 20) (a := 1) (b := 20) (by decide) (by decide) with ⟨e3, e4⟩ | ⟨k0, k9, e3, e4⟩
    · refine Or.inr ⟨xR, 1, by decide, by rw [e3, bx_e], ?_⟩
      rw [e4, bd_some, if_pos rfl, refused_1 (by decide), bd_some]
      rfl
    · obtain ⟨m, hm9, rfl⟩ := nI_of2 (n := 20) (by decide) (Int32.not_lt.mpr (Int32.le_trans (by decide) k0)) k9
      obtain ⟨v, V', t', f', s', a, b⟩ := st_loop (p := p) (M := mu_ref M 0) hm' hr' hA hg (m := m) (by omega) (by omega) 2000 2000 0 V (m_tri (mu_ref M 0)) (m_flo (mu_ref M 0)) (m_sal (mu_ref M 0)) (by omega) (by omega) (by omega) (by omega)
      rw [md_self] at b
      refine Or.inl ⟨v, V', t', f', s', ?_, ?_⟩
      · rw [e3, bx_r]
        exact a
      · rw [e4, bd_some, if_neg (by decide), refused_0, bd_some]
        dsimp only
        rw [if_pos rfl]
        exact b
end SF2
