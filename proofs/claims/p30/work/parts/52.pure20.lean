theorem md_1t (M : MdV) (t : Nat → Int32) : m_tri (mu_tri M t) = t := by
  obtain ⟨a1, a2, a3, a4, a5, a6, a7, a8, a9, a10, a11, a12, a13, a14, a15⟩ := M
  rw [mk_tri, gk_tri]
section SIM2
variable {M : MdV} {T : TrV} {N : StV} {n : Nat} {R : Nat → Nat}
theorem sim_loop (hm : m_n M = nI n) (hw : RR (m_now M) R) : ∀ (d fu x m : Nat) (y : Int64) (V : StV) (t f s : Nat → Int32) (P : Nat → Nat), AgS n 0 V P → RR t P → GN n P → P 53 + d < 2147483648 → x + d = m → m < 2147483648 → d < fu →
    ∃ v V' t' f' s', f_X1_simulate_27 T (nI m) fu (nI (P 55) - nI (R 55)) y (nI x) V = some (.inr (v, V')) ∧ f_X2_simulate_47 (nI m) fu y (nI x) (mu_sal (mu_flo (mu_tri M t) f) s) = some (v, mu_sal (mu_flo (mu_tri M t') f') s')
  | _, 0, _, _, _, _, _, _, _, _, _, _, _, _, _, _, hf => by omega
  | 0, fu + 1, x, m, y, V, t, f, s, P, hA, ht, hg, hc, hx, hm2, hf => by
    have hxm : x = m := by omega
    subst hxm
    refine ⟨nI (P 55) - nI (R 55), V, t, f, s, ?_, ?_⟩
    · rw [f_X1_simulate_27, if_pos (by rw [nI_leF hm2 hm2]; omega)]
    · rw [f_X2_simulate_47, if_pos (by rw [nI_leF hm2 hm2]; omega), md_gt, md_gw, ht 55 (by omega), hw 55 (by omega)]
  | d + 1, fu + 1, x, m, y, V, t, f, s, P, hA, ht, hg, hc, hx, hm2, hf => by
    have n6 := hg.1.2
    have n2 := hg.1.1
    have hlt : ¬ nI m ≤ nI x := by rw [nI_leF (by omega) (by omega)]; omega
    obtain ⟨r, hr, er⟩ := rnd (y * 6364136223846793005 + 1442695040888963407)
    obtain ⟨V1, c1, a1⟩ := s_disturb (T := T) hA hg hr
    have h53 : dsN n r P 53 = P 53 := dsN_o n6 n2 (by omega)
    have h55 : dsN n r P 55 = P 55 := dsN_o n6 n2 (by omega)
    obtain ⟨V2, c2, a2⟩ := s_pass (m := 1) a1 hg.dist (by omega) (by omega)
    rw [h55] at c2
    obtain ⟨t1, f1, s1, b1, d1⟩ := sim_step (M := M) (f := f) (s := s) (fu := fu) hm ht hg (by omega) hlt rfl hr er
    have hT : tkM n 1 (dsN n r P) = tkN n (dsN n r P) := rfl
    rw [hT] at c2 a2
    obtain ⟨v, V', t', f', s', k1, k2⟩ := sim_loop hm hw d fu (x + 1) m (y * 6364136223846793005 + 1442695040888963407) V2 t1 f1 s1 (tkN n (dsN n r P)) a2 b1 hg.dist.tick (by rw [tkN_53 hg.dist, h53]; omega) (by omega) hm2 (by omega)
    refine ⟨v, V', t', f', s', ?_, ?_⟩
    · rw [f_X1_simulate_27, if_neg hlt, nm_e2, er, c1, bn_r, L1, c2, bd_some]
      dsimp only
      rw [nm_e2, i32_sw, nI_add]
      exact k1
    · rw [d1, nI_s1]
      exact k2
theorem q_simulate {V : StV} (h : RelN M N n R) {y : Int64} {u : Int32} : qT M [(xR, 1)] (f_X1_simulate T N V y u) (f_X2_simulate M y u) := by
  obtain ⟨hm, hr, hA, hg, hc⟩ := h
  have n6 := hg.1.2
  have hm' : m_n (mu_ref M 0) = nI n := hm
  have hr' : RR (m_now (mu_ref M 0)) R := hr
  unfold f_X1_simulate f_X2_simulate
  rcases rng (p := u) (lo := 1) (hi := 99) (a := 1) (b := 99) (by decide) (by decide) with ⟨e1, e2⟩ | ⟨k0, k9, e1, e2⟩
  · refine Or.inr ⟨xR, 1, by decide, by rw [e1, bx_e], ?_⟩
    unfold f_X2_simulate_18
    rw [e2, bd_some, if_pos rfl, refused_1 (by decide), bd_some]
    rfl
  · obtain ⟨m, hm9, rfl⟩ := nI_of2 (n := 99) (by decide) (Int32.not_lt.mpr (Int32.le_trans (by decide) k0)) k9
    obtain ⟨V1, c1, a1⟩ := s_copy (S := V) hA n6
    obtain ⟨t1, d1, b1⟩ := r_copy (t := m_tri (mu_ref M 0)) hr'
    obtain ⟨v, V', t', f', s', k1, k2⟩ := sim_loop (M := mu_ref M 0) (T := T) hm' hr' m 2000 0 m y V1 t1 (m_flo (mu_tri (mu_ref M 0) t1)) (m_sal (mu_tri (mu_ref M 0) t1)) R a1 b1 hg (by omega) (by omega) (by omega) (by omega)
    have e0 : nI (R 55) - nI (R 55) = 0 := Int32.sub_self _
    rw [e0] at k1
    refine Or.inl ⟨v, V', t', f', s', ?_, ?_⟩
    · rw [e1, bx_r, c1, bd_some]
      exact k1
    · have hs := md_self (mu_tri (mu_ref M 0) t1)
      rw [md_1t, md_tt] at hs
      rw [hs] at k2
      unfold f_X2_simulate_18
      rw [e2, bd_some, if_neg (by decide), refused_0, bd_some]
      dsimp only
      rw [if_pos rfl, d1, bd_some, nm_e2]
      exact k2

end SIM2
