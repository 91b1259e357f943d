section SIM
variable {M : MdV} {n : Nat}
theorem sim_tail (hm : m_n M = nI n) {u f s : Nat → Int32} {Q : Nat → Nat} (hu : RR u Q) (hg : GN n Q) (hc : Q 53 < 2147483648) (K : MdV → Option (Int32 × MdV)) :
    ∃ t' f' s', RR t' (tkN n Q) ∧ (bd (f_X2_tickOn (mu_sal (mu_flo (mu_tri M u) f) s) (m_tri (mu_sal (mu_flo (mu_tri M u) f) s)) (m_flo (mu_sal (mu_flo (mu_tri M u) f) s)) (m_sal (mu_sal (mu_flo (mu_tri M u) f) s))) fun ⟨a, b, c⟩ => nm (mu_sal (mu_flo (mu_tri (mu_sal (mu_flo (mu_tri M u) f) s) a) b) c) fun q => K q) = K (mu_sal (mu_flo (mu_tri M t') f') s') := by
  obtain ⟨t1, f1, s1, b1, d1⟩ := r_tickOn (M := mu_sal (mu_flo (mu_tri M u) f) s) (r := u) (fl := f) (sa := s) ((md_gn _ _ _ _).trans hm) hu hg hc
  refine ⟨t1, f1, s1, b1, ?_⟩
  rw [md_gt, md_gf, md_gs, d1, bd_some]
  dsimp only
  rw [nm_e2, md_t3, md_ff, md_ss]
theorem sim_step (hm : m_n M = nI n) {t f s : Nat → Int32} {P : Nat → Nat} (ht : RR t P) (hg : GN n P) (hc : P 53 < 2147483648) {p x : Int32} (hx : ¬ p ≤ x) {fu : Nat} {y v : Int64} (hy : y * 6364136223846793005 + 1442695040888963407 = v) {r : Nat} (hr : r < 2147483648) (er : ((v.toUInt64 >>> ((33 : Int32).toInt64.toUInt64 &&& Int64.toUInt64 63)).toInt64).toInt32 = nI r) :
    ∃ t' f' s', RR t' (tkN n (dsN n r P)) ∧ f_X2_simulate_47 p (fu + 1) y x (mu_sal (mu_flo (mu_tri M t) f) s) = f_X2_simulate_47 p fu v (x + 1) (mu_sal (mu_flo (mu_tri M t') f') s') := by
  obtain ⟨⟨n2, n6⟩, hge, -⟩ := id hg
  have hv : r / 4 % n < n := Nat.mod_lt _ (by omega)
  have g8 := (hge _ hv).2.2.2.2.2.2
  have hgd := hg.dist (r := r)
  have hcd : dsN n r P 53 < 2147483648 := by rw [dsN_o n6 n2 (by omega)]; exact hc
  have c4 : (4 : Int32) = nI 4 := rfl
  have c64 : (64 : Int32) = nI 64 := rfl
  have c400 : (400 : Int32) = nI 400 := rfl
  rw [f_X2_simulate_47, if_neg hx, hy, nm_e2, er, nm_e2, md_gn, hm, gb_nz (by omega) (by omega), c4, nI_rm hr (by omega) (by omega), nI_dv hr (by omega) (by omega), nI_rm (by omega) (by omega) (by omega), nm_e2, c64, nI_dv hr (by omega) (by omega), L200, c400]
  unfold dsN at hgd hcd ⊢
  by_cases x0 : r % 4 = 0
  · rw [if_pos x0] at hgd hcd ⊢
    rw [if_pos (show nI (r % 4) = 0 by rw [x0]; rfl), L18, nI_add, gb_in (by omega) (by omega), nI_rm (by omega) (by omega) (by omega), nI_cl (by omega), md_gt, md_t3, nm_e2]
    exact sim_tail hm (ht.up (18 + r / 4 % n) (r / 64 % 200)) hgd hcd (fun q => f_X2_simulate_47 p fu v (x + 1) q)
  · rw [if_neg x0] at hgd hcd ⊢
    rw [if_neg (show ¬ nI (r % 4) = 0 by rw [L0, nI_iff (by omega) (by omega)]; exact x0)]
    by_cases x1 : r % 4 = 1
    · rw [if_pos x1] at hgd hcd ⊢
      rw [if_pos (show nI (r % 4) = 1 by rw [x1]; rfl), nI_rm (by omega) (by omega) (by omega), md_gt, md_t3, nm_e2]
      exact sim_tail hm (ht.up 48 (r / 64 % 400)) hgd hcd (fun q => f_X2_simulate_47 p fu v (x + 1) q)
    · rw [if_neg x1] at hgd hcd ⊢
      rw [if_neg (show ¬ nI (r % 4) = 1 by rw [L1, nI_iff (by omega) (by omega)]; exact x1)]
      by_cases x2 : r % 4 = 2
      · rw [if_pos x2] at hgd hcd ⊢
        rw [if_pos (show nI (r % 4) = 2 by rw [x2]; rfl), md_gt, r_works ht (by omega) (by omega), bd_some]
        by_cases w : P (42 + r / 4 % n) = 0
        · rw [if_pos w] at hgd hcd ⊢
          rw [if_pos w, if_neg (show ¬ nI 1 = 0 by decide), L42, nI_add, gb_in (by omega) (by omega), nI_cl (by omega), md_t3, nm_e2]
          exact sim_tail hm (ht.up (42 + r / 4 % n) 5) hgd hcd (fun q => f_X2_simulate_47 p fu v (x + 1) q)
        · rw [if_neg w] at hgd hcd ⊢
          rw [if_neg w, if_pos (show nI 0 = 0 by rfl)]
          have h := sim_tail (f := f) (s := s) hm ht hg hc (fun q => f_X2_simulate_47 p fu v (x + 1) q)
          rw [md_gt] at h
          exact h
      · rw [if_neg x2] at hgd hcd ⊢
        rw [if_neg (show ¬ nI (r % 4) = 2 by rw [L2, nI_iff (by omega) (by omega)]; exact x2)]
        exact sim_tail hm ht hg hc (fun q => f_X2_simulate_47 p fu v (x + 1) q)
end SIM
