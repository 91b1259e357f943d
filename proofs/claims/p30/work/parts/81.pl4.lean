/-! digits appended, and read again -/
def apC (C : Nat → Nat) (L v : Nat) : Nat → Nat → Nat
  | 0 => C
  | r + 1 => apC (upN C L (48 + v / 10 ^ r)) (L + 1) (v % 10 ^ r) r
theorem dgm {v r e : Nat} (h : e < r) : v % 10 ^ r / 10 ^ e % 10 = v / 10 ^ e % 10 := by
  obtain ⟨k, rfl⟩ : ∃ k, r = e + (k + 1) := ⟨r - e - 1, by omega⟩
  rw [Nat.pow_add, Nat.mod_mul_right_div_self, Nat.pow_succ, Nat.mod_mul_left_mod]
theorem apC_at : ∀ (r : Nat) (C : Nat → Nat) (L v q : Nat), v < 10 ^ r → apC C L v r q = if L ≤ q ∧ q < L + r then 48 + v / 10 ^ (L + r - 1 - q) % 10 else C q
  | 0, C, L, v, q, _ => by
    rw [if_neg (by omega)]
    rfl
  | r + 1, C, L, v, q, hv => by
    have hp : 0 < 10 ^ r := Nat.pow_pos (by omega)
    rw [apC, apC_at r _ _ _ q (Nat.mod_lt _ hp)]
    have h9 : v / 10 ^ r < 10 := by
      rw [Nat.div_lt_iff_lt_mul hp]
      rw [Nat.pow_succ] at hv
      omega
    by_cases c1 : L + 1 ≤ q ∧ q < L + 1 + r
    · rw [if_pos c1, if_pos (by omega), dgm (by omega), show L + 1 + r - 1 - q = L + (r + 1) - 1 - q by omega]
    · rw [if_neg c1]
      by_cases c2 : q = L
      · rw [if_pos (by omega), c2, upN_s, show L + (r + 1) - 1 - L = r by omega, Nat.mod_eq_of_lt h9]
      · rw [if_neg (by omega), upN_o c2]
def xT (X : XV) (L : Nat) (C : Nat → Nat) : XV := (x_n X, x_R X, (L, C), x_d X, x_K X)
theorem nl255 {j : Nat} (hj : j ≤ 255) : ¬ (nI j < (0 : Int32) ∨ (255 : Int32) < nI j) := not_lo (lo := 0) (hi := 255) (by omega) hj (by omega)
section DG
variable {c : Nat}
theorem dg_42 (hc : c ≤ 600) {m : Nat} (hm : m ≤ 4) : ∀ (r j fu v : Nat) (X : XV), j + r = m → r < fu → okX c X → x_L X + r ≤ 120 → v < 10 ^ r → f_L_digits_42 (nI m) fu (nI (10 ^ (r - 1))) 1 (nI v) (nI j) X = some (1, xT X (x_L X + r) (apC (x_C X) (x_L X) v r)) ∧ okX c (xT X (x_L X + r) (apC (x_C X) (x_L X) v r))
  | _, _, 0, _, _, _, hf, _, _, _ => absurd hf (Nat.not_lt_zero _)
  | 0, j, fu + 1, v, X, hj, _, hX, _, _ => by
    refine ⟨?_, hX⟩
    rw [f_L_digits_42, if_pos (by rw [nI_leF (by omega) (by omega)]; omega), gb_t (by decide)]
    rfl
  | r + 1, j, fu + 1, v, X, hj, hf, hX, hL, hv => by
    have hp := p10 (r := r) (by omega)
    have hp1 := p10 (r := r + 1) (by omega)
    have hd : v / 10 ^ r ≤ 9 := by
      have : v / 10 ^ r < 10 := by
        rw [Nat.div_lt_iff_lt_mul (by omega)]
        rw [Nat.pow_succ] at hv
        omega
      omega
    have h57 : 48 + v / 10 ^ r ≤ 255 := by have := Nat.zero_le (v / 10 ^ r); omega
    have hu : u_append X (nI (48 + v / 10 ^ r)) = .inr (nI (x_L X + 1), (x_n X, x_R X, (x_L X + 1, upN (x_C X) (x_L X) (48 + v / 10 ^ r)), x_d X, x_K X)) := by
      unfold u_append
      rw [if_neg (nl255 h57), if_pos (by omega), nI_cl (by omega)]
    have hX2 := k_append hX hu
    have hs : (48 : Int32) + nI v / nI (10 ^ r) = nI (48 + v / 10 ^ r) := by
      rw [nI_dv (by omega) (by omega) (by omega)]
      exact nI_add 48 _
    have hv2 : v % 10 ^ r < 10 ^ r := Nat.mod_lt _ (by omega)
    have ih := dg_42 hc hm r (j + 1) fu (v % 10 ^ r) _ (by omega) (by omega) hX2 (show x_L X + 1 + r ≤ 120 by omega) hv2
    have e2 : xT X (x_L X + (r + 1)) (apC (x_C X) (x_L X) v (r + 1)) = xT X (x_L X + 1 + r) (apC (upN (x_C X) (x_L X) (48 + v / 10 ^ r)) (x_L X + 1) (v % 10 ^ r) r) := by
      rw [show x_L X + (r + 1) = x_L X + 1 + r by omega]
      rfl
    rw [e2]
    refine ⟨?_, ih.2⟩
    rw [f_L_digits_42, if_neg (by rw [nI_leF (by omega) (by omega)]; omega), if_neg (by decide), Nat.add_sub_cancel, gb_nz (by omega) (by omega), hs, z_append (hX.up hc), hu, bd_some]
    show (if lg_cmp (nI (x_L X + 1)).toInt64 0 ≤ 0 then _ else f_L_digits_74 (f_L_digits_42 (nI m) fu) (nI (10 ^ r)) (nI v) (nI j) 1 (x_n X, x_R X, (x_L X + 1, upN (x_C X) (x_L X) (48 + v / 10 ^ r)), x_d X, x_K X)) = _
    rw [nI_l (lt31 (by omega)), if_neg (fun q => by have := (l_le0 (v := x_L X + 1) (by omega)).mp q; omega)]
    unfold f_L_digits_74
    rw [gb_nz (by omega) (by omega), nm_e2, nI_rm (by omega) (by omega) (by omega), nI_s1]
    by_cases z : r = 0
    · subst z
      rw [if_pos (by decide)]
      exact ih.1
    · obtain ⟨s, rfl⟩ : ∃ s, r = s + 1 := ⟨r - 1, by omega⟩
      have hps := p10 (r := s) (by omega)
      have e10 : 10 ^ (s + 1) / 10 = 10 ^ s := by rw [Nat.pow_succ, Nat.mul_div_cancel _ (by omega)]
      have e11 : nI (10 ^ (s + 1)) / 10 = nI (10 ^ s) := by
        rw [show (10 : Int32) = nI 10 from rfl, nI_dv (by omega) (by omega) (by omega), e10]
      rw [if_neg (fun q => by
        have := (nI_ltF (b := 10) (by omega) (by omega)).mp q
        rw [Nat.pow_succ] at this
        omega), nm_e2, e11]
      exact ih.1
theorem L_digits (hc : c ≤ 600) {m v : Nat} {X : XV} (h1 : 1 ≤ m) (hm : m ≤ 4) (hX : okX c X) (hL : x_L X + m ≤ 120) (hv : v < 10 ^ m) : f_L_digits X (nI v) (nI m) = some (1, xT X (x_L X + m) (apC (x_C X) (x_L X) v m)) ∧ okX c (xT X (x_L X + m) (apC (x_C X) (x_L X) v m)) := by
  have key := dg_42 hc hm m 0 5 v X (Nat.zero_add _) (by omega) hX hL hv
  refine ⟨?_, key.2⟩
  rw [← key.1]
  unfold f_L_digits
  rcases (show m = 1 ∨ m = 2 ∨ m = 3 ∨ m = 4 by omega) with rfl | rfl | rfl | rfl
  · rw [if_neg (by decide), if_neg (by decide), if_neg (by decide)]; rfl
  · rw [if_neg (by decide), if_neg (by decide), if_pos (by decide)]; rfl
  · rw [if_neg (by decide), if_pos (by decide)]; rfl
  · rw [if_pos (by decide)]; rfl
/-! numbers one behind another -/
def ps : Nat → Nat
  | 0 => 1
  | k + 1 => ps k + DDN (kdN k)
theorem ps_le : ∀ k j, j ≤ k → ps j ≤ ps k
  | 0, j, h => by rw [show j = 0 by omega]; exact Nat.le_refl _
  | k + 1, j, h => by
    rcases Nat.lt_or_ge j (k + 1) with c | c
    · exact Nat.le_trans (ps_le k j (by omega)) (Nat.le_add_right _ _)
    · rw [show j = k + 1 by omega]; exact Nat.le_refl _
theorem ps_42 : ps 42 = 110 := by decide
def TX (c : Nat) (V : Nat → Nat) (k : Nat) (X : XV) : Prop := okX c X ∧ x_L X = ps k ∧ x_C X 0 = 69 ∧ ∀ j, j < k → ∀ d, d < DDN (kdN j) → x_C X (ps j + d) = 48 + V j / 10 ^ (DDN (kdN j) - 1 - d) % 10
theorem ps_1 : ∀ k, 1 ≤ ps k := fun k => ps_le k 0 (Nat.zero_le _)
theorem dg_step (hc : c ≤ 600) {V : Nat → Nat} {k w m : Nat} {X : XV} (hT : TX c V k X) (hk : k < 42) (hw : V k = w) (hm : DDN (kdN k) = m) (hb : w < 10 ^ m) : ∃ X', f_L_digits X (nI w) (nI m) = some (1, X') ∧ TX c V (k + 1) X' := by
  obtain ⟨h1, h2, h3, h4⟩ := hT
  obtain ⟨-, -, -, t4, t5, -⟩ := tabs (kdN k) kdN_lt
  have hp := ps_le 42 (k + 1) (by omega)
  rw [ps_42, ps, hm] at hp
  rw [hm] at t4 t5
  have hp1 := ps_1 k
  obtain ⟨g1, g2⟩ := L_digits hc t5 t4 h1 (by omega) hb
  refine ⟨_, g1, g2, ?_, ?_, fun j hj d hd => ?_⟩
  · show x_L X + m = ps k + DDN (kdN k)
    rw [h2, hm]
  · show apC (x_C X) (x_L X) w m 0 = 69
    rw [apC_at _ _ _ _ _ hb, if_neg (by omega), h3]
  · show apC (x_C X) (x_L X) w m (ps j + d) = _
    rw [apC_at _ _ _ _ _ hb]
    rcases Nat.lt_or_ge j k with e | e
    · have := ps_le k (j + 1) (by omega)
      rw [ps] at this
      rw [if_neg (by omega)]
      exact h4 j e d hd
    · have e : j = k := by omega
      subst e
      rw [hm] at hd
      rw [if_pos (by omega), hw, hm, h2, show ps j + m - 1 - (ps j + d) = m - 1 - d by omega]
theorem rd_num {L : Nat} {C : Nat → Nat} {hi lo w : Nat} (h1 : lo ≤ w) (h2 : w ≤ hi) : ∀ (r q : Nat), q + r ≤ L → (∀ d, d < r → C (q + d) = 48 + w / 10 ^ (r - 1 - d) % 10) → rdN L C hi lo r (w / 10 ^ r) q = .inr (w, q + r)
  | 0, q, _, _ => by rw [rdN, Nat.pow_zero, Nat.div_one]; rfl
  | r + 1, q, hq, hC => by
    have hp : 0 < 10 ^ r := Nat.pow_pos (by omega)
    have c0 : C q = 48 + w / 10 ^ r % 10 := hC 0 (by omega)
    have hm : w / 10 ^ r % 10 < 10 := Nat.mod_lt _ (by omega)
    have e1 : 10 * (w / 10 ^ (r + 1)) + (C q - 48) = w / 10 ^ r := by
      rw [Nat.pow_succ, ← Nat.div_div_eq_div_mul, c0]
      omega
    have f1 : w / 10 ^ r * 10 ^ r ≤ w := Nat.div_mul_le_self _ _
    have f2 := Nat.mod_add_div w (10 ^ r)
    have f3 := Nat.mod_lt w hp
    rw [Nat.mul_comm] at f2
    rw [rdN, e1, if_pos ⟨by omega, by omega, by omega, by omega, by omega⟩, rd_num h1 h2 r (q + 1) (by omega) (fun d hd => by
      have := hC (d + 1) (by omega)
      rw [show q + 1 + d = q + (d + 1) by omega, this, show r + 1 - 1 - (d + 1) = r - 1 - d by omega]), show q + 1 + r = q + (r + 1) by omega]
theorem ra_all {L : Nat} {C V : Nat → Nat} {K : Nat} (hL : ps K ≤ L) (hC : ∀ j, j < K → ∀ d, d < DDN (kdN j) → C (ps j + d) = 48 + V j / 10 ^ (DDN (kdN j) - 1 - d) % 10) (hV : ∀ j, j < K → LLN (kdN j) ≤ V j ∧ V j ≤ GGN (kdN j) ∧ V j < 10 ^ DDN (kdN j)) : ∀ (r k : Nat) (W : Nat → Nat), k + r ≤ K → ∃ W', raN L C r k (ps k) W = .inr (ps (k + r), W') ∧ (∀ j, j < k → W' j = W j) ∧ ∀ j, k ≤ j → j < k + r → W' j = V j
  | 0, k, W, _ => ⟨W, rfl, fun _ _ => rfl, fun j h1 h2 => by omega⟩
  | r + 1, k, W, hk => by
    obtain ⟨v1, v2, v3⟩ := hV k (by omega)
    have hp := ps_le K (k + 1) (by omega)
    rw [ps] at hp
    have e := rd_num (L := L) (C := C) v1 v2 (DDN (kdN k)) (ps k) (by omega) (hC k (by omega))
    rw [Nat.div_eq_of_lt v3] at e
    obtain ⟨W', g1, g2, g3⟩ := ra_all hL hC hV r (k + 1) (upN W k (V k)) (by omega)
    refine ⟨W', ?_, fun j hj => ?_, fun j h1 h2 => ?_⟩
    · rw [raN_s e, show k + (r + 1) = k + 1 + r by omega]
      exact g1
    · rw [g2 j (by omega), upN_o (by omega)]
    · rcases Nat.lt_or_ge k j with c | c
      · exact g3 j c (by omega)
      · rw [show j = k by omega, g2 k (by omega), upN_s]
theorem rt_all {V : Nat → Nat} {X : XV} {n : Nat} (h : TX c V (6 + 6 * n) X) (hn : V 0 = n) (hV : ∀ j, j < 6 + 6 * n → LLN (kdN j) ≤ V j ∧ V j ≤ GGN (kdN j) ∧ V j < 10 ^ DDN (kdN j)) : ∃ W, rtN (x_L X) (x_C X) = .inr W ∧ ∀ j, j < 6 + 6 * n → W j = V j := by
  obtain ⟨h1, h2, h3, h4⟩ := h
  have hp := ps_1 (6 + 6 * n)
  obtain ⟨W1, a1, a2, a3⟩ := ra_all (L := x_L X) (C := x_C X) (V := V) (K := 6 + 6 * n) (by omega) h4 hV 1 0 (fun _ => 0) (by omega)
  have w1 : W1 0 = n := by rw [a3 0 (by omega) (by omega), hn]
  obtain ⟨W2, b1, b2, b3⟩ := ra_all (L := x_L X) (C := x_C X) (V := V) (K := 6 + 6 * n) (by omega) h4 hV (5 + 6 * n) 1 W1 (by omega)
  have a1 : raN (x_L X) (x_C X) 1 0 1 (fun _ => 0) = .inr (ps 1, W1) := a1
  refine ⟨W2, ?_, fun j hj => ?_⟩
  · unfold rtN
    rw [if_neg (by omega), if_pos h3, a1]
    dsimp only
    rw [w1, b1]
    dsimp only
    rw [if_pos (by rw [h2, show 1 + (5 + 6 * n) = 6 + 6 * n by omega])]
  · rcases Nat.lt_or_ge j 1 with e | e
    · rw [b2 j e, a3 j (by omega) (by omega)]
    · exact b3 j e (by omega)
end DG
