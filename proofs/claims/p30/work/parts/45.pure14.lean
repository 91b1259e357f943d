/-! steam from 90 on makes no difference to the vapor -/
def sE (R P : Nat → Nat) : Prop := ∀ k, k ≠ 48 → k ≠ 54 → k ≠ 58 → R k = P k
section SE
variable {R P : Nat → Nat}
theorem wcN_cg (e : sE R P) : ∀ n, n ≤ 6 → wcN R n = wcN P n
  | 0, _ => rfl
  | n + 1, h => by rw [wcN, wcN, wcN_cg e n (by omega), e (42 + n) (by omega) (by omega) (by omega)]
theorem mxN_cg (e : sE R P) : ∀ d j b, j + d ≤ 6 → b < 6 → mxN R d j b = mxN P d j b
  | 0, _, _, _, _ => rfl
  | d + 1, j, b, h1, h2 => by rw [mxN, mxN, mxN_cg e d (j + 1) b (by omega) h2, mxN_cg e d (j + 1) j (by omega) (by omega), e (30 + j) (by omega) (by omega) (by omega), e (30 + b) (by omega) (by omega) (by omega)]
theorem amN_cg (e : sE R P) {i : Nat} (hi : i < 6) : amN R i = amN P i := by
  unfold amN
  rw [e (6 + i) (by omega) (by omega) (by omega), e (12 + i) (by omega) (by omega) (by omega)]
theorem thN_cg (e : sE R P) {i : Nat} (hi : i < 6) : thN R i = thN P i := by
  unfold thN
  rw [amN_cg e hi, e (12 + i) (by omega) (by omega) (by omega)]
theorem pwN_cg (e : sE R P) {i : Nat} (hi : i < 6) : pwN R i = pwN P i := by
  unfold pwN
  rw [e i (by omega) (by omega) (by omega), e (30 + i) (by omega) (by omega) (by omega)]
theorem vaN_cg (e : sE R P) {i h : Nat} (hi : i < 6) : vaN R i h = vaN P i h := by
  unfold vaN
  rw [pwN_cg e hi, thN_cg e hi, e (6 + i) (by omega) (by omega) (by omega)]
theorem vaN_90 {i h g : Nat} (hp : pwN R i ≤ 90) (h1 : 90 ≤ h) (h2 : 90 ≤ g) : vaN R i h = vaN R i g := by
  unfold vaN
  rw [Nat.min_eq_right (show pwN R i ≤ h by omega), Nat.min_eq_right (show pwN R i ≤ g by omega)]
theorem bo1_cg (e : sE R P) {i h g : Nat} (hi : i < 6) (hv : vaN R i h = vaN P i g) : sE (bo1 R i h) (bo1 P i g) := by
  intro k h1 h2 h3
  unfold bo1 upN blN grN
  simp only [h3, if_false]
  rw [hv, thN_cg e hi, e (6 + i) (by omega) (by omega) (by omega), e 55 (by omega) (by omega) (by omega), e 56 (by omega) (by omega) (by omega), e (24 + i) (by omega) (by omega) (by omega), e (36 + i) (by omega) (by omega) (by omega), e (30 + i) (by omega) (by omega) (by omega), e k h1 h2 h3]
theorem boL_cg {n : Nat} (hn : n ≤ 6) : ∀ (d i h g : Nat) (R P : Nat → Nat), sE R P → i + d ≤ n → (∀ q, q < n → GE R q) → (h = g ∨ (90 ≤ h ∧ 90 ≤ g ∧ ∃ q, i ≤ q ∧ q < i + d ∧ R (42 + q) = 0)) → (boL d i h R).1 = (boL d i g P).1 ∧ sE (boL d i h R).2 (boL d i g P).2
  | 0, i, h, g, R, P, e, _, _, hh => by
    rcases hh with rfl | ⟨-, -, q, h1, h2, -⟩
    · exact ⟨rfl, e⟩
    · omega
  | d + 1, i, h, g, R, P, e, hd, hge, hh => by
    have e42 := e (42 + i) (by omega) (by omega) (by omega)
    rw [boL, boL, ← e42]
    by_cases w : R (42 + i) = 0
    · have hv : vaN R i h = vaN P i g := by
        rcases hh with rfl | ⟨h1, h2, -⟩
        · exact vaN_cg e (by omega)
        · rw [vaN_90 (pwN_le (hge i (by omega)).1.2) h1 h2]
          exact vaN_cg e (by omega)
      have hb : blN R i h = blN P i g := by
        unfold blN
        rw [hv, e (24 + i) (by omega) (by omega) (by omega)]
      rw [if_pos w, if_pos w, hv, hb]
      refine boL_cg hn d (i + 1) _ _ _ _ (bo1_cg e (by omega) hv) (by omega) (fun q hq => ?_) (Or.inl rfl)
      by_cases c : q = i
      · rw [c]; exact ge_bo1s (by omega) (hge i (by omega))
      · exact GE.bo1 (by omega) (by omega) c (hge q hq)
    · rw [if_neg w, if_neg w]
      refine boL_cg hn d (i + 1) h g R P e (by omega) hge ?_
      rcases hh with hh | ⟨h1, h2, q, q1, q2, q3⟩
      · exact Or.inl hh
      · refine Or.inr ⟨h1, h2, q, ?_, by omega, q3⟩
        rcases Nat.lt_or_ge i q with c | c
        · exact c
        · have : q = i := by omega
          rw [this] at q3
          exact absurd q3 w
theorem boilN_cg {n : Nat} (hg : GN n R) (e : sE R P) (h1 : 90 ≤ R 48) (h2 : 90 ≤ P 48) : sE (boilN n R) (boilN n P) ∧ boilN n R 48 = R 48 ∧ boilN n P 48 = P 48 := by
  obtain ⟨⟨n2, n6⟩, hge, -⟩ := hg
  have hk : ∀ Q : Nat → Nat, boilN n Q 48 = Q 48 := fun Q => by
    unfold boilN
    split
    · rfl
    · rw [upN_o (by omega), boL_keep (Or.inl ⟨by omega, by omega⟩) n 0 (Q 48) _ (by omega), upN_o (by omega)]
  refine ⟨?_, hk R, hk P⟩
  unfold boilN
  rw [← wcN_cg e n n6]
  by_cases c : wcN R n = n
  · rw [if_pos c, if_pos c]; exact e
  · obtain ⟨q, q1, q2⟩ := wcN_part n c
    rw [if_neg c, if_neg c]
    obtain ⟨b1, b2⟩ := boL_cg n6 n 0 (R 48) (P 48) (upN R 54 (R 54 + R 48)) (upN P 54 (P 54 + P 48)) (fun k k1 k2 k3 => by rw [upN_o k2, upN_o k2]; exact e k k1 k2 k3) (by omega) (fun i hi => GE.cg (by omega) (hge i hi) fun k hk => upN_o (by omega)) (Or.inr ⟨h1, h2, q, by omega, by omega, by rw [upN_o (by omega)]; exact q2⟩)
    intro k k1 k2 k3
    rw [b1, b2 57 (by omega) (by omega) (by omega)]
    unfold upN
    split
    · rfl
    · exact b2 k k1 k2 k3
theorem nxN_cg2 {n : Nat} (hn : n ≤ 6) (e : sE R P) {j : Nat} (hj : j ≤ n) : nxN n R j = nxN n P j := nxN_cg hj fun i hi => e (42 + i) (by omega) (by omega) (by omega)
theorem goN_cg2 {n : Nat} (hn : n ≤ 6) (e : sE R P) {j : Nat} (hj : j < n) : goN n R j = goN n P j :=
  goN_cg hj (fun i hi => e (42 + i) (by omega) (by omega) (by omega)) (e (18 + j) (by omega) (by omega) (by omega)) fun i _ hi => amN_cg e (by omega)
theorem gsN_cg {n : Nat} (hn : n ≤ 6) (e : sE R P) {j : Nat} (hj : j < n) : gsN n R j = gsN n P j := by
  unfold gsN
  rw [goN_cg2 hn e hj, amN_cg e (by omega), e (42 + j) (by omega) (by omega) (by omega), e (12 + j) (by omega) (by omega) (by omega)]
theorem gwN_cg {n : Nat} (hn : n ≤ 6) (e : sE R P) {j : Nat} (hj : j < n) : gwN n R j = gwN n P j := by
  unfold gwN
  rw [goN_cg2 hn e hj, amN_cg e (by omega), e (42 + j) (by omega) (by omega) (by omega), e (12 + j) (by omega) (by omega) (by omega)]
theorem pvN_cg {n : Nat} (hn : n ≤ 6) (e : sE R P) {f g : Nat → Nat} (hf : ∀ j, j < n → f j = g j) : ∀ j, j ≤ n → pvN R f j = pvN P g j
  | 0, _ => rfl
  | j + 1, h => by rw [pvN, pvN, pvN_cg hn e hf j (by omega), e (42 + j) (by omega) (by omega) (by omega), hf j (by omega)]
theorem flN_cg {n : Nat} (hn : n ≤ 6) (e : sE R P) : sE (flN n R) (flN n P) := by
  intro k k1 k2 k3
  have hx := nxN_le (n := n) (R := P) (j := 0) (by omega)
  have h0 := nxN_cg2 hn e (j := 0) (by omega)
  have hfr : ∀ b, b = 49 ∨ b = 50 → fdN n R b = fdN n P b := fun b hb => by
    unfold fdN
    rw [h0]
    by_cases c : nxN n P 0 = n
    · rw [if_pos c, if_pos c]
    · rw [if_neg c, if_neg c, amN_cg e (by omega), e 49 (by omega) (by omega) (by omega), e 50 (by omega) (by omega) (by omega), e b (by omega) (by omega) (by omega)]
  have hh : hdN n R = hdN n P := by
    unfold hdN
    rw [h0]
    by_cases c : nxN n P 0 = n
    · rw [if_pos c, if_pos c]
    · rw [if_neg c, if_neg c, amN_cg e (by omega), e 49 (by omega) (by omega) (by omega), e 50 (by omega) (by omega) (by omega)]
  have pw := pvN_cg hn e (fun j hj => gwN_cg hn e hj)
  have ps := pvN_cg hn e (fun j hj => gsN_cg hn e hj)
  unfold flN
  by_cases a : 6 ≤ k ∧ k < 6 + n
  · rw [if_pos a, if_pos a, h0, e (42 + (k - 6)) (by omega) (by omega) (by omega), e k k1 k2 k3, hfr 49 (Or.inl rfl), pw (k - 6) (by omega), gwN_cg hn e (by omega)]
  · rw [if_neg a, if_neg a]
    by_cases b : 12 ≤ k ∧ k < 12 + n
    · rw [if_pos b, if_pos b, h0, e (42 + (k - 12)) (by omega) (by omega) (by omega), e k k1 k2 k3, hfr 50 (Or.inr rfl), ps (k - 12) (by omega), gsN_cg hn e (by omega)]
    · rw [if_neg b, if_neg b, e k k1 k2 k3, hfr 49 (Or.inl rfl), hfr 50 (Or.inr rfl), pw n (by omega), ps n (by omega), hh]
end SE
