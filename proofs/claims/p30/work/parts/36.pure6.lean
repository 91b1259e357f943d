/-! the reference carries the flows out, one effect after the other -/
def inN (n : Nat) (R f : Nat → Nat) (j i : Nat) : Nat := if i < j then pvN R f i else if nxN n R j = i then pvN R f j else 0
def cpN (n : Nat) (R : Nat → Nat) (j k : Nat) : Nat :=
  if 6 ≤ k ∧ k < 6 + n then (if R (42 + (k - 6)) = 0 then R k + inN n R (gwN n R) j (k - 6) - (if k - 6 < j then gwN n R (k - 6) else 0) else R k)
  else if 12 ≤ k ∧ k < 12 + n then (if R (42 + (k - 12)) = 0 then R k + inN n R (gsN n R) j (k - 12) - (if k - 12 < j then gsN n R (k - 12) else 0) else R k)
  else if k = 61 then R k + (if nxN n R j = n then pvN R (gwN n R) j else 0)
  else if k = 62 then R k + (if nxN n R j = n then pvN R (gsN n R) j else 0)
  else R k
section CP
variable {n : Nat} {R : Nat → Nat} {j i k : Nat}
theorem cpN_w (hi : i < n) (w : R (42 + i) = 0) : cpN n R j (6 + i) = R (6 + i) + inN n R (gwN n R) j i - (if i < j then gwN n R i else 0) := by
  unfold cpN
  rw [if_pos (by omega), Nat.add_sub_cancel_left, if_pos w]
theorem cpN_s (hn : n ≤ 6) (hi : i < n) (w : R (42 + i) = 0) : cpN n R j (12 + i) = R (12 + i) + inN n R (gsN n R) j i - (if i < j then gsN n R i else 0) := by
  unfold cpN
  rw [if_neg (by omega), if_pos (by omega), Nat.add_sub_cancel_left, if_pos w]
theorem cpN_w0 (hi : i < n) (w : R (42 + i) ≠ 0) : cpN n R j (6 + i) = R (6 + i) := by
  unfold cpN
  rw [if_pos (by omega), Nat.add_sub_cancel_left, if_neg w]
theorem cpN_s0 (hn : n ≤ 6) (hi : i < n) (w : R (42 + i) ≠ 0) : cpN n R j (12 + i) = R (12 + i) := by
  unfold cpN
  rw [if_neg (by omega), if_pos (by omega), Nat.add_sub_cancel_left, if_neg w]
theorem cpN_61 (hn : n ≤ 6) : cpN n R j 61 = R 61 + (if nxN n R j = n then pvN R (gwN n R) j else 0) := by
  unfold cpN
  rw [if_neg (by omega), if_neg (by omega), if_pos rfl]
theorem cpN_62 (hn : n ≤ 6) : cpN n R j 62 = R 62 + (if nxN n R j = n then pvN R (gsN n R) j else 0) := by
  unfold cpN
  rw [if_neg (by omega), if_neg (by omega), if_neg (by omega), if_pos rfl]
theorem cpN_o (h1 : ¬ (6 ≤ k ∧ k < 6 + n)) (h2 : ¬ (12 ≤ k ∧ k < 12 + n)) (h3 : k ≠ 61) (h4 : k ≠ 62) : cpN n R j k = R k := by
  unfold cpN
  rw [if_neg h1, if_neg h2, if_neg h3, if_neg h4]
theorem cpN_0 (hn : n ≤ 6) : cpN n R 0 k = R k := by
  have h0 : ∀ f i, inN n R f 0 i = 0 := fun f i => by
    unfold inN
    rw [if_neg (by omega)]
    split <;> rfl
  unfold cpN
  rw [h0, h0]
  simp only [Nat.not_lt_zero, if_false, Nat.add_zero, Nat.sub_zero, ite_self, pvN]
/-- from j to j + 1: j is washed -/
theorem cpN_A (hj : j < n) (w : R (42 + j) ≠ 0) : cpN n R (j + 1) k = cpN n R j k := by
  have e1 : nxN n R (j + 1) = nxN n R j := by rw [nxN_s hj, if_neg w]
  have e2 : ∀ f, pvN R f (j + 1) = pvN R f j := fun f => by rw [pvN, if_neg w]
  have e3 : ∀ f i, R (42 + i) = 0 → inN n R f (j + 1) i = inN n R f j i := fun f i wi => by
    have : i ≠ j := fun e => w (e ▸ wi)
    unfold inN
    rw [e1, e2]
    by_cases q : i < j
    · rw [if_pos q, if_pos (by omega)]
    · rw [if_neg q, if_neg (by omega)]
  have e4 : ∀ i, R (42 + i) = 0 → (i < j + 1 ↔ i < j) := fun i wi => by
    have : i ≠ j := fun e => w (e ▸ wi)
    omega
  unfold cpN
  rw [e1, e2, e2]
  by_cases a : 6 ≤ k ∧ k < 6 + n
  · rw [if_pos a, if_pos a]
    by_cases x : R (42 + (k - 6)) = 0
    · rw [if_pos x, if_pos x, e3 _ _ x]
      simp only [e4 _ x]
    · rw [if_neg x, if_neg x]
  · rw [if_neg a, if_neg a]
    by_cases b : 12 ≤ k ∧ k < 12 + n
    · rw [if_pos b, if_pos b]
      by_cases x : R (42 + (k - 12)) = 0
      · rw [if_pos x, if_pos x, e3 _ _ x]
        simp only [e4 _ x]
      · rw [if_neg x, if_neg x]
    · rw [if_neg b, if_neg b]
/-- from j to j + 1: j works; what flows from it leaves the train, or comes to the next one -/
theorem cpN_B (hn : n ≤ 6) (hj : j < n) (w : R (42 + j) = 0) : cpN n R (j + 1) k =
    (if nxN n R (j + 1) = n then upN (upN (upN (upN (cpN n R j) (6 + j) (cpN n R j (6 + j) - gwN n R j)) (12 + j) (cpN n R j (12 + j) - gsN n R j)) 61 (R 61 + gwN n R j)) 62 (R 62 + gsN n R j)
     else upN (upN (upN (upN (cpN n R j) (6 + j) (cpN n R j (6 + j) - gwN n R j)) (12 + j) (cpN n R j (12 + j) - gsN n R j)) (6 + nxN n R (j + 1)) (R (6 + nxN n R (j + 1)) + gwN n R j)) (12 + nxN n R (j + 1)) (R (12 + nxN n R (j + 1)) + gsN n R j)) k := by
  have hx := nxN_le (n := n) (R := R) (j := j + 1) (by omega)
  have e1 : nxN n R j = j := by rw [nxN_s hj, if_pos w]
  have e2 : ∀ f, pvN R f (j + 1) = f j := fun f => by rw [pvN, if_pos w]
  have iw : ∀ f i, i < j → inN n R f (j + 1) i = inN n R f j i := fun f i q => by
    unfold inN
    rw [if_pos q, if_pos (by omega)]
  have ij : ∀ f, inN n R f (j + 1) j = inN n R f j j := fun f => by
    unfold inN
    rw [if_pos (by omega), if_neg (by omega), e1, if_pos rfl]
  have io : ∀ f i, j < i → inN n R f j i = 0 := fun f i q => by
    unfold inN
    rw [if_neg (by omega), e1, if_neg (by omega)]
  have io2 : ∀ f i, j < i → inN n R f (j + 1) i = if nxN n R (j + 1) = i then f j else 0 := fun f i q => by
    unfold inN
    rw [if_neg (by omega), e2]
  by_cases a : 6 ≤ k ∧ k < 6 + n
  · obtain ⟨i, rfl⟩ : ∃ i, k = 6 + i := ⟨k - 6, by omega⟩
    have hi : i < n := by omega
    by_cases x : R (42 + i) = 0
    · rw [cpN_w hi x]
      rcases Nat.lt_trichotomy i j with q | q | q
      · rw [iw _ _ q, if_pos (by omega)]
        split
        · rw [upN_o (by omega), upN_o (by omega), upN_o (by omega), upN_o (by omega), cpN_w hi x, if_pos q]
        · rw [upN_o (by omega), upN_o (by omega), upN_o (by omega), upN_o (by omega), cpN_w hi x, if_pos q]
      · subst q
        rw [ij, if_pos (by omega)]
        split
        · rw [upN_o (by omega), upN_o (by omega), upN_o (by omega), upN_s, cpN_w hi x, if_neg (by omega), Nat.sub_zero]
        · rw [upN_o (by omega), upN_o (by omega), upN_o (by omega), upN_s, cpN_w hi x, if_neg (by omega), Nat.sub_zero]
      · rw [io2 _ _ q, if_neg (show ¬ i < j + 1 by omega), Nat.sub_zero]
        by_cases z0 : nxN n R (j + 1) = n
        · exact absurd x (nxN_no (n := n) (j := j + 1) (by omega) (by omega))
        · rw [if_neg z0, upN_o (by omega)]
          by_cases z : i = nxN n R (j + 1)
          · rw [← z, upN_s, if_pos rfl]
          · rw [upN_o (by omega), upN_o (by omega), upN_o (by omega), cpN_w hi x, io _ _ q, if_neg (show ¬ i < j by omega), if_neg (fun e => z e.symm)]
            rfl
    · rw [cpN_w0 hi x]
      have hij : i ≠ j := fun e => x (e ▸ w)
      have hit : nxN n R (j + 1) < n → i ≠ nxN n R (j + 1) := fun h e => x (e ▸ nxN_w (by omega) h)
      split
      · rw [upN_o (by omega), upN_o (by omega), upN_o (by omega), upN_o (by omega), cpN_w0 hi x]
      · have := hit (by omega)
        rw [upN_o (by omega), upN_o (by omega), upN_o (by omega), upN_o (by omega), cpN_w0 hi x]
  · by_cases b : 12 ≤ k ∧ k < 12 + n
    · obtain ⟨i, rfl⟩ : ∃ i, k = 12 + i := ⟨k - 12, by omega⟩
      have hi : i < n := by omega
      by_cases x : R (42 + i) = 0
      · rw [cpN_s hn hi x]
        rcases Nat.lt_trichotomy i j with q | q | q
        · rw [iw _ _ q, if_pos (by omega)]
          split
          · rw [upN_o (by omega), upN_o (by omega), upN_o (by omega), upN_o (by omega), cpN_s hn hi x, if_pos q]
          · rw [upN_o (by omega), upN_o (by omega), upN_o (by omega), upN_o (by omega), cpN_s hn hi x, if_pos q]
        · subst q
          rw [ij, if_pos (by omega)]
          split
          · rw [upN_o (by omega), upN_o (by omega), upN_s, cpN_s hn hi x, if_neg (by omega), Nat.sub_zero]
          · rw [upN_o (by omega), upN_o (by omega), upN_s, cpN_s hn hi x, if_neg (by omega), Nat.sub_zero]
        · rw [io2 _ _ q, if_neg (show ¬ i < j + 1 by omega), Nat.sub_zero]
          by_cases z0 : nxN n R (j + 1) = n
          · exact absurd x (nxN_no (n := n) (j := j + 1) (by omega) (by omega))
          · rw [if_neg z0]
            by_cases z : i = nxN n R (j + 1)
            · rw [← z, upN_s, if_pos rfl]
            · rw [upN_o (by omega), upN_o (by omega), upN_o (by omega), upN_o (by omega), cpN_s hn hi x, io _ _ q, if_neg (show ¬ i < j by omega), if_neg (fun e => z e.symm)]
              rfl
      · rw [cpN_s0 hn hi x]
        have hij : i ≠ j := fun e => x (e ▸ w)
        have hit : nxN n R (j + 1) < n → i ≠ nxN n R (j + 1) := fun h e => x (e ▸ nxN_w (by omega) h)
        split
        · rw [upN_o (by omega), upN_o (by omega), upN_o (by omega), upN_o (by omega), cpN_s0 hn hi x]
        · have := hit (by omega)
          rw [upN_o (by omega), upN_o (by omega), upN_o (by omega), upN_o (by omega), cpN_s0 hn hi x]
    · by_cases c : k = 61
      · subst c
        rw [cpN_61 hn, e2]
        split
        · rw [upN_o (by omega), upN_s]
        · rw [upN_o (by omega), upN_o (by omega), upN_o (by omega), upN_o (by omega), cpN_61 hn, if_neg (by omega)]
      · by_cases c2 : k = 62
        · subst c2
          rw [cpN_62 hn, e2]
          split
          · rw [upN_s]
          · rw [upN_o (by omega), upN_o (by omega), upN_o (by omega), upN_o (by omega), cpN_62 hn, if_neg (by omega)]
        · rw [cpN_o a b c c2]
          split
          · rw [upN_o (by omega), upN_o (by omega), upN_o (by omega), upN_o (by omega), cpN_o a b c c2]
          · rw [upN_o (by omega), upN_o (by omega), upN_o (by omega), upN_o (by omega), cpN_o a b c c2]
end CP
theorem fwN_cg {P R : Nat → Nat} : ∀ (d j : Nat), (∀ i, j ≤ i → i < j + d → P (42 + i) = R (42 + i)) → fwN P d j = fwN R d j
  | 0, j, _ => rfl
  | d + 1, j, h => by
    rw [fwN, fwN, h j (by omega) (by omega), fwN_cg d (j + 1) (fun i h1 h2 => h i (by omega) (by omega))]
theorem nxN_cg {n : Nat} {P R : Nat → Nat} {j : Nat} (hj : j ≤ n) (h : ∀ i, i < n → P (42 + i) = R (42 + i)) : nxN n P j = nxN n R j := fwN_cg _ _ (fun i _ h2 => h i (by omega))
section RG2
variable {M : MdV} {n : Nat} {R : Nat → Nat}
/-- the feed, at the end -/
theorem fed_eq (hn : n ≤ 6) {k : Nat} (hk : k < 64) : flN n R k = (if nxN n R 0 = n then upN (cpN n R n) 63 (R 63 + 1)
    else if R 49 + R 50 ≤ 5000 - amN R (nxN n R 0) then upN (upN (upN (upN (cpN n R n) (6 + nxN n R 0) (cpN n R n (6 + nxN n R 0) + R 49)) (12 + nxN n R 0) (cpN n R n (12 + nxN n R 0) + R 50)) 59 (R 59 + R 49)) 60 (R 60 + R 50)
    else upN (cpN n R n) 63 (R 63 + 1)) k := by
  have hx := nxN_le (n := n) (R := R) (j := 0) (by omega)
  have inn : ∀ f i, i < n → inN n R f n i = pvN R f i := fun f i hi => by unfold inN; rw [if_pos hi]
  have hf : ∀ b, fdN n R b = if nxN n R 0 = n then 0 else if R 49 + R 50 ≤ 5000 - amN R (nxN n R 0) then R b else 0 := fun b => rfl
  have hh : hdN n R = if nxN n R 0 = n then 1 else if R 49 + R 50 ≤ 5000 - amN R (nxN n R 0) then 0 else 1 := rfl
  have pf : ∀ f, pvN R f (nxN n R 0) = 0 := fun f => pvN_first _ (Nat.le_refl _)
  by_cases a : 6 ≤ k ∧ k < 6 + n
  · obtain ⟨i, rfl⟩ : ∃ i, k = 6 + i := ⟨k - 6, by omega⟩
    have hi : i < n := by omega
    unfold flN
    rw [if_pos a, Nat.add_sub_cancel_left]
    by_cases x : R (42 + i) = 0
    · have hc := cpN_w (j := n) hi x
      rw [inn _ _ hi, if_pos hi] at hc
      have hle := gwN_le (n := n) (R := R) (i := i)
      rw [if_pos x]
      by_cases z : i = nxN n R 0
      · have hp := pf (gwN n R)
        rw [← z] at hp
        rw [if_pos z, hf]
        split
        · omega
        · split
          · rw [upN_o (by omega), upN_o (by omega), upN_o (by omega), ← z, upN_s, hc, hp]; omega
          · rw [upN_o (by omega), hc, hp]
      · rw [if_neg z]
        split
        · rw [upN_o (by omega), hc]
        · split
          · rw [upN_o (by omega), upN_o (by omega), upN_o (by omega), upN_o (by omega), hc]
          · rw [upN_o (by omega), hc]
    · have hc := cpN_w0 (j := n) hi x
      rw [if_neg x]
      have z : nxN n R 0 < n → i ≠ nxN n R 0 := fun h e => x (e ▸ nxN_w (by omega) h)
      split
      · rw [upN_o (by omega), hc]
      · have := z (by omega)
        split
        · rw [upN_o (by omega), upN_o (by omega), upN_o (by omega), upN_o (by omega), hc]
        · rw [upN_o (by omega), hc]
  · by_cases b : 12 ≤ k ∧ k < 12 + n
    · obtain ⟨i, rfl⟩ : ∃ i, k = 12 + i := ⟨k - 12, by omega⟩
      have hi : i < n := by omega
      unfold flN
      rw [if_neg a, if_pos b, Nat.add_sub_cancel_left]
      by_cases x : R (42 + i) = 0
      · have hc := cpN_s (j := n) hn hi x
        rw [inn _ _ hi, if_pos hi] at hc
        have hle := gsN_le (n := n) (R := R) (i := i)
        rw [if_pos x]
        by_cases z : i = nxN n R 0
        · have hp := pf (gsN n R)
          rw [← z] at hp
          rw [if_pos z, hf]
          split
          · omega
          · split
            · rw [upN_o (by omega), upN_o (by omega), ← z, upN_s, hc, hp]; omega
            · rw [upN_o (by omega), hc, hp]
        · rw [if_neg z]
          split
          · rw [upN_o (by omega), hc]
          · split
            · rw [upN_o (by omega), upN_o (by omega), upN_o (by omega), upN_o (by omega), hc]
            · rw [upN_o (by omega), hc]
      · have hc := cpN_s0 (j := n) hn hi x
        rw [if_neg x]
        have z : nxN n R 0 < n → i ≠ nxN n R 0 := fun h e => x (e ▸ nxN_w (by omega) h)
        split
        · rw [upN_o (by omega), hc]
        · have := z (by omega)
          split
          · rw [upN_o (by omega), upN_o (by omega), upN_o (by omega), upN_o (by omega), hc]
          · rw [upN_o (by omega), hc]
    · unfold flN
      rw [if_neg a, if_neg b]
      by_cases c1 : k = 59
      · subst c1
        rw [if_pos rfl, hf]
        split
        · rw [upN_o (by omega), cpN_o (by omega) (by omega) (by omega) (by omega), Nat.add_zero]
        · split
          · rw [upN_o (by omega), upN_s]
          · rw [upN_o (by omega), cpN_o (by omega) (by omega) (by omega) (by omega), Nat.add_zero]
      · rw [if_neg c1]
        by_cases c2 : k = 60
        · subst c2
          rw [if_pos rfl, hf]
          split
          · rw [upN_o (by omega), cpN_o (by omega) (by omega) (by omega) (by omega), Nat.add_zero]
          · split
            · rw [upN_s]
            · rw [upN_o (by omega), cpN_o (by omega) (by omega) (by omega) (by omega), Nat.add_zero]
        · rw [if_neg c2]
          by_cases c3 : k = 61
          · subst c3
            have hc := cpN_61 (n := n) (R := R) (j := n) hn
            rw [if_pos nxN_n] at hc
            rw [if_pos rfl]
            split
            · rw [upN_o (by omega), hc]
            · split
              · rw [upN_o (by omega), upN_o (by omega), upN_o (by omega), upN_o (by omega), hc]
              · rw [upN_o (by omega), hc]
          · rw [if_neg c3]
            by_cases c4 : k = 62
            · subst c4
              have hc := cpN_62 (n := n) (R := R) (j := n) hn
              rw [if_pos nxN_n] at hc
              rw [if_pos rfl]
              split
              · rw [upN_o (by omega), hc]
              · split
                · rw [upN_o (by omega), upN_o (by omega), upN_o (by omega), upN_o (by omega), hc]
                · rw [upN_o (by omega), hc]
            · rw [if_neg c4]
              have hc := cpN_o (n := n) (R := R) (j := n) a b c3 c4
              by_cases c5 : k = 63
              · subst c5
                rw [if_pos rfl, hh]
                split
                · rw [upN_s]
                · split
                  · rw [upN_o (by omega), upN_o (by omega), upN_o (by omega), upN_o (by omega), hc]; rfl
                  · rw [upN_s]
              · rw [if_neg c5]
                split
                · rw [upN_o (by omega), hc]
                · split
                  · rw [upN_o (by omega), upN_o (by omega), upN_o (by omega), upN_o (by omega), hc]
                  · rw [upN_o (by omega), hc]
end RG2
