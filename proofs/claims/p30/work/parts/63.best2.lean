/-! the reference's turns, by digits -/
def svN (n : Nat) : Nat → (Nat → Nat) → Nat → Option Nat
  | 0, _, _ => some 0
  | t + 1, R, w => if okC R (w / (n + 1) ^ t % (n + 1)) then (svN n t (nxR5 n R (w / (n + 1) ^ t % (n + 1))) w).map (fun v => vpC n R (w / (n + 1) ^ t % (n + 1)) + v) else none
theorem sv_mod {n : Nat} : ∀ (t d j : Nat) (R : Nat → Nat), svN n t R ((n + 1) ^ t * d + j) = svN n t R j
  | 0, d, j, R => rfl
  | t + 1, d, j, R => by
    have hp : 0 < (n + 1) ^ t := Nat.pow_pos (Nat.succ_pos n)
    have e0 : (n + 1) ^ (t + 1) * d = (n + 1) ^ t * ((n + 1) * d) := by rw [Nat.pow_succ, Nat.mul_assoc]
    have e1 : ((n + 1) ^ (t + 1) * d + j) / (n + 1) ^ t % (n + 1) = j / (n + 1) ^ t % (n + 1) := by
      rw [e0, Nat.mul_add_div hp, Nat.mul_add_mod]
    rw [svN, svN, e1, e0, sv_mod t ((n + 1) * d) j _]
theorem sv_le {n : Nat} : ∀ (t : Nat) (R : Nat → Nat) (w v : Nat), svN n t R w = some v → v ≤ bsN n t R
  | 0, R, w, v, h => by
    rw [svN] at h
    cases h
    exact Nat.le_refl _
  | t + 1, R, w, v, h => by
    rw [svN] at h
    split at h
    · rename_i hok
      cases hs : svN n t (nxR5 n R (w / (n + 1) ^ t % (n + 1))) w with
      | none => rw [hs] at h; cases h
      | some v' =>
        rw [hs] at h
        have hv : vpC n R (w / (n + 1) ^ t % (n + 1)) + v' = v := Option.some.inj h
        have h1 := sv_le t _ w v' hs
        have hd : w / (n + 1) ^ t % (n + 1) < n + 1 := Nat.mod_lt _ (Nat.succ_pos n)
        have key : ∀ (m : Nat) (f : Nat → Nat) (d : Nat), d < m → f d ≤ mxD m f := by
          intro m
          induction m with
          | zero => intro f d hd; omega
          | succ m ih =>
            intro f d hd
            show f d ≤ max (mxD m f) (f m)
            by_cases e : d = m
            · rw [e]; omega
            · have := ih f d (by omega)
              omega
        have h2 := key (n + 1) (fun d => if okC R d then vpC n R d + bsN n t (nxR5 n R d) else 0) _ hd
        rw [bsN]
        rw [if_pos hok] at h2
        omega
    · cases h
theorem mxD_at {m : Nat} {f : Nat → Nat} (h : 0 < m) : ∃ d, d < m ∧ f d = mxD m f := by
  induction m with
  | zero => omega
  | succ m ih =>
    by_cases e : m = 0
    · subst e
      exact ⟨0, by omega, by show f 0 = max 0 (f 0); omega⟩
    · obtain ⟨d, h1, h2⟩ := ih (by omega)
      by_cases e2 : mxD m f ≤ f m
      · exact ⟨m, by omega, by show f m = max (mxD m f) (f m); omega⟩
      · exact ⟨d, by omega, by show f d = max (mxD m f) (f m); omega⟩
theorem mxD_ge {f : Nat → Nat} : ∀ (m d : Nat), d < m → f d ≤ mxD m f
  | 0, d, h => by omega
  | m + 1, d, h => by
    show f d ≤ max (mxD m f) (f m)
    by_cases e : d = m
    · rw [e]; omega
    · have := mxD_ge (f := f) m d (by omega)
      omega
theorem sv_at {n : Nat} : ∀ (t : Nat) (R : Nat → Nat), ∃ j, j < (n + 1) ^ t ∧ svN n t R j = some (bsN n t R)
  | 0, R => ⟨0, by rw [Nat.pow_zero]; omega, rfl⟩
  | t + 1, R => by
    have hp : 0 < (n + 1) ^ t := Nat.pow_pos (Nat.succ_pos n)
    have hex : ∃ d, d < n + 1 ∧ okC R d ∧ vpC n R d + bsN n t (nxR5 n R d) = bsN n (t + 1) R := by
      obtain ⟨d, h1, h2⟩ := mxD_at (m := n + 1) (f := fun d => if okC R d then vpC n R d + bsN n t (nxR5 n R d) else 0) (Nat.succ_pos n)
      by_cases hok : okC R d
      · rw [if_pos hok] at h2
        exact ⟨d, h1, hok, h2⟩
      · rw [if_neg hok] at h2
        have h3 := mxD_ge (f := fun d => if okC R d then vpC n R d + bsN n t (nxR5 n R d) else 0) (n + 1) 0 (Nat.succ_pos n)
        have hok0 : okC R 0 := Or.inl rfl
        rw [if_pos hok0] at h3
        exact ⟨0, Nat.succ_pos n, hok0, by rw [bsN]; omega⟩
    obtain ⟨d, h1, h2, h3⟩ := hex
    obtain ⟨j, h4, h5⟩ := sv_at t (nxR5 n R d)
    have e1 : ((n + 1) ^ t * d + j) / (n + 1) ^ t % (n + 1) = d := by
      rw [Nat.mul_add_div hp, Nat.div_eq_of_lt h4, Nat.add_zero, Nat.mod_eq_of_lt h1]
    refine ⟨(n + 1) ^ t * d + j, ?_, ?_⟩
    · have h6 := Nat.mul_le_mul_left ((n + 1) ^ t) (show d + 1 ≤ n + 1 from h1)
      rw [Nat.mul_add, Nat.mul_one] at h6
      rw [Nat.pow_succ]
      omega
    · rw [svN, e1, if_pos h2, sv_mod, h5]
      show some (vpC n R d + bsN n t (nxR5 n R d)) = _
      rw [h3]
/-- the best so far, and the first one that has it -/
def IsB (g : Nat → Option Nat) (m best found : Nat) : Prop := found < m ∧ g found = some best ∧ (∀ w v, w < m → g w = some v → v ≤ best) ∧ ∀ w v, w < found → g w = some v → v < best
theorem fs_prop {f : Nat → Nat} : ∀ m : Nat, (fsN f m).2 ≤ m ∧ f (fsN f m).2 = (fsN f m).1 ∧ (∀ d, d ≤ m → f d ≤ (fsN f m).1) ∧ ∀ d, d < (fsN f m).2 → f d < (fsN f m).1
  | 0 => ⟨Nat.le_refl _, rfl, fun d hd => by
      have : d = 0 := by omega
      subst this
      exact Nat.le_refl _, fun d hd => by
      have : d < 0 := hd
      omega⟩
  | m + 1 => by
    obtain ⟨h1, h2, h3, h4⟩ := fs_prop (f := f) m
    rw [fsN]
    by_cases e : (fsN f m).1 < f (m + 1)
    · rw [if_pos e]
      exact ⟨Nat.le_refl _, rfl, fun d hd => by
        by_cases e2 : d = m + 1
        · rw [e2]; exact Nat.le_refl _
        · have := h3 d (by omega)
          show f d ≤ f (m + 1)
          omega, fun d hd => by
        have hd' : d < m + 1 := hd
        have := h3 d (by omega)
        show f d < f (m + 1)
        omega⟩
    · rw [if_neg e]
      exact ⟨by omega, h2, fun d hd => by
        by_cases e2 : d = m + 1
        · rw [e2]; omega
        · exact h3 d (by omega), h4⟩
theorem best_eq {n t : Nat} {R : Nat → Nat} {best found : Nat} (h : IsB (svN n (t + 1) R) ((n + 1) ^ (t + 1)) best found) : best = (fsN (ovN n t R) n).1 ∧ found / (n + 1) ^ t = (fsN (ovN n t R) n).2 := by
  obtain ⟨h1, h2, h3, h4⟩ := h
  obtain ⟨f1, f2, f3, f4⟩ := fs_prop (f := ovN n t R) n
  have hp : 0 < (n + 1) ^ t := Nat.pow_pos (Nat.succ_pos n)
  have hD : found / (n + 1) ^ t < n + 1 := by
    rw [Nat.div_lt_iff_lt_mul hp, Nat.mul_comm]
    rw [Nat.pow_succ] at h1
    exact h1
  have hup : ∀ w v, w / (n + 1) ^ t < n + 1 → svN n (t + 1) R w = some v → okC R (w / (n + 1) ^ t) ∧ v ≤ ovN n t R (w / (n + 1) ^ t) := by
    intro w v hw hs
    rw [svN, Nat.mod_eq_of_lt hw] at hs
    split at hs
    · rename_i hok
      cases hz : svN n t (nxR5 n R (w / (n + 1) ^ t)) w with
      | none => rw [hz] at hs; cases hs
      | some v' =>
        rw [hz] at hs
        have hv : vpC n R (w / (n + 1) ^ t) + v' = v := Option.some.inj hs
        have := sv_le t _ w v' hz
        refine ⟨hok, ?_⟩
        unfold ovN wvN
        rw [if_pos hok]
        omega
    · cases hs
  have hat : ∀ d, d < n + 1 → okC R d → ∃ w, w < (n + 1) ^ (t + 1) ∧ w / (n + 1) ^ t = d ∧ svN n (t + 1) R w = some (ovN n t R d) := by
    intro d hd hok
    obtain ⟨j, g1, g2⟩ := sv_at (n := n) t (nxR5 n R d)
    have e1 : ((n + 1) ^ t * d + j) / (n + 1) ^ t = d := by
      rw [Nat.mul_add_div hp, Nat.div_eq_of_lt g1, Nat.add_zero]
    refine ⟨(n + 1) ^ t * d + j, ?_, e1, ?_⟩
    · have h6 := Nat.mul_le_mul_left ((n + 1) ^ t) (show d + 1 ≤ n + 1 from hd)
      rw [Nat.mul_add, Nat.mul_one] at h6
      rw [Nat.pow_succ]
      omega
    · rw [svN, e1, Nat.mod_eq_of_lt hd, if_pos hok, sv_mod, g2]
      unfold ovN wvN
      rw [if_pos hok]
      rfl
  obtain ⟨k1, k2⟩ := hup found best hD h2
  have hb1 : best ≤ (fsN (ovN n t R) n).1 := Nat.le_trans k2 (f3 _ (by omega))
  have hok0 : okC R 0 := Or.inl rfl
  have hnk : ¬ okC R (fsN (ovN n t R) n).2 → (fsN (ovN n t R) n).1 = 0 := fun hn => by
    rw [← f2]
    show (if okC R (fsN (ovN n t R) n).2 then wvN n t R (fsN (ovN n t R) n).2 else 0) = 0
    rw [if_neg hn]
  have hb2 : (fsN (ovN n t R) n).1 ≤ best := by
    by_cases hok : okC R (fsN (ovN n t R) n).2
    · obtain ⟨w, g1, g2, g3⟩ := hat _ (by omega) hok
      rw [f2] at g3
      exact h3 w _ g1 g3
    · rw [hnk hok]; omega
  have hbe : best = (fsN (ovN n t R) n).1 := by omega
  refine ⟨hbe, ?_⟩
  have hlt1 : ¬ found / (n + 1) ^ t < (fsN (ovN n t R) n).2 := fun q => by
    have := f4 _ q
    omega
  have hlt2 : ¬ (fsN (ovN n t R) n).2 < found / (n + 1) ^ t := fun q => by
    by_cases hok : okC R (fsN (ovN n t R) n).2
    · obtain ⟨w, g1, g2, g3⟩ := hat _ (by omega) hok
      rw [f2, ← hbe] at g3
      have hw : w < found := by
        rw [← g2] at q
        refine Nat.not_le.mp fun z => ?_
        have := Nat.div_le_div_right (c := (n + 1) ^ t) z
        omega
      have := h4 w _ hw g3
      omega
    · have h0 : (fsN (ovN n t R) n).2 = 0 := by
        refine Nat.eq_zero_of_not_pos fun z => ?_
        have := f4 0 z
        rw [hnk hok] at this
        omega
      rw [h0] at hok
      exact hok hok0
  omega
