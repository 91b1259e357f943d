/-! bounds go on -/
theorem okQ.up {c c' n : Nat} {R : Nat → Nat} (h : okQ c n R) (hc : c ≤ c') : okQ c' n R := by
  obtain ⟨h1, h2, h3, h4⟩ := h
  exact ⟨h1, by omega, fun j hj => Nat.le_trans (h3 j hj) (Nat.mul_le_mul_left _ hc), h4⟩
theorem okX.up {c c' : Nat} {X : XV} (h : okX c X) (hc : c ≤ c') : okX c' X := by
  obtain ⟨h1, h2, h3, h4, h5, h6⟩ := h
  exact ⟨h1.up hc, h2, h3, h4, fun r hr => (h5 r hr).up hc, fun s r hr => (h6 s r hr).up hc⟩
theorem okQ.ticks {c n m : Nat} {R : Nat → Nat} (h : okQ c n R) (hm : m ≤ 99) : okQ (c + 1) n (tkM n m R) := by
  obtain ⟨h1, h2, h3, h4⟩ := h
  have e := tkM_53 m R h1
  obtain ⟨t1, -, -, -, t5⟩ := CT.ticks m R h1
  refine ⟨GN.ticks m R h1, by omega, fun j hj => ?_, t5 h4⟩
  have := t1 j hj
  have := h3 j hj
  omega
theorem okQ.set {c n k v : Nat} {R : Nat → Nat} (h : okQ c n R) (hg : GN n (upN R k v)) (hk : k < 53) : okQ c n (upN R k v) := by
  obtain ⟨h1, h2, h3, h4⟩ := h
  refine ⟨hg, by rw [upN_o (by omega)]; exact h2, fun j hj => by rw [upN_o (by omega)]; exact h3 j hj, ?_⟩
  unfold okH at *
  rw [upN_o (k := 54) (by omega), upN_o (k := 55) (by omega), upN_o (k := 56) (by omega), upN_o (k := 57) (by omega), upN_o (k := 58) (by omega)]
  exact h4
theorem x_sR {c : Nat} {X : XV} {R' : Nat → Nat} (h : okX c X) (hR : okQ (c + 1) (x_n X) R') : okX (c + 1) (sR X R') := by
  obtain ⟨h1, h2, h3, h4, h5, h6⟩ := h
  refine ⟨hR, h2, h3, ?_, fun r hr => ?_, fun s r hr => (h6 s r hr).up (by omega)⟩
  · show (push (x_R X) (x_d X)).length ≤ 14
    unfold push
    rw [List.length_take]
    omega
  · have hr2 : r ∈ x_R X :: x_d X := List.mem_of_mem_take hr
    rcases List.mem_cons.mp hr2 with e | e
    · rw [e]; exact h1.up (by omega)
    · exact (h5 r e).up (by omega)
theorem GN_set {n j v : Nat} {R : Nat → Nat} (hg : GN n R) (hj : j ≤ 4) (hv : v < 2147483648) (d : ¬ (nI v < tL (1 + j) ∨ tG (1 + j) < nI v)) : GN n (upN R (48 + j) v) := by
  have h1 : tL (1 + j) ≤ nI v := Int32.not_lt.mp fun h => d (Or.inl h)
  have h2 : nI v ≤ tG (1 + j) := Int32.not_lt.mp fun h => d (Or.inr h)
  rcases (show j = 0 ∨ j = 1 ∨ j = 2 ∨ j = 3 ∨ j = 4 by omega) with rfl | rfl | rfl | rfl | rfl
  · have : v ≤ 999 := (nI_leF (b := 999) hv (by omega)).mp h2
    exact hg.sett (by omega) (by simpa using this) (by omega) (by omega)
  · have : v ≤ 999 := (nI_leF (b := 999) hv (by omega)).mp h2
    exact hg.sett (by omega) (by simpa using this) (by omega) (by omega)
  · have : v ≤ 99 := (nI_leF (b := 99) hv (by omega)).mp h2
    exact hg.sett (by omega) (by simpa using this) (by omega) (by omega)
  · have : v ≤ 99 := (nI_leF (b := 99) hv (by omega)).mp h2
    exact hg.sett (by omega) (by simpa using this) (by omega) (by omega)
  · have : v ≤ 20 := (nI_leF (b := 20) hv (by omega)).mp h2
    have h3 : 1 ≤ v := (nI_leF (a := 1) (by omega) hv).mp h1
    exact hg.sett (by omega) (by simpa using this) (fun _ => h3) (by omega)
section KX
variable {c : Nat} {X X' : XV} {v : Int32}
theorem k_tick {p : Int32} (h : okX c X) (e : u_tick X p = .inr (v, X')) : okX (c + 1) X' := by
  unfold u_tick at e
  split at e
  · cases e
  · rename_i d
    cases e
    obtain ⟨m, hm, rfl, -⟩ := inR (H := 99) (by decide) (by decide) d
    rw [nI_cl (by omega)]
    exact x_sR h (h.1.ticks hm)
theorem k_set {p q : Int32} (h : okX c X) (e : u_set X p q = .inr (v, X')) : okX (c + 1) X' := by
  unfold u_set at e
  split at e
  · cases e
  · rename_i d
    obtain ⟨j, hj, rfl, -⟩ := inR (H := 4) (by decide) (by decide) d
    rw [nI_cl (by omega)] at e
    split at e
    · cases e
    · rename_i d2
      cases e
      have hlo : (0 : Int32) ≤ tL (1 + j) := by
        rcases (show j = 0 ∨ j = 1 ∨ j = 2 ∨ j = 3 ∨ j = 4 by omega) with rfl | rfl | rfl | rfl | rfl <;> decide
      have hq : ¬ q < 0 := Int32.not_lt.mpr (Int32.le_trans hlo (Int32.not_lt.mp fun h => d2 (Or.inl h)))
      obtain ⟨w, hw, rfl⟩ := nI_of hq
      rw [nI_cl hw]
      exact x_sR h ((h.1.set (GN_set h.1.1 hj hw d2) (by omega)).up (by omega))
theorem iE {n : Nat} {p : Int32} (hn : n ≤ 6) (d : ¬ (p < 0 ∨ nI n ≤ p)) : ∃ i : Nat, i < n ∧ p = nI i := by
  obtain ⟨j, hj, rfl⟩ := nI_of (fun h => d (Or.inl h))
  exact ⟨j, (nI_ltF hj (by omega)).mp (Int32.not_le.mp fun h => d (Or.inr h)), rfl⟩
theorem k_setValve {p q : Int32} (h : okX c X) (e : u_setValve X p q = .inr (v, X')) : okX (c + 1) X' := by
  unfold u_setValve at e
  split at e
  · cases e
  · rename_i d
    split at e
    · cases e
    · rename_i d2
      cases e
      have h6 := h.1.1.1.2
      obtain ⟨i, hi, rfl⟩ := iE h6 d
      obtain ⟨w, hw, rfl, -⟩ := inR (H := 999) (by decide) (by decide) d2
      rw [nI_cl (by omega), nI_cl (by omega)]
      exact x_sR h ((h.1.set (h.1.1.valve hi hw) (by omega)).up (by omega))
theorem k_setBleed {p q : Int32} (h : okX c X) (e : u_setBleed X p q = .inr (v, X')) : okX (c + 1) X' := by
  unfold u_setBleed at e
  split at e
  · cases e
  · rename_i d
    split at e
    · cases e
    · rename_i d2
      cases e
      have h6 := h.1.1.1.2
      obtain ⟨i, hi, rfl⟩ := iE h6 d
      obtain ⟨w, hw, rfl, -⟩ := inR (H := 90) (by decide) (by decide) d2
      rw [nI_cl (by omega), nI_cl (by omega)]
      exact x_sR h ((h.1.set (h.1.1.bleed hi hw) (by omega)).up (by omega))
theorem k_wash {p q : Int32} (h : okX c X) (e : u_wash X p q = .inr (v, X')) : okX (c + 1) X' := by
  unfold u_wash at e
  split at e
  · cases e
  · rename_i d
    split at e
    · cases e
    · rename_i d2
      split at e
      · cases e
        have h6 := h.1.1.1.2
        obtain ⟨i, hi, rfl⟩ := iE h6 d
        obtain ⟨w, hw, rfl, -⟩ := inR (H := 20) (by decide) (by decide) d2
        rw [nI_cl (by omega), nI_cl (by omega)]
        exact x_sR h ((h.1.set (h.1.1.left hi hw) (by omega)).up (by omega))
      · cases e
theorem k_endWash {p : Int32} (h : okX c X) (e : u_endWash X p = .inr (v, X')) : okX (c + 1) X' := by
  unfold u_endWash at e
  split at e
  · cases e
  · rename_i d
    split at e
    · cases e
    · cases e
      have h6 := h.1.1.1.2
      obtain ⟨i, hi, rfl⟩ := iE h6 d
      rw [nI_cl (by omega)]
      exact x_sR h ((h.1.set (h.1.1.left hi (by omega)) (by omega)).up (by omega))
theorem k_undo (h : okX c X) (e : u_undo X = .inr (v, X')) : okX c X' := by
  obtain ⟨h1, h2, h3, h4, h5, h6⟩ := h
  unfold u_undo at e
  cases hd : x_d X with
  | nil => rw [hd] at e; cases e
  | cons r ds =>
    rw [hd] at e h4 h5
    cases e
    rw [List.length_cons] at h4
    exact ⟨h5 r List.mem_cons_self, h2, h3, by show ds.length ≤ 14; omega, fun r9 hr => h5 r9 (List.mem_cons_of_mem _ hr), h6⟩
theorem k_save {p : Int32} (h : okX c X) (e : u_save X p = .inr (v, X')) : okX c X' := by
  obtain ⟨h1, h2, h3, h4, h5, h6⟩ := h
  unfold u_save at e
  split at e
  · cases e
  · cases e
    refine ⟨h1, h2, h3, h4, h5, fun s r hr => ?_⟩
    have hr : (if s = p.toNatClampNeg then some (x_R X) else x_K X s) = some r := hr
    split at hr
    · cases hr; exact h1
    · exact h6 s r hr
theorem k_restore {p : Int32} (h : okX c X) (e : u_restore X p = .inr (v, X')) : okX c X' := by
  obtain ⟨h1, h2, h3, h4, h5, h6⟩ := h
  unfold u_restore at e
  split at e
  · cases e
  · cases hk : x_K X p.toNatClampNeg with
    | none => rw [hk] at e; cases e
    | some r =>
      rw [hk] at e
      cases e
      exact ⟨h6 _ r hk, h2, h3, Nat.zero_le _, fun r9 hr => (by cases hr), h6⟩
theorem k_append {p : Int32} (h : okX c X) (e : u_append X p = .inr (v, X')) : okX c X' := by
  obtain ⟨h1, h2, h3, h4, h5, h6⟩ := h
  unfold u_append at e
  split at e
  · cases e
  · rename_i d
    split at e
    · rename_i hl
      cases e
      obtain ⟨w, hw, rfl, -⟩ := inR (H := 255) (by decide) (by decide) d
      rw [nI_cl (by omega)]
      refine ⟨h1, by show x_L X + 1 ≤ 120; omega, fun k hk => ?_, h4, h5, h6⟩
      have hk : k < x_L X + 1 := hk
      show upN (x_C X) (x_L X) w k ≤ 255
      unfold upN
      split
      · omega
      · exact h3 k (by omega)
    · cases e
theorem k_clear (h : okX c X) : okX c (u_clear X).2 := by
  obtain ⟨h1, h2, h3, h4, h5, h6⟩ := h
  exact ⟨h1, Nat.zero_le _, fun k hk => absurd hk (Nat.not_lt_zero _), h4, h5, h6⟩
theorem k_load (h : okX c X) (e : u_load X = .inr (v, X')) : okX c X' := by
  obtain ⟨h1, h2, h3, h4, h5, h6⟩ := h
  unfold u_load at e
  cases hx : rtN (x_L X) (x_C X) with
  | inl e1 => rw [hx] at e; cases e
  | inr W =>
    rw [hx] at e
    cases e
    obtain ⟨w2, w6⟩ := rt_2 hx
    have hok := row_ok (c := c) w2 w6 (rt_bd hx)
    have z : ∀ k, 53 ≤ k → rowF W (6 + 6 * W 0) k = 0 := fun k hk => row_0 (by omega)
    refine ⟨⟨hok.1, hok.2.1, fun j hj => ?_, ?_⟩, h2, h3, Nat.zero_le _, fun r9 hr => (by cases hr), fun s r hr => (by cases hr)⟩
    · show rowF W (6 + 6 * W 0) (54 + j) ≤ _
      rw [z _ (by omega)]
      exact Nat.zero_le _
    · show okH (rowF W (6 + 6 * W 0))
      unfold okH
      rw [z 54 (by omega), z 55 (by omega), z 56 (by omega), z 57 (by omega), z 58 (by omega)]
      omega
end KX
