/-! the law's methods over plain numbers: what they answer -/
theorem smN_le {R : Nat → Nat} {b B : Nat} : ∀ i, (∀ j, j < i → R (b + j) ≤ B) → smN R b i ≤ B * i
  | 0, _ => Nat.zero_le _
  | i + 1, h => by
    rw [smN_s]
    have h1 := smN_le i fun j hj => h j (by omega)
    have h2 := h i (by omega)
    rw [Nat.mul_succ]
    omega
theorem de_lt {R : Nat → Nat} {i w : Nat} (h : GE R i) (hw : w ≤ 9) : deV R i w ≤ 500000 := by
  obtain ⟨⟨a1, a2⟩, b, c, d, e, f, g⟩ := h
  unfold deV
  by_cases h8 : w < 8
  · rw [if_pos h8]
    rcases (show w = 0 ∨ w = 1 ∨ w = 2 ∨ w = 3 ∨ w = 4 ∨ w = 5 ∨ w = 6 ∨ w = 7 by omega) with rfl | rfl | rfl | rfl | rfl | rfl | rfl | rfl <;> simp only [Nat.mul_zero, Nat.zero_add, Nat.mul_one, Nat.reduceMul] <;> omega
  · rw [if_neg h8]
    by_cases h9 : w = 8
    · rw [if_pos h9]
      unfold thN
      exact Nat.le_trans (Nat.div_le_self _ _) (by omega)
    · rw [if_neg h9]
      unfold pwN
      exact Nat.le_trans (Nat.div_le_self _ _) (by omega)
theorem ab_lt {n j : Nat} {R : Nat → Nat} (h : okQ 600 n R) (hj : j ≤ 9) : abV n R j ≤ 60000 := by
  obtain ⟨⟨⟨n2, n6⟩, hge, h48, h49, h50, h51, h52, h52b⟩, h53, -, -⟩ := h
  have w := wcN_le R n
  have s6 := smN_le (R := R) (b := 6) (B := 5000) n fun i hi => by have := (hge i hi).2.1; omega
  have s12 := smN_le (R := R) (b := 12) (B := 5000) n fun i hi => by have := (hge i hi).2.1; omega
  unfold abV
  rcases (show j = 0 ∨ j = 1 ∨ j = 2 ∨ j = 3 ∨ j = 4 ∨ j = 5 ∨ j = 6 ∨ j = 7 ∨ j = 8 ∨ j = 9 by omega) with rfl | rfl | rfl | rfl | rfl | rfl | rfl | rfl | rfl | rfl <;> simp <;> omega
section LX
variable {X : XV}
theorem not_lo {j : Nat} {lo hi : Nat} (h1 : lo ≤ j) (h2 : j ≤ hi) (hh : hi < 2147483648) : ¬ (nI j < nI lo ∨ nI hi < nI j) := fun h => by
  rcases h with h | h
  · have := (nI_ltF (by omega) (by omega)).mp h; omega
  · have := (nI_ltF (by omega) (by omega)).mp h; omega
theorem not_ix {j n : Nat} (h2 : j < n) (hh : n < 2147483648) : ¬ (nI j < (0 : Int32) ∨ nI n ≤ nI j) := fun h => by
  rcases h with h | h
  · have := (nI_ltF (a := j) (b := 0) (by omega) (by omega)).mp h; omega
  · have := (nI_leF (by omega) (by omega)).mp h; omega
theorem nl9 {j : Nat} (hj : j ≤ 9) : ¬ (nI j < (0 : Int32) ∨ (9 : Int32) < nI j) := not_lo (lo := 0) (hi := 9) (by omega) hj (by omega)
theorem y_about (h : okX 600 X) {j : Nat} (hj : j ≤ 9) : o_about X (nI j) = some (lN (abV (x_n X) (x_R X) j)) := by
  rw [z_about h]
  unfold u_about
  rw [if_neg (nl9 hj), nI_cl (by omega)]
  exact congrArg some (nI_l (lt31 (by have := ab_lt h.1 hj; omega)))
theorem y_total (h : okX 600 X) {j : Nat} (hj : j ≤ 9) : o_total X (nI j) = some (lN (x_R X (54 + j))) := by
  rw [z_total h]
  unfold u_total
  rw [if_neg (nl9 hj), nI_cl (by omega)]
  exact congrArg some (nI_l (lt31 (by have := h.1.2.2.1 j (by omega); omega)))
theorem y_effect (h : okX 600 X) {i j : Nat} (hi : i < x_n X) (hj : j ≤ 9) : o_effect X (nI i) (nI j) = some (lN (deV (x_R X) i j)) := by
  have h6 := h.1.1.1.2
  rw [z_effect h]
  unfold u_effect
  rw [if_neg (not_ix hi (by omega)), if_neg (nl9 hj), nI_cl (by omega), nI_cl (by omega)]
  exact congrArg some (nI_l (lt31 (by have := de_lt (h.1.1.2.1 i hi) hj; omega)))
theorem L_eff (h : okX 600 X) : f_L_effects X = some (nI (x_n X)) := by
  have e : o_about X 0 = some (lN (x_n X)) := y_about h (j := 0) (by omega)
  unfold f_L_effects
  rw [e, bd_some, lN_i]
theorem L_in {a b : Nat} (h : a ≤ b) (hb : b < 2147483648) : f_L_in (lN a) 0 (lN b) = some 1 := by
  unfold f_L_in
  rw [if_neg (fun c => ?_), if_neg (fun c => ?_)]
  · have := (pk_lLT (by omega) (by omega)).mp ((lg_cmp_gt _ _).mp c)
    omega
  · have c : lN a < lN 0 := (lg_cmp_lt _ _).mp c
    have := (pk_lLT (by omega) (by omega)).mp c
    omega
/-! all that is told of what is kept -/
theorem nw57 (h : okX 600 X) (k : Int64 → Int32 → Option Int64) : ∀ (r j fu : Nat) (x : Int64) (i : Int32), j + r = 10 → r < fu → ∃ y, f_L_now_57 k X fu x i (nI j) = k y (i + 1)
  | _, _, 0, _, _, _, hf => absurd hf (Nat.not_lt_zero _)
  | 0, j, fu + 1, x, i, hj, _ => ⟨x, by rw [f_L_now_57, if_pos (by rw [show (10 : Int32) = nI 10 from rfl, nI_leF (by omega) (by omega)]; omega)]⟩
  | r + 1, j, fu + 1, x, i, hj, hf => by
    rw [f_L_now_57, if_neg (by rw [show (10 : Int32) = nI 10 from rfl, nI_leF (by omega) (by omega)]; omega), z_effect h, bd_some, nm_e2, nI_s1]
    exact nw57 h k r (j + 1) fu _ i (by omega) (by omega)
theorem nw46 (h : okX 600 X) : ∀ (r i fu : Nat) (x : Int64), i + r = x_n X → r < fu → ∃ y, f_L_now_46 X fu x (nI i) = some y
  | _, _, 0, _, _, hf => absurd hf (Nat.not_lt_zero _)
  | r, i, fu + 1, x, hi, hf => by
    have h6 := h.1.1.1.2
    rw [f_L_now_46, L_eff h, bd_some]
    by_cases e : r = 0
    · exact ⟨x, by rw [if_pos (by rw [nI_leF (by omega) (by omega)]; omega)]⟩
    · rw [if_neg (by rw [nI_leF (by omega) (by omega)]; omega)]
      obtain ⟨y, e1⟩ := nw57 h (f_L_now_46 X fu) 10 0 11 x (nI i) rfl (by omega)
      have e1 : f_L_now_57 (f_L_now_46 X fu) X 11 x (nI i) 0 = f_L_now_46 X fu y (nI i + 1) := e1
      rw [e1, nI_s1]
      exact nw46 h (r - 1) (i + 1) fu y (by omega) (by omega)
theorem nw6 (h : okX 600 X) : ∀ (r j fu : Nat) (x : Int64), j + r = 10 → r < fu → ∃ y, f_L_now_6 X fu x (nI j) = some y
  | _, _, 0, _, _, hf => absurd hf (Nat.not_lt_zero _)
  | 0, j, fu + 1, x, hj, _ => by
    have h6 := h.1.1.1.2
    rw [f_L_now_6, if_pos (by rw [show (10 : Int32) = nI 10 from rfl, nI_leF (by omega) (by omega)]; omega)]
    exact nw46 h (x_n X) 0 7 x (by omega) (by omega)
  | r + 1, j, fu + 1, x, hj, hf => by
    rw [f_L_now_6, if_neg (by rw [show (10 : Int32) = nI 10 from rfl, nI_leF (by omega) (by omega)]; omega), z_about h, bd_some, z_total h, bd_some, nm_e2, nI_s1]
    exact nw6 h r (j + 1) fu _ (by omega) (by omega)
theorem L_now (h : okX 600 X) : ∃ v, f_L_now X = some v := nw6 h 10 0 11 59 rfl (by omega)
theorem nw57_cg {Y : XV} (h : okX 600 X) (g : okX 600 Y) (e1 : x_n X = x_n Y) (e2 : x_R X = x_R Y) {k k' : Int64 → Int32 → Option Int64} (hk : ∀ a b, k a b = k' a b) : ∀ (fu : Nat) (x : Int64) (i j : Int32), f_L_now_57 k X fu x i j = f_L_now_57 k' Y fu x i j
  | 0, _, _, _ => rfl
  | fu + 1, x, i, j => by
    rw [f_L_now_57, f_L_now_57, z_effect h, z_effect g, e1, e2, hk, bd_some, bd_some, nm_e2, nm_e2, nw57_cg h g e1 e2 hk fu]
theorem nw46_cg {Y : XV} (h : okX 600 X) (g : okX 600 Y) (e1 : x_n X = x_n Y) (e2 : x_R X = x_R Y) : ∀ (fu : Nat) (x : Int64) (i : Int32), f_L_now_46 X fu x i = f_L_now_46 Y fu x i
  | 0, _, _ => rfl
  | fu + 1, x, i => by
    rw [f_L_now_46, f_L_now_46, L_eff h, L_eff g, e1, bd_some, bd_some, nw57_cg h g e1 e2 (nw46_cg h g e1 e2 fu)]
theorem nw6_cg {Y : XV} (h : okX 600 X) (g : okX 600 Y) (e1 : x_n X = x_n Y) (e2 : x_R X = x_R Y) : ∀ (fu : Nat) (x : Int64) (i : Int32), f_L_now_6 X fu x i = f_L_now_6 Y fu x i
  | 0, _, _ => rfl
  | fu + 1, x, i => by
    rw [f_L_now_6, f_L_now_6, nw46_cg h g e1 e2, z_about h, z_about g, bd_some, bd_some, z_total h, z_total g, bd_some, bd_some, nm_e2, nm_e2, e1, e2, nw6_cg h g e1 e2 fu]
theorem L_now_cg {Y : XV} (h : okX 600 X) (g : okX 600 Y) (e1 : x_n X = x_n Y) (e2 : x_R X = x_R Y) : f_L_now X = f_L_now Y := nw6_cg h g e1 e2 _ _ _
end LX
/-! an act -/
def Gd (c : Nat) (o : Option (Int64 × XV)) : Prop := ∃ v X', o = some (v, X') ∧ okX c X'
section LA
variable {X : XV} {c : Nat}
theorem Gd.ite {p : Prop} [Decidable p] {a b : Option (Int64 × XV)} (h1 : Gd c a) (h2 : Gd c b) : Gd c (if p then a else b) := by
  split
  · exact h1
  · exact h2
theorem Gd.nm {α : Type} {a : α} {k : α → Option (Int64 × XV)} (h : ∀ v, Gd c (k v)) : Gd c (nm a k) := h a
theorem Gd.bd {o : Option (Int64 × XV)} {f : Int64 × XV → Option (Int64 × XV)} (h : Gd c o) (hf : ∀ v X', f (v, X') = some (v, X')) : Gd c (bd o f) := by
  obtain ⟨v, X', e, hX⟩ := h
  exact ⟨v, X', by rw [e, bd_some, hf], hX⟩
theorem Gd.m1 {u : String ⊕ (Int32 × XV)} (hX : okX c X) (h : ∀ v X', u = .inr (v, X') → okX (c + 1) X') : Gd (c + 1) (some (wm X u)) := by
  cases u with
  | inl E => exact ⟨_, _, rfl, hX.up (by omega)⟩
  | inr p => exact ⟨_, _, rfl, h p.1 p.2 rfl⟩
theorem Gd.m0 {u : String ⊕ (Int32 × XV)} (hX : okX c X) (h : ∀ v X', u = .inr (v, X') → okX c X') : Gd (c + 1) (some (wm X u)) := Gd.m1 hX fun v X' e => (h v X' e).up (by omega)
theorem ta_tick (h : okX c X) (hc : c < 600) (p : Int32) : Gd (c + 1) (o_tick X p) := by rw [z_tick (h.up (by omega))]; exact Gd.m1 h fun _ _ e => k_tick h e
theorem ta_set (h : okX c X) (hc : c < 600) (p q : Int32) : Gd (c + 1) (o_set X p q) := by rw [z_set (h.up (by omega))]; exact Gd.m1 h fun _ _ e => k_set h e
theorem ta_setValve (h : okX c X) (hc : c < 600) (p q : Int32) : Gd (c + 1) (o_setValve X p q) := by rw [z_setValve (h.up (by omega))]; exact Gd.m1 h fun _ _ e => k_setValve h e
theorem ta_setBleed (h : okX c X) (hc : c < 600) (p q : Int32) : Gd (c + 1) (o_setBleed X p q) := by rw [z_setBleed (h.up (by omega))]; exact Gd.m1 h fun _ _ e => k_setBleed h e
theorem ta_wash (h : okX c X) (hc : c < 600) (p q : Int32) : Gd (c + 1) (o_wash X p q) := by rw [z_wash (h.up (by omega))]; exact Gd.m1 h fun _ _ e => k_wash h e
theorem ta_endWash (h : okX c X) (hc : c < 600) (p : Int32) : Gd (c + 1) (o_endWash X p) := by rw [z_endWash (h.up (by omega))]; exact Gd.m1 h fun _ _ e => k_endWash h e
theorem ta_undo (h : okX c X) (hc : c < 600) : Gd (c + 1) (o_undo X) := by rw [z_undo (h.up (by omega))]; exact Gd.m0 h fun _ _ e => k_undo h e
theorem ta_save (h : okX c X) (hc : c < 600) (p : Int32) : Gd (c + 1) (o_save X p) := by rw [z_save (h.up (by omega))]; exact Gd.m0 h fun _ _ e => k_save h e
theorem ta_restore (h : okX c X) (hc : c < 600) (p : Int32) : Gd (c + 1) (o_restore X p) := by rw [z_restore (h.up (by omega))]; exact Gd.m0 h fun _ _ e => k_restore h e
theorem L_act (h : okX c X) (hc : c < 600) (x y : Int32) : Gd (c + 1) (f_L_act X x y) := by
  unfold f_L_act
  refine Gd.nm fun v => ?_
  repeat' first
    | with_reducible refine Gd.ite ?_ ?_
    | with_reducible refine Gd.bd ?_ (fun _ _ => rfl)
    | with_reducible refine Gd.nm fun v2 => ?_
    | with_reducible exact ta_tick h hc _
    | with_reducible exact ta_set h hc _ _
    | with_reducible exact ta_setValve h hc _ _
    | with_reducible exact ta_setBleed h hc _ _
    | with_reducible exact ta_wash h hc _ _
    | with_reducible exact ta_endWash h hc _
    | with_reducible exact ta_undo h hc
    | with_reducible exact ta_save h hc _
    | with_reducible exact ta_restore h hc _
end LA
