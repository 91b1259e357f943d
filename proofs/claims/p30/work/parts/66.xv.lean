/-! a train in plain numbers: what each call answers and leaves -/
theorem inR {p lo hi : Int32} {H : Nat} (hH : hi.toInt = H) (h0 : 0 ≤ lo) (c : ¬ (p < lo ∨ hi < p)) : ∃ j : Nat, j ≤ H ∧ p = nI j ∧ lo ≤ nI j := by
  have k0 : lo ≤ p := Int32.not_lt.mp fun h => c (Or.inl h)
  obtain ⟨j, hj, e⟩ := nI_of2 hH (Int32.not_lt.mpr (Int32.le_trans h0 k0)) (Int32.not_lt.mp fun h => c (Or.inr h))
  exact ⟨j, hj, e, e ▸ k0⟩
theorem ckX {p lo hi : Int32} : (f_X1_checkRange p lo hi = some (.inl xR) ∧ (p < lo ∨ hi < p)) ∨ (f_X1_checkRange p lo hi = some (.inr ()) ∧ ¬ (p < lo ∨ hi < p)) := by
  unfold f_X1_checkRange
  by_cases x : p < lo
  · exact Or.inl ⟨if_pos x, Or.inl x⟩
  · rw [if_neg x]
    by_cases y : p ≤ hi
    · exact Or.inr ⟨if_pos y, fun h => h.elim x (Int32.not_lt.mpr y)⟩
    · exact Or.inl ⟨if_neg y, Or.inr (Int32.not_le.mp y)⟩
theorem ceX {T : TrV} {N : StV} {n : Nat} {p : Int32} (hN : s_n N = nI n) (h6 : n ≤ 6) : (f_X1_checkEffect T N p = some (.inl xB) ∧ (p < 0 ∨ nI n ≤ p)) ∨ ∃ i : Nat, i < n ∧ p = nI i ∧ f_X1_checkEffect T N p = some (.inr ()) ∧ ¬ (p < 0 ∨ nI n ≤ p) := by
  unfold f_X1_checkEffect
  rw [hN]
  by_cases x : p < 0
  · exact Or.inl ⟨if_pos x, Or.inl x⟩
  · obtain ⟨j, hj, rfl⟩ := nI_of x
    rw [if_neg x]
    by_cases y : nI j < nI n
    · exact Or.inr ⟨j, (nI_ltF hj (by omega)).mp y, rfl, if_pos y, fun h => h.elim x (Int32.not_le.mpr y)⟩
    · exact Or.inl ⟨if_neg y, Or.inr (Int32.not_lt.mp y)⟩
theorem csX {p : Int32} : (f_X1_checkSlot p = some (.inl xB) ∧ (p < 0 ∨ 2 ≤ p)) ∨ ∃ i : Nat, i < 2 ∧ p = nI i ∧ f_X1_checkSlot p = some (.inr ()) ∧ ¬ (p < 0 ∨ 2 ≤ p) := by
  unfold f_X1_checkSlot
  by_cases x : p < 0
  · exact Or.inl ⟨if_pos x, Or.inl x⟩
  · obtain ⟨j, hj, rfl⟩ := nI_of x
    rw [if_neg x]
    by_cases y : nI j < 2
    · refine Or.inr ⟨j, ?_, rfl, if_pos y, fun h => h.elim x (Int32.not_le.mpr y)⟩
      rw [L2] at y
      exact (nI_ltF hj (by omega)).mp y
    · exact Or.inl ⟨if_neg y, Or.inr (Int32.not_lt.mp y)⟩
/-! the values -/
abbrev XV : Type := Nat × (Nat → Nat) × (Nat × (Nat → Nat)) × List (Nat → Nat) × (Nat → Option (Nat → Nat))
def x_n (X : XV) : Nat := X.1
def x_R (X : XV) : Nat → Nat := X.2.1
def x_L (X : XV) : Nat := X.2.2.1.1
def x_C (X : XV) : Nat → Nat := X.2.2.1.2
def x_d (X : XV) : List (Nat → Nat) := X.2.2.2.1
def x_K (X : XV) : Nat → Option (Nat → Nat) := X.2.2.2.2
/-- the counts: the heat adds up -/
def okH (R : Nat → Nat) : Prop := R 54 = R 56 + R 57 + R 58 ∧ R 56 ≤ R 55 ∧ R 57 ≤ R 55
def okQ (c n : Nat) (R : Nat → Nat) : Prop := GN n R ∧ R 53 ≤ 99 * c ∧ (∀ j, j < 10 → R (54 + j) ≤ 98901 * c) ∧ okH R
def okX (c : Nat) (X : XV) : Prop := okQ c (x_n X) (x_R X) ∧ x_L X ≤ 120 ∧ (∀ k, k < x_L X → x_C X k ≤ 255) ∧ (x_d X).length ≤ 14 ∧ (∀ r, r ∈ x_d X → okQ c (x_n X) r) ∧ ∀ s r, x_K X s = some r → okQ c (x_n X) r
/-- the class's object holds it -/
def txX (L : Nat) (C : Nat → Nat) (T : TrV) : Prop := tr_tln T = nI L ∧ ∀ k, k < L → tr_txt T k = nI (C k)
def rgX (n : Nat) (ds : List (Nat → Nat)) (T : TrV) (Q : PoV) : Prop := tr_rcn T = nI ds.length ∧ ∃ w, w < 14 ∧ tr_nws T = nI w ∧ ∀ (j : Nat) (r : Nat → Nat), ds[j]? = some r → ∃ S, Q (3 + (w + 14 - j) % 14) = some S ∧ AgS n 0 S r
def slX (n : Nat) (K : Nat → Option (Nat → Nat)) (T : TrV) (Q : PoV) : Prop := ∀ s, s < 2 → (K s = none ∧ tr_fil T s = 0) ∨ ∃ r, K s = some r ∧ tr_fil T s = 1 ∧ ∃ S, Q (17 + s) = some S ∧ AgS n 0 S r
def IX (X : XV) (T : TrV) (N : StV) (Q : PoV) : Prop := AgS (x_n X) 0 N (x_R X) ∧ txX (x_L X) (x_C X) T ∧ rgX (x_n X) (x_d X) T Q ∧ slX (x_n X) (x_K X) T Q
/-! questions -/
def u_about (n : Nat) (R : Nat → Nat) (p : Int32) : String ⊕ Int32 := if p < 0 ∨ 9 < p then .inl xR else .inr (nI (abV n R p.toNatClampNeg))
def u_total (n : Nat) (R : Nat → Nat) (p : Int32) : String ⊕ Int32 := if p < 0 ∨ 9 < p then .inl xR else .inr (nI (R (54 + p.toNatClampNeg)))
def u_effect (n : Nat) (R : Nat → Nat) (p q : Int32) : String ⊕ Int32 := if p < 0 ∨ nI n ≤ p then .inl xB else if q < 0 ∨ 9 < q then .inl xR else .inr (nI (deV R p.toNatClampNeg q.toNatClampNeg))
def nbV (n : Nat) (R : Nat → Nat) (i : Nat) : Int32 := if nxN n R (i + 1) = n then (-9) else nI (nxN n R (i + 1))
def u_neighbor (n : Nat) (R : Nat → Nat) (p q : Int32) : String ⊕ Int32 := if p < 0 ∨ nI n ≤ p then .inl xB else if q = 0 then .inr (bwV R p.toNatClampNeg) else .inr (nbV n R p.toNatClampNeg)
def ecV (R : Nat → Nat) : UInt32 := if R 54 = 0 then FP.fconst0 else FP.fdiv (FP.i2f (nI (R 55))) (FP.i2f (nI (R 54)))
def shV (R : Nat → Nat) (i : Nat) : UInt32 := if amN R i = 0 then FP.fconst0 else FP.fdiv (FP.i2f (nI (R (12 + i)))) (FP.i2f (nI (amN R i)))
def u_share (n : Nat) (R : Nat → Nat) (p : Int32) : String ⊕ UInt32 := if p < 0 ∨ nI n ≤ p then .inl xB else .inr (shV R p.toNatClampNeg)
def grV (n : Nat) (R : Nat → Nat) (m j : Nat) : Int32 := nI (tkM n m R (54 + j)) - nI (R (54 + j))
def u_growth (n : Nat) (R : Nat → Nat) (p q : Int32) : String ⊕ Int32 := if p < 1 ∨ 99 < p then .inl xR else if q < 0 ∨ 9 < q then .inl xR else .inr (grV n R p.toNatClampNeg q.toNatClampNeg)
def u_ahead (n : Nat) (R : Nat → Nat) (p q r : Int32) : String ⊕ Int32 := if p < 0 ∨ nI n ≤ p then .inl xB else if q < 0 ∨ 99 < q then .inl xR else if r < 0 ∨ 9 < r then .inl xR else .inr (nI (deV (tkM n q.toNatClampNeg R) p.toNatClampNeg r.toNatClampNeg))
def wgV (n : Nat) (R : Nat → Nat) (i z m : Nat) : Int32 := (nI (tkM n m (upN R (42 + i) z) 55) - nI (R 55)) - (nI (tkM n m R 55) - nI (R 55))
def u_washGain (n : Nat) (R : Nat → Nat) (p q r : Int32) : String ⊕ Int32 := if p < 0 ∨ nI n ≤ p then .inl xB else if q < 1 ∨ 20 < q then .inl xR else if r < 1 ∨ 99 < r then .inl xR else if R (42 + p.toNatClampNeg) = 0 then .inr (wgV n R p.toNatClampNeg q.toNatClampNeg r.toNatClampNeg) else .inl xS
def scF (n i z : Nat) : Nat → Nat → (Nat → Nat) → Int32
  | 0, _, _ => -9
  | fu + 1, x, P => if P (30 + i) < z then scF n i z fu (x + 1) (tkN n P) else nI x
def u_scaledAfter (n : Nat) (R : Nat → Nat) (p q : Int32) : String ⊕ Int32 := if p < 0 ∨ nI n ≤ p then .inl xB else if q < 1 ∨ 99 < q then .inl xR else .inr (scF n p.toNatClampNeg q.toNatClampNeg 201 0 R)
def sfF (n m : Nat) (R : Nat → Nat) (p : Int32) : Nat → Nat → Int32
  | 0, _ => -9
  | fu + 1, x => if stV n m R x < p then sfF n m R p fu (x + 1) else nI x
def u_steamFor (n : Nat) (R : Nat → Nat) (p q : Int32) : String ⊕ Int32 := if p < 0 ∨ 9999 < p then .inl xR else if q < 1 ∨ 20 < q then .inl xR else .inr (sfF n q.toNatClampNeg R p 91 0)
def btV (n : Nat) (R : Nat → Nat) (t : Nat) (q : Int32) : Int32 := if q = 0 then nI (fsN (ovN n t R) n).1 else nI (fsN (ovN n t R) n).2 - 1
def u_bestTurns (n : Nat) (R : Nat → Nat) (p q : Int32) : String ⊕ Int32 := if p < 1 ∨ 3 < p then .inl xR else .inr (btV n R (p.toNatClampNeg - 1) q)
/-- a reference at this state, the rest of it empty -/
def mC (n : Nat) (R : Nat → Nat) : MdV := (0, 0, 0, 0, nI n, 0, fun _ => 0, fun _ => 0, fun k => nI (R k), fun _ => 0, fun _ => 0, fun _ => 0, fun _ => 0, fun _ => 0, fun _ => 0)
def oqv (y : Option (Int32 × MdV)) : String ⊕ Int32 := match y with
  | none => .inr 0
  | some (v, M') => if m_ref M' = 0 then .inr v else .inl xR
def u_script (n : Nat) (R : Nat → Nat) (p : Int32) (q : Int64) : String ⊕ Int32 := oqv (f_X2_runScript (mC n R) p q)
def u_simulate (n : Nat) (R : Nat → Nat) (p : Int64) (q : Int32) : String ⊕ Int32 := oqv (f_X2_simulate (mC n R) p q)
def wV (u : String ⊕ Int32) (V : StV) : String ⊕ (Int32 × StV) := match u with
  | .inl E => .inl E
  | .inr v => .inr (v, V)
section QX
variable {T : TrV} {N V : StV} {n : Nat} {R : Nat → Nat}
theorem a_about (hA : AgS n 0 N R) (hg : GN n R) (p : Int32) : f_X1_about T N p = some (u_about n R p) := by
  obtain ⟨⟨n2, n6⟩, hge, -⟩ := id hg
  have hl : ∀ i, i < n → R (42 + i) < 2147483648 := fun i hi => by have := (hge i hi).2.2.2.2.2.2; omega
  unfold f_X1_about u_about
  rcases ckX (p := p) (lo := 0) (hi := 9) with ⟨e1, c⟩ | ⟨e1, c⟩
  · rw [e1, bx_e, if_pos c]
  · rw [e1, bx_r, if_neg c]
    obtain ⟨j, hj, rfl, -⟩ := inR (H := 9) (by decide) (by decide) c
    clear c e1
    rw [nI_cl (by omega)]
    have hc : j = 0 ∨ j = 1 ∨ j = 2 ∨ j = 3 ∨ j = 4 ∨ j = 5 ∨ j = 6 ∨ j = 7 ∨ j = 8 ∨ j = 9 := by omega
    rcases hc with rfl | rfl | rfl | rfl | rfl | rfl | rfl | rfl | rfl | rfl <;> (repeat first | rw [if_neg (by decide)] | rw [if_pos (by decide)])
    · rw [hA.1]; rfl
    · rw [show nI 1 - 1 = nI 0 by decide, gb_in (by omega) (by omega), nI_cl (by omega), hA.2.2.1 0 (by omega)]; rfl
    · rw [show nI 2 - 1 = nI 1 by decide, gb_in (by omega) (by omega), nI_cl (by omega), hA.2.2.1 1 (by omega)]; rfl
    · rw [show nI 3 - 1 = nI 2 by decide, gb_in (by omega) (by omega), nI_cl (by omega), hA.2.2.1 2 (by omega)]; rfl
    · rw [show nI 4 - 1 = nI 3 by decide, gb_in (by omega) (by omega), nI_cl (by omega), hA.2.2.1 3 (by omega)]; rfl
    · rw [show nI 5 - 1 = nI 4 by decide, gb_in (by omega) (by omega), nI_cl (by omega), hA.2.2.1 4 (by omega)]; rfl
    · rw [hA.2.1]; rfl
    · rw [s_washed hA n6 hl, bd_some]; rfl
    · rw [s_water hA n6, bd_some]; rfl
    · rw [s_solids hA n6, bd_some]; rfl
theorem a_total (hA : AgS n 0 N R) (p : Int32) : f_X1_total T N p = some (u_total n R p) := by
  unfold f_X1_total u_total
  rcases ckX (p := p) (lo := 0) (hi := 9) with ⟨e1, c⟩ | ⟨e1, c⟩
  · rw [e1, bx_e, if_pos c]
  · rw [e1, bx_r, if_neg c]
    obtain ⟨j, hj, rfl, -⟩ := inR (H := 9) (by decide) (by decide) c
    rw [gb_in (by omega) (by omega), nI_cl (by omega), hA.c0 (by omega)]
theorem a_effect (hA : AgS n 0 N R) (hg : GN n R) (p q : Int32) : f_X1_effect T N p q = some (u_effect n R p q) := by
  obtain ⟨⟨n2, n6⟩, hge, -⟩ := id hg
  unfold f_X1_effect u_effect
  rcases ceX (T := T) (p := p) hA.1 n6 with ⟨e1, c⟩ | ⟨i, hi, rfl, e1, c⟩
  · rw [e1, bx_e, if_pos c]
  · rw [e1, bx_r, if_neg c]
    rcases ckX (p := q) (lo := 0) (hi := 9) with ⟨e2, c2⟩ | ⟨e2, c2⟩
    · rw [e2, bx_e, if_pos c2]
    · rw [e2, bx_r, if_neg c2]
      obtain ⟨j, hj, rfl, -⟩ := inR (H := 9) (by decide) (by decide) c2
      rw [s_number hA n6 hi (hge i hi) hj, bd_some, nI_cl (by omega), nI_cl (by omega)]
theorem a_neighbor (hA : AgS n 0 N R) (hg : GN n R) (p q : Int32) : f_X1_neighbor T N p q = some (u_neighbor n R p q) := by
  obtain ⟨⟨n2, n6⟩, hge, -⟩ := id hg
  have hl : ∀ i, i < n → R (42 + i) < 2147483648 := fun i hi => by have := (hge i hi).2.2.2.2.2.2; omega
  unfold f_X1_neighbor u_neighbor
  rcases ceX (T := T) (p := p) hA.1 n6 with ⟨e1, c⟩ | ⟨i, hi, rfl, e1, c⟩
  · rw [e1, bx_e, if_pos c]
  · rw [e1, bx_r, if_neg c]
    by_cases z : q = 0
    · rw [if_pos z, if_pos z]
      unfold f_X0_effectBefore
      rw [nm_e2, s_before_4 hA n6 hl 2000 i (by omega) (by omega), bd_some, nI_cl (by omega)]
    · rw [if_neg z, if_neg z, s_behind hA n6 hl hi, bd_some, nI_cl (by omega)]
      rfl
theorem a_growth (hA : AgS n 0 N R) (hg : GN n R) (hc : R 53 < 2000000000) (p q : Int32) : ∃ V', f_X1_growth T N V p q = some (wV (u_growth n R p q) V') := by
  have n6 := hg.1.2
  unfold f_X1_growth u_growth
  rcases ckX (p := p) (lo := 1) (hi := 99) with ⟨e1, c⟩ | ⟨e1, c⟩
  · exact ⟨V, by rw [e1, bx_e, if_pos c]; rfl⟩
  · rw [e1, bx_r, if_neg c]
    obtain ⟨m, hm, rfl, -⟩ := inR (H := 99) (by decide) (by decide) c
    rcases ckX (p := q) (lo := 0) (hi := 9) with ⟨e2, c2⟩ | ⟨e2, c2⟩
    · exact ⟨V, by rw [e2, bx_e, if_pos c2]; rfl⟩
    · rw [e2, bx_r, if_neg c2]
      obtain ⟨j, hj, rfl, -⟩ := inR (H := 9) (by decide) (by decide) c2
      obtain ⟨V1, c1, a1⟩ := s_copy (S := V) hA n6
      obtain ⟨V2, c3, a2⟩ := s_pass (m := m) a1 hg (by omega) (by omega)
      refine ⟨V2, ?_⟩
      rw [c1, bd_some, c3, bd_some]
      dsimp only
      rw [gb_in (by omega) (by omega), gb_in (by omega) (by omega), nI_cl (by omega), nI_cl (by omega), a2.c0 (by omega), hA.c0 (by omega)]
      rfl
theorem a_ahead (hA : AgS n 0 N R) (hg : GN n R) (hc : R 53 < 2000000000) (p q r : Int32) : ∃ V', f_X1_ahead T N V p q r = some (wV (u_ahead n R p q r) V') := by
  have n6 := hg.1.2
  unfold f_X1_ahead u_ahead
  rcases ceX (T := T) (p := p) hA.1 n6 with ⟨e1, c⟩ | ⟨i, hi, rfl, e1, c⟩
  · exact ⟨V, by rw [e1, bx_e, if_pos c]; rfl⟩
  · rw [e1, bx_r, if_neg c]
    rcases ckX (p := q) (lo := 0) (hi := 99) with ⟨e2, c2⟩ | ⟨e2, c2⟩
    · exact ⟨V, by rw [e2, bx_e, if_pos c2]; rfl⟩
    · rw [e2, bx_r, if_neg c2]
      obtain ⟨m, hm, rfl, -⟩ := inR (H := 99) (by decide) (by decide) c2
      rcases ckX (p := r) (lo := 0) (hi := 9) with ⟨e3, c3⟩ | ⟨e3, c3⟩
      · exact ⟨V, by rw [e3, bx_e, if_pos c3]; rfl⟩
      · rw [e3, bx_r, if_neg c3]
        obtain ⟨j, hj, rfl, -⟩ := inR (H := 9) (by decide) (by decide) c3
        obtain ⟨V1, c4, a1⟩ := s_copy (S := V) hA n6
        obtain ⟨V2, c5, a2⟩ := s_pass (m := m) a1 hg (by omega) (by omega)
        have hge2 := (GN.ticks m R hg).2.1 i hi
        refine ⟨V2, ?_⟩
        rw [c4, bd_some, c5, bd_some]
        dsimp only
        rw [s_number a2 n6 hi hge2 hj, bd_some, nI_cl (by omega), nI_cl (by omega), nI_cl (by omega)]
        rfl
theorem a_washGain (hA : AgS n 0 N R) (hg : GN n R) (hc : R 53 < 2000000000) (p q r : Int32) : ∃ V', f_X1_washGain T N V p q r = some (wV (u_washGain n R p q r) V') := by
  obtain ⟨⟨n2, n6⟩, hge, -⟩ := id hg
  unfold f_X1_washGain u_washGain
  rcases ceX (T := T) (p := p) hA.1 n6 with ⟨e1, c⟩ | ⟨i, hi, rfl, e1, c⟩
  · exact ⟨V, by rw [e1, bx_e, if_pos c]; rfl⟩
  · rw [e1, bx_r, if_neg c]
    rcases ckX (p := q) (lo := 1) (hi := 20) with ⟨e2, c2⟩ | ⟨e2, c2⟩
    · exact ⟨V, by rw [e2, bx_e, if_pos c2]; rfl⟩
    · rw [e2, bx_r, if_neg c2]
      obtain ⟨z, hz, rfl, -⟩ := inR (H := 20) (by decide) (by decide) c2
      rcases ckX (p := r) (lo := 1) (hi := 99) with ⟨e3, c3⟩ | ⟨e3, c3⟩
      · exact ⟨V, by rw [e3, bx_e, if_pos c3]; rfl⟩
      · rw [e3, bx_r, if_neg c3]
        obtain ⟨m, hm, rfl, -⟩ := inR (H := 99) (by decide) (by decide) c3
        obtain ⟨-, -, -, -, -, -, -, a8⟩ := hA.2.2.2.2.2 i hi
        have g8 := (hge i hi).2.2.2.2.2.2
        have c0 : nI (R (42 + i)) ≤ 0 ↔ R (42 + i) ≤ 0 := by rw [L0, nI_leF (by omega) (by omega)]
        unfold f_X1_checkWorks
        rw [gb_in (by omega) (by omega), nI_cl (by omega), nI_cl (by omega), nI_cl (by omega), a8]
        by_cases x : R (42 + i) = 0
        · obtain ⟨V1, k1, a1⟩ := s_copy (S := V) hA n6
          obtain ⟨V2, k2, a2⟩ := s_pass (m := m) a1 hg (by omega) (by omega)
          obtain ⟨V3, k3, a3⟩ := s_copy (S := V2) hA n6
          have hg2 := hg.left hi hz
          have a4 := a3.lef n6 hi z
          obtain ⟨V5, k5, a5⟩ := s_pass (m := m) a4 hg2 (by rw [upN_o (by omega)]; omega) (by omega)
          rw [upN_o (k := 55) (by omega)] at k5
          refine ⟨V5, ?_⟩
          rw [if_pos (c0.mpr (by omega)), bx_r, k1, bd_some, k2, bd_some]
          dsimp only
          rw [k3, bd_some, gb_in (by omega) (by omega), nm_e2, k5, bd_some, if_pos x]
          rfl
        · refine ⟨V, ?_⟩
          rw [if_neg (fun h => x (by have := c0.mp h; omega)), bx_e, if_neg x]
          rfl
theorem a_sc {i z : Nat} (hi : i < n) (hz : z ≤ 99) : ∀ (fu x : Nat) (V : StV) (P : Nat → Nat), AgS n 0 V P → GN n P → P 53 + (202 - x) < 2147483648 → x ≤ 201 → 202 - x < fu → ∃ V', f_X1_scaledAfter_25 (nI i) (nI z) fu (nI x) V = some (.inr (scF n i z (201 - x) x P, V'))
  | 0, x, _, _, _, _, _, _, hf => by omega
  | fu + 1, x, V, P, hA, hg, hc, hx, hf => by
    obtain ⟨⟨n2, n6⟩, hge, -⟩ := id hg
    have g6 := (hge i hi).2.2.2.2.1
    have c2 : (200 : Int32) = nI 200 := rfl
    rw [f_X1_scaledAfter_25, c2]
    by_cases e : 200 < x
    · rw [if_pos (by rw [nI_ltF (by omega) (by omega)]; exact e), show 201 - x = 0 by omega]
      exact ⟨V, rfl⟩
    · obtain ⟨-, -, -, -, -, a6, -⟩ := hA.2.2.2.2.2 i hi
      rw [if_neg (by rw [nI_ltF (by omega) (by omega)]; exact e), gb_in (by omega) (by omega), nI_cl (by omega), a6, show 201 - x = (201 - (x + 1)) + 1 by omega, scF]
      by_cases y : P (30 + i) < z
      · obtain ⟨V1, c1, a1⟩ := s_pass (m := 1) hA hg (by omega) (by omega)
        rw [if_pos (by rw [nI_ltF (by omega) (by omega)]; exact y), if_pos y, L1, c1, bd_some]
        dsimp only
        rw [nI_add]
        exact a_sc hi hz fu (x + 1) V1 (tkN n P) a1 hg.tick (by rw [tkN_53 hg]; omega) (by omega) (by omega)
      · rw [if_neg (by rw [nI_ltF (by omega) (by omega)]; exact y), if_neg y]
        exact ⟨V, rfl⟩
theorem a_scaledAfter (hA : AgS n 0 N R) (hg : GN n R) (hc : R 53 < 2000000000) (p q : Int32) : ∃ V', f_X1_scaledAfter T N V p q = some (wV (u_scaledAfter n R p q) V') := by
  have n6 := hg.1.2
  unfold f_X1_scaledAfter u_scaledAfter
  rcases ceX (T := T) (p := p) hA.1 n6 with ⟨e1, c⟩ | ⟨i, hi, rfl, e1, c⟩
  · exact ⟨V, by rw [e1, bx_e, if_pos c]; rfl⟩
  · rw [e1, bx_r, if_neg c]
    rcases ckX (p := q) (lo := 1) (hi := 99) with ⟨e2, c2⟩ | ⟨e2, c2⟩
    · exact ⟨V, by rw [e2, bx_e, if_pos c2]; rfl⟩
    · rw [e2, bx_r, if_neg c2]
      obtain ⟨z, hz, rfl, -⟩ := inR (H := 99) (by decide) (by decide) c2
      obtain ⟨V1, c1, a1⟩ := s_copy (S := V) hA n6
      obtain ⟨V2, x1⟩ := a_sc hi hz 2000 0 V1 R a1 hg (by omega) (by omega) (by omega)
      refine ⟨V2, ?_⟩
      rw [c1, bd_some, nI_cl (by omega), nI_cl (by omega)]
      exact x1
theorem a_sf {m : Nat} {p : Int32} (hA : AgS n 0 N R) (hg : GN n R) (hc : R 53 + m < 2147483648) (hm2 : m < 2000) : ∀ (fu x : Nat) (V : StV), x ≤ 91 → 92 - x < fu → ∃ V', f_X1_steamFor_17 N p (nI m) fu (nI x) V = some (.inr (sfF n m R p (91 - x) x, V'))
  | 0, x, _, _, hf => by omega
  | fu + 1, x, V, hx, hf => by
    have n6 := hg.1.2
    by_cases e : x = 91
    · refine ⟨V, ?_⟩
      rw [f_X1_steamFor_17, show (90 : Int32) = nI 90 from rfl, if_pos (by rw [nI_ltF (by omega) (by omega)]; omega), show 91 - x = 0 by omega]
      rfl
    · obtain ⟨V1, c1, a1⟩ := s_copy (S := V) hA n6
      have a2 := a1.set n6 (j := 0) (by omega) x
      obtain ⟨V2, c2, a3⟩ := s_pass (m := m) a2 (hg.steam (show x ≤ 999 by omega)) (by rw [upN_o (by omega)]; exact hc) hm2
      rw [upN_o (k := 55) (by omega)] at c2
      have c3 : f_X0_pass (su_set V1 (upd (s_set V1) 0 (nI x))) (nI m) = some (stV n m R x, V2) := c2
      rw [f_X1_steamFor_17, show (90 : Int32) = nI 90 from rfl, if_neg (by rw [nI_ltF (by omega) (by omega)]; omega), c1, bd_some, nm_e2, c3, bd_some, show 91 - x = (91 - (x + 1)) + 1 by omega, sfF]
      dsimp only
      by_cases y : stV n m R x < p
      · rw [if_pos y, if_pos y, nI_s1]
        exact a_sf hA hg hc hm2 fu (x + 1) V2 (by omega) (by omega)
      · rw [if_neg y, if_neg y]
        exact ⟨V2, rfl⟩
theorem a_steamFor (hA : AgS n 0 N R) (hg : GN n R) (hc : R 53 < 2000000000) (p q : Int32) : ∃ V', f_X1_steamFor T N V p q = some (wV (u_steamFor n R p q) V') := by
  unfold f_X1_steamFor u_steamFor
  rcases ckX (p := p) (lo := 0) (hi := 9999) with ⟨e1, c⟩ | ⟨e1, c⟩
  · exact ⟨V, by rw [e1, bx_e, if_pos c]; rfl⟩
  · rw [e1, bx_r, if_neg c]
    rcases ckX (p := q) (lo := 1) (hi := 20) with ⟨e2, c2⟩ | ⟨e2, c2⟩
    · exact ⟨V, by rw [e2, bx_e, if_pos c2]; rfl⟩
    · rw [e2, bx_r, if_neg c2]
      obtain ⟨m, hm, rfl, -⟩ := inR (H := 20) (by decide) (by decide) c2
      obtain ⟨V2, x1⟩ := a_sf (p := p) hA hg (m := m) (by omega) (by omega) 2000 0 V (by omega) (by omega)
      refine ⟨V2, ?_⟩
      rw [nI_cl (by omega)]
      exact x1
theorem rel_C (hA : AgS n 0 N R) (hg : GN n R) (hc : R 53 < 2000000000) : RelN (mC n R) N n R := ⟨rfl, fun _ _ => rfl, hA, hg, hc⟩
theorem oq_T {M : MdV} {x : Option (String ⊕ (Int32 × StV))} {y : Option (Int32 × MdV)} (h : qT M [(xR, 1)] x y) : ∃ V', x = some (wV (oqv y) V') := by
  rcases h with ⟨v, V', t, f, s, e1, e2⟩ | ⟨E, c, hm, e1, e2⟩
  · refine ⟨V', ?_⟩
    have hr : m_ref (mu_sal (mu_flo (mu_tri (mu_ref M 0) t) f) s) = 0 := by
      obtain ⟨a1, a2, a3, a4, a5, a6, a7, a8, a9, a10, a11, a12, a13, a14, a15⟩ := M
      rfl
    rw [e1, e2]
    show _ = some (wV (if m_ref (mu_sal (mu_flo (mu_tri (mu_ref M 0) t) f) s) = 0 then .inr v else .inl xR) V')
    rw [if_pos hr]
    rfl
  · simp only [List.mem_cons, Prod.mk.injEq, List.not_mem_nil, or_false] at hm
    obtain ⟨rfl, rfl⟩ := hm
    refine ⟨(0, 0, fun _ => 0, fun _ => 0, fun _ => 0, fun _ => 0, fun _ => 0, fun _ => 0, fun _ => 0, fun _ => 0, fun _ => 0, fun _ => 0), ?_⟩
    rw [e1, e2]
    show _ = some (wV (if m_ref (mu_ref M 1) = 0 then .inr 0 else .inl xR) _)
    rw [if_neg (show ¬ m_ref (mu_ref M 1) = 0 by show ¬ (1 : Int32) = 0; decide)]
    rfl
theorem a_script (hA : AgS n 0 N R) (hg : GN n R) (hc : R 53 < 2000000000) (p : Int32) (q : Int64) : ∃ V', f_X1_runScript T N V p q = some (wV (u_script n R p q) V') := oq_T (q_runScript (rel_C hA hg hc))
theorem a_simulate (hA : AgS n 0 N R) (hg : GN n R) (hc : R 53 < 2000000000) (p : Int64) (q : Int32) : ∃ V', f_X1_simulate T N V p q = some (wV (u_simulate n R p q) V') := oq_T (q_simulate (rel_C hA hg hc))
end QX
