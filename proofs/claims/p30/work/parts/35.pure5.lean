/-! the flows, in numbers -/
def goN (n : Nat) (R : Nat → Nat) (i : Nat) : Nat := min (min (R (18 + i)) (amN R i)) (if nxN n R (i + 1) = n then 5000 else 5000 - amN R (nxN n R (i + 1)))
/-- the solids and the water that flow from i (nothing, where it is washed) -/
def gsN (n : Nat) (R : Nat → Nat) (i : Nat) : Nat := if R (42 + i) = 0 then R (12 + i) * goN n R i / amN R i else 0
def gwN (n : Nat) (R : Nat → Nat) (i : Nat) : Nat := if R (42 + i) = 0 then goN n R i - R (12 + i) * goN n R i / amN R i else 0
/-- what flows from the last one that works below j -/
def pvN (R : Nat → Nat) (f : Nat → Nat) : Nat → Nat
  | 0 => 0
  | j + 1 => if R (42 + j) = 0 then f j else pvN R f j
/-- the feed of water, of solids, as far as it isn't held back -/
def fdN (n : Nat) (R : Nat → Nat) (b : Nat) : Nat := if nxN n R 0 = n then 0 else if R 49 + R 50 ≤ 5000 - amN R (nxN n R 0) then R b else 0
def hdN (n : Nat) (R : Nat → Nat) : Nat := if nxN n R 0 = n then 1 else if R 49 + R 50 ≤ 5000 - amN R (nxN n R 0) then 0 else 1
def flN (n : Nat) (R : Nat → Nat) (k : Nat) : Nat :=
  if 6 ≤ k ∧ k < 6 + n then (if R (42 + (k - 6)) = 0 then R k + (if k - 6 = nxN n R 0 then fdN n R 49 else pvN R (gwN n R) (k - 6)) - gwN n R (k - 6) else R k)
  else if 12 ≤ k ∧ k < 12 + n then (if R (42 + (k - 12)) = 0 then R k + (if k - 12 = nxN n R 0 then fdN n R 50 else pvN R (gsN n R) (k - 12)) - gsN n R (k - 12) else R k)
  else if k = 59 then R k + fdN n R 49
  else if k = 60 then R k + fdN n R 50
  else if k = 61 then R k + pvN R (gwN n R) n
  else if k = 62 then R k + pvN R (gsN n R) n
  else if k = 63 then R k + hdN n R
  else R k
theorem goN_am {n : Nat} {R : Nat → Nat} {i : Nat} : goN n R i ≤ amN R i := Nat.le_trans (Nat.min_le_left _ _) (Nat.min_le_right _ _)
theorem part_le {s a g : Nat} (h : g ≤ a) : s * g / a ≤ s := by
  rcases Nat.eq_zero_or_pos a with e | e
  · rw [e, Nat.div_zero]; omega
  · rw [Nat.div_le_iff_le_mul_add_pred e]
    have := Nat.mul_le_mul_left s h
    rw [Nat.mul_comm a]
    omega
theorem part_le2 {s a g : Nat} (h : g ≤ a) (hs : s ≤ a) : s * g / a ≤ g := by
  rw [Nat.mul_comm]
  exact part_le hs
theorem part_w {s w g : Nat} (h : g ≤ w + s) : g - s * g / (w + s) ≤ w := by
  rcases Nat.lt_or_ge w g with q | q
  · rcases Nat.eq_zero_or_pos (w + s) with e | e
    · omega
    · have h1 : g - w ≤ s * g / (w + s) := by
        rw [Nat.le_div_iff_mul_le e]
        obtain ⟨x, hx⟩ : ∃ x, g = w + x := ⟨g - w, by omega⟩
        subst hx
        rw [Nat.add_sub_cancel_left]
        have hxs : x ≤ s := by omega
        rw [Nat.mul_add, Nat.mul_add]
        have h2 : x * w ≤ s * w := Nat.mul_le_mul_right w hxs
        have h3 : x * s = s * x := Nat.mul_comm _ _
        omega
      omega
  · exact Nat.le_trans (Nat.sub_le _ _) q
theorem gsN_le {n : Nat} {R : Nat → Nat} {i : Nat} : gsN n R i ≤ R (12 + i) := by
  unfold gsN
  split
  · exact part_le goN_am
  · omega
theorem gwN_le {n : Nat} {R : Nat → Nat} {i : Nat} : gwN n R i ≤ R (6 + i) := by
  unfold gwN
  split
  · exact part_w goN_am
  · omega
theorem gwN_add {n : Nat} {R : Nat → Nat} {i : Nat} (w : R (42 + i) = 0) : gwN n R i + gsN n R i = goN n R i := by
  unfold gwN gsN
  rw [if_pos w, if_pos w]
  have := part_le2 (s := R (12 + i)) (goN_am (n := n) (R := R) (i := i)) (show R (12 + i) ≤ amN R i by unfold amN; omega)
  omega
/-- the next one that works, one place further -/
theorem nxN_s {n : Nat} {R : Nat → Nat} {j : Nat} (h : j < n) : nxN n R j = if R (42 + j) = 0 then j else nxN n R (j + 1) := by
  unfold nxN
  rw [show n - j = (n - (j + 1)) + 1 by omega, fwN]
theorem nxN_n {n : Nat} {R : Nat → Nat} : nxN n R n = n := by unfold nxN; rw [Nat.sub_self]; rfl
theorem nxN_le {n : Nat} {R : Nat → Nat} {j : Nat} (h : j ≤ n) : j ≤ nxN n R j ∧ nxN n R j ≤ n := by
  unfold nxN
  have := fwN_le R (n - j) j
  omega
theorem nxN_w {n : Nat} {R : Nat → Nat} {j : Nat} (h : j ≤ n) (h2 : nxN n R j < n) : R (42 + nxN n R j) = 0 := by
  unfold nxN at h2 ⊢
  exact fwN_works R _ _ (by omega)
theorem nxN_no {n : Nat} {R : Nat → Nat} {j k : Nat} (h1 : j ≤ k) (h2 : k < nxN n R j) : R (42 + k) ≠ 0 := fwN_none R _ _ k h1 h2
/-- nobody works below the first one: nothing comes from there -/
theorem pvN_first {n : Nat} {R f : Nat → Nat} : ∀ j, j ≤ nxN n R 0 → pvN R f j = 0
  | 0, _ => rfl
  | j + 1, h => by
    rw [pvN, if_neg (nxN_no (n := n) (Nat.zero_le j) (by omega)), pvN_first (n := n) j (by omega)]
/-! the reference's flows -/
section RG
variable {M : MdV} {n : Nat} {r : Nat → Int32} {R : Nat → Nat}
/-- what is told of the flows below j -/
def FlN (n : Nat) (R : Nat → Nat) (fl sa : Nat → Int32) (j : Nat) : Prop := ∀ i, i < j → fl i = nI (gwN n R i + gsN n R i) ∧ sa i = nI (gsN n R i)
theorem r_go_121 (hr : RR r R) (hg : GN n R) {k : Int32 → Int32 → Int32 → (Nat → Int32) → (Nat → Int32) → Option ((Nat → Int32) × (Nat → Int32) × (Nat → Int32))} {x2 x4 : Int32} {j t : Nat} {fl sa : Nat → Int32} (hj : j < n) (w : R (42 + j) = 0) (ha : 0 < amN R j) (ht : t = if nxN n R (j + 1) = n then 5000 else 5000 - amN R (nxN n R (j + 1))) (hF : FlN n R fl sa j) :
    ∃ fl' sa', FlN n R fl' sa' (j + 1) ∧ f_X2_go_121 k r x2 x4 (nI j) (nI t) fl sa = k x2 x4 (nI (j + 1)) fl' sa' := by
  obtain ⟨⟨n2, n6⟩, hge, -⟩ := id hg
  obtain ⟨⟨g1, g2⟩, g3, g4, g5, g6, g7, g8⟩ := hge j hj
  have ha5 : amN R j ≤ 5000 := g3
  have ht5 : t ≤ 5000 := by rw [ht]; split <;> omega
  have hgo := goN_am (n := n) (R := R) (i := j)
  unfold f_X2_go_121
  rw [L18, nI_add, gb_in (by omega) (by omega), r_amount hr (by omega), bd_some, nI_cl (by omega), hr _ (by omega), r_less (by omega) (by omega), bd_some, r_less (by omega) (by omega), bd_some, ht]
  change ∃ fl' sa', _ ∧ (gb (inb (nI j) 6) <| nm (upd fl (nI j).toNatClampNeg (nI (goN n R j))) fun q_46 => _) = _
  rw [gb_in (by omega) (by omega), nI_cl (by omega), nm_e2, L12, nI_add, gb_in (by omega) (by omega), gb_in (by omega) (by omega), bd_some, gb_nz (by omega) (by omega), gb_in (by omega) (by omega), nI_cl (by omega), hr _ (by omega)]
  have e1 : upd fl j (nI (goN n R j)) j = nI (goN n R j) := if_pos rfl
  have h1 : R (12 + j) * goN n R j ≤ 5000 * 5000 := Nat.mul_le_mul (by unfold amN at ha5; omega) (by omega)
  rw [e1, pk_mul, nI_dv (by omega) (by omega) (by omega), nm_e2, nI_s1]
  refine ⟨_, _, fun i hi => ?_, rfl⟩
  by_cases e : i = j
  · subst e
    refine ⟨?_, ?_⟩
    · rw [gwN_add w]; exact e1
    · show upd sa i _ i = _
      unfold upd gsN
      rw [if_pos rfl, if_pos w]
  · obtain ⟨a, b⟩ := hF i (by omega)
    exact ⟨(if_neg e).trans a, (if_neg e).trans b⟩
theorem r_go_46 (hn : m_n M = nI n) (hr : RR r R) (hg : GN n R) {x2 x4 : Int32} : ∀ (fu j : Nat) (fl sa : Nat → Int32), FlN n R fl sa j → j ≤ n → n - j < fu → ∃ fl' sa', FlN n R fl' sa' n ∧ f_X2_go_46 M r fu x2 x4 (nI j) fl sa = f_X2_go_189 M 2000 x2 x4 0 r fl' sa'
  | 0, j, fl, sa, _, hj, hf => by omega
  | fu + 1, j, fl, sa, hF, hj, hf => by
    obtain ⟨⟨n2, n6⟩, hge, -⟩ := id hg
    have hl : ∀ i, i < n → R (42 + i) < 2147483648 := fun i hi => by have := (hge i hi).2.2.2.2.2.2; omega
    rw [f_X2_go_46, hn]
    by_cases e : n = j
    · subst e
      rw [if_pos (by rw [nI_leF (by omega) (by omega)]; omega)]
      exact ⟨fl, sa, hF, rfl⟩
    · have ha5 : amN R j ≤ 5000 := (hge j (by omega)).2.1
      have hF0 : FlN n R (upd fl j 0) (upd sa j 0) j := fun i hi => ⟨(if_neg (by omega)).trans (hF i hi).1, (if_neg (by omega)).trans (hF i hi).2⟩
      have hF1 : gwN n R j + gsN n R j = 0 → gsN n R j = 0 → FlN n R (upd fl j 0) (upd sa j 0) (j + 1) := fun h1 h2 i hi => by
        by_cases e : i = j
        · subst e
          rw [h1, h2]
          exact ⟨if_pos rfl, if_pos rfl⟩
        · exact hF0 i (by omega)
      rw [if_neg (by rw [nI_leF (by omega) (by omega)]; omega), gb_in (by omega) (by omega), nI_cl (by omega), nm_e2, gb_in (by omega) (by omega), nm_e2, r_works hr (by omega) (hl j (by omega)), bd_some]
      by_cases w : R (42 + j) = 0
      · rw [if_pos w, if_neg (by decide), r_amount hr (by omega), bd_some]
        by_cases z : amN R j = 0
        · rw [if_pos (by rw [L0, nI_leF (by omega) (by omega)]; omega), nI_s1]
          have h0 : goN n R j = 0 := by have := goN_am (n := n) (R := R) (i := j); omega
          have h1 := gwN_add (n := n) w
          exact r_go_46 hn hr hg fu (j + 1) _ _ (hF1 (by omega) (by omega)) (by omega) (by omega)
        · rw [if_neg (by rw [L0, nI_leF (by omega) (by omega)]; omega), r_behind hn n6 hr hl (by omega), bd_some]
          by_cases x : nxN n R (j + 1) = n
          · rw [if_pos x, if_pos rfl]
            obtain ⟨fl', sa', a, b⟩ := r_go_121 (k := f_X2_go_46 M r fu) (x2 := x2) (x4 := x4) (t := 5000) hr hg (show j < n by omega) w (by omega) (by rw [if_pos x]) hF0
            rw [L5000, b]
            exact r_go_46 hn hr hg fu (j + 1) _ _ a (by omega) (by omega)
          · have hx := nxN_le (n := n) (R := R) (j := j + 1) (by omega)
            have hx5 : amN R (nxN n R (j + 1)) ≤ 5000 := (hge _ (by omega)).2.1
            rw [if_neg x, if_neg (nI_m9 (by omega)), r_amount hr (by omega), bd_some, L5000, pk_sub hx5]
            obtain ⟨fl', sa', a, b⟩ := r_go_121 (k := f_X2_go_46 M r fu) (x2 := x2) (x4 := x4) (t := 5000 - amN R (nxN n R (j + 1))) hr hg (show j < n by omega) w (by omega) (by rw [if_neg x]) hF0
            rw [b]
            exact r_go_46 hn hr hg fu (j + 1) _ _ a (by omega) (by omega)
      · rw [if_neg w, if_pos (by rfl), nI_s1]
        have h1 : gwN n R j = 0 := if_neg w
        have h2 : gsN n R j = 0 := if_neg w
        exact r_go_46 hn hr hg fu (j + 1) _ _ (hF1 (by omega) h2) (by omega) (by omega)
end RG
