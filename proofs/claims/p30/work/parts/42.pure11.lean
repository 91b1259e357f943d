/-! arguments in their range -/
theorem i64_lt {x y : Int32} : x.toInt64 < y.toInt64 ↔ x < y := by
  rw [Int64.lt_iff_toInt_lt, Int32.toInt_toInt64, Int32.toInt_toInt64, Int32.lt_iff_toInt_lt]
theorem in_32 {p lo hi : Int32} {a b : Int64} (ha : a = lo.toInt64) (hb : b = hi.toInt64) : f_X2_in p.toInt64 a b = some (if p < lo then 0 else if hi < p then 0 else 1) := by
  unfold f_X2_in
  subst ha
  subst hb
  by_cases x : p < lo
  · rw [if_pos ((lg_cmp_lt _ _).mpr (i64_lt.mpr x)), if_pos x]
  · rw [if_neg (fun h => x (i64_lt.mp ((lg_cmp_lt _ _).mp h))), if_neg x]
    by_cases y : hi < p
    · rw [if_pos ((lg_cmp_gt _ _).mpr (i64_lt.mpr y)), if_pos y]
    · rw [if_neg (fun h => y (i64_lt.mp ((lg_cmp_gt _ _).mp h))), if_neg y]
/-- an argument is in its range, or it isn't: both sides see it alike -/
theorem rng {p lo hi : Int32} {a b : Int64} (ha : a = lo.toInt64) (hb : b = hi.toInt64) :
    (f_X1_checkRange p lo hi = some (.inl "java/lang/IllegalArgumentException") ∧ f_X2_in p.toInt64 a b = some 0) ∨ (lo ≤ p ∧ p ≤ hi ∧ f_X1_checkRange p lo hi = some (.inr ()) ∧ f_X2_in p.toInt64 a b = some 1) := by
  rw [in_32 ha hb]
  unfold f_X1_checkRange
  by_cases x : p < lo
  · exact Or.inl ⟨if_pos x, by rw [if_pos x]⟩
  · rw [if_neg x, if_neg x]
    by_cases y : p ≤ hi
    · have y2 : ¬ hi < p := fun h => Int32.not_le.mpr h y
      exact Or.inr ⟨Int32.not_lt.mp x, y, if_pos y, by rw [if_neg y2]⟩
    · have y2 : hi < p := Int32.not_le.mp y
      exact Or.inl ⟨if_neg y, by rw [if_pos y2]⟩
theorem refused_0 {M : MdV} : f_X2_refused M 0 = some (0, mu_ref M 0) := by
  unfold f_X2_refused
  rw [nm_e2, if_pos (by decide)]
theorem refused_1 {M : MdV} {c : Int32} (h : ¬ c ≤ 0) : f_X2_refused M c = some (1, mu_ref M c) := by
  unfold f_X2_refused
  rw [nm_e2, if_neg h]
/-! the rest of the readers -/
theorem smN_s {R : Nat → Nat} {b i : Nat} : smN R b (i + 1) = smN R b i + R (b + i) := rfl
def bwV (R : Nat → Nat) (j : Nat) : Int32 := match bwN R j with
  | none => -9
  | some p => nI p
section RD2
variable {M : MdV} {n d : Nat} {R : Nat → Nat} {r : Nat → Int32} {S : StV}
theorem r_sum_5 (hm : m_n M = nI n) (hn : n ≤ 6) (hr : RR r R) {b : Nat} (hb : b + 6 ≤ 64) : ∀ (fu j : Nat), j ≤ n → n - j < fu → f_X2_sumOf_5 M (nI b) r fu (nI (smN R b j)) (nI j) = some (nI (smN R b n))
  | 0, j, hj, hf => by omega
  | fu + 1, j, hj, hf => by
    rw [f_X2_sumOf_5, hm]
    by_cases e : n = j
    · subst e
      rw [if_pos (by rw [nI_leF (by omega) (by omega)]; omega)]
    · rw [if_neg (by rw [nI_leF (by omega) (by omega)]; omega), nI_add, gb_in (by omega) (by omega), nI_cl (by omega), hr (b + j) (by omega), nI_add, ← smN_s, nm_e2, nI_s1]
      exact r_sum_5 hm hn hr hb fu (j + 1) (by omega) (by omega)
theorem r_sum (hm : m_n M = nI n) (hn : n ≤ 6) (hr : RR r R) {b : Nat} (hb : b + 6 ≤ 64) : f_X2_sumOf M r (nI b) = some (nI (smN R b n)) := r_sum_5 hm hn hr hb 2000 0 (by omega) (by omega)
theorem s_water_4 (h : AgS n d S R) (hn : n ≤ 6) : ∀ (fu j : Nat), j ≤ n → n - j < fu → f_X0_allWater_4 S fu (nI (smN R 6 j)) (nI j) = some (nI (smN R 6 n))
  | 0, j, hj, hf => by omega
  | fu + 1, j, hj, hf => by
    rw [f_X0_allWater_4, h.1]
    by_cases e : n = j
    · subst e
      rw [if_pos (by rw [nI_leF (by omega) (by omega)]; omega)]
    · obtain ⟨-, a2, -⟩ := h.2.2.2.2.2 j (by omega)
      rw [if_neg (by rw [nI_leF (by omega) (by omega)]; omega), gb_in (by omega) (by omega), nI_cl (by omega), a2, nI_add, ← smN_s, nm_e2, nI_s1]
      exact s_water_4 h hn fu (j + 1) (by omega) (by omega)
theorem s_water (h : AgS n d S R) (hn : n ≤ 6) : f_X0_allWater S = some (nI (smN R 6 n)) := s_water_4 h hn 2000 0 (by omega) (by omega)
theorem s_solids_4 (h : AgS n d S R) (hn : n ≤ 6) : ∀ (fu j : Nat), j ≤ n → n - j < fu → f_X0_allSolids_4 S fu (nI (smN R 12 j)) (nI j) = some (nI (smN R 12 n))
  | 0, j, hj, hf => by omega
  | fu + 1, j, hj, hf => by
    rw [f_X0_allSolids_4, h.1]
    by_cases e : n = j
    · subst e
      rw [if_pos (by rw [nI_leF (by omega) (by omega)]; omega)]
    · obtain ⟨-, -, a3, -⟩ := h.2.2.2.2.2 j (by omega)
      rw [if_neg (by rw [nI_leF (by omega) (by omega)]; omega), gb_in (by omega) (by omega), nI_cl (by omega), a3, nI_add, ← smN_s, nm_e2, nI_s1]
      exact s_solids_4 h hn fu (j + 1) (by omega) (by omega)
theorem s_solids (h : AgS n d S R) (hn : n ≤ 6) : f_X0_allSolids S = some (nI (smN R 12 n)) := s_solids_4 h hn 2000 0 (by omega) (by omega)
/-- the ten numbers of an effect -/
def deV (R : Nat → Nat) (i w : Nat) : Nat := if w < 8 then R (6 * w + i) else if w = 8 then thN R i else pwN R i
theorem r_detail (hr : RR r R) {i w : Nat} (hi : i < 6) (hg : GE R i) (hw : w ≤ 9) : f_X2_detail r (nI i) (nI w) = some (nI (deV R i w)) := by
  unfold f_X2_detail deV
  by_cases e : w < 8
  · rw [if_neg (by rw [show (8 : Int32) = nI 8 from rfl, nI_leF (by omega) (by omega)]; omega), if_pos e, L6, pk_mul, nI_add, gb_in (by omega) (by omega), nI_cl (by omega), hr (6 * w + i) (by omega)]
  · rw [if_pos (by rw [show (8 : Int32) = nI 8 from rfl, nI_leF (by omega) (by omega)]; omega), if_neg e]
    by_cases e2 : w = 8
    · subst e2
      rw [if_pos (show nI 8 = (8 : Int32) by decide), if_pos rfl, r_thickness hr hi hg, bd_some]
    · rw [if_neg (by rw [show (8 : Int32) = nI 8 from rfl, nI_iff (by omega) (by omega)]; exact e2), if_neg e2, r_power hr hi hg, bd_some]
theorem s_number (h : AgS n d S R) (hn : n ≤ 6) {i w : Nat} (hi : i < n) (hg : GE R i) (hw : w ≤ 9) : f_X0_numberOf S (nI i) (nI w) = some (nI (deV R i w)) := by
  obtain ⟨a1, a2, a3, a4, a5, a6, a7, a8⟩ := h.2.2.2.2.2 i hi
  have hc : w = 0 ∨ w = 1 ∨ w = 2 ∨ w = 3 ∨ w = 4 ∨ w = 5 ∨ w = 6 ∨ w = 7 ∨ w = 8 ∨ w = 9 := by omega
  unfold f_X0_numberOf deV
  rcases hc with rfl | rfl | rfl | rfl | rfl | rfl | rfl | rfl | rfl | rfl
  · rw [if_pos (by decide), gb_in (by omega) (by omega), nI_cl (by omega), a1, if_pos (by omega), show 6 * 0 + i = i by omega]
  · rw [if_neg (by decide), if_pos (by decide), gb_in (by omega) (by omega), nI_cl (by omega), a2, if_pos (by omega)]
  · rw [if_neg (by decide), if_neg (by decide), if_pos (by decide), gb_in (by omega) (by omega), nI_cl (by omega), a3, if_pos (by omega)]
  · rw [if_neg (by decide), if_neg (by decide), if_neg (by decide), if_pos (by decide), gb_in (by omega) (by omega), nI_cl (by omega), a4, if_pos (by omega)]
  · rw [if_neg (by decide), if_neg (by decide), if_neg (by decide), if_neg (by decide), if_pos (by decide), gb_in (by omega) (by omega), nI_cl (by omega), a5, if_pos (by omega)]
  · rw [if_neg (by decide), if_neg (by decide), if_neg (by decide), if_neg (by decide), if_neg (by decide), if_pos (by decide), gb_in (by omega) (by omega), nI_cl (by omega), a6, if_pos (by omega)]
  · rw [if_neg (by decide), if_neg (by decide), if_neg (by decide), if_neg (by decide), if_neg (by decide), if_neg (by decide), if_pos (by decide), gb_in (by omega) (by omega), nI_cl (by omega), a7, if_pos (by omega)]
  · rw [if_neg (by decide), if_neg (by decide), if_neg (by decide), if_neg (by decide), if_neg (by decide), if_neg (by decide), if_neg (by decide), if_pos (by decide), gb_in (by omega) (by omega), nI_cl (by omega), a8, if_pos (by omega)]
  · rw [if_neg (by decide), if_neg (by decide), if_neg (by decide), if_neg (by decide), if_neg (by decide), if_neg (by decide), if_neg (by decide), if_neg (by decide), if_pos (by decide), s_thickness h hn hi hg, bd_some, if_neg (by omega), if_pos rfl]
  · rw [if_neg (by decide), if_neg (by decide), if_neg (by decide), if_neg (by decide), if_neg (by decide), if_neg (by decide), if_neg (by decide), if_neg (by decide), if_neg (by decide), s_power h hn hi hg, bd_some, if_neg (by omega), if_neg (by omega)]
theorem m1_0 : nI 0 - 1 = (-1 : Int32) := by decide
theorem p_m1 {j : Nat} : nI j + (-1) = nI j - 1 := by rw [Int32.sub_eq_add_neg]
theorem r_before_4 (hr : RR r R) (hn : n ≤ 6) (hl : ∀ i, i < n → R (42 + i) < 2147483648) : ∀ (fu j : Nat), j ≤ n → j < fu → f_X2_before_4 r fu (nI j - 1) = some (bwV R j)
  | 0, j, _, hf => by omega
  | fu + 1, 0, _, hf => by
    rw [f_X2_before_4, m1_0, if_pos (by decide), if_neg (by decide)]
    rfl
  | fu + 1, j + 1, hj, hf => by
    rw [f_X2_before_4, nI_pred, if_neg (nI_pos (by omega)), r_works hr (by omega) (hl j (by omega)), bd_some]
    unfold bwV
    rw [bwN]
    by_cases w : R (42 + j) = 0
    · rw [if_pos w, if_neg (by decide), if_pos (nI_pos' (by omega)), if_pos w]
    · rw [if_neg w, if_pos (by rfl), if_neg w, p_m1]
      exact r_before_4 hr hn hl fu j (by omega) (by omega)
theorem s_before_4 (h : AgS n d S R) (hn : n ≤ 6) (hl : ∀ i, i < n → R (42 + i) < 2147483648) : ∀ (fu j : Nat), j ≤ n → j < fu → f_X0_effectBefore_4 S fu (nI j - 1) = some (bwV R j)
  | 0, j, _, hf => by omega
  | fu + 1, 0, _, hf => by
    rw [f_X0_effectBefore_4, m1_0, if_pos (by decide)]
    rfl
  | fu + 1, j + 1, hj, hf => by
    obtain ⟨-, -, -, -, -, -, -, a8⟩ := h.2.2.2.2.2 j (by omega)
    rw [f_X0_effectBefore_4, nI_pred, if_neg (nI_pos (by omega)), gb_in (by omega) (by omega), nI_cl (by omega), a8]
    unfold bwV
    rw [bwN]
    by_cases w : R (42 + j) = 0
    · rw [w, if_pos (by rfl), if_pos rfl]
    · rw [if_neg (by rw [L0, nI_iff (hl j (by omega)) (by omega)]; exact w), if_neg w, p_m1]
      exact s_before_4 h hn hl fu j (by omega) (by omega)
end RD2
/-! rows and states are copied -/
theorem r_copy_3 {f r : Nat → Int32} {R : Nat → Nat} (hr : RR f R) : ∀ (fu j : Nat) (t : Nat → Int32), j ≤ 64 → 64 - j < fu → (∀ k, k < j → t k = nI (R k)) → ∃ t', f_X2_copy_3 f 64 64 0 0 64 fu (nI j) t = some t' ∧ RR t' R
  | 0, j, t, _, hf, _ => by omega
  | fu + 1, j, t, hj, hf, ht => by
    rw [f_X2_copy_3]
    by_cases e : j = 64
    · subst e
      rw [if_pos (by decide)]
      exact ⟨t, rfl, ht⟩
    · rw [if_neg (by rw [show (64 : Int32) = nI 64 from rfl, nI_leF (by omega) (by omega)]; omega), L0, nI_add, Nat.zero_add, gb_in (by omega) (by omega), gb_in (by omega) (by omega), nI_cl (by omega), hr j (by omega), nm_e2, nI_s1]
      refine r_copy_3 (r := r) hr fu (j + 1) _ (by omega) (by omega) fun k hk => ?_
      unfold upd
      by_cases e2 : k = j
      · rw [if_pos e2, e2]
      · rw [if_neg e2]; exact ht k (by omega)
theorem r_copy {f t : Nat → Int32} {R : Nat → Nat} (hr : RR f R) : ∃ t', f_X2_copy 64 64 f t 0 0 64 = some t' ∧ RR t' R :=
  r_copy_3 (r := f) hr 2000 0 t (by omega) (by omega) fun k hk => absurd hk (by omega)
theorem cpy_in {α : Type} {f g : Nat → α} {n k : Nat} (h : k < n) : va_cpy f g 0 0 n k = f k := by
  unfold va_cpy
  rw [if_pos (by omega), Nat.zero_add, Nat.sub_zero]
theorem s_copy {n d : Nat} {S O : StV} {R : Nat → Nat} (h : AgS n d O R) (hn : n ≤ 6) : ∃ S', f_X0_copyFrom S O = some S' ∧ AgS n d S' R := by
  obtain ⟨h1, h2, h3, h4, h5, h6⟩ := h
  unfold f_X0_copyFrom
  rw [nm_e2, nm_e2, nm_e2, nm_e2, nm_e2, nm_e2, nm_e2, nm_e2, nm_e2, nm_e2, nm_e2, nm_e2, nm_e2, nm_e2]
  refine ⟨_, rfl, h1, h2, fun j hj => ?_, ?_, fun j h0 hj => ?_, fun i hi => ?_⟩
  · rw [← h3 j hj]; exact cpy_in hj
  · refine Eq.trans (congrArg (fun x : Int32 => x + nI d) ?_) h4
    exact cpy_in (f := s_cou O) (g := s_cou S) (n := 10) (k := 0) (by omega)
  · rw [← h5 j h0 hj]; exact cpy_in hj
  · obtain ⟨a1, a2, a3, a4, a5, a6, a7, a8⟩ := h6 i hi
    refine ⟨?_, ?_, ?_, ?_, ?_, ?_, ?_, ?_⟩
    · rw [← a1]; exact cpy_in (by omega)
    · rw [← a2]; exact cpy_in (by omega)
    · rw [← a3]; exact cpy_in (by omega)
    · rw [← a4]; exact cpy_in (by omega)
    · rw [← a5]; exact cpy_in (by omega)
    · rw [← a6]; exact cpy_in (by omega)
    · rw [← a7]; exact cpy_in (by omega)
    · rw [← a8]; exact cpy_in (by omega)
