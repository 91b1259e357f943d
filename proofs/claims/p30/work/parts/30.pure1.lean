/-! plain numbers: rows of naturals, what both classes compute -/
theorem lt31 {n : Nat} (h : n < 2147483648) : n < 2 ^ 31 := h
theorem gb_in {α : Type} {i N : Nat} {k : Option α} (h : i < N) (hi : i < 2147483648) : gb (inb (nI i) N) k = k := gb_t (vp_inb (by
  intro q
  rcases q with q | q
  · exact nI_pos (lt31 hi) q
  · rw [nI_clamp (lt31 hi)] at q; omega))
theorem bd_some {α β : Type} (a : α) (k : α → Option β) : bd (some a) k = k a := rfl
theorem nm_e2 {α β : Type} (a : α) (k : α → Option β) : nm a k = k a := rfl
theorem gb_nz {α : Type} {v : Nat} {k : Option α} (h : 0 < v) (hv : v < 2147483648) : gb (nz (nI v)) k = k := gb_t (nz_t (nI_ne0 h (lt31 hv)))
theorem nI_iff {a b : Nat} (ha : a < 2147483648) (hb : b < 2147483648) : nI a = nI b ↔ a = b := nI_eq (lt31 ha) (lt31 hb)
theorem nI_leF {a b : Nat} (ha : a < 2147483648) (hb : b < 2147483648) : nI a ≤ nI b ↔ a ≤ b := nI_leI (lt31 ha) (lt31 hb)
theorem nI_ltF {a b : Nat} (ha : a < 2147483648) (hb : b < 2147483648) : nI a < nI b ↔ a < b := nI_ltI (lt31 ha) (lt31 hb)
theorem nI_cl {n : Nat} (h : n < 2147483648) : (nI n).toNatClampNeg = n := nI_clamp (lt31 h)
theorem nI_dv {a d : Nat} (ha : a < 2147483648) (h0 : 0 < d) (hd : d < 2147483648) : nI a / nI d = nI (a / d) := pk_div (lt31 ha) h0 (lt31 hd)
theorem nI_rm {a d : Nat} (ha : a < 2147483648) (h0 : 0 < d) (hd : d < 2147483648) : nI a - nI a / nI d * nI d = nI (a % d) := pk_rem (lt31 ha) h0 (lt31 hd)
theorem L0 : (0 : Int32) = nI 0 := rfl
theorem L1 : (1 : Int32) = nI 1 := rfl
theorem L2 : (2 : Int32) = nI 2 := rfl
theorem L5 : (5 : Int32) = nI 5 := rfl
theorem L6 : (6 : Int32) = nI 6 := rfl
theorem L10 : (10 : Int32) = nI 10 := rfl
theorem L12 : (12 : Int32) = nI 12 := rfl
theorem L18 : (18 : Int32) = nI 18 := rfl
theorem L24 : (24 : Int32) = nI 24 := rfl
theorem L30 : (30 : Int32) = nI 30 := rfl
theorem L36 : (36 : Int32) = nI 36 := rfl
theorem L42 : (42 : Int32) = nI 42 := rfl
theorem L99 : (99 : Int32) = nI 99 := rfl
theorem L100 : (100 : Int32) = nI 100 := rfl
theorem L200 : (200 : Int32) = nI 200 := rfl
theorem L1000 : (1000 : Int32) = nI 1000 := rfl
theorem L5000 : (5000 : Int32) = nI 5000 := rfl
theorem nI_m9 {n : Nat} (h : n < 2147483648) : ¬ nI n = (-9) := by
  intro e
  have h1 := congrArg Int32.toInt e
  rw [nI_toInt (lt31 h)] at h1
  have h2 : (-9 : Int32).toInt = -9 := by decide
  omega
theorem nI_s1 (n : Nat) : nI n + 1 = nI (n + 1) := nI_1 n
/-- a row of naturals with one place changed -/
def upN (R : Nat → Nat) (j v : Nat) : Nat → Nat := fun k => if k = j then v else R k
theorem upN_s {R : Nat → Nat} {j v : Nat} : upN R j v j = v := if_pos rfl
theorem upN_o {R : Nat → Nat} {j v k : Nat} (h : k ≠ j) : upN R j v k = R k := if_neg h
def RR (r : Nat → Int32) (R : Nat → Nat) : Prop := ∀ k, k < 64 → r k = nI (R k)
theorem RR.up {r : Nat → Int32} {R : Nat → Nat} (h : RR r R) (j v : Nat) : RR (upd r j (nI v)) (upN R j v) := by
  intro k hk
  unfold upd upN
  by_cases e : k = j
  · rw [if_pos e, if_pos e]
  · rw [if_neg e, if_neg e, h k hk]
theorem RR.up' {r : Nat → Int32} {R : Nat → Nat} (h : RR r R) (j : Nat) {x : Int32} {v : Nat} (e : x = nI v) : RR (upd r j x) (upN R j v) := by rw [e]; exact h.up j v
theorem RR.cg {r : Nat → Int32} {R R' : Nat → Nat} (h : RR r R) (e : ∀ k, k < 64 → R k = R' k) : RR r R' := fun k hk => by rw [h k hk, e k hk]
/-- bounds -/
def GE (R : Nat → Nat) (i : Nat) : Prop := (1 ≤ R i ∧ R i ≤ 9) ∧ R (6 + i) + R (12 + i) ≤ 5000 ∧ R (18 + i) ≤ 999 ∧ R (24 + i) ≤ 90 ∧ R (30 + i) ≤ 99 ∧ R (36 + i) ≤ 999 ∧ R (42 + i) ≤ 20
def GN (n : Nat) (R : Nat → Nat) : Prop := (2 ≤ n ∧ n ≤ 6) ∧ (∀ i, i < n → GE R i) ∧ (R 48 ≤ 999 ∧ R 49 ≤ 999 ∧ R 50 ≤ 99 ∧ R 51 ≤ 99 ∧ 1 ≤ R 52 ∧ R 52 ≤ 20)
def amN (R : Nat → Nat) (i : Nat) : Nat := R (6 + i) + R (12 + i)
def thN (R : Nat → Nat) (i : Nat) : Nat := 100 * R (12 + i) / amN R i
def pwN (R : Nat → Nat) (i : Nat) : Nat := 100 * R i / (10 + R (30 + i))
/-- the first one that works among d places from j on -/
def fwN (R : Nat → Nat) : Nat → Nat → Nat
  | 0, j => j
  | d + 1, j => if R (42 + j) = 0 then j else fwN R d (j + 1)
def nxN (n : Nat) (R : Nat → Nat) (j : Nat) : Nat := fwN R (n - j) j
theorem fwN_le (R : Nat → Nat) : ∀ d j, j ≤ fwN R d j ∧ fwN R d j ≤ j + d
  | 0, j => ⟨Nat.le_refl _, Nat.le_refl _⟩
  | d + 1, j => by
    rw [fwN]
    split
    · omega
    · have := fwN_le R d (j + 1)
      omega
theorem fwN_works (R : Nat → Nat) : ∀ d j, fwN R d j < j + d → R (42 + fwN R d j) = 0
  | 0, j => fun h => by simp [fwN] at h
  | d + 1, j => by
    rw [fwN]
    split
    · intro _; assumption
    · intro h
      exact fwN_works R d (j + 1) (by omega)
theorem fwN_none (R : Nat → Nat) : ∀ d j k, j ≤ k → k < fwN R d j → R (42 + k) ≠ 0
  | 0, j, k => fun h1 h2 => by simp [fwN] at h2; omega
  | d + 1, j, k => by
    rw [fwN]
    split
    · intro h1 h2; omega
    · intro h1 h2
      by_cases e : k = j
      · subst e; assumption
      · exact fwN_none R d (j + 1) k (by omega) h2
/-- the last one that works below j -/
def bwN (R : Nat → Nat) : Nat → Option Nat
  | 0 => none
  | j + 1 => if R (42 + j) = 0 then some j else bwN R j
/-- how many are washed -/
def wcN (R : Nat → Nat) : Nat → Nat
  | 0 => 0
  | i + 1 => wcN R i + if R (42 + i) = 0 then 0 else 1
theorem wcN_le (R : Nat → Nat) : ∀ i, wcN R i ≤ i
  | 0 => Nat.le_refl _
  | i + 1 => by
    rw [wcN]
    have := wcN_le R i
    split <;> omega
/-- sums -/
def smN (R : Nat → Nat) (b : Nat) : Nat → Nat
  | 0 => 0
  | i + 1 => smN R b i + R (b + i)
/-! the reference's readers -/
section RD
variable {M : MdV} {r : Nat → Int32} {R : Nat → Nat} {n i : Nat}
theorem r_amount (h : RR r R) (hi : i < 6) : f_X2_amount r (nI i) = some (nI (amN R i)) := by
  unfold f_X2_amount
  rw [L6, L12, nI_add, nI_add, gb_in (by omega) (by omega), gb_in (by omega) (by omega), nI_cl (by omega), nI_cl (by omega), h _ (by omega), h _ (by omega), nI_add]
  rfl
theorem r_thickness (h : RR r R) (hi : i < 6) (hg : GE R i) : f_X2_thickness r (nI i) = some (nI (thN R i)) := by
  have ha : amN R i ≤ 5000 := hg.2.1
  have hs : R (12 + i) ≤ 5000 := by have := hg.2.1; omega
  unfold f_X2_thickness
  rw [r_amount h hi, bd_some, L0]
  by_cases e : amN R i = 0
  · rw [if_pos (by rw [e])]
    unfold thN
    rw [e, Nat.div_zero]
  · rw [if_neg (by rw [nI_iff (by omega) (by omega)]; exact e), L12, nI_add, gb_in (by omega) (by omega), bd_some, gb_nz (by omega) (by omega), nI_cl (by omega), h _ (by omega), L100, pk_mul, nI_dv (by omega) (by omega) (by omega)]
    rfl
theorem r_power (h : RR r R) (hi : i < 6) (hg : GE R i) : f_X2_power r (nI i) = some (nI (pwN R i)) := by
  obtain ⟨⟨h1, h2⟩, -, -, -, h3, -⟩ := hg
  unfold f_X2_power
  rw [L0, L30, nI_add, nI_add, gb_in (by omega) (by omega), gb_in (by omega) (by omega), nI_cl (by omega), nI_cl (by omega), h _ (by omega), h _ (by omega), Nat.zero_add, L10, nI_add, gb_nz (by omega) (by omega), L100, pk_mul, nI_dv (by omega) (by omega) (by omega)]
  rfl
theorem r_works (h : RR r R) (hi : i < 6) (hl : R (42 + i) < 2147483648) : f_X2_works r (nI i) = some (nI (if R (42 + i) = 0 then 1 else 0)) := by
  unfold f_X2_works
  rw [L42, nI_add, gb_in (by omega) (by omega), nI_cl (by omega), h _ (by omega), L0]
  by_cases e : R (42 + i) = 0
  · rw [if_pos (by rw [e]), if_pos e]; rfl
  · rw [if_neg (by rw [nI_iff (by omega) (by omega)]; exact e), if_neg e]
theorem r_behind_4 (hn : m_n M = nI n) (hn6 : n ≤ 6) (h : RR r R) (hl : ∀ i, i < n → R (42 + i) < 2147483648) : ∀ (fu j : Nat), j ≤ n → n - j < fu → f_X2_behind_4 M r fu (nI j) = some (if nxN n R j = n then (-9) else nI (nxN n R j))
  | 0, j, hj, hf => by omega
  | fu + 1, j, hj, hf => by
    rw [f_X2_behind_4, hn]
    by_cases e : n = j
    · subst e
      have e1 : nxN n R n = n := by unfold nxN; rw [Nat.sub_self]; rfl
      rw [if_pos (by rw [nI_leF (by omega) (by omega)]; omega), if_pos rfl, if_pos e1]
    · rw [if_neg (by rw [nI_leF (by omega) (by omega)]; omega), r_works h (by omega) (hl j (by omega)), bd_some, L0]
      have e1 : nxN n R j = if R (42 + j) = 0 then j else nxN n R (j + 1) := by
        unfold nxN
        rw [show n - j = (n - (j + 1)) + 1 by omega, fwN]
      by_cases w : R (42 + j) = 0
      · rw [if_pos w, if_neg (by decide), if_neg (by rw [nI_iff (by omega) (by omega)]; omega), e1, if_pos w, if_neg (by omega)]
      · rw [if_neg w, if_pos rfl, nI_s1, r_behind_4 hn hn6 h hl fu (j + 1) (by omega) (by omega), e1, if_neg w]
theorem r_behind (hn : m_n M = nI n) (hn6 : n ≤ 6) (h : RR r R) (hl : ∀ i, i < n → R (42 + i) < 2147483648) {i : Nat} (hi : i < n) : f_X2_behind M r (nI i) = some (if nxN n R (i + 1) = n then (-9) else nI (nxN n R (i + 1))) := by
  unfold f_X2_behind
  rw [nm_e2, nI_s1, r_behind_4 hn hn6 h hl 2000 (i + 1) (by omega) (by omega)]
theorem r_behind0 (hn : m_n M = nI n) (hn6 : n ≤ 6) (h : RR r R) (hl : ∀ i, i < n → R (42 + i) < 2147483648) : f_X2_behind M r (-1) = some (if nxN n R 0 = n then (-9) else nI (nxN n R 0)) := by
  unfold f_X2_behind
  rw [nm_e2, show (-1 : Int32) + 1 = nI 0 from rfl, r_behind_4 hn hn6 h hl 2000 0 (by omega) (by omega)]
theorem r_washed_4 (hn : m_n M = nI n) (hn6 : n ≤ 6) (h : RR r R) (hl : ∀ i, i < n → R (42 + i) < 2147483648) : ∀ (fu j : Nat), j ≤ n → n - j < fu → f_X2_washed_4 M r fu (nI (wcN R j)) (nI j) = some (nI (wcN R n))
  | 0, j, hj, hf => by omega
  | fu + 1, j, hj, hf => by
    rw [f_X2_washed_4, hn]
    by_cases e : n = j
    · subst e
      rw [if_pos (by rw [nI_leF (by omega) (by omega)]; omega)]
    · rw [if_neg (by rw [nI_leF (by omega) (by omega)]; omega), r_works h (by omega) (hl j (by omega)), bd_some, L0]
      have ih := r_washed_4 hn hn6 h hl fu (j + 1) (by omega) (by omega)
      rw [wcN] at ih
      by_cases w : R (42 + j) = 0
      · rw [if_pos w, if_neg (by decide), nm_e2, nI_add, nI_s1]
        rw [if_pos w] at ih
        exact ih
      · rw [if_neg w, if_pos rfl, nm_e2, nI_s1, nI_s1]
        rw [if_neg w] at ih
        exact ih
theorem r_washed (hn : m_n M = nI n) (hn6 : n ≤ 6) (h : RR r R) (hl : ∀ i, i < n → R (42 + i) < 2147483648) : f_X2_washed M r = some (nI (wcN R n)) := by
  unfold f_X2_washed
  exact r_washed_4 hn hn6 h hl 2000 0 (by omega) (by omega)
end RD
