/-! ticks: the counts grow, water, solids and heat add up -/
theorem smN_cg {R P : Nat → Nat} {b : Nat} : ∀ i, (∀ j, j < i → P (b + j) = R (b + j)) → smN P b i = smN R b i
  | 0, _ => rfl
  | i + 1, h => by rw [smN_s, smN_s, smN_cg i (fun j hj => h j (by omega)), h i (by omega)]
theorem smN_up {R : Nat → Nat} {b q v : Nat} : ∀ i, q < i → smN (upN R (b + q) v) b i + R (b + q) = smN R b i + v
  | 0, h => by omega
  | i + 1, h => by
    rw [smN_s, smN_s]
    by_cases e : q = i
    · subst e
      rw [upN_s, smN_cg q (fun j hj => upN_o (by omega))]
      omega
    · have ih := smN_up (R := R) (b := b) (v := v) i (show q < i by omega)
      rw [upN_o (k := b + i) (by omega)]
      omega
/-! boiling -/
def boI (n : Nat) (R P : Nat → Nat) : Prop := smN P 6 n + P 55 = smN R 6 n + R 55 ∧ R 55 ≤ P 55 ∧ R 56 ≤ P 56 ∧ P 56 + R 55 ≤ R 56 + P 55 ∧ R 58 ≤ P 58
theorem bo1_I {n i h : Nat} {R : Nat → Nat} (hi : i < n) (hn : n ≤ 6) (hg : GE R i) : boI n R (bo1 R i h) ∧ bo1 R i h 55 ≤ R 55 + 90 ∧ bo1 R i h 56 + bo1 R i h 58 + (vaN R i h - blN R i h) = R 56 + R 58 + h ∧ R 55 + (vaN R i h - blN R i h) ≤ bo1 R i h 55 := by
  obtain ⟨⟨g1, g2⟩, g3, g4, g5, g6, g7, g8⟩ := hg
  have hv := vaN_le (R := R) (i := i) (h := h)
  have hp := pwN_le (R := R) (i := i) g2
  have hb := blN_le (R := R) (i := i) (h := h) g5
  have e55 : bo1 R i h 55 = R 55 + vaN R i h := by
    unfold bo1
    rw [upN_o (by omega), upN_o (by omega), upN_o (by omega), upN_o (by omega), upN_s]
  have e56 : bo1 R i h 56 = R 56 + blN R i h := by
    unfold bo1
    rw [upN_o (by omega), upN_o (by omega), upN_o (by omega), upN_s]
  have e58 : bo1 R i h 58 = R 58 + (h - vaN R i h) := by
    unfold bo1
    rw [upN_o (by omega), upN_o (by omega), upN_s]
  have es : smN (bo1 R i h) 6 n + vaN R i h = smN R 6 n := by
    have h1 := smN_up (R := R) (b := 6) (v := R (6 + i) - vaN R i h) n hi
    have h2 : smN (bo1 R i h) 6 n = smN (upN R (6 + i) (R (6 + i) - vaN R i h)) 6 n := smN_cg n fun j hj => by
      unfold bo1
      rw [upN_o (by omega), upN_o (by omega), upN_o (by omega), upN_o (by omega), upN_o (by omega)]
    rw [h2]
    omega
  unfold boI
  rw [e55, e56, e58]
  refine ⟨⟨by omega, by omega, by omega, by omega, by omega⟩, by omega, by omega, by omega⟩
theorem boI.tr {n : Nat} {R P Q : Nat → Nat} (h : boI n R P) (g : boI n P Q) : boI n R Q := by
  unfold boI at *
  omega
theorem boL_I {n : Nat} (hn : n ≤ 6) : ∀ (d i h : Nat) (R : Nat → Nat), i + d ≤ n → (∀ q, q < n → GE R q) → boI n R (boL d i h R).2 ∧ (boL d i h R).2 55 ≤ R 55 + 90 * d ∧ (boL d i h R).2 56 + (boL d i h R).2 58 + (boL d i h R).1 = R 56 + R 58 + h ∧ ((∃ q, i ≤ q ∧ q < i + d ∧ R (42 + q) = 0) → R 55 + (boL d i h R).1 ≤ (boL d i h R).2 55)
  | 0, i, h, R, _, _ => by
    refine ⟨⟨rfl, Nat.le_refl _, Nat.le_refl _, Nat.le_refl _, Nat.le_refl _⟩, Nat.le_refl _, rfl, fun ⟨q, h1, h2, _⟩ => by omega⟩
  | d + 1, i, h, R, hd, hg => by
    rw [boL]
    by_cases w : R (42 + i) = 0
    · rw [if_pos w]
      obtain ⟨a1, a2, a3, a4⟩ := bo1_I (h := h) (show i < n by omega) hn (hg i (by omega))
      have hg2 : ∀ q, q < n → GE (bo1 R i h) q := fun q hq => by
        by_cases c : q = i
        · rw [c]; exact ge_bo1s (by omega) (hg i (by omega))
        · exact GE.bo1 (by omega) (by omega) c (hg q hq)
      obtain ⟨b1, b2, b3, b4⟩ := boL_I hn d (i + 1) (vaN R i h - blN R i h) (bo1 R i h) (by omega) hg2
      refine ⟨a1.tr b1, by omega, by omega, fun _ => ?_⟩
      by_cases c : ∃ q, i + 1 ≤ q ∧ q < i + 1 + d ∧ bo1 R i h (42 + q) = 0
      · have := b4 c
        have := a1.2.1
        omega
      · -- no other one works: the heat stays
        have key : ∀ (d i h : Nat) (P : Nat → Nat), (∀ q, i ≤ q → q < i + d → P (42 + q) ≠ 0) → boL d i h P = (h, P) := by
          intro d
          induction d with
          | zero => intro i h P _; rfl
          | succ d ih =>
            intro i h P hq
            rw [boL, if_neg (hq i (Nat.le_refl _) (by omega))]
            exact ih (i + 1) h P fun q h1 h2 => hq q (by omega) (by omega)
        rw [key d (i + 1) _ _ fun q h1 h2 h3 => c ⟨q, h1, h2, h3⟩]
        exact a4
    · rw [if_neg w]
      obtain ⟨b1, b2, b3, b4⟩ := boL_I hn d (i + 1) h R (by omega) hg
      refine ⟨b1, by omega, b3, fun ⟨q, h1, h2, h3⟩ => b4 ⟨q, ?_, by omega, h3⟩⟩
      rcases Nat.lt_or_ge i q with c | c
      · exact c
      · exact absurd (show R (42 + i) = 0 by rw [show i = q by omega]; exact h3) w
/-- what one or more ticks do to the accounts -/
def CT (n d : Nat) (R P : Nat → Nat) : Prop :=
  (∀ j, j < 10 → R (54 + j) ≤ P (54 + j) ∧ P (54 + j) ≤ R (54 + j) + 999 * d) ∧ smN P 6 n + P 61 + P 55 + R 59 = smN R 6 n + R 61 + R 55 + P 59 ∧ smN P 12 n + P 62 + R 60 = smN R 12 n + R 62 + P 60 ∧ P 63 ≤ R 63 + d ∧ (okH R → okH P)
theorem CT.tr {n d e : Nat} {R P Q : Nat → Nat} (h : CT n d R P) (g : CT n e P Q) : CT n (d + e) R Q := by
  obtain ⟨h1, h2, h3, h4, h5⟩ := h
  obtain ⟨g1, g2, g3, g4, g5⟩ := g
  refine ⟨fun j hj => ?_, by omega, by omega, by omega, fun z => g5 (h5 z)⟩
  have := h1 j hj
  have := g1 j hj
  omega
/-- a change that leaves the accounts alone -/
theorem CT.same {n : Nat} {R P : Nat → Nat} (hn : n ≤ 6) (h1 : ∀ k, 6 ≤ k → k < 18 → P k = R k) (h2 : ∀ k, 54 ≤ k → k < 64 → P k = R k) : CT n 0 R P := by
  refine ⟨fun j hj => ?_, ?_, ?_, ?_, fun z => ?_⟩
  · rw [h2 (54 + j) (by omega) (by omega)]; omega
  · rw [smN_cg n (R := R) (P := P) (b := 6) (fun j hj => h1 _ (by omega) (by omega)), h2 61 (by omega) (by omega), h2 55 (by omega) (by omega), h2 59 (by omega) (by omega)]
  · rw [smN_cg n (R := R) (P := P) (b := 12) (fun j hj => h1 _ (by omega) (by omega)), h2 62 (by omega) (by omega), h2 60 (by omega) (by omega)]
  · rw [h2 63 (by omega) (by omega)]; omega
  · unfold okH at *
    rw [h2 54 (by omega) (by omega), h2 55 (by omega) (by omega), h2 56 (by omega) (by omega), h2 57 (by omega) (by omega), h2 58 (by omega) (by omega)]
    exact z
theorem boL_low {k : Nat} (hk : 12 ≤ k ∧ k < 18) : ∀ (d i h : Nat) (R : Nat → Nat), i + d ≤ 6 → (boL d i h R).2 k = R k
  | 0, i, h, R, _ => rfl
  | d + 1, i, h, R, hi => by
    rw [boL]
    by_cases w : R (42 + i) = 0
    · rw [if_pos w, boL_low hk d (i + 1) _ _ (by omega)]
      unfold bo1
      rw [upN_o (by omega), upN_o (by omega), upN_o (by omega), upN_o (by omega), upN_o (by omega), upN_o (by omega)]
    · rw [if_neg w, boL_low hk d (i + 1) _ _ (by omega)]
theorem CT.boil {n : Nat} {R : Nat → Nat} (hg : GN n R) : CT n 1 R (boilN n R) ∧ boilN n R 59 = R 59 ∧ boilN n R 60 = R 60 ∧ boilN n R 61 = R 61 ∧ boilN n R 62 = R 62 ∧ boilN n R 63 = R 63 := by
  obtain ⟨⟨n2, n6⟩, hge, h48, -⟩ := id hg
  unfold boilN
  by_cases e : wcN R n = n
  · rw [if_pos e]
    have h0 := CT.same (R := R) (P := R) n6 (fun _ _ _ => rfl) (fun _ _ _ => rfl)
    refine ⟨⟨fun j hj => by have := h0.1 j hj; omega, h0.2.1, h0.2.2.1, by omega, fun z => z⟩, rfl, rfl, rfl, rfl, rfl⟩
  · rw [if_neg e]
    obtain ⟨q, q1, q2⟩ := wcN_part n e
    obtain ⟨P, hP⟩ : ∃ P, P = upN R 54 (R 54 + R 48) := ⟨_, rfl⟩
    have gP : ∀ i, i < n → GE P i := fun i hi => GE.cg (by omega) (hge i hi) fun k hk => by rw [hP]; exact upN_o (by omega)
    obtain ⟨b1, b2, b3, b4⟩ := boL_I n6 n 0 (R 48) P (by omega) gP
    have b5 := b4 ⟨q, by omega, by omega, by rw [hP, upN_o (by omega)]; exact q2⟩
    have kp : ∀ k, ((42 ≤ k ∧ k ≤ 54) ∨ k = 57 ∨ 59 ≤ k) → (boL n 0 (R 48) P).2 k = P k := fun k hk => boL_keep hk n 0 (R 48) P (by omega)
    have lw : ∀ k, 12 ≤ k → k < 18 → (boL n 0 (R 48) P).2 k = P k := fun k h1 h2 => boL_low ⟨h1, h2⟩ n 0 (R 48) P (by omega)
    rw [← hP]
    generalize boL n 0 (R 48) P = B at *
    have p54 : P 54 = R 54 + R 48 := by rw [hP, upN_s]
    have po : ∀ k, k ≠ 54 → P k = R k := fun k hk => by rw [hP, upN_o hk]
    have u57 : upN B.2 57 (B.2 57 + B.1) 57 = B.2 57 + B.1 := upN_s
    have uo : ∀ k, k ≠ 57 → upN B.2 57 (B.2 57 + B.1) k = B.2 k := fun k hk => upN_o hk
    have k54 := kp 54 (by omega)
    have k57 := kp 57 (by omega)
    have s6 : smN (upN B.2 57 (B.2 57 + B.1)) 6 n = smN B.2 6 n := smN_cg n fun j hj => uo _ (by omega)
    have s12 : smN (upN B.2 57 (B.2 57 + B.1)) 12 n = smN R 12 n := smN_cg n fun j hj => by rw [uo _ (by omega), lw _ (by omega) (by omega), po _ (by omega)]
    have sP : smN P 6 n = smN R 6 n := smN_cg n fun j hj => po _ (by omega)
    have e59 : upN B.2 57 (B.2 57 + B.1) 59 = R 59 := by rw [uo _ (by omega), kp _ (by omega), po _ (by omega)]
    have e60 : upN B.2 57 (B.2 57 + B.1) 60 = R 60 := by rw [uo _ (by omega), kp _ (by omega), po _ (by omega)]
    have e61 : upN B.2 57 (B.2 57 + B.1) 61 = R 61 := by rw [uo _ (by omega), kp _ (by omega), po _ (by omega)]
    have e62 : upN B.2 57 (B.2 57 + B.1) 62 = R 62 := by rw [uo _ (by omega), kp _ (by omega), po _ (by omega)]
    have e63 : upN B.2 57 (B.2 57 + B.1) 63 = R 63 := by rw [uo _ (by omega), kp _ (by omega), po _ (by omega)]
    have p55 := po 55 (by omega)
    have p56 := po 56 (by omega)
    have p57 := po 57 (by omega)
    have p58 := po 58 (by omega)
    have d54 := uo 54 (by omega)
    have d55 := uo 55 (by omega)
    have d56 := uo 56 (by omega)
    have d58 := uo 58 (by omega)
    unfold boI at b1
    refine ⟨⟨fun j hj => ?_, ?_, ?_, ?_, fun z => ?_⟩, e59, e60, e61, e62, e63⟩
    · rcases (show j = 0 ∨ j = 1 ∨ j = 2 ∨ j = 3 ∨ j = 4 ∨ j = 5 ∨ j = 6 ∨ j = 7 ∨ j = 8 ∨ j = 9 by omega) with rfl | rfl | rfl | rfl | rfl | rfl | rfl | rfl | rfl | rfl
      · show R 54 ≤ upN B.2 57 (B.2 57 + B.1) 54 ∧ upN B.2 57 (B.2 57 + B.1) 54 ≤ R 54 + 999 * 1
        omega
      · show R 55 ≤ upN B.2 57 (B.2 57 + B.1) 55 ∧ upN B.2 57 (B.2 57 + B.1) 55 ≤ R 55 + 999 * 1
        omega
      · show R 56 ≤ upN B.2 57 (B.2 57 + B.1) 56 ∧ upN B.2 57 (B.2 57 + B.1) 56 ≤ R 56 + 999 * 1
        omega
      · show R 57 ≤ upN B.2 57 (B.2 57 + B.1) 57 ∧ upN B.2 57 (B.2 57 + B.1) 57 ≤ R 57 + 999 * 1
        omega
      · show R 58 ≤ upN B.2 57 (B.2 57 + B.1) 58 ∧ upN B.2 57 (B.2 57 + B.1) 58 ≤ R 58 + 999 * 1
        omega
      · show R 59 ≤ upN B.2 57 (B.2 57 + B.1) 59 ∧ upN B.2 57 (B.2 57 + B.1) 59 ≤ R 59 + 999 * 1
        omega
      · show R 60 ≤ upN B.2 57 (B.2 57 + B.1) 60 ∧ upN B.2 57 (B.2 57 + B.1) 60 ≤ R 60 + 999 * 1
        omega
      · show R 61 ≤ upN B.2 57 (B.2 57 + B.1) 61 ∧ upN B.2 57 (B.2 57 + B.1) 61 ≤ R 61 + 999 * 1
        omega
      · show R 62 ≤ upN B.2 57 (B.2 57 + B.1) 62 ∧ upN B.2 57 (B.2 57 + B.1) 62 ≤ R 62 + 999 * 1
        omega
      · show R 63 ≤ upN B.2 57 (B.2 57 + B.1) 63 ∧ upN B.2 57 (B.2 57 + B.1) 63 ≤ R 63 + 999 * 1
        omega
    · omega
    · omega
    · omega
    · unfold okH at *
      omega
/-! flowing -/
theorem pvN_le {R f : Nat → Nat} {B : Nat} : ∀ j, (∀ i, i < j → f i ≤ B) → pvN R f j ≤ B
  | 0, _ => Nat.zero_le _
  | j + 1, h => by
    rw [pvN]
    split
    · exact h j (by omega)
    · exact pvN_le j fun i hi => h i (by omega)
theorem fl_sum {n b fd : Nat} {R F f : Nat → Nat} (hF : ∀ i, i < n → F (b + i) = if R (42 + i) = 0 then R (b + i) + (if i = nxN n R 0 then fd else pvN R f i) - f i else R (b + i)) (hf : ∀ i, i < n → f i ≤ R (b + i)) :
    ∀ j, j ≤ n → (j ≤ nxN n R 0 → smN F b j = smN R b j) ∧ (nxN n R 0 < j → smN F b j + pvN R f j = smN R b j + fd)
  | 0, _ => ⟨fun _ => rfl, fun h => by omega⟩
  | j + 1, hj => by
    obtain ⟨ih1, ih2⟩ := fl_sum hF hf j (by omega)
    have hFj := hF j (by omega)
    have hfj := hf j (by omega)
    rw [smN_s, smN_s, pvN, hFj]
    constructor
    · intro h
      have w : R (42 + j) ≠ 0 := nxN_no (n := n) (Nat.zero_le j) (by omega)
      rw [if_neg w, ih1 (by omega)]
    · intro h
      by_cases w : R (42 + j) = 0
      · rw [if_pos w, if_pos w]
        by_cases e : j = nxN n R 0
        · rw [if_pos e, ih1 (by omega)]
          omega
        · rw [if_neg e]
          have := ih2 (by omega)
          omega
      · rw [if_neg w, if_neg w]
        have e : j ≠ nxN n R 0 := fun e => w (by rw [e]; exact nxN_w (Nat.zero_le n) (by omega))
        have := ih2 (by omega)
        omega
theorem CT.flow {n : Nat} {R : Nat → Nat} (hg : GN n R) : smN (flN n R) 6 n + flN n R 61 + R 59 = smN R 6 n + R 61 + flN n R 59 ∧ smN (flN n R) 12 n + flN n R 62 + R 60 = smN R 12 n + R 62 + flN n R 60 ∧ (R 59 ≤ flN n R 59 ∧ flN n R 59 ≤ R 59 + 999) ∧ (R 60 ≤ flN n R 60 ∧ flN n R 60 ≤ R 60 + 999) ∧ (R 61 ≤ flN n R 61 ∧ flN n R 61 ≤ R 61 + 999) ∧ (R 62 ≤ flN n R 62 ∧ flN n R 62 ≤ R 62 + 999) ∧ (R 63 ≤ flN n R 63 ∧ flN n R 63 ≤ R 63 + 1) := by
  obtain ⟨⟨n2, n6⟩, hge, h48, h49, h50, -⟩ := id hg
  have hx := nxN_le (n := n) (R := R) (j := 0) (by omega)
  have f6 : ∀ i, i < n → flN n R (6 + i) = if R (42 + i) = 0 then R (6 + i) + (if i = nxN n R 0 then fdN n R 49 else pvN R (gwN n R) i) - gwN n R i else R (6 + i) := fun i hi => by
    unfold flN
    rw [if_pos (by omega), show 6 + i - 6 = i by omega]
  have f12 : ∀ i, i < n → flN n R (12 + i) = if R (42 + i) = 0 then R (12 + i) + (if i = nxN n R 0 then fdN n R 50 else pvN R (gsN n R) i) - gsN n R i else R (12 + i) := fun i hi => by
    unfold flN
    rw [if_neg (by omega), if_pos (by omega), show 12 + i - 12 = i by omega]
  have e59 : flN n R 59 = R 59 + fdN n R 49 := by
    unfold flN
    rw [if_neg (by omega), if_neg (by omega), if_pos rfl]
  have e60 : flN n R 60 = R 60 + fdN n R 50 := by
    unfold flN
    rw [if_neg (by omega), if_neg (by omega), if_neg (by omega), if_pos rfl]
  have e61 : flN n R 61 = R 61 + pvN R (gwN n R) n := by
    unfold flN
    rw [if_neg (by omega), if_neg (by omega), if_neg (by omega), if_neg (by omega), if_pos rfl]
  have e62 : flN n R 62 = R 62 + pvN R (gsN n R) n := by
    unfold flN
    rw [if_neg (by omega), if_neg (by omega), if_neg (by omega), if_neg (by omega), if_neg (by omega), if_pos rfl]
  have e63 : flN n R 63 = R 63 + hdN n R := by
    unfold flN
    rw [if_neg (by omega), if_neg (by omega), if_neg (by omega), if_neg (by omega), if_neg (by omega), if_neg (by omega), if_pos rfl]
  have hgo : ∀ i, i < n → goN n R i ≤ 999 := fun i hi => Nat.le_trans (Nat.le_trans (Nat.min_le_left _ _) (Nat.min_le_left _ _)) (hge i hi).2.2.1
  have hw : ∀ i, i < n → gwN n R i ≤ 999 := fun i hi => by
    have h1 := hgo i hi
    by_cases w : R (42 + i) = 0
    · have := gwN_add (n := n) w
      omega
    · unfold gwN
      rw [if_neg w]
      omega
  have hs : ∀ i, i < n → gsN n R i ≤ 999 := fun i hi => by
    have h1 := hgo i hi
    by_cases w : R (42 + i) = 0
    · have := gwN_add (n := n) w
      omega
    · unfold gsN
      rw [if_neg w]
      omega
  have pw := pvN_le (R := R) (f := gwN n R) n hw
  have ps := pvN_le (R := R) (f := gsN n R) n hs
  have fd49 : fdN n R 49 ≤ R 49 := by
    unfold fdN
    split
    · omega
    · split <;> omega
  have fd50 : fdN n R 50 ≤ R 50 := by
    unfold fdN
    split
    · omega
    · split <;> omega
  have hd : hdN n R ≤ 1 := by
    unfold hdN
    split
    · omega
    · split <;> omega
  obtain ⟨a1, a2⟩ := fl_sum (f := gwN n R) (fd := fdN n R 49) f6 (fun i _ => gwN_le) n (Nat.le_refl n)
  obtain ⟨b1, b2⟩ := fl_sum (f := gsN n R) (fd := fdN n R 50) f12 (fun i _ => gsN_le) n (Nat.le_refl n)
  have sums : smN (flN n R) 6 n + pvN R (gwN n R) n = smN R 6 n + fdN n R 49 ∧ smN (flN n R) 12 n + pvN R (gsN n R) n = smN R 12 n + fdN n R 50 := by
    by_cases e : nxN n R 0 = n
    · have z1 : fdN n R 49 = 0 := by unfold fdN; rw [if_pos e]
      have z2 : fdN n R 50 = 0 := by unfold fdN; rw [if_pos e]
      have z3 : pvN R (gwN n R) n = 0 := pvN_first (n := n) n (by omega)
      have z4 : pvN R (gsN n R) n = 0 := pvN_first (n := n) n (by omega)
      have := a1 (by omega)
      have := b1 (by omega)
      omega
    · exact ⟨a2 (by omega), b2 (by omega)⟩
  obtain ⟨s1, s2⟩ := sums
  refine ⟨by omega, by omega, by omega, by omega, by omega, by omega, by omega⟩
theorem trnN_o {n k : Nat} {R : Nat → Nat} (hn : n ≤ 6) (h2 : 2 ≤ n) (hk : k < 42 ∨ 48 ≤ k) : trnN n R k = R k := by
  have ht : tuN n R < n := mxN_lt (n - 1) 1 0 (by omega) (by omega)
  unfold trnN
  split
  · rfl
  · split
    · split
      · split
        · rfl
        · exact upN_o (by omega)
      · rfl
    · rfl
theorem CT.tick {n : Nat} {R : Nat → Nat} (hg : GN n R) : CT n 1 R (tkN n R) := by
  obtain ⟨⟨n2, n6⟩, -⟩ := id hg
  have h0 : CT n 0 R (trnN n R) := CT.same n6 (fun k _ _ => trnN_o n6 n2 (by omega)) (fun k _ _ => trnN_o n6 n2 (by omega))
  have hgt := hg.turn
  obtain ⟨P, hP⟩ : ∃ P, P = trnN n R := ⟨_, rfl⟩
  rw [← hP] at h0 hgt
  obtain ⟨h1, q59, q60, q61, q62, q63⟩ := CT.boil hgt
  have h2 := CT.flow hgt.boil
  have ho : ∀ k, 54 ≤ k → k < 59 → flN n (boilN n P) k = boilN n P k := fun k k1 k2 => flN_o (by omega) (by omega) (by omega)
  have hw : ∀ k, (k < 30 ∨ 48 ≤ k) → k ≠ 53 → tkN n R k = flN n (boilN n P) k := fun k k1 k2 => by
    unfold tkN taN
    rw [← hP, upN_o k2, wsN_o n6 (by omega)]
  have w6 : smN (tkN n R) 6 n = smN (flN n (boilN n P)) 6 n := smN_cg n fun j hj => hw _ (by omega) (by omega)
  have w12 : smN (tkN n R) 12 n = smN (flN n (boilN n P)) 12 n := smN_cg n fun j hj => hw _ (by omega) (by omega)
  have h3 : CT n 1 P (tkN n R) := by
    obtain ⟨c1, c2, c3, c4, c5⟩ := h1
    obtain ⟨f1, f2, f3, f4, f5, f6, f7⟩ := h2
    have v54 := hw 54 (by omega) (by omega)
    have v55 := hw 55 (by omega) (by omega)
    have v56 := hw 56 (by omega) (by omega)
    have v57 := hw 57 (by omega) (by omega)
    have v58 := hw 58 (by omega) (by omega)
    have v59 := hw 59 (by omega) (by omega)
    have v60 := hw 60 (by omega) (by omega)
    have v61 := hw 61 (by omega) (by omega)
    have v62 := hw 62 (by omega) (by omega)
    have v63 := hw 63 (by omega) (by omega)
    have o54 := ho 54 (by omega) (by omega)
    have o55 := ho 55 (by omega) (by omega)
    have o56 := ho 56 (by omega) (by omega)
    have o57 := ho 57 (by omega) (by omega)
    have o58 := ho 58 (by omega) (by omega)
    refine ⟨fun j hj => ?_, ?_, ?_, ?_, fun z => ?_⟩
    · have cj := c1 j hj
      rcases (show j = 0 ∨ j = 1 ∨ j = 2 ∨ j = 3 ∨ j = 4 ∨ j = 5 ∨ j = 6 ∨ j = 7 ∨ j = 8 ∨ j = 9 by omega) with rfl | rfl | rfl | rfl | rfl | rfl | rfl | rfl | rfl | rfl
      · show P 54 ≤ tkN n R 54 ∧ tkN n R 54 ≤ P 54 + 999 * 1
        have : P 54 ≤ boilN n P 54 ∧ boilN n P 54 ≤ P 54 + 999 * 1 := cj
        omega
      · show P 55 ≤ tkN n R 55 ∧ tkN n R 55 ≤ P 55 + 999 * 1
        have : P 55 ≤ boilN n P 55 ∧ boilN n P 55 ≤ P 55 + 999 * 1 := cj
        omega
      · show P 56 ≤ tkN n R 56 ∧ tkN n R 56 ≤ P 56 + 999 * 1
        have : P 56 ≤ boilN n P 56 ∧ boilN n P 56 ≤ P 56 + 999 * 1 := cj
        omega
      · show P 57 ≤ tkN n R 57 ∧ tkN n R 57 ≤ P 57 + 999 * 1
        have : P 57 ≤ boilN n P 57 ∧ boilN n P 57 ≤ P 57 + 999 * 1 := cj
        omega
      · show P 58 ≤ tkN n R 58 ∧ tkN n R 58 ≤ P 58 + 999 * 1
        have : P 58 ≤ boilN n P 58 ∧ boilN n P 58 ≤ P 58 + 999 * 1 := cj
        omega
      · show P 59 ≤ tkN n R 59 ∧ tkN n R 59 ≤ P 59 + 999 * 1
        omega
      · show P 60 ≤ tkN n R 60 ∧ tkN n R 60 ≤ P 60 + 999 * 1
        omega
      · show P 61 ≤ tkN n R 61 ∧ tkN n R 61 ≤ P 61 + 999 * 1
        omega
      · show P 62 ≤ tkN n R 62 ∧ tkN n R 62 ≤ P 62 + 999 * 1
        omega
      · show P 63 ≤ tkN n R 63 ∧ tkN n R 63 ≤ P 63 + 999 * 1
        omega
    · omega
    · omega
    · omega
    · have z2 := c5 z
      unfold okH at *
      omega
  have := h0.tr h3
  rw [Nat.zero_add] at this
  exact this
theorem CT.ticks {n : Nat} : ∀ (m : Nat) (R : Nat → Nat), GN n R → CT n m R (tkM n m R)
  | 0, R, hg => CT.same hg.1.2 (fun _ _ _ => rfl) (fun _ _ _ => rfl)
  | m + 1, R, hg => by
    rw [tkM, Nat.add_comm]
    exact (CT.tick hg).tr (CT.ticks m _ hg.tick)
