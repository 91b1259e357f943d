/-! the whole text -/
def kdN (k : Nat) : Nat := if k < 6 then k else 6 + (k - 6) % 6
theorem kdN_lt {k : Nat} : kdN k < 12 := by unfold kdN; split <;> omega
/-- r numbers more, from the k-th on, at the place q: where it fails, or the place behind them and the numbers -/
def raN (L : Nat) (C : Nat → Nat) : Nat → Nat → Nat → (Nat → Nat) → Nat ⊕ (Nat × (Nat → Nat))
  | 0, _, q, W => .inr (q, W)
  | r + 1, k, q, W => match rdN L C (GGN (kdN k)) (LLN (kdN k)) (DDN (kdN k)) 0 q with
    | .inl e => .inl e
    | .inr (v, q') => raN L C r (k + 1) q' (upN W k v)
theorem raN_i {L : Nat} {C : Nat → Nat} {r k q e : Nat} {W : Nat → Nat} (h : rdN L C (GGN (kdN k)) (LLN (kdN k)) (DDN (kdN k)) 0 q = .inl e) : raN L C (r + 1) k q W = .inl e := by
  rw [raN, h]
theorem raN_s {L : Nat} {C : Nat → Nat} {r k q v q' : Nat} {W : Nat → Nat} (h : rdN L C (GGN (kdN k)) (LLN (kdN k)) (DDN (kdN k)) 0 q = .inr (v, q')) : raN L C (r + 1) k q W = raN L C r (k + 1) q' (upN W k v) := by
  rw [raN, h]
theorem raN_add {L : Nat} {C : Nat → Nat} {b : Nat} : ∀ (a k q : Nat) (W : Nat → Nat), raN L C (a + b) k q W = match raN L C a k q W with
    | .inl e => .inl e
    | .inr (q', W') => raN L C b (k + a) q' W'
  | 0, k, q, W => by
    rw [Nat.zero_add]
    rfl
  | a + 1, k, q, W => by
    rw [show a + 1 + b = (a + b) + 1 by omega]
    cases hx : rdN L C (GGN (kdN k)) (LLN (kdN k)) (DDN (kdN k)) 0 q with
    | inl e => rw [raN_i hx, raN_i hx]
    | inr p =>
      obtain ⟨v, q'⟩ := p
      rw [raN_s hx, raN_s hx, raN_add a (k + 1) q' _, show k + (a + 1) = k + 1 + a by omega]
theorem raN_q {L : Nat} {C : Nat → Nat} : ∀ (r k q q' : Nat) (W W' : Nat → Nat), raN L C r k q W = .inr (q', W') → q ≤ L → q' ≤ L ∧ (∀ j, j < k → W' j = W j) ∧ ∀ j, k ≤ j → j < k + r → LLN (kdN j) ≤ W' j ∧ W' j ≤ GGN (kdN j)
  | 0, k, q, q', W, W', h, hq => by
    rw [raN] at h
    cases h
    exact ⟨hq, fun _ _ => rfl, fun j h1 h2 => by omega⟩
  | r + 1, k, q, q', W, W', h, hq => by
    have ht := tabs (kdN k) kdN_lt
    cases hx : rdN L C (GGN (kdN k)) (LLN (kdN k)) (DDN (kdN k)) 0 q with
    | inl e => rw [raN_i hx] at h; cases h
    | inr p =>
      obtain ⟨v, q1⟩ := p
      rw [raN_s hx] at h
      obtain ⟨d, hd⟩ : ∃ d, DDN (kdN k) = d + 1 := ⟨DDN (kdN k) - 1, by omega⟩
      have h1 := (rdN_q _ _ _ _ _ hx).2 (by omega)
      have h2 := rdN_v d 0 q v q1 (by rw [← hd]; exact hx)
      obtain ⟨h3, h4, h5⟩ := raN_q r (k + 1) q1 q' _ W' h h1
      refine ⟨h3, fun j hj => ?_, fun j hj1 hj2 => ?_⟩
      · rw [h4 j (by omega), upN_o (by omega)]
      · by_cases e : j = k
        · rw [h4 j (by omega), e, upN_s]
          exact h2
        · exact h5 j (by omega) (by omega)
def smT (T T' : TrV) : Prop := tr_tln T' = tr_tln T ∧ tr_txt T' = tr_txt T ∧ tr_nws T' = tr_nws T ∧ tr_rcn T' = tr_rcn T ∧ tr_fil T' = tr_fil T
theorem smT.refl {T : TrV} : smT T T := ⟨rfl, rfl, rfl, rfl, rfl⟩
theorem smT.trans {T T' T'' : TrV} (h : smT T T') (g : smT T' T'') : smT T T'' := ⟨g.1.trans h.1, g.2.1.trans h.2.1, g.2.2.1.trans h.2.2.1, g.2.2.2.1.trans h.2.2.2.1, g.2.2.2.2.trans h.2.2.2.2⟩
section T2
variable {T : TrV} {L : Nat} {C : Nat → Nat}
def txH (T : TrV) (L : Nat) (C : Nat → Nat) : Prop := tr_tln T = nI L ∧ L ≤ 120 ∧ ∀ k, k < L → tr_txt T k = nI (C k) ∧ C k ≤ 255
theorem txH.sm {T T' : TrV} (h : txH T L C) (g : smT T T') : txH T' L C := ⟨g.1.trans h.1, h.2.1, fun k hk => by rw [g.2.1]; exact h.2.2 k hk⟩
theorem s_step {K : Int32 → Int32 → Int32 → TrV → Option (String ⊕ (Int32 × TrV))} (hT : txH T L C) {k q : Nat} (hk : k < 42) (hq : q ≤ L) {x2 : Int32} : f_X1_readText_58 K (nI q) x2 (nI k) (nI (kdN k)) T = (match rdN L C (GGN (kdN k)) (LLN (kdN k)) (DDN (kdN k)) 0 q with
    | .inl e => some (.inr (nI e, T))
    | .inr (w, q') => if k = 0 then K (nI q') (nI (6 + 6 * w)) (nI 1) (tu_tnm T (upd (tr_tnm T) 0 (nI w))) else K (nI q') x2 (nI (k + 1)) (tu_tnm T (upd (tr_tnm T) k (nI w)))) := by
  have ht := tabs (kdN k) kdN_lt
  have hL := hT.2.1
  unfold f_X1_readText_58
  rw [s_numE hT kdN_lt hq, bn_r]
  cases hx : rdN L C (GGN (kdN k)) (LLN (kdN k)) (DDN (kdN k)) 0 q with
  | inl e =>
    have he := rdN_e _ _ _ _ hx hq
    dsimp only
    rw [if_neg (nI_m9 (by omega))]
  | inr p =>
    obtain ⟨w, q'⟩ := p
    have hw := (rdN_q _ _ _ _ _ hx).1
    have hk9 : kdN k < 2147483648 := Nat.lt_trans kdN_lt (by omega)
    dsimp only
    rw [if_pos rfl, gb_in kdN_lt hk9, nI_cl hk9, ht.1, s_numA hT kdN_lt hq hx, bn_r, gb_in hk (by omega), nI_cl (by omega), nm_e2, gb_in kdN_lt hk9, nI_add, ← hw, nm_e2]
    by_cases e : k = 0
    · subst e
      rw [if_pos (show nI 0 = 0 from rfl)]
      have e1 : tr_tnm (tu_tnm T (upd (tr_tnm T) 0 (nI w))) 0 = nI w := by
        show upd (tr_tnm T) 0 (nI w) 0 = nI w
        simp [upd]
      rw [e1, L6, pk_mul, nI_add, nm_e2, nI_s1]
      first | done | rfl | (rw [if_pos rfl])
    · rw [if_neg (by rw [L0, nI_iff (by omega) (by omega)]; exact e), if_neg e, nI_s1]
theorem kd_arg {k : Nat} (hk : k < 42) (h6 : 6 ≤ k) : 6 + ((nI k - 6) - (nI k - 6) / 6 * 6) = nI (kdN k) := by
  rw [L6, pk_sub h6, nI_rm (by omega) (by omega) (by omega), nI_add]
  unfold kdN
  rw [if_neg (by omega)]
theorem s_27 {fu k m q : Nat} (hT : txH T L C) (hk : k < m) (hm : m ≤ 42) : f_X1_readText_27 (fu + 1) (nI q) (nI m) (nI k) T = f_X1_readText_58 (f_X1_readText_27 fu) (nI q) (nI m) (nI k) (nI (kdN k)) T := by
  rw [f_X1_readText_27, if_neg (by rw [nI_leF (by omega) (by omega)]; omega), if_neg (by rw [L42, nI_leF (by omega) (by omega)]; omega)]
  by_cases h6 : 6 ≤ k
  · rw [if_pos (by rw [L6, nI_leF (by omega) (by omega)]; exact h6), kd_arg (by omega) h6]
  · rw [if_neg (by rw [L6, nI_leF (by omega) (by omega)]; exact h6)]
    unfold kdN
    rw [if_pos (by omega)]
theorem s_seq {m : Nat} (hm : m ≤ 42) : ∀ (r k q fu : Nat) (T : TrV) (W : Nat → Nat), txH T L C → (∀ i, i < k → tr_tnm T i = nI (W i)) → 1 ≤ k → k + r = m → q ≤ L → r < fu →
    ∃ T', smT T T' ∧ match raN L C r k q W with
      | .inl e => f_X1_readText_27 fu (nI q) (nI m) (nI k) T = some (.inr (nI e, T'))
      | .inr (q', W') => f_X1_readText_27 fu (nI q) (nI m) (nI k) T = some (.inr (if q' = L then -9 else nI q', T')) ∧ ∀ i, i < m → tr_tnm T' i = nI (W' i)
  | r, k, q, 0, T, W, _, _, _, _, _, h => by omega
  | 0, k, q, fu + 1, T, W, hT, hW, h1, hk, hq, _ => by
    have hL := hT.2.1
    refine ⟨T, smT.refl, ?_⟩
    rw [raN]
    dsimp only
    rw [f_X1_readText_27, if_pos ((nI_leF (by omega) (by omega)).mpr (by omega)), hT.1]
    refine ⟨?_, fun i hi => hW i (by omega)⟩
    by_cases e : q = L
    · rw [if_pos (by rw [e]), if_pos e]
    · rw [if_neg (by rw [nI_iff (by omega) (by omega)]; exact e), if_neg e]
  | r + 1, k, q, fu + 1, T, W, hT, hW, h1, hk, hq, hf => by
    have ht := tabs (kdN k) kdN_lt
    rw [s_27 hT (by omega) hm, s_step hT (by omega) hq]
    cases hx : rdN L C (GGN (kdN k)) (LLN (kdN k)) (DDN (kdN k)) 0 q with
    | inl e =>
      rw [raN_i hx]
      exact ⟨T, smT.refl, rfl⟩
    | inr p =>
      obtain ⟨w, q'⟩ := p
      rw [raN_s hx]
      dsimp only
      rw [if_neg (by omega)]
      have hq' := (rdN_q _ _ _ _ _ hx).2 ht.2.2.2.2.1
      have sm1 : smT T (tu_tnm T (upd (tr_tnm T) k (nI w))) := ⟨rfl, rfl, rfl, rfl, rfl⟩
      obtain ⟨T', g1, g2⟩ := s_seq hm r (k + 1) q' fu (tu_tnm T (upd (tr_tnm T) k (nI w))) (upN W k w) (hT.sm sm1) (fun i hi => by
        show upd (tr_tnm T) k (nI w) i = nI (upN W k w i)
        unfold upd upN
        by_cases e : i = k
        · rw [if_pos e, if_pos e]
        · rw [if_neg e, if_neg e]; exact hW i (by omega)) (by omega) (by omega) hq' (by omega)
      exact ⟨T', sm1.trans g1, g2⟩
/-- the text: where it fails, or its numbers -/
def rtN (L : Nat) (C : Nat → Nat) : Nat ⊕ (Nat → Nat) :=
  if L = 0 then .inl 0 else if C 0 = 69 then (match raN L C 1 0 1 (fun _ => 0) with
    | .inl e => .inl e
    | .inr (q, W) => match raN L C (5 + 6 * W 0) 1 q W with
      | .inl e => .inl e
      | .inr (q', W') => if q' = L then .inr W' else .inl q') else .inl 0
def rtV (x : Nat ⊕ (Nat → Nat)) : Int32 := match x with
  | .inl e => nI e
  | .inr _ => -9
theorem n06 {v : Nat} (h : LLN (kdN 0) ≤ v ∧ v ≤ GGN (kdN 0)) : 2 ≤ v ∧ v ≤ 6 := h
theorem s_read (hT : txH T L C) : ∃ T', f_X1_readText T = some (.inr (rtV (rtN L C), T')) ∧ smT T T' ∧ ∀ W, rtN L C = .inr W → ∀ i, i < 6 + 6 * W 0 → tr_tnm T' i = nI (W i) := by
  have hL := hT.2.1
  unfold f_X1_readText rtN
  rw [hT.1]
  by_cases e0 : L = 0
  · rw [if_pos (by rw [e0]; rfl), if_pos e0]
    exact ⟨T, rfl, smT.refl, fun W h => by cases h⟩
  · rw [if_neg (by rw [L0, nI_iff (by omega) (by omega)]; exact e0), if_neg e0]
    obtain ⟨g1, g2⟩ := hT.2.2 0 (by omega)
    rw [g1]
    by_cases e1 : C 0 = 69
    · rw [if_pos (by rw [e1]; rfl), if_pos e1, L1, L6, L0, s_27 (k := 0) hT (by omega) (by omega), s_step hT (by omega) (by omega)]
      cases hx : rdN L C (GGN (kdN 0)) (LLN (kdN 0)) (DDN (kdN 0)) 0 1 with
      | inl e =>
        rw [raN_i hx]
        exact ⟨T, rfl, smT.refl, fun W h => by cases h⟩
      | inr p =>
        obtain ⟨w, q'⟩ := p
        have hq' := (rdN_q _ _ _ _ _ hx).2 (by decide)
        have hw := n06 (rdN_v 0 0 1 w q' hx)
        rw [raN_s hx, raN]
        dsimp only
        rw [if_pos rfl, upN_s]
        have sm1 : smT T (tu_tnm T (upd (tr_tnm T) 0 (nI w))) := ⟨rfl, rfl, rfl, rfl, rfl⟩
        obtain ⟨T', k1, k2⟩ := s_seq (m := 6 + 6 * w) (by omega) (5 + 6 * w) 1 q' 1999 (tu_tnm T (upd (tr_tnm T) 0 (nI w))) (upN (fun _ => 0) 0 w) (hT.sm sm1) (fun i hi => by
          show upd (tr_tnm T) 0 (nI w) i = nI (upN (fun _ => 0) 0 w i)
          unfold upd upN
          rw [if_pos (by omega), if_pos (by omega)]) (by omega) (by omega) hq' (by omega)
        cases hy : raN L C (5 + 6 * w) 1 q' (upN (fun _ => 0) 0 w) with
        | inl e =>
          rw [hy] at k2
          exact ⟨T', k2, sm1.trans k1, fun W h => by cases h⟩
        | inr p2 =>
          obtain ⟨q2, W2⟩ := p2
          rw [hy] at k2
          obtain ⟨k3, k4⟩ := k2
          have hW0 := (raN_q _ _ _ _ _ _ hy hq').2.1 0 (by omega)
          rw [upN_s] at hW0
          refine ⟨T', ?_, sm1.trans k1, fun W h => ?_⟩
          · rw [k3]
            dsimp only
            by_cases e : q2 = L
            · rw [if_pos e, if_pos e]; rfl
            · rw [if_neg e, if_neg e]; rfl
          · dsimp only at h
            by_cases e : q2 = L
            · rw [if_pos e] at h
              cases h
              rw [hW0]
              exact k4
            · rw [if_neg e] at h
              cases h
    · rw [if_neg (by rw [show (69 : Int32) = nI 69 from rfl, nI_iff (by omega) (by omega)]; exact e1), if_neg e1]
      exact ⟨T, rfl, smT.refl, fun W h => by cases h⟩
end T2
