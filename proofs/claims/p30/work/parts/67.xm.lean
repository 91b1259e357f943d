/-! actions, the text, save slots -/
def push (r : Nat → Nat) (ds : List (Nat → Nat)) : List (Nat → Nat) := (r :: ds).take 14
/-- the state becomes R', the old one is remembered -/
def sR (X : XV) (R' : Nat → Nat) : XV := (x_n X, R', (x_L X, x_C X), push (x_R X) (x_d X), x_K X)
def u_tick (X : XV) (p : Int32) : String ⊕ (Int32 × XV) := if p < 1 ∨ 99 < p then .inl xR else .inr (grV (x_n X) (x_R X) p.toNatClampNeg 1, sR X (tkM (x_n X) p.toNatClampNeg (x_R X)))
def u_set (X : XV) (p q : Int32) : String ⊕ (Int32 × XV) := if p < 0 ∨ 4 < p then .inl xR else if q < tL (1 + p.toNatClampNeg) ∨ tG (1 + p.toNatClampNeg) < q then .inl xR else .inr (nI (x_R X (48 + p.toNatClampNeg)), sR X (upN (x_R X) (48 + p.toNatClampNeg) q.toNatClampNeg))
def u_setValve (X : XV) (p q : Int32) : String ⊕ (Int32 × XV) := if p < 0 ∨ nI (x_n X) ≤ p then .inl xB else if q < 0 ∨ 999 < q then .inl xR else .inr (nI (x_R X (18 + p.toNatClampNeg)), sR X (upN (x_R X) (18 + p.toNatClampNeg) q.toNatClampNeg))
def u_setBleed (X : XV) (p q : Int32) : String ⊕ (Int32 × XV) := if p < 0 ∨ nI (x_n X) ≤ p then .inl xB else if q < 0 ∨ 90 < q then .inl xR else .inr (nI (x_R X (24 + p.toNatClampNeg)), sR X (upN (x_R X) (24 + p.toNatClampNeg) q.toNatClampNeg))
def u_wash (X : XV) (p q : Int32) : String ⊕ (Int32 × XV) := if p < 0 ∨ nI (x_n X) ≤ p then .inl xB else if q < 1 ∨ 20 < q then .inl xR else if x_R X (42 + p.toNatClampNeg) = 0 then .inr (nI (wcN (upN (x_R X) (42 + p.toNatClampNeg) q.toNatClampNeg) (x_n X)), sR X (upN (x_R X) (42 + p.toNatClampNeg) q.toNatClampNeg)) else .inl xS
def u_endWash (X : XV) (p : Int32) : String ⊕ (Int32 × XV) := if p < 0 ∨ nI (x_n X) ≤ p then .inl xB else if x_R X (42 + p.toNatClampNeg) = 0 then .inl xS else .inr (nI (x_R X (42 + p.toNatClampNeg)), sR X (upN (x_R X) (42 + p.toNatClampNeg) 0))
def u_undo (X : XV) : String ⊕ (Int32 × XV) := match x_d X with
  | [] => .inl xS
  | r :: ds => .inr (nI ds.length, (x_n X, r, (x_L X, x_C X), ds, x_K X))
def u_save (X : XV) (p : Int32) : String ⊕ (Int32 × XV) := if p < 0 ∨ 2 ≤ p then .inl xB else .inr (nI (x_R X 53), (x_n X, x_R X, (x_L X, x_C X), x_d X, fun s => if s = p.toNatClampNeg then some (x_R X) else x_K X s))
def u_restore (X : XV) (p : Int32) : String ⊕ (Int32 × XV) := if p < 0 ∨ 2 ≤ p then .inl xB else match x_K X p.toNatClampNeg with
  | none => .inl xS
  | some r => .inr (nI (r 53), (x_n X, r, (x_L X, x_C X), [], x_K X))
def u_append (X : XV) (p : Int32) : String ⊕ (Int32 × XV) := if p < 0 ∨ 255 < p then .inl xR else if x_L X < 120 then .inr (nI (x_L X + 1), (x_n X, x_R X, (x_L X + 1, upN (x_C X) (x_L X) p.toNatClampNeg), x_d X, x_K X)) else .inl xS
def u_clear (X : XV) : Int32 × XV := (nI (x_L X), (x_n X, x_R X, (0, x_C X), x_d X, x_K X))
def u_errPos (X : XV) : Int32 := rtV (rtN (x_L X) (x_C X))
def u_load (X : XV) : String ⊕ (Int32 × XV) := match rtN (x_L X) (x_C X) with
  | .inl _ => .inl xS
  | .inr W => .inr (nI (smN (rowF W (6 + 6 * W 0)) 6 (W 0)) + nI (smN (rowF W (6 + 6 * W 0)) 12 (W 0)), (W 0, rowF W (6 + 6 * W 0), (x_L X, x_C X), [], fun _ => none))
/-- what an action does: the class's call and the plain one -/
def aX (u : String ⊕ (Int32 × XV)) (y : Option (String ⊕ (Int32 × TrV × StV × PoV))) : Prop :=
  (∃ E, u = .inl E ∧ y = some (.inl E)) ∨ ∃ v X' T' N' Q', u = .inr (v, X') ∧ y = some (.inr (v, T', N', Q')) ∧ IX X' T' N' Q'
theorem aX_l {u : String ⊕ (Int32 × XV)} {y : Option (String ⊕ (Int32 × TrV × StV × PoV))} {E : String} (h1 : u = .inl E) (h2 : y = some (.inl E)) : aX u y := Or.inl ⟨E, h1, h2⟩
theorem aX_r {u : String ⊕ (Int32 × XV)} {y : Option (String ⊕ (Int32 × TrV × StV × PoV))} {v : Int32} {X' : XV} {T' : TrV} {N' : StV} {Q' : PoV} (h1 : u = .inr (v, X')) (h2 : y = some (.inr (v, T', N', Q'))) (h3 : IX X' T' N' Q') : aX u y := Or.inr ⟨v, X', T', N', Q', h1, h2, h3⟩
section AX
variable {T : TrV} {N : StV} {Q : PoV} {X : XV} {c : Nat}
theorem x_rem {n L : Nat} {R C : Nat → Nat} {ds : List (Nat → Nat)} {K : Nat → Option (Nat → Nat)} (hA : AgS n 0 N R) (hn : n ≤ 6) (h14 : ds.length ≤ 14) (ht : txX L C T) (hr : rgX n ds T Q) (hs : slX n K T Q) :
    ∃ T' Q', f_X1_remember T N Q = some (.inr (T', Q')) ∧ txX L C T' ∧ rgX n (push R ds) T' Q' ∧ slX n K T' Q' := by
  obtain ⟨h1, w, hw, h2, h3⟩ := hr
  obtain ⟨T', S', k1, k2, k3, k4, k5, k6, k7⟩ := s_rem (Q := Q) hA hn h1 h14 h2 hw
  refine ⟨T', _, k1, ⟨by rw [k5]; exact ht.1, by rw [k6]; exact ht.2⟩, ⟨?_, (w + 1) % 14, by omega, k3, fun j r hj => ?_⟩, fun s hs2 => ?_⟩
  · rw [k4]
    unfold push
    rw [List.length_take, List.length_cons]
    congr 1
    omega
  · unfold push at hj
    have hj14 : j < 14 := by
      have := (List.getElem?_eq_some_iff.mp hj).1
      rw [List.length_take] at this
      omega
    rw [List.getElem?_take_of_lt hj14] at hj
    cases j with
    | zero =>
      rw [List.getElem?_cons_zero] at hj
      cases hj
      exact ⟨S', by rw [show 3 + ((w + 1) % 14 + 14 - 0) % 14 = 3 + (w + 1) % 14 by omega]; exact uq_s, k2⟩
    | succ j =>
      rw [List.getElem?_cons_succ] at hj
      obtain ⟨S, e1, e2⟩ := h3 j r hj
      refine ⟨S, ?_, e2⟩
      rw [show 3 + ((w + 1) % 14 + 14 - (j + 1)) % 14 = 3 + (w + 14 - j) % 14 by omega, uq_o (by omega)]
      exact e1
  · rcases hs s hs2 with ⟨y1, y2⟩ | ⟨r, y1, y2, S, y3, y4⟩
    · exact Or.inl ⟨y1, by rw [k7]; exact y2⟩
    · exact Or.inr ⟨r, y1, by rw [k7]; exact y2, S, by rw [uq_o (by omega)]; exact y3, y4⟩
theorem m_tick (hX : okX c X) (hc : c ≤ 600) (hI : IX X T N Q) (p : Int32) : aX (u_tick X p) (f_X1_tick T N Q p) := by
  obtain ⟨⟨hg, h53, -⟩, -, -, h14, -⟩ := hX
  obtain ⟨hA, ht, hr, hs⟩ := hI
  unfold f_X1_tick u_tick
  rcases ckX (p := p) (lo := 1) (hi := 99) with ⟨e1, d⟩ | ⟨e1, d⟩
  · exact aX_l (if_pos d) (by rw [e1, bx_e])
  · obtain ⟨m, hm, rfl, -⟩ := inR (H := 99) (by decide) (by decide) d
    obtain ⟨T', Q', k1, k2, k3, k4⟩ := x_rem hA hg.1.2 h14 ht hr hs
    obtain ⟨N', c2, a2⟩ := s_pass (m := m) hA hg (by omega) (by omega)
    refine aX_r (if_neg d) (T' := T') (N' := N') (Q' := Q') ?_ ?_
    · rw [e1, bx_r, k1, bn_r]
      dsimp only
      rw [c2, bd_some, nI_cl (by omega)]
      rfl
    · rw [nI_cl (by omega)]
      exact ⟨a2, k2, k3, k4⟩
theorem m_set (hX : okX c X) (hI : IX X T N Q) (p q : Int32) : aX (u_set X p q) (f_X1_set T N Q p q) := by
  obtain ⟨⟨hg, h53, -⟩, -, -, h14, -⟩ := hX
  obtain ⟨hA, ht, hr, hs⟩ := hI
  unfold f_X1_set u_set
  rcases ckX (p := p) (lo := 0) (hi := 4) with ⟨e1, d⟩ | ⟨e1, d⟩
  · exact aX_l (if_pos d) (by rw [e1, bx_e])
  · rw [if_neg d]
    obtain ⟨j, hj, rfl, -⟩ := inR (H := 4) (by decide) (by decide) d
    rw [e1, bx_r, show (1 : Int32) + nI j = nI (1 + j) by rw [L1, nI_add], gb_in (by omega) (by omega), gb_in (by omega) (by omega), nI_cl (by omega), nI_cl (by omega)]
    rcases ckX (p := q) (lo := tL (1 + j)) (hi := tG (1 + j)) with ⟨e2, d2⟩ | ⟨e2, d2⟩
    · exact aX_l (if_pos d2) (by rw [e2, bx_e])
    · rw [if_neg d2]
      have hv : ∃ v : Nat, v < 2147483648 ∧ q = nI v := by
        have hlo : (0 : Int32) ≤ tL (1 + j) := by
          rcases (show j = 0 ∨ j = 1 ∨ j = 2 ∨ j = 3 ∨ j = 4 by omega) with rfl | rfl | rfl | rfl | rfl <;> decide
        have hq : ¬ q < 0 := Int32.not_lt.mpr (Int32.le_trans hlo (Int32.not_lt.mp fun h => d2 (Or.inl h)))
        obtain ⟨v, h1, h2⟩ := nI_of hq
        exact ⟨v, h1, h2⟩
      obtain ⟨v, hv, rfl⟩ := hv
      obtain ⟨T', Q', k1, k2, k3, k4⟩ := x_rem hA hg.1.2 h14 ht hr hs
      refine aX_r rfl (T' := T') (N' := su_set N (upd (s_set N) j (nI v))) (Q' := Q') ?_ ?_
      · rw [e2, bx_r, k1, bn_r]
        dsimp only
        rw [gb_in (by omega) (by omega), nm_e2, gb_in (by omega) (by omega), nm_e2, hA.2.2.1 j (by omega)]
      · rw [nI_cl hv]
        exact ⟨hA.set hg.1.2 (by omega) v, k2, k3, k4⟩
theorem m_setValve (hX : okX c X) (hI : IX X T N Q) (p q : Int32) : aX (u_setValve X p q) (f_X1_setValve T N Q p q) := by
  obtain ⟨⟨hg, h53, -⟩, -, -, h14, -⟩ := hX
  obtain ⟨hA, ht, hr, hs⟩ := hI
  unfold f_X1_setValve u_setValve
  rcases ceX (T := T) (p := p) hA.1 hg.1.2 with ⟨e1, d⟩ | ⟨i, hi, rfl, e1, d⟩
  · exact aX_l (if_pos d) (by rw [e1, bx_e])
  · rw [if_neg d, e1, bx_r]
    have h6 := hg.1.2
    rcases ckX (p := q) (lo := 0) (hi := 999) with ⟨e2, d2⟩ | ⟨e2, d2⟩
    · exact aX_l (if_pos d2) (by rw [e2, bx_e])
    · rw [if_neg d2]
      obtain ⟨v, hv, rfl, -⟩ := inR (H := 999) (by decide) (by decide) d2
      obtain ⟨T', Q', k1, k2, k3, k4⟩ := x_rem hA hg.1.2 h14 ht hr hs
      refine aX_r rfl (T' := T') (N' := su_val N (upd (s_val N) i (nI v))) (Q' := Q') ?_ ?_
      · rw [e2, bx_r, k1, bn_r]
        dsimp only
        rw [gb_in (by omega) (by omega), nI_cl (by omega), nm_e2, gb_in (by omega) (by omega), nm_e2, (hA.2.2.2.2.2 i hi).2.2.2.1]
      · rw [nI_cl (by omega), nI_cl (by omega)]
        exact ⟨hA.val hg.1.2 hi v, k2, k3, k4⟩
theorem m_setBleed (hX : okX c X) (hI : IX X T N Q) (p q : Int32) : aX (u_setBleed X p q) (f_X1_setBleed T N Q p q) := by
  obtain ⟨⟨hg, h53, -⟩, -, -, h14, -⟩ := hX
  obtain ⟨hA, ht, hr, hs⟩ := hI
  unfold f_X1_setBleed u_setBleed
  rcases ceX (T := T) (p := p) hA.1 hg.1.2 with ⟨e1, d⟩ | ⟨i, hi, rfl, e1, d⟩
  · exact aX_l (if_pos d) (by rw [e1, bx_e])
  · rw [if_neg d, e1, bx_r]
    have h6 := hg.1.2
    rcases ckX (p := q) (lo := 0) (hi := 90) with ⟨e2, d2⟩ | ⟨e2, d2⟩
    · exact aX_l (if_pos d2) (by rw [e2, bx_e])
    · rw [if_neg d2]
      obtain ⟨v, hv, rfl, -⟩ := inR (H := 90) (by decide) (by decide) d2
      obtain ⟨T', Q', k1, k2, k3, k4⟩ := x_rem hA hg.1.2 h14 ht hr hs
      refine aX_r rfl (T' := T') (N' := su_ble N (upd (s_ble N) i (nI v))) (Q' := Q') ?_ ?_
      · rw [e2, bx_r, k1, bn_r]
        dsimp only
        rw [gb_in (by omega) (by omega), nI_cl (by omega), nm_e2, gb_in (by omega) (by omega), nm_e2, (hA.2.2.2.2.2 i hi).2.2.2.2.1]
      · rw [nI_cl (by omega), nI_cl (by omega)]
        exact ⟨hA.ble hg.1.2 hi v, k2, k3, k4⟩
theorem m_wash (hX : okX c X) (hI : IX X T N Q) (p q : Int32) : aX (u_wash X p q) (f_X1_wash T N Q p q) := by
  obtain ⟨⟨hg, h53, -⟩, -, -, h14, -⟩ := hX
  obtain ⟨hA, ht, hr, hs⟩ := hI
  unfold f_X1_wash u_wash
  rcases ceX (T := T) (p := p) hA.1 hg.1.2 with ⟨e1, d⟩ | ⟨i, hi, rfl, e1, d⟩
  · exact aX_l (if_pos d) (by rw [e1, bx_e])
  · rw [if_neg d, e1, bx_r]
    have h6 := hg.1.2
    rcases ckX (p := q) (lo := 1) (hi := 20) with ⟨e2, d2⟩ | ⟨e2, d2⟩
    · exact aX_l (if_pos d2) (by rw [e2, bx_e])
    · rw [if_neg d2]
      obtain ⟨v, hv, rfl, -⟩ := inR (H := 20) (by decide) (by decide) d2
      have hl : x_R X (42 + i) ≤ 20 := (hg.2.1 i hi).2.2.2.2.2.2
      have hlf : s_lef N i = nI (x_R X (42 + i)) := (hA.2.2.2.2.2 i hi).2.2.2.2.2.2.2
      have hg' := hg.left hi hv
      have hA' := hA.lef h6 hi v
      have hl2 : ∀ j, j < x_n X → upN (x_R X) (42 + i) v (42 + j) < 2147483648 := fun j hj => by have := (hg'.2.1 j hj).2.2.2.2.2.2; omega
      rw [e2, bx_r, nI_cl (by omega), nI_cl (by omega)]
      unfold f_X1_checkWorks
      rw [gb_in (by omega) (by omega), nI_cl (by omega), hlf]
      by_cases e5 : x_R X (42 + i) = 0
      · rw [if_pos e5, e5, if_pos (by decide), bx_r]
        obtain ⟨T', Q', k1, k2, k3, k4⟩ := x_rem hA hg.1.2 h14 ht hr hs
        refine aX_r rfl (T' := T') (N' := su_lef N (upd (s_lef N) i (nI v))) (Q' := Q') ?_ ?_
        · rw [k1, bn_r]
          dsimp only
          rw [gb_in (by omega) (by omega), nm_e2, s_washed hA' h6 hl2, bd_some]
        · exact ⟨hA', k2, k3, k4⟩
      · rw [if_neg e5]
        exact aX_l rfl (by rw [if_neg (by rw [L0, nI_leF (by omega) (by omega)]; omega), bx_e])
theorem m_endWash (hX : okX c X) (hI : IX X T N Q) (p : Int32) : aX (u_endWash X p) (f_X1_endWash T N Q p) := by
  obtain ⟨⟨hg, h53, -⟩, -, -, h14, -⟩ := hX
  obtain ⟨hA, ht, hr, hs⟩ := hI
  unfold f_X1_endWash u_endWash
  rcases ceX (T := T) (p := p) hA.1 hg.1.2 with ⟨e1, d⟩ | ⟨i, hi, rfl, e1, d⟩
  · exact aX_l (if_pos d) (by rw [e1, bx_e])
  · rw [if_neg d, e1, bx_r]
    have h6 := hg.1.2
    have hl : x_R X (42 + i) ≤ 20 := (hg.2.1 i hi).2.2.2.2.2.2
    have hlf : s_lef N i = nI (x_R X (42 + i)) := (hA.2.2.2.2.2 i hi).2.2.2.2.2.2.2
    rw [gb_in (by omega) (by omega), nI_cl (by omega), hlf, nm_e2]
    by_cases e5 : x_R X (42 + i) = 0
    · rw [if_pos e5, e5]
      exact aX_l rfl (by rw [if_pos (by decide)])
    · rw [if_neg e5, if_neg (by rw [L0, nI_iff (by omega) (by omega)]; exact e5)]
      obtain ⟨T', Q', k1, k2, k3, k4⟩ := x_rem hA hg.1.2 h14 ht hr hs
      refine aX_r rfl (T' := T') (N' := su_lef N (upd (s_lef N) i (nI 0))) (Q' := Q') ?_ ?_
      · rw [k1, bn_r]
        dsimp only
        rw [gb_in (by omega) (by omega), nm_e2]
        rfl
      · exact ⟨hA.lef h6 hi 0, k2, k3, k4⟩
theorem m_undo (hX : okX c X) (hI : IX X T N Q) : aX (u_undo X) (f_X1_undo T N Q) := by
  obtain ⟨⟨hg, h53, -⟩, -, -, h14, -⟩ := hX
  obtain ⟨hA, ht, hr, hs⟩ := hI
  have h6 := hg.1.2
  obtain ⟨h1, w, hw, h2, h3⟩ := hr
  unfold f_X1_undo u_undo
  cases hd : x_d X with
  | nil =>
    rw [hd] at h1
    exact aX_l rfl (by rw [h1, if_pos (by decide)])
  | cons r ds =>
    rw [hd] at h1 h3 h14
    rw [List.length_cons] at h1 h14
    obtain ⟨S, k3, k4⟩ := h3 0 r rfl
    rw [show 3 + (w + 14 - 0) % 14 = 3 + w by omega] at k3
    have hsq : sq Q (3 + w) = S := by unfold sq; rw [k3]; rfl
    have hQ : ∀ i, uq Q (3 + w) S i = Q i := fun i => by
      by_cases hi : i = 3 + w
      · rw [hi, uq_s, k3]
      · rw [uq_o hi]
    obtain ⟨N', c2, a2⟩ := s_copy (S := N) k4 h6
    have inv : ∀ T', tr_tln T' = tr_tln T → tr_txt T' = tr_txt T → tr_fil T' = tr_fil T → tr_rcn T' = nI ds.length → tr_nws T' = nI ((w + 13) % 14) → IX (x_n X, r, (x_L X, x_C X), ds, x_K X) T' N' (uq Q (3 + w) S) := by
      intro T' t1 t2 t3 t4 t5
      refine ⟨a2, ⟨t1.trans ht.1, by rw [t2]; exact ht.2⟩, ⟨t4, (w + 13) % 14, by omega, t5, fun j r9 hj => ?_⟩, fun s hs2 => ?_⟩
      · have hj2 : j < ds.length := (List.getElem?_eq_some_iff.mp hj).1
        obtain ⟨S9, z3, z4⟩ := h3 (j + 1) r9 (by rw [List.getElem?_cons_succ]; exact hj)
        refine ⟨S9, ?_, z4⟩
        rw [hQ, ← z3]
        congr 1
        omega
      · rw [t3]
        rcases hs s hs2 with ⟨y1, y2⟩ | ⟨r9, y1, y2, S9, y3, y4⟩
        · exact Or.inl ⟨y1, y2⟩
        · exact Or.inr ⟨r9, y1, y2, S9, by rw [hQ]; exact y3, y4⟩
    rw [h1, if_neg (by rw [L0, nI_iff (by omega) (by omega)]; omega), h2, gb_in (by omega) (by omega), nI_cl (by omega), hsq, c2, bd_some]
    by_cases e2 : w = 0
    · rw [if_pos (by rw [L0, nI_leF (by omega) (by omega)]; omega), nm_e2]
      have t4 : tr_rcn (tu_nws T 13) = nI (ds.length + 1) := h1
      rw [t4, L1, pk_sub (by omega), nm_e2, nm_e2, Nat.add_sub_cancel]
      exact aX_r rfl rfl (inv (tu_rcn (tu_nws T 13) (nI ds.length)) rfl rfl rfl rfl (by subst e2; rfl))
    · rw [if_neg (by rw [L0, nI_leF (by omega) (by omega)]; omega), L1, pk_sub (by omega), nm_e2, nm_e2]
      have t4 : tr_rcn (tu_nws T (nI (w - 1))) = nI (ds.length + 1) := h1
      rw [t4, pk_sub (by omega), nm_e2, nm_e2, Nat.add_sub_cancel]
      exact aX_r rfl rfl (inv (tu_rcn (tu_nws T (nI (w - 1))) (nI ds.length)) rfl rfl rfl rfl (by show nI (w - 1) = _; congr 1; omega))
theorem bN0 : vp_nar .boolean 0 = 0 := by decide
theorem bN1 : vp_nar .boolean 1 = 1 := by decide
theorem m_save (hX : okX c X) (hI : IX X T N Q) (p : Int32) : (∃ E, u_save X p = .inl E ∧ f_X1_save T N Q p = some (.inl E)) ∨ ∃ v X' T' Q', u_save X p = .inr (v, X') ∧ f_X1_save T N Q p = some (.inr (v, T', Q')) ∧ IX X' T' N Q' := by
  obtain ⟨⟨hg, h53, -⟩, -, -, h14, -⟩ := hX
  obtain ⟨hA, ht, hr, hs⟩ := hI
  have h6 := hg.1.2
  unfold f_X1_save u_save
  rcases csX (p := p) with ⟨e1, d⟩ | ⟨s, hs2, rfl, e1, d⟩
  · exact Or.inl ⟨xB, if_pos d, by rw [e1, bx_e]⟩
  · obtain ⟨S', c2, a2⟩ := s_copy (S := sq Q (17 + s)) hA h6
    refine Or.inr ⟨_, _, tu_fil T (upd (tr_fil T) s 1), uq Q (17 + s) S', if_neg d, ?_, ?_⟩
    · rw [e1, bx_r, gb_in (by omega) (by omega), nI_cl (by omega), c2, bd_some, gb_in (by omega) (by omega), bN1, nm_e2, hA.2.1]
    · obtain ⟨h1, w, hw, h2, h3⟩ := hr
      rw [nI_cl (by omega)]
      refine ⟨hA, ht, ⟨h1, w, hw, h2, fun j r hj => ?_⟩, fun z hz => ?_⟩
      · obtain ⟨S9, z3, z4⟩ := h3 j r hj
        exact ⟨S9, by rw [uq_o (by omega)]; exact z3, z4⟩
      · show ((if z = s then some (x_R X) else x_K X z) = none ∧ (upd (tr_fil T) s 1) z = 0) ∨ ∃ r, (if z = s then some (x_R X) else x_K X z) = some r ∧ (upd (tr_fil T) s 1) z = 1 ∧ _
        unfold upd
        by_cases e : z = s
        · rw [if_pos e, if_pos e]
          exact Or.inr ⟨x_R X, rfl, rfl, S', by rw [e, uq_s], a2⟩
        · rw [if_neg e, if_neg e]
          rcases hs z hz with ⟨y1, y2⟩ | ⟨r9, y1, y2, S9, y3, y4⟩
          · exact Or.inl ⟨y1, y2⟩
          · exact Or.inr ⟨r9, y1, y2, S9, by rw [uq_o (by omega)]; exact y3, y4⟩
theorem m_restore (hX : okX c X) (hI : IX X T N Q) (p : Int32) : aX (u_restore X p) (f_X1_restore T N Q p) := by
  obtain ⟨⟨hg, h53, -⟩, -, -, h14, -⟩ := hX
  obtain ⟨hA, ht, hr, hs⟩ := hI
  have h6 := hg.1.2
  unfold f_X1_restore u_restore
  rcases csX (p := p) with ⟨e1, d⟩ | ⟨s, hs2, rfl, e1, d⟩
  · exact aX_l (if_pos d) (by rw [e1, bx_e])
  · rw [if_neg d, e1, bx_r, gb_in (by omega) (by omega), nI_cl (by omega)]
    rcases hs s hs2 with ⟨y1, y2⟩ | ⟨r9, y1, y2, S9, y3, y4⟩
    · rw [y1, y2, if_pos rfl]
      exact aX_l rfl rfl
    · rw [y1, y2, if_neg (by decide), gb_in (by omega) (by omega)]
      have hsq : sq Q (17 + s) = S9 := by unfold sq; rw [y3]; rfl
      obtain ⟨N', c2, a2⟩ := s_copy (S := N) y4 h6
      have hQ : ∀ i, uq Q (17 + s) S9 i = Q i := fun i => by
        by_cases hi : i = 17 + s
        · rw [hi, uq_s, y3]
        · rw [uq_o hi]
      obtain ⟨h1, w, hw, h2, h3⟩ := hr
      refine aX_r rfl (T' := tu_rcn T 0) (N' := N') (Q' := uq Q (17 + s) S9) ?_ ?_
      · rw [hsq, c2, bd_some, nm_e2, a2.2.1]
      · refine ⟨a2, ht, ⟨rfl, w, hw, h2, fun j r hj => by cases hj⟩, fun z hz => ?_⟩
        rcases hs z hz with ⟨y1, y2⟩ | ⟨r8, y1, y2, S8, y3, y4⟩
        · exact Or.inl ⟨y1, y2⟩
        · exact Or.inr ⟨r8, y1, y2, S8, by rw [hQ]; exact y3, y4⟩
theorem m_append (hX : okX c X) (hI : IX X T N Q) (p : Int32) : (∃ E, u_append X p = .inl E ∧ f_X1_append T p = some (.inl E)) ∨ ∃ v X' T', u_append X p = .inr (v, X') ∧ f_X1_append T p = some (.inr (v, T')) ∧ IX X' T' N Q := by
  obtain ⟨-, hL, hC, -⟩ := hX
  obtain ⟨hA, ht, hr, hs⟩ := hI
  have c120 : (120 : Int32) = nI 120 := rfl
  unfold f_X1_append u_append
  rcases ckX (p := p) (lo := 0) (hi := 255) with ⟨e1, d⟩ | ⟨e1, d⟩
  · exact Or.inl ⟨xR, if_pos d, by rw [e1, bx_e]⟩
  · rw [if_neg d, e1, bx_r]
    obtain ⟨v, hv, rfl, -⟩ := inR (H := 255) (by decide) (by decide) d
    rw [ht.1, c120]
    by_cases z : x_L X < 120
    · rw [if_pos z, if_pos (by rw [nI_ltF (by omega) (by omega)]; exact z), gb_in (by omega) (by omega), nI_cl (by omega), nI_cl (by omega), nar_c v (by omega), nm_e2]
      have e3 : tr_tln (tu_txt T (upd (tr_txt T) (x_L X) (nI v))) = nI (x_L X) := ht.1
      rw [e3, nI_s1, nm_e2, nm_e2]
      refine Or.inr ⟨_, _, tu_tln (tu_txt T (upd (tr_txt T) (x_L X) (nI v))) (nI (x_L X + 1)), rfl, rfl, hA, ⟨rfl, fun k hk => ?_⟩, hr, hs⟩
      show upd (tr_txt T) (x_L X) (nI v) k = nI (upN (x_C X) (x_L X) v k)
      unfold upd upN
      by_cases y : k = x_L X
      · rw [if_pos y, if_pos y]
      · rw [if_neg y, if_neg y]
        exact ht.2 k (by have hk2 : k < x_L X + 1 := hk; omega)
    · rw [if_neg z]
      exact Or.inl ⟨xS, rfl, by rw [if_neg (by rw [nI_ltF (by omega) (by omega)]; exact z)]⟩
theorem m_clear (hI : IX X T N Q) : ∃ T', f_X1_clearText T = some (.inr ((u_clear X).1, T')) ∧ IX (u_clear X).2 T' N Q := by
  obtain ⟨hA, ht, hr, hs⟩ := hI
  refine ⟨tu_tln T 0, ?_, hA, ⟨rfl, fun k hk => absurd hk (Nat.not_lt_zero _)⟩, hr, hs⟩
  unfold f_X1_clearText
  rw [ht.1, nm_e2, nm_e2]
  rfl
theorem ix_sm {T' : TrV} (hI : IX X T N Q) (g : smT T T') : IX X T' N Q := by
  obtain ⟨hA, ht, ⟨h1, w, hw, h2, h3⟩, hs⟩ := hI
  obtain ⟨g1, g2, g3, g4, g5⟩ := g
  refine ⟨hA, ⟨g1.trans ht.1, by rw [g2]; exact ht.2⟩, ⟨g4.trans h1, w, hw, g3.trans h2, h3⟩, fun s hs2 => ?_⟩
  rw [g5]
  exact hs s hs2
theorem tx_H (hX : okX c X) (hI : IX X T N Q) : txH T (x_L X) (x_C X) := ⟨hI.2.1.1, hX.2.1, fun k hk => ⟨hI.2.1.2 k hk, hX.2.2.1 k hk⟩⟩
theorem m_errPos (hX : okX c X) (hI : IX X T N Q) : ∃ T', f_X1_errorPosition T = some (.inr (u_errPos X, T')) ∧ IX X T' N Q := by
  obtain ⟨T', g1, g2, -⟩ := s_read (tx_H hX hI)
  refine ⟨T', ?_, ix_sm hI g2⟩
  unfold f_X1_errorPosition
  rw [g1, bn_r]
  rfl
theorem rt_e {L e : Nat} {C : Nat → Nat} (hL : L ≤ 120) (hx : rtN L C = .inl e) : e ≤ 120 := by
  unfold rtN at hx
  split at hx
  · cases hx; omega
  · split at hx
    · cases hy : raN L C 1 0 1 (fun _ => 0) with
      | inl e1 => rw [hy] at hx; cases hx; exact Nat.le_trans (raN_e _ _ _ _ _ hy (by omega)) hL
      | inr p =>
        obtain ⟨q1, W1⟩ := p
        rw [hy] at hx
        dsimp only at hx
        have hq1 := (raN_q _ _ _ _ _ _ hy (by omega)).1
        cases hz : raN L C (5 + 6 * W1 0) 1 q1 W1 with
        | inl e1 => rw [hz] at hx; cases hx; exact Nat.le_trans (raN_e _ _ _ _ _ hz hq1) hL
        | inr p2 =>
          obtain ⟨q2, W2⟩ := p2
          rw [hz] at hx
          dsimp only at hx
          have hq2 := (raN_q _ _ _ _ _ _ hz hq1).1
          split at hx
          · cases hx
          · cases hx; omega
    · cases hx; omega
theorem rt_2 {L : Nat} {C W : Nat → Nat} (hx : rtN L C = .inr W) : 2 ≤ W 0 ∧ W 0 ≤ 6 := n06 (rt_bd hx 0 (by omega))
theorem m_load (hX : okX c X) (hI : IX X T N Q) : (∃ T', u_load X = .inl xS ∧ f_X1_load T N = some (.inl (xS, T')) ∧ IX X T' N Q) ∨ ∃ v X' T' N', u_load X = .inr (v, X') ∧ f_X1_load T N = some (.inr (v, T', N')) ∧ IX X' T' N' Q := by
  obtain ⟨T', g1, g2, g3⟩ := s_read (tx_H hX hI)
  unfold f_X1_load u_load
  rw [g1, bn_r]
  dsimp only
  cases hx : rtN (x_L X) (x_C X) with
  | inl e =>
    left
    have he := rt_e hX.2.1 hx
    have e9 : ¬ rtV (.inl e) = -9 := nI_m9 (by omega)
    rw [if_neg e9]
    exact ⟨T', rfl, rfl, ix_sm hI g2⟩
  | inr W =>
    right
    obtain ⟨w2, w6⟩ := rt_2 hx
    have g4 := g3 W hx
    obtain ⟨N', n1, n2⟩ := s_take (S := N) w2 w6 g4
    have e9 : rtV (.inr W : Nat ⊕ (Nat → Nat)) = -9 := rfl
    obtain ⟨hA, ht, ⟨h1, w, hw, h2, h3⟩, hs⟩ := ix_sm hI g2
    obtain ⟨T2, eT2⟩ : ∃ y, y = tu_fil (tu_fil (tu_rcn T' 0) (upd (tr_fil (tu_rcn T' 0)) 0 0)) (upd (tr_fil (tu_fil (tu_rcn T' 0) (upd (tr_fil (tu_rcn T' 0)) 0 0))) 1 0) := ⟨_, rfl⟩
    have f1 : tr_tln T2 = tr_tln T' := by rw [eT2]; rfl
    have f2 : tr_txt T2 = tr_txt T' := by rw [eT2]; rfl
    have f3 : tr_nws T2 = tr_nws T' := by rw [eT2]; rfl
    have f4 : tr_rcn T2 = 0 := by rw [eT2]; rfl
    have f5 : tr_fil T2 = upd (upd (tr_fil T') 0 0) 1 0 := by rw [eT2]; rfl
    refine ⟨_, _, T2, N', rfl, ?_, n2, ⟨f1.trans ht.1, by rw [f2]; exact ht.2⟩, ⟨f4, w, hw, f3.trans h2, fun j r hj => by cases hj⟩, fun s hs2 => Or.inl ⟨rfl, ?_⟩⟩
    · rw [if_pos e9, n1, bd_some, nm_e2]
      have l0 : f_X1_load_37 2000 0 (tu_rcn T' 0) N' = f_X1_load_37 1999 1 (tu_fil (tu_rcn T' 0) (upd (tr_fil (tu_rcn T' 0)) 0 0)) N' := by
        rw [show 2000 = 1999 + 1 from rfl, f_X1_load_37, if_neg (by decide), gb_t (by decide), bN0, nm_e2]
        rfl
      have l1 : f_X1_load_37 1999 1 (tu_fil (tu_rcn T' 0) (upd (tr_fil (tu_rcn T' 0)) 0 0)) N' = f_X1_load_37 1998 2 T2 N' := by
        rw [show 1999 = 1998 + 1 from rfl, f_X1_load_37, if_neg (by decide), gb_t (by decide), bN0, nm_e2, eT2]
        rfl
      rw [l0, l1, show 1998 = 1997 + 1 from rfl, f_X1_load_37, if_pos (by decide), s_water n2 w6, s_solids n2 w6, bd_some, bd_some]
    · rw [f5]
      unfold upd
      rcases (show s = 0 ∨ s = 1 by omega) with rfl | rfl
      · rfl
      · rfl
end AX
