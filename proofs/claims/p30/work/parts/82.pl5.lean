/-! a text told and read -/
def hV (a b k : Nat) : Nat := if k = 0 then 2 + a % 5 else if k = 1 then a / 5 % 1000 else if k = 2 then a / 5000 % 400 else if k = 3 then b % 100 else if k = 4 then b / 100 % 4 * 7 else 1 + b / 400 % 20
def eV (v t : Nat) : Nat := if t = 0 then 1 + v % 9 else if t = 1 then v % 4001 else if t = 2 then v / 9 % 1001 else if t = 3 then v / 7 % 300 else if t = 4 then v / 11 % 91 else v / 13 % 100
def tV (a b : Nat) (vv : Nat → Nat) (k : Nat) : Nat := if k < 6 then hV a b k else eV (vv ((k - 6) / 6)) ((k - 6) % 6)
theorem tab2 : ∀ k, k < 12 → GGN k < 10 ^ DDN k := by decide
theorem tV_ok {a b : Nat} {vv : Nat → Nat} (k : Nat) : LLN (kdN k) ≤ tV a b vv k ∧ tV a b vv k ≤ GGN (kdN k) ∧ tV a b vv k < 10 ^ DDN (kdN k) := by
  have key : LLN (kdN k) ≤ tV a b vv k ∧ tV a b vv k ≤ GGN (kdN k) := by
    unfold tV kdN
    by_cases c : k < 6
    · rw [if_pos c, if_pos c]
      rcases (show k = 0 ∨ k = 1 ∨ k = 2 ∨ k = 3 ∨ k = 4 ∨ k = 5 by omega) with rfl | rfl | rfl | rfl | rfl | rfl
      · show 2 ≤ 2 + a % 5 ∧ 2 + a % 5 ≤ 6
        omega
      · show 0 ≤ a / 5 % 1000 ∧ a / 5 % 1000 ≤ 999
        omega
      · show 0 ≤ a / 5000 % 400 ∧ a / 5000 % 400 ≤ 999
        omega
      · show 0 ≤ b % 100 ∧ b % 100 ≤ 99
        omega
      · show 0 ≤ b / 100 % 4 * 7 ∧ b / 100 % 4 * 7 ≤ 99
        omega
      · show 1 ≤ 1 + b / 400 % 20 ∧ 1 + b / 400 % 20 ≤ 20
        omega
    · rw [if_neg c, if_neg c]
      generalize vv ((k - 6) / 6) = v
      have ht : (k - 6) % 6 < 6 := Nat.mod_lt _ (by omega)
      generalize (k - 6) % 6 = t at *
      rcases (show t = 0 ∨ t = 1 ∨ t = 2 ∨ t = 3 ∨ t = 4 ∨ t = 5 by omega) with rfl | rfl | rfl | rfl | rfl | rfl
      · show 1 ≤ 1 + v % 9 ∧ 1 + v % 9 ≤ 9
        omega
      · show 0 ≤ v % 4001 ∧ v % 4001 ≤ 4000
        omega
      · show 0 ≤ v / 9 % 1001 ∧ v / 9 % 1001 ≤ 1000
        omega
      · show 0 ≤ v / 7 % 300 ∧ v / 7 % 300 ≤ 999
        omega
      · show 0 ≤ v / 11 % 91 ∧ v / 11 % 91 ≤ 90
        omega
      · show 0 ≤ v / 13 % 100 ∧ v / 13 % 100 ≤ 99
        omega
  exact ⟨key.1, key.2, Nat.lt_of_le_of_lt key.2 (tab2 _ kdN_lt)⟩
theorem kdE {i t : Nat} (h : t < 6) : kdN (6 + 6 * i + t) = 6 + t := by
  unfold kdN
  rw [if_neg (by omega)]
  omega
theorem tvE {a b i t : Nat} {vv : Nat → Nat} (h : t < 6) : tV a b vv (6 + 6 * i + t) = eV (vv i) t := by
  unfold tV
  rw [if_neg (by omega), show (6 + 6 * i + t - 6) / 6 = i by omega, show (6 + 6 * i + t - 6) % 6 = t by omega]
/-- water and solids together -/
def SS (V : Nat → Nat) : Nat → Nat
  | 0 => 0
  | i + 1 => SS V i + (V (6 + 6 * i + 1) + V (6 + 6 * i + 2))
theorem wm_r {X X' : XV} {v : Int32} : wm X (.inr (v, X')) = (v.toInt64, X') := rfl
section TE
variable {c : Nat}
theorem te_278 (hc : c ≤ 600) {V : Nat → Nat} {n : Nat} {X : XV} (h : TX c V (6 + 6 * n) X) (hn : V 0 = n) (h2 : 2 ≤ n) (h6 : n ≤ 6) (hV : ∀ j, j < 6 + 6 * n → LLN (kdN j) ≤ V j ∧ V j ≤ GGN (kdN j) ∧ V j < 10 ^ DDN (kdN j)) (hS : SS V n < 2147483648) : ∃ X', f_L_tells_278 (nI n) 1 (lN (SS V n)) X = some (1, X') ∧ okX c X' := by
  obtain ⟨W, e1, e2⟩ := rt_all h hn hV
  have w0 : W 0 = n := by rw [e2 0 (by omega), hn]
  have sums : ∀ i, i ≤ n → smN (rowF W (6 + 6 * n)) 6 i + smN (rowF W (6 + 6 * n)) 12 i = SS V i := by
    intro i
    induction i with
    | zero => intro _; rfl
    | succ i ih =>
      intro hi
      have ih := ih (by omega)
      have r1 : rowF W (6 + 6 * n) (6 + i) = V (6 + 6 * i + 1) := (row_e (W := W) (w := 1) (by omega) h6 (by omega)).trans (e2 _ (by omega))
      have r2 : rowF W (6 + 6 * n) (12 + i) = V (6 + 6 * i + 2) := (row_e (W := W) (w := 2) (by omega) h6 (by omega)).trans (e2 _ (by omega))
      rw [smN_s, smN_s, SS, r1, r2]
      omega
  obtain ⟨X9, hX9⟩ : ∃ X9 : XV, X9 = (n, rowF W (6 + 6 * n), (x_L X, x_C X), [], fun _ => none) := ⟨_, rfl⟩
  have hl : u_load X = .inr (nI (SS V n), X9) := by
    unfold u_load
    rw [e1]
    dsimp only
    rw [w0, nI_add, sums n (Nat.le_refl n), hX9]
  have k9 := k_load h.1 hl
  have k6 := k9.up hc
  have z54 : x_R X9 54 = 0 := by rw [hX9]; exact row_0 (W := W) (k := 6 + 6 * n) (p := 54) (by omega)
  have hd : x_d X9 = [] := by rw [hX9]; rfl
  have hn9 : x_n X9 = n := by rw [hX9]; rfl
  have hu : u_undo X9 = .inl xS := by unfold u_undo; rw [hd]
  have ht : o_total X9 0 = some 0 := by
    have e : o_total X9 0 = some (lN (x_R X9 54)) := y_total k6 (j := 0) (by omega)
    rw [e, z54]
    rfl
  have hp : u_errPos X = -9 := by unfold u_errPos; rw [e1]; rfl
  refine ⟨X9, ?_, k9⟩
  unfold f_L_tells_278
  rw [if_neg (by decide), z_errorPosition (h.1.up hc), bd_some, if_pos hp, z_load (h.1.up hc), hl, bd_some]
  show (if lg_cmp (nI (SS V n)).toInt64 (lN (SS V n)) = 0 then _ else _) = _
  rw [nI_l (lt31 hS), if_pos lgz, L_eff k6, bd_some, if_pos (by rw [hn9]), ht, bd_some, if_pos lgz, z_undo k6, hu, bd_some]
  show (if lg_cmp (wv (.inl xS)) (-9000000000000000003) = 0 then _ else _) = _
  rw [wv_S, if_pos lgz]
theorem SS_le {a b : Nat} {vv : Nat → Nat} : ∀ i, SS (tV a b vv) i ≤ 5000 * i
  | 0 => Nat.le_refl _
  | i + 1 => by
    have ih := SS_le (a := a) (b := b) (vv := vv) i
    rw [SS, tvE (by omega), tvE (by omega)]
    have e1 : eV (vv i) 1 = vv i % 4001 := rfl
    have e2 : eV (vv i) 2 = vv i / 9 % 1001 := rfl
    omega
theorem te_125 (hc : c ≤ 600) {a b : Nat} {vv : Nat → Nat} {n : Nat} (hn : hV a b 0 = n) (hv : ∀ i, i < 6 → (nI b ^^^ (977 * (nI i + 1))) &&& 2147483647 = nI (vv i) ∧ vv i < 2147483648) : ∀ (r i fu : Nat) (X : XV), i + r = n → r < fu → TX c (tV a b vv) (6 + 6 * i) X → ∃ X', f_L_tells_125 (nI b) fu (nI n) 1 (lN (SS (tV a b vv) i)) (nI i) X = some (1, X') ∧ okX c X'
  | _, _, 0, _, _, hf, _ => absurd hf (Nat.not_lt_zero _)
  | r, i, fu + 1, X, hi, hf, hX => by
    have hn2 : hV a b 0 = 2 + a % 5 := rfl
    rw [f_L_tells_125]
    by_cases e : r = 0
    · have ei : i = n := by omega
      rw [if_pos (by rw [nI_leF (by omega) (by omega)]; omega), ei]
      rw [ei] at hX
      exact te_278 hc hX (by unfold tV; rw [if_pos (by omega)]; exact hn) (by omega) (by omega) (fun j _ => tV_ok j) (by have := SS_le (a := a) (b := b) (vv := vv) n; omega)
    · obtain ⟨h1, h2⟩ := hv i (by omega)
      rw [if_neg (by rw [nI_leF (by omega) (by omega)]; omega), if_neg (by decide), nm_e2, h1]
      obtain ⟨v, hv9⟩ : ∃ v, v = vv i := ⟨_, rfl⟩
      rw [← hv9] at h2 ⊢
      have q0 : (1 : Int32) + (nI v - nI v / 9 * 9) = nI (1 + v % 9) := by
        rw [show (9 : Int32) = nI 9 from rfl, nI_rm h2 (by omega) (by omega)]
        exact nI_add 1 _
      have q1 : nI v - nI v / 4001 * 4001 = nI (v % 4001) := nI_rm (d := 4001) h2 (by omega) (by omega)
      have q2 : nI v / 9 - nI v / 9 / 1001 * 1001 = nI (v / 9 % 1001) := by
        rw [show (9 : Int32) = nI 9 from rfl, nI_dv h2 (by omega) (by omega)]
        exact nI_rm (d := 1001) (by omega) (by omega) (by omega)
      have q3 : nI v / 7 - nI v / 7 / 300 * 300 = nI (v / 7 % 300) := by
        rw [show (7 : Int32) = nI 7 from rfl, nI_dv h2 (by omega) (by omega)]
        exact nI_rm (d := 300) (by omega) (by omega) (by omega)
      have q4 : nI v / 11 - nI v / 11 / 91 * 91 = nI (v / 11 % 91) := by
        rw [show (11 : Int32) = nI 11 from rfl, nI_dv h2 (by omega) (by omega)]
        exact nI_rm (d := 91) (by omega) (by omega) (by omega)
      have q5 : nI v / 13 - nI v / 13 / 100 * 100 = nI (v / 13 % 100) := by
        rw [show (13 : Int32) = nI 13 from rfl, nI_dv h2 (by omega) (by omega)]
        exact nI_rm (d := 100) (by omega) (by omega) (by omega)
      rw [q0, q1, nm_e2, q2, nm_e2, nm_e2, nI_add, nI_l (lt31 (by omega)), lN_add, q3, q4, q5]
      obtain ⟨X1, D1, T1⟩ := dg_step hc (k := 6 + 6 * i) (w := 1 + v % 9) (m := 1) hX (by omega) (by rw [hv9]; exact tvE (t := 0) (by omega)) (by have z := kdE (i := i) (t := 0) (by omega); rw [Nat.add_zero] at z; rw [z]; rfl) (by omega)
      have D1 : f_L_digits X (nI (1 + v % 9)) 1 = some (1, X1) := D1
      rw [D1, bd_some]
      dsimp only
      rw [if_neg (by decide)]
      obtain ⟨X2, D2, T2⟩ := dg_step hc (k := 6 + 6 * i + 1) (w := v % 4001) (m := 4) T1 (by omega) (by rw [hv9]; exact tvE (t := 1) (by omega)) (by have z := kdE (i := i) (t := 1) (by omega); rw [z]; rfl) (by omega)
      have D2 : f_L_digits X1 (nI (v % 4001)) 4 = some (1, X2) := D2
      rw [D2, bd_some]
      dsimp only
      rw [if_neg (by decide)]
      obtain ⟨X3, D3, T3⟩ := dg_step hc (k := 6 + 6 * i + 2) (w := v / 9 % 1001) (m := 4) T2 (by omega) (by rw [hv9]; exact tvE (t := 2) (by omega)) (by have z := kdE (i := i) (t := 2) (by omega); rw [z]; rfl) (by omega)
      have D3 : f_L_digits X2 (nI (v / 9 % 1001)) 4 = some (1, X3) := D3
      rw [D3, bd_some]
      dsimp only
      rw [if_neg (by decide)]
      obtain ⟨X4, D4, T4⟩ := dg_step hc (k := 6 + 6 * i + 3) (w := v / 7 % 300) (m := 3) T3 (by omega) (by rw [hv9]; exact tvE (t := 3) (by omega)) (by have z := kdE (i := i) (t := 3) (by omega); rw [z]; rfl) (by omega)
      have D4 : f_L_digits X3 (nI (v / 7 % 300)) 3 = some (1, X4) := D4
      rw [D4, bd_some]
      dsimp only
      rw [if_neg (by decide)]
      obtain ⟨X5, D5, T5⟩ := dg_step hc (k := 6 + 6 * i + 4) (w := v / 11 % 91) (m := 2) T4 (by omega) (by rw [hv9]; exact tvE (t := 4) (by omega)) (by have z := kdE (i := i) (t := 4) (by omega); rw [z]; rfl) (by omega)
      have D5 : f_L_digits X4 (nI (v / 11 % 91)) 2 = some (1, X5) := D5
      rw [D5, bd_some]
      dsimp only
      rw [if_neg (by decide)]
      obtain ⟨X6, D6, T6⟩ := dg_step hc (k := 6 + 6 * i + 5) (w := v / 13 % 100) (m := 2) T5 (by omega) (by rw [hv9]; exact tvE (t := 5) (by omega)) (by have z := kdE (i := i) (t := 5) (by omega); rw [z]; rfl) (by omega)
      have D6 : f_L_digits X5 (nI (v / 13 % 100)) 2 = some (1, X6) := D6
      rw [D6, bd_some]
      dsimp only
      rw [if_neg (by decide)]
      have ss : SS (tV a b vv) i + (v % 4001 + v / 9 % 1001) = SS (tV a b vv) (i + 1) := by
        rw [SS, tvE (by omega), tvE (by omega), hv9]
        rfl
      rw [ss, nI_s1]
      exact te_125 hc hn hv (r - 1) (i + 1) fu X6 (by omega) (by omega) (by rw [show 6 + 6 * (i + 1) = 6 + 6 * i + 5 + 1 by omega]; exact T6)
theorem L_tells (hc : c ≤ 600) {X : XV} (hX : okX c X) {a b : Nat} (ha : a < 2147483648) (hb : b < 2147483648) : ∃ X', f_L_tells X (nI a) (nI b) = some (1, X') ∧ okX c X' := by
  have hv : ∀ i, i < 6 → (nI b ^^^ (977 * (nI i + 1))) &&& 2147483647 = nI ((fun i => ((nI b ^^^ (977 * (nI i + 1))) &&& 2147483647).toNatClampNeg) i) ∧ (fun i => ((nI b ^^^ (977 * (nI i + 1))) &&& 2147483647).toNatClampNeg) i < 2147483648 := by
    intro i _
    obtain ⟨j, hj, e⟩ := pk_andE (nI b ^^^ (977 * (nI i + 1))) (m := 2147483647) 31 (by decide)
    dsimp only
    rw [e, nI_cl hj]
    exact ⟨rfl, hj⟩
  generalize (fun i => ((nI b ^^^ (977 * (nI i + 1))) &&& 2147483647).toNatClampNeg) = vv at hv
  obtain ⟨X0, hX0⟩ : ∃ X0 : XV, X0 = (x_n X, x_R X, (0, x_C X), x_d X, x_K X) := ⟨_, rfl⟩
  have e0 : u_clear X = (nI (x_L X), X0) := by rw [hX0]; rfl
  have k0 : okX c X0 := by
    have := k_clear hX
    rw [e0] at this
    exact this
  obtain ⟨X1, hX1⟩ : ∃ X1 : XV, X1 = (x_n X, x_R X, (1, upN (x_C X) 0 69), x_d X, x_K X) := ⟨_, rfl⟩
  have e1 : u_append X0 69 = .inr (1, X1) := by
    rw [hX0, hX1]
    unfold u_append
    rw [if_neg (by decide)]
    exact (if_pos (show (0 : Nat) < 120 by omega)).trans rfl
  have k1 := k_append k0 e1
  have hL := hX.2.1
  have T0 : TX c (tV a b vv) 0 X1 := ⟨k1, by rw [hX1]; rfl, by rw [hX1]; show upN (x_C X) 0 69 0 = 69; exact upN_s, fun j hj => absurd hj (Nat.not_lt_zero _)⟩
  have q0 : (2 : Int32) + (nI a - nI a / 5 * 5) = nI (2 + a % 5) := by
    rw [show (5 : Int32) = nI 5 from rfl, nI_rm ha (by omega) (by omega)]
    exact nI_add 2 _
  have q1 : nI a / 5 - nI a / 5 / 1000 * 1000 = nI (a / 5 % 1000) := by
    rw [show (5 : Int32) = nI 5 from rfl, nI_dv ha (by omega) (by omega)]
    exact nI_rm (d := 1000) (by omega) (by omega) (by omega)
  have q2 : nI a / 5000 - nI a / 5000 / 400 * 400 = nI (a / 5000 % 400) := by
    rw [show (5000 : Int32) = nI 5000 from rfl, nI_dv ha (by omega) (by omega)]
    exact nI_rm (d := 400) (by omega) (by omega) (by omega)
  have q3 : nI b - nI b / 100 * 100 = nI (b % 100) := nI_rm (d := 100) hb (by omega) (by omega)
  have q4 : (nI b / 100 - nI b / 100 / 4 * 4) * 7 = nI (b / 100 % 4 * 7) := by
    rw [show (100 : Int32) = nI 100 from rfl, nI_dv hb (by omega) (by omega), show (4 : Int32) = nI 4 from rfl, nI_rm (by omega) (by omega) (by omega)]
    exact pk_mul _ 7
  have q5 : (1 : Int32) + (nI b / 400 - nI b / 400 / 20 * 20) = nI (1 + b / 400 % 20) := by
    rw [show (400 : Int32) = nI 400 from rfl, nI_dv hb (by omega) (by omega), show (20 : Int32) = nI 20 from rfl, nI_rm (by omega) (by omega) (by omega)]
    exact nI_add 1 _
  unfold f_L_tells
  rw [nm_e2, q0, q1, q2, q3, q4, q5, z_clearText (hX.up hc), bd_some, e0]
  dsimp only
  rw [if_neg (nI_n0 (by omega)), z_append (k0.up hc), e1, wm_r, bd_some]
  dsimp only
  rw [if_pos (by decide)]
  obtain ⟨X2, D1, T1⟩ := dg_step hc (k := 0) (w := 2 + a % 5) (m := 1) T0 (by omega) rfl rfl (by omega)
  have D1 : f_L_digits X1 (nI (2 + a % 5)) 1 = some (1, X2) := D1
  rw [D1, bd_some]
  dsimp only
  rw [if_neg (by decide)]
  obtain ⟨X3, D2, T2⟩ := dg_step hc (k := 1) (w := a / 5 % 1000) (m := 3) T1 (by omega) rfl rfl (by omega)
  have D2 : f_L_digits X2 (nI (a / 5 % 1000)) 3 = some (1, X3) := D2
  rw [D2, bd_some]
  dsimp only
  rw [if_neg (by decide)]
  obtain ⟨X4, D3, T3⟩ := dg_step hc (k := 2) (w := a / 5000 % 400) (m := 3) T2 (by omega) rfl rfl (by omega)
  have D3 : f_L_digits X3 (nI (a / 5000 % 400)) 3 = some (1, X4) := D3
  rw [D3, bd_some]
  dsimp only
  rw [if_neg (by decide)]
  obtain ⟨X5, D4, T4⟩ := dg_step hc (k := 3) (w := b % 100) (m := 2) T3 (by omega) rfl rfl (by omega)
  have D4 : f_L_digits X4 (nI (b % 100)) 2 = some (1, X5) := D4
  rw [D4, bd_some]
  dsimp only
  rw [if_neg (by decide)]
  obtain ⟨X6, D5, T5⟩ := dg_step hc (k := 4) (w := b / 100 % 4 * 7) (m := 2) T4 (by omega) rfl rfl (by omega)
  have D5 : f_L_digits X5 (nI (b / 100 % 4 * 7)) 2 = some (1, X6) := D5
  rw [D5, bd_some]
  dsimp only
  rw [if_neg (by decide)]
  obtain ⟨X7, D6, T6⟩ := dg_step hc (k := 5) (w := 1 + b / 400 % 20) (m := 2) T5 (by omega) rfl rfl (by omega)
  have D6 : f_L_digits X6 (nI (1 + b / 400 % 20)) 2 = some (1, X7) := D6
  rw [D6, bd_some]
  dsimp only
  rw [if_neg (by decide)]
  exact te_125 hc (n := 2 + a % 5) rfl hv (2 + a % 5) 0 7 X7 (Nat.zero_add _) (by omega) T6
end TE
