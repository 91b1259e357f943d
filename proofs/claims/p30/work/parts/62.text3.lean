/-! the reference reads -/
def rpN (j : Nat) : Nat := if j < 6 then 47 + j else 6 * ((j - 6) % 6) + (j - 6) / 6
def rowF (W : Nat → Nat) (k p : Nat) : Nat := if p < 36 then (if 6 + 6 * (p % 6) + p / 6 < k then W (6 + 6 * (p % 6) + p / 6) else 0) else if 48 ≤ p ∧ p ≤ 52 then (if p - 47 < k then W (p - 47) else 0) else 0
theorem rowF_up {W : Nat → Nat} {k v p : Nat} (h1 : 1 ≤ k) (hk : k < 42) : rowF (upN W k v) (k + 1) p = if p = rpN k then v else rowF W k p := by
  unfold rowF rpN upN
  by_cases p36 : p < 36
  · rw [if_pos p36, if_pos p36]
    by_cases e : 6 + 6 * (p % 6) + p / 6 = k
    · rw [if_pos (by omega), if_pos e, if_pos (by rw [if_neg (by omega)]; omega)]
    · have hne : ¬ p = (if k < 6 then 47 + k else 6 * ((k - 6) % 6) + (k - 6) / 6) := by
        split <;> omega
      rw [if_neg hne, if_neg e]
      by_cases e2 : 6 + 6 * (p % 6) + p / 6 < k
      · rw [if_pos (by omega), if_pos e2]
      · rw [if_neg (by omega), if_neg e2]
  · rw [if_neg p36, if_neg p36]
    by_cases p48 : 48 ≤ p ∧ p ≤ 52
    · rw [if_pos p48, if_pos p48]
      by_cases e : p - 47 = k
      · rw [if_pos (by omega), if_pos e, if_pos (by rw [if_pos (by omega)]; omega)]
      · have hne : ¬ p = (if k < 6 then 47 + k else 6 * ((k - 6) % 6) + (k - 6) / 6) := by
          split <;> omega
        rw [if_neg hne, if_neg e]
        by_cases e2 : p - 47 < k
        · rw [if_pos (by omega), if_pos e2]
        · rw [if_neg (by omega), if_neg e2]
    · rw [if_neg p48, if_neg p48]
      have hne : ¬ p = (if k < 6 then 47 + k else 6 * ((k - 6) % 6) + (k - 6) / 6) := by
        split <;> omega
      rw [if_neg hne]
theorem rpN_lt {k : Nat} (h1 : 1 ≤ k) (hk : k < 42) : rpN k < 64 := by
  unfold rpN
  split <;> omega
theorem rowW {rw : Nat → Int32} {W : Nat → Nat} {k v : Nat} (h : RR rw (rowF W k)) (h1 : 1 ≤ k) (hk : k < 42) : RR (upd rw (rpN k) (nI v)) (rowF (upN W k v) (k + 1)) := by
  intro p hp
  rw [rowF_up h1 hk]
  unfold upd
  by_cases e : p = rpN k
  · rw [if_pos e, if_pos e]
  · rw [if_neg e, if_neg e]; exact h p hp
section T3
variable {M : MdV} {rd : Int32} {L : Nat} {C : Nat → Nat}
def mxH (M : MdV) (L : Nat) (C : Nat → Nat) : Prop := m_scs M = nI L ∧ L ≤ 120 ∧ ∀ k, k < L → m_scr M k = nI (C k) ∧ C k ≤ 255
theorem r_eff_m9 {p1 x3 : Int32} {fu : Nat} : f_X2_readEffect_4 p1 (fu + 1) (-9) x3 M = some (-9, M) := by
  rw [f_X2_readEffect_4]
  by_cases e : (6 : Int32) ≤ x3
  · rw [if_pos e]
  · rw [if_neg e, if_pos rfl]
theorem r_eff_s {i what v fu : Nat} (hw : what < 6) (hv : v < 2147483648) (N : MdV) : f_X2_readEffect_4 (nI i) (fu + 1) (nI v) (nI what) N = bd (f_X2_number N (nI (DDN (6 + what))) (nI (LLN (6 + what))) (nI (GGN (6 + what)))) fun x => match x with | (v_22, q_23) => f_X2_readEffect_100 (f_X2_readEffect_4 (nI i) fu) (nI i) (nI what) v_22 q_23 := by
  rw [f_X2_readEffect_4, if_neg (by rw [L6, nI_leF (by omega) (by omega)]; omega), if_neg (nI_m9 hv)]
  rcases (show what = 0 ∨ what = 1 ∨ what = 2 ∨ what = 3 ∨ what = 4 ∨ what = 5 by omega) with rfl | rfl | rfl | rfl | rfl | rfl
  · rw [if_pos (by decide)]; rfl
  · rw [if_neg (by decide), if_pos (by decide)]; rfl
  · rw [if_neg (by decide), if_neg (by decide), if_pos (by decide)]; rfl
  · rw [if_neg (by decide), if_neg (by decide), if_neg (by decide), if_pos (by decide)]; rfl
  · rw [if_neg (by decide), if_neg (by decide), if_neg (by decide), if_neg (by decide), if_pos (by decide)]; rfl
  · rw [if_neg (by decide), if_neg (by decide), if_neg (by decide), if_neg (by decide), if_neg (by decide)]; rfl
theorem r_eff (hM : mxH M L C) {i : Nat} (hi : i < 6) : ∀ (r what q fu : Nat) (rw : Nat → Int32) (v : Nat) (W : Nat → Nat), what + r = 6 → r < fu → q ≤ L → v < 2147483648 → RR rw (rowF W (6 + 6 * i + what)) →
    match raN L C r (6 + 6 * i + what) q W with
    | .inl e => ∃ rw', f_X2_readEffect_4 (nI i) fu (nI v) (nI what) (mR M rd rw (nI q)) = some (-9, mR M rd rw' (nI e))
    | .inr (q', W') => ∃ v' rw', f_X2_readEffect_4 (nI i) fu (nI v) (nI what) (mR M rd rw (nI q)) = some (nI v', mR M rd rw' (nI q')) ∧ v' < 2147483648 ∧ RR rw' (rowF W' (6 + 6 * i + 6))
  | r, what, q, 0, rw, v, W, _, h, _, _, _ => by omega
  | 0, what, q, fu + 1, rw, v, W, hw, _, hq, hv, hr => by
    have e : what = 6 := by omega
    subst e
    rw [raN]
    dsimp only
    refine ⟨v, rw, ?_, hv, hr⟩
    rw [f_X2_readEffect_4, if_pos (by decide)]
  | r + 1, what, q, fu + 1, rw, v, W, hw, hf, hq, hv, hr => by
    have ek : kdN (6 + 6 * i + what) = 6 + what := by unfold kdN; rw [if_neg (by omega)]; omega
    have hp : rpN (6 + 6 * i + what) = 6 * what + i := by unfold rpN; rw [if_neg (by omega)]; omega
    have hn := r_numb (rd := rd) (rw := rw) hM.1 hM.2.1 hM.2.2 (kd := 6 + what) (q := q) (by omega) hq
    rw [r_eff_s (by omega) hv, hn, bd_some]
    obtain ⟨fu', rfl⟩ : ∃ f', fu = f' + 1 := ⟨fu - 1, by omega⟩
    cases hx : rdN L C (GGN (6 + what)) (LLN (6 + what)) (DDN (6 + what)) 0 q with
    | inl e =>
      rw [raN_i (by rw [ek]; exact hx)]
      dsimp only
      refine ⟨upd rw (6 * what + i) (-9), ?_⟩
      show f_X2_readEffect_100 _ _ _ (-9) (mR M rd rw (nI e)) = _
      unfold f_X2_readEffect_100
      rw [L6, pk_mul, nI_add, gb_in (by omega) (by omega), nI_cl (by omega), mR_grrw, mR_rrw, nm_e2, r_eff_m9]
    | inr p =>
      obtain ⟨w, q'⟩ := p
      have hq' := (rdN_q _ _ _ _ _ hx).2 (tabs (6 + what) (by omega)).2.2.2.2.1
      have hwb : w < 2147483648 := by
        obtain ⟨t1, t2, t3, t4, t5, t6, t7⟩ := tabs (6 + what) (by omega)
        obtain ⟨d, hd⟩ : ∃ d, DDN (6 + what) = d + 1 := ⟨DDN (6 + what) - 1, by omega⟩
        have := (rdN_v d 0 q w q' (by rw [← hd]; exact hx)).2
        omega
      have hr' := rowW (v := w) hr (by omega) (by omega)
      rw [hp] at hr'
      have ih := r_eff hM hi r (what + 1) q' (fu' + 1) (upd rw (6 * what + i) (nI w)) w (upN W (6 + 6 * i + what) w) (by omega) (by omega) hq' hwb hr'
      rw [raN_s (by rw [ek]; exact hx)]
      have est : f_X2_readEffect_100 (f_X2_readEffect_4 (nI i) (fu' + 1)) (nI i) (nI what) (nI w) (mR M rd rw (nI q')) = f_X2_readEffect_4 (nI i) (fu' + 1) (nI w) (nI (what + 1)) (mR M rd (upd rw (6 * what + i) (nI w)) (nI q')) := by
        unfold f_X2_readEffect_100
        rw [L6, pk_mul, nI_add, gb_in (by omega) (by omega), nI_cl (by omega), mR_grrw, mR_rrw, nm_e2, nI_s1]
      show (match raN L C r (6 + 6 * i + (what + 1)) q' (upN W (6 + 6 * i + what) w) with
        | .inl e => ∃ rw', f_X2_readEffect_100 (f_X2_readEffect_4 (nI i) (fu' + 1)) (nI i) (nI what) (nI w) (mR M rd rw (nI q')) = some (-9, mR M rd rw' (nI e))
        | .inr (q2, W') => ∃ v' rw', f_X2_readEffect_100 (f_X2_readEffect_4 (nI i) (fu' + 1)) (nI i) (nI what) (nI w) (mR M rd rw (nI q')) = some (nI v', mR M rd rw' (nI q2)) ∧ v' < 2147483648 ∧ RR rw' (rowF W' (6 + 6 * i + 6)))
      rw [est]
      exact ih
/-- what comes out behind all: the answer -/
theorem r_167 {rw : Nat → Int32} {q v : Nat} (hM : mxH M L C) (hq : q ≤ L) (hv : v < 2147483648) : f_X2_readText_167 (nI v) (mR M rd rw (nI q)) = some (if q = L then -9 else nI q, mR M rd rw (nI q)) := by
  have hL := hM.2.1
  unfold f_X2_readText_167
  rw [if_neg (nI_m9 hv), mR_gscs, mR_gspo, hM.1]
  by_cases e : q = L
  · rw [if_pos ((nI_leF (by omega) (by omega)).mpr (by omega)), if_pos e]
  · rw [if_neg (by rw [nI_leF (by omega) (by omega)]; omega), if_neg e]
theorem r_167m {rw : Nat → Int32} {e : Nat} : f_X2_readText_167 (-9) (mR M rd rw (nI e)) = some (nI e, mR M rd rw (nI e)) := by
  unfold f_X2_readText_167
  rw [if_pos rfl, mR_gspo]
theorem r_141m {rw : Nat → Int32} {e fu : Nat} {x2 : Int32} : f_X2_readText_141 (fu + 1) (-9) x2 (mR M rd rw (nI e)) = some (nI e, mR M rd rw (nI e)) := by
  rw [f_X2_readText_141]
  by_cases h : m_rdn (mR M rd rw (nI e)) ≤ x2
  · rw [if_pos h, r_167m]
  · rw [if_neg h, if_pos rfl, r_167m]
theorem r_141 (hM : mxH M L C) {n : Nat} (hn : n ≤ 6) : ∀ (r i q fu : Nat) (rw : Nat → Int32) (v : Nat) (W : Nat → Nat), i + r = n → r < fu → q ≤ L → v < 2147483648 → RR rw (rowF W (6 + 6 * i)) →
    match raN L C (6 * r) (6 + 6 * i) q W with
    | .inl e => ∃ rw', f_X2_readText_141 fu (nI v) (nI i) (mR M (nI n) rw (nI q)) = some (nI e, mR M (nI n) rw' (nI e))
    | .inr (q', W') => ∃ rw', f_X2_readText_141 fu (nI v) (nI i) (mR M (nI n) rw (nI q)) = some (if q' = L then -9 else nI q', mR M (nI n) rw' (nI q')) ∧ RR rw' (rowF W' (6 + 6 * n))
  | r, i, q, 0, rw, v, W, _, h, _, _, _ => by omega
  | 0, i, q, fu + 1, rw, v, W, hi, _, hq, hv, hr => by
    have e : i = n := by omega
    subst e
    rw [Nat.mul_zero, raN]
    dsimp only
    refine ⟨rw, ?_, hr⟩
    rw [f_X2_readText_141, mR_grdn, if_pos ((nI_leF (by omega) (by omega)).mpr (Nat.le_refl _)), r_167 hM hq hv]
  | r + 1, i, q, fu + 1, rw, v, W, hi, hf, hq, hv, hr => by
    obtain ⟨fu', rfl⟩ : ∃ f', fu = f' + 1 := ⟨fu - 1, by omega⟩
    rw [f_X2_readText_141, mR_grdn, if_neg (by rw [nI_leF (by omega) (by omega)]; omega), if_neg (nI_m9 hv), show 6 * (r + 1) = 6 + 6 * r by omega, raN_add]
    have h1 := r_eff (rd := nI n) hM (i := i) (by omega) 6 0 q 2000 rw 0 W (by omega) (by omega) hq (by omega) hr
    rw [show 6 + 6 * i + 0 = 6 + 6 * i by omega] at h1
    unfold f_X2_readEffect
    rw [L0]
    cases hx : raN L C 6 (6 + 6 * i) q W with
    | inl e =>
      rw [hx] at h1
      dsimp only at h1 ⊢
      obtain ⟨rw', g1⟩ := h1
      refine ⟨rw', ?_⟩
      rw [g1, bd_some]
      exact r_141m
    | inr p =>
      obtain ⟨q', W'⟩ := p
      have hq' := (raN_q _ _ _ _ _ _ hx hq).1
      rw [hx] at h1
      dsimp only at h1 ⊢
      obtain ⟨v', rw', g1, g2, g3⟩ := h1
      rw [g1, bd_some]
      dsimp only
      rw [nI_s1, show 6 + 6 * i + 6 = 6 + 6 * (i + 1) by omega]
      exact r_141 hM hn r (i + 1) q' (fu' + 1) rw' v' W' (by omega) (by omega) hq' g2 (by rw [show 6 + 6 * (i + 1) = 6 + 6 * i + 6 by omega]; exact g3)
theorem r_70m {rw : Nat → Int32} {e fu : Nat} {x2 : Int32} : f_X2_readText_70 (fu + 1) (-9) x2 (mR M rd rw (nI e)) = some (nI e, mR M rd rw (nI e)) := by
  rw [f_X2_readText_70]
  by_cases h : (5 : Int32) ≤ x2
  · rw [if_pos h, r_141m]
  · rw [if_neg h, if_pos rfl, r_141m]
theorem r_70s {what v fu : Nat} (hw : what < 5) (hv : v < 2147483648) (N : MdV) : f_X2_readText_70 (fu + 1) (nI v) (nI what) N = bd (f_X2_number N (nI (DDN (1 + what))) (nI (LLN (1 + what))) (nI (GGN (1 + what)))) fun x => match x with | (v_22, q_23) => f_X2_readText_122 (f_X2_readText_70 fu) (nI what) v_22 q_23 := by
  rw [f_X2_readText_70, if_neg (by rw [L5, nI_leF (by omega) (by omega)]; omega), if_neg (nI_m9 hv)]
  rcases (show what = 0 ∨ what = 1 ∨ what = 2 ∨ what = 3 ∨ what = 4 by omega) with rfl | rfl | rfl | rfl | rfl
  · rw [if_neg (by decide)]; rfl
  · rw [if_neg (by decide)]; rfl
  · rw [if_pos (by decide), if_neg (by decide)]; rfl
  · rw [if_pos (by decide), if_neg (by decide)]; rfl
  · rw [if_pos (by decide), if_pos (by decide)]; rfl
theorem r_70 (hM : mxH M L C) {n : Nat} (hn : n ≤ 6) : ∀ (r what q fu : Nat) (rw : Nat → Int32) (v : Nat) (W : Nat → Nat), what + r = 5 → r < fu → q ≤ L → v < 2147483648 → RR rw (rowF W (1 + what)) →
    match raN L C (r + 6 * n) (1 + what) q W with
    | .inl e => ∃ rw', f_X2_readText_70 fu (nI v) (nI what) (mR M (nI n) rw (nI q)) = some (nI e, mR M (nI n) rw' (nI e))
    | .inr (q', W') => ∃ rw', f_X2_readText_70 fu (nI v) (nI what) (mR M (nI n) rw (nI q)) = some (if q' = L then -9 else nI q', mR M (nI n) rw' (nI q')) ∧ RR rw' (rowF W' (6 + 6 * n))
  | r, what, q, 0, rw, v, W, _, h, _, _, _ => by omega
  | 0, what, q, fu + 1, rw, v, W, hw, _, hq, hv, hr => by
    have e : what = 5 := by omega
    subst e
    rw [Nat.zero_add, f_X2_readText_70, if_pos (by decide)]
    exact r_141 hM hn n 0 q 2000 rw v W (by omega) (by omega) hq hv hr
  | r + 1, what, q, fu + 1, rw, v, W, hw, hf, hq, hv, hr => by
    have ek : kdN (1 + what) = 1 + what := by unfold kdN; rw [if_pos (by omega)]
    have hp : rpN (1 + what) = 48 + what := by unfold rpN; rw [if_pos (by omega)]; omega
    have hn9 := r_numb (rd := nI n) (rw := rw) hM.1 hM.2.1 hM.2.2 (kd := 1 + what) (q := q) (by omega) hq
    rw [r_70s (by omega) hv, hn9, bd_some, show r + 1 + 6 * n = (r + 6 * n) + 1 by omega]
    obtain ⟨fu', rfl⟩ : ∃ f', fu = f' + 1 := ⟨fu - 1, by omega⟩
    cases hx : rdN L C (GGN (1 + what)) (LLN (1 + what)) (DDN (1 + what)) 0 q with
    | inl e =>
      rw [raN_i (by rw [ek]; exact hx)]
      dsimp only
      refine ⟨upd rw (48 + what) (-9), ?_⟩
      show f_X2_readText_122 _ _ (-9) (mR M (nI n) rw (nI e)) = _
      unfold f_X2_readText_122
      rw [show (48 : Int32) = nI 48 from rfl, nI_add, gb_in (by omega) (by omega), nI_cl (by omega), mR_grrw, mR_rrw, nm_e2, r_70m]
    | inr p =>
      obtain ⟨w, q'⟩ := p
      have hq' := (rdN_q _ _ _ _ _ hx).2 (tabs (1 + what) (by omega)).2.2.2.2.1
      have hwb : w < 2147483648 := by
        obtain ⟨t1, t2, t3, t4, t5, t6, t7⟩ := tabs (1 + what) (by omega)
        obtain ⟨d, hd⟩ : ∃ d, DDN (1 + what) = d + 1 := ⟨DDN (1 + what) - 1, by omega⟩
        have := (rdN_v d 0 q w q' (by rw [← hd]; exact hx)).2
        omega
      have hr' := rowW (v := w) hr (by omega) (by omega)
      rw [hp] at hr'
      have ih := r_70 hM hn r (what + 1) q' (fu' + 1) (upd rw (48 + what) (nI w)) w (upN W (1 + what) w) (by omega) (by omega) hq' hwb hr'
      rw [raN_s (by rw [ek]; exact hx)]
      have est : f_X2_readText_122 (f_X2_readText_70 (fu' + 1)) (nI what) (nI w) (mR M (nI n) rw (nI q')) = f_X2_readText_70 (fu' + 1) (nI w) (nI (what + 1)) (mR M (nI n) (upd rw (48 + what) (nI w)) (nI q')) := by
        unfold f_X2_readText_122
        rw [show (48 : Int32) = nI 48 from rfl, nI_add, gb_in (by omega) (by omega), nI_cl (by omega), mR_grrw, mR_rrw, nm_e2, nI_s1]
      show (match raN L C (r + 6 * n) (1 + (what + 1)) q' (upN W (1 + what) w) with
        | .inl e => ∃ rw', f_X2_readText_122 (f_X2_readText_70 (fu' + 1)) (nI what) (nI w) (mR M (nI n) rw (nI q')) = some (nI e, mR M (nI n) rw' (nI e))
        | .inr (q2, W') => ∃ rw', f_X2_readText_122 (f_X2_readText_70 (fu' + 1)) (nI what) (nI w) (mR M (nI n) rw (nI q')) = some (if q2 = L then -9 else nI q2, mR M (nI n) rw' (nI q2)) ∧ RR rw' (rowF W' (6 + 6 * n)))
      rw [est]
      exact ih
theorem r_zero : ∀ (r j fu : Nat) (rw : Nat → Int32) (q : Int32), j + r = 64 → r < fu → (∀ k, k < j → rw k = 0) → ∃ rw', f_X2_readText_2 fu (nI j) (mR M rd rw q) = f_X2_readText_2 (fu - r) (nI 64) (mR M rd rw' q) ∧ ∀ k, k < 64 → rw' k = 0
  | r, j, 0, rw, q, _, h, _ => by omega
  | 0, j, fu + 1, rw, q, hj, _, hz => by
    have e : j = 64 := by omega
    subst e
    exact ⟨rw, rfl, hz⟩
  | r + 1, j, fu + 1, rw, q, hj, hf, hz => by
    obtain ⟨rw', g1, g2⟩ := r_zero r (j + 1) fu (upd rw j 0) q (by omega) (by omega) (fun k hk => by
      unfold upd
      by_cases e : k = j
      · rw [if_pos e]
      · rw [if_neg e]; exact hz k (by omega))
    refine ⟨rw', ?_, g2⟩
    rw [show fu + 1 - (r + 1) = fu - r by omega, ← g1, f_X2_readText_2, if_neg (by rw [show (64 : Int32) = nI 64 from rfl, nI_leF (by omega) (by omega)]; omega), gb_in (by omega) (by omega), nI_cl (by omega), mR_grrw, mR_rrw, nm_e2, nI_s1]
theorem r_read (hM : mxH M L C) : ∃ rd' rw' q', f_X2_readText M = some (rtV (rtN L C), mR M rd' rw' q') ∧ ∀ W, rtN L C = .inr W → rd' = nI (W 0) ∧ 2 ≤ W 0 ∧ W 0 ≤ 6 ∧ RR rw' (rowF W (6 + 6 * W 0)) := by
  have hL := hM.2.1
  unfold f_X2_readText
  obtain ⟨rw0, z1, z2⟩ := r_zero (M := M) (rd := m_rdn M) 64 0 2000 (m_rrw M) (m_spo M) (by omega) (by omega) (fun k hk => by omega)
  rw [mR_self] at z1
  have hr0 : RR rw0 (rowF (fun _ => 0) 1) := fun p hp => by
    rw [z2 p hp]
    unfold rowF
    split
    · rw [if_neg (by omega)]; rfl
    · split
      · rw [if_neg (by omega)]; rfl
      · rfl
  rw [show (0 : Int32) = nI 0 from rfl] at *
  rw [z1, show 2000 - 64 = 1935 + 1 by omega, f_X2_readText_2, if_pos (by decide), mR_spo, nm_e2, mR_gscs, mR_gscr, hM.1]
  unfold rtN
  by_cases e0 : L = 0
  · rw [if_pos (by rw [e0]; rfl), if_pos e0]
    exact ⟨m_rdn M, rw0, nI 0, rfl, fun W h => by cases h⟩
  · rw [if_neg (by rw [L0, nI_iff (by omega) (by omega)]; exact e0), if_neg e0]
    obtain ⟨g1, g2⟩ := hM.2.2 0 (by omega)
    rw [g1]
    by_cases e1 : C 0 = 69
    · rw [if_pos (by rw [e1]; rfl), if_pos e1, nm_e2, mR_spo, L1]
      have hn9 := r_numb (rd := m_rdn M) (rw := rw0) hM.1 hM.2.1 hM.2.2 (kd := 0) (q := 1) (by omega) (by omega)
      have hn8 : f_X2_number (mR M (m_rdn M) rw0 (nI 1)) (nI 1) 2 6 = some (nrA M (m_rdn M) rw0 (rdN L C (GGN 0) (LLN 0) (DDN 0) 0 1)) := hn9
      rw [hn8, bd_some]
      cases hx : rdN L C (GGN 0) (LLN 0) (DDN 0) 0 1 with
      | inl e =>
        rw [raN_i (k := 0) hx]
        refine ⟨-9, rw0, nI e, ?_, fun W h => by cases h⟩
        show nm (mu_rdn (mR M (m_rdn M) rw0 (nI e)) (-9)) _ = _
        rw [mR_rdn, nm_e2, mR_grdn, nm_e2, r_70m]
        rfl
      | inr p =>
        obtain ⟨w, q'⟩ := p
        have hq' := (rdN_q _ _ _ _ _ hx).2 (by decide)
        have hw := n06 (rdN_v 0 0 1 w q' hx)
        have h1 := r_70 hM (n := w) hw.2 5 0 q' 2000 rw0 w (upN (fun _ => 0) 0 w) (by omega) (by omega) hq' (by omega) (fun p hp => by
          rw [hr0 p hp]
          refine congrArg nI ?_
          unfold rowF
          split
          · rw [if_neg (by omega), if_neg (by omega)]
          · split
            · rw [if_neg (by omega), if_neg (by omega)]
            · rfl)
        have est : nm (mu_rdn (mR M (m_rdn M) rw0 (nI q')) (nI w)) (fun q_31 => nm (m_rdn q_31) fun v_32 => f_X2_readText_70 2000 v_32 (nI 0) q_31) = f_X2_readText_70 2000 (nI w) (nI 0) (mR M (nI w) rw0 (nI q')) := by
          rw [mR_rdn, nm_e2, mR_grdn, nm_e2]
        rw [raN_s (k := 0) hx, raN]
        dsimp only
        rw [upN_s]
        have hgoal : ∀ y : Option (Int32 × MdV), y = f_X2_readText_70 2000 (nI w) (nI 0) (mR M (nI w) rw0 (nI q')) → ∃ rd' rw' q2, y = some (rtV (match raN L C (5 + 6 * w) 1 q' (upN (fun _ => 0) 0 w) with
            | .inl e => .inl e
            | .inr (q', W') => if q' = L then .inr W' else .inl q'), mR M rd' rw' q2) ∧ ∀ W, (match raN L C (5 + 6 * w) 1 q' (upN (fun _ => 0) 0 w) with
            | .inl e => .inl e
            | .inr (q', W') => if q' = L then .inr W' else .inl q') = (.inr W : Nat ⊕ (Nat → Nat)) → rd' = nI (W 0) ∧ 2 ≤ W 0 ∧ W 0 ≤ 6 ∧ RR rw' (rowF W (6 + 6 * W 0)) := by
          intro y hy
          rw [hy]
          cases hz : raN L C (5 + 6 * w) 1 q' (upN (fun _ => 0) 0 w) with
          | inl e =>
            rw [show 1 + 0 = 1 from rfl, hz] at h1
            obtain ⟨rw', k1⟩ := h1
            exact ⟨nI w, rw', nI e, k1, fun W h => by cases h⟩
          | inr p2 =>
            obtain ⟨q2, W2⟩ := p2
            have hW0 := (raN_q _ _ _ _ _ _ hz hq').2.1 0 (by omega)
            rw [upN_s] at hW0
            rw [show 1 + 0 = 1 from rfl, hz] at h1
            obtain ⟨rw', k1, k2⟩ := h1
            refine ⟨nI w, rw', nI q2, ?_, fun W h => ?_⟩
            · rw [k1]
              dsimp only
              by_cases e : q2 = L
              · rw [if_pos e, if_pos e]; rfl
              · rw [if_neg e, if_neg e]; rfl
            · dsimp only at h
              by_cases e : q2 = L
              · rw [if_pos e] at h
                cases h
                rw [hW0]
                exact ⟨rfl, hw.1, hw.2, k2⟩
              · rw [if_neg e] at h
                cases h
        exact hgoal _ est
    · rw [if_neg (by rw [show (69 : Int32) = nI 69 from rfl, nI_iff (by omega) (by omega)]; exact e1), if_neg e1]
      exact ⟨m_rdn M, rw0, nI 0, rfl, fun W h => by cases h⟩
end T3
