/-! numbers of the text -/
def DDN (k : Nat) : Nat := ([1, 3, 3, 2, 2, 2, 1, 4, 4, 3, 2, 2] : List Nat).getD k 0
def LLN (k : Nat) : Nat := ([2, 0, 0, 0, 0, 1, 1, 0, 0, 0, 0, 0] : List Nat).getD k 0
def GGN (k : Nat) : Nat := ([6, 999, 999, 99, 99, 20, 9, 4000, 1000, 999, 90, 99] : List Nat).getD k 0
theorem tabs : ∀ k, k < 12 → tD k = nI (DDN k) ∧ tL k = nI (LLN k) ∧ tG k = nI (GGN k) ∧ DDN k ≤ 4 ∧ 1 ≤ DDN k ∧ LLN k ≤ 9999 ∧ GGN k ≤ 9999 := by decide +kernel
/-- r digits more of a number that began with v, at the place q: where it fails, or the number and the place behind it -/
def rdN (L : Nat) (C : Nat → Nat) (hi lo : Nat) : Nat → Nat → Nat → Nat ⊕ (Nat × Nat)
  | 0, v, q => .inr (v, q)
  | r + 1, v, q => if q < L ∧ 48 ≤ C q ∧ C q ≤ 57 ∧ (10 * v + (C q - 48)) * 10 ^ r ≤ hi ∧ lo ≤ (10 * v + (C q - 48)) * 10 ^ r + 10 ^ r - 1 then rdN L C hi lo r (10 * v + (C q - 48)) (q + 1) else .inl q
theorem p10 {r : Nat} (h : r ≤ 4) : 1 ≤ 10 ^ r ∧ 10 ^ r ≤ 10000 := by
  rcases (show r = 0 ∨ r = 1 ∨ r = 2 ∨ r = 3 ∨ r = 4 by omega) with rfl | rfl | rfl | rfl | rfl <;> decide
theorem neg48 : ∀ c, c < 48 → nI c - 48 < 0 := by decide +kernel
theorem neg48b : ∀ c, c < 48 → f_X2_in ((nI c - 48).toInt64) 0 9 = some 0 := by decide +kernel
section TT
variable {T : TrV} {L : Nat} {C : Nat → Nat}
theorem s_nerr (hT : tr_tln T = nI L ∧ L ≤ 120 ∧ ∀ k, k < L → tr_txt T k = nI (C k) ∧ C k ≤ 255) {kd pos : Nat} (hk : kd < 12) : ∀ (r v j fu : Nat), j + r = DDN kd → r < fu → pos + j ≤ L → v * 10 ^ r ≤ 99999 →
    f_X1_numberError_32 T (nI pos) (nI kd) fu (nI (10 ^ r)) (nI (v * 10 ^ r)) (nI j) = some (.inr (match rdN L C (GGN kd) (LLN kd) r v (pos + j) with | .inl e => nI e | .inr _ => -9))
  | r, v, j, 0, _, h, _, _ => by omega
  | 0, v, j, fu + 1, hj, _, _, _ => by
    obtain ⟨t1, -⟩ := tabs kd hk
    rw [f_X1_numberError_32, gb_in hk (by omega), nI_cl (by omega), t1, if_pos ((nI_leF (by omega) (by omega)).mpr (by omega))]
    rfl
  | r + 1, v, j, fu + 1, hj, hf, hp, hv => by
    obtain ⟨t1, t2, t3, t4, t5, t6, t7⟩ := tabs kd hk
    obtain ⟨hT1, hT2, hT3⟩ := id hT
    have h10 := p10 (show r ≤ 4 by omega)
    have e10 : 10 ^ (r + 1) = 10 * 10 ^ r := by rw [Nat.pow_succ, Nat.mul_comm]
    rw [f_X1_numberError_32, gb_in hk (by omega), nI_cl (by omega), t1, t2, t3, if_neg (by rw [nI_leF (by omega) (by omega)]; omega), nI_add, nm_e2, hT1, rdN]
    by_cases hq : pos + j < L
    · obtain ⟨g1, g2⟩ := hT3 _ hq
      rw [if_pos ((nI_ltF (by omega) (by omega)).mpr hq), gb_in (by omega) (by omega), nI_cl (by omega), g1]
      by_cases h48 : 48 ≤ C (pos + j)
      · have ed : nI (C (pos + j)) - 48 = nI (C (pos + j) - 48) := by rw [show (48 : Int32) = nI 48 from rfl, pk_sub h48]
        obtain ⟨d, hd⟩ : ∃ d, d = C (pos + j) - 48 := ⟨_, rfl⟩
        have hm := Nat.mul_le_mul (show d ≤ 255 by omega) h10.2
        have e11 : v * 10 ^ (r + 1) + d * 10 ^ r = (10 * v + d) * 10 ^ r := by rw [e10, Nat.add_mul]; congr 1; rw [← Nat.mul_assoc, Nat.mul_comm v 10]
        rw [ed, ← hd, nm_e2, show (10 : Int32) = nI 10 from rfl, nI_dv (by omega) (by omega) (by omega), e10, Nat.mul_div_cancel_left _ (by omega), nm_e2, pk_mul, ← e10, nI_add, e11, nm_e2, if_neg (nI_pos (lt31 (by omega)))]
        have hb : (10 * v + d) * 10 ^ r ≤ 3000000 := by rw [← e11]; omega
        by_cases h9 : d ≤ 9
        · rw [if_neg (by rw [show (9 : Int32) = nI 9 from rfl, nI_ltF (by omega) (by omega)]; omega), gb_in hk (by omega)]
          by_cases hG : (10 * v + d) * 10 ^ r ≤ GGN kd
          · rw [if_neg (by rw [nI_ltF (by omega) (by omega)]; omega), gb_in hk (by omega), nI_add, L1, pk_sub (by omega)]
            by_cases hL : LLN kd ≤ (10 * v + d) * 10 ^ r + 10 ^ r - 1
            · rw [if_pos ((nI_leF (by omega) (by omega)).mpr hL), nI_add, if_pos ⟨hq, h48, by omega, hG, hL⟩]
              exact s_nerr hT hk r (10 * v + d) (j + 1) fu (by omega) (by omega) (by omega) (by omega)
            · rw [if_neg (by rw [nI_leF (by omega) (by omega)]; exact hL), if_neg (fun z => hL z.2.2.2.2)]
          · rw [if_pos ((nI_ltF (by omega) (by omega)).mpr (by omega)), if_neg (fun z => hG z.2.2.2.1)]
        · rw [if_pos (by rw [show (9 : Int32) = nI 9 from rfl, nI_ltF (by omega) (by omega)]; omega), if_neg (fun z => by have := z.2.2.1; omega)]
      · rw [nm_e2, nm_e2, nm_e2, if_pos (neg48 _ (by omega)), if_neg (fun z => h48 z.2.1)]
    · rw [if_neg (by rw [nI_ltF (by omega) (by omega)]; exact hq), if_neg (fun z => hq z.1), show pos + j = L by omega]
theorem s_nerr5 (hT : tr_tln T = nI L ∧ L ≤ 120 ∧ ∀ k, k < L → tr_txt T k = nI (C k) ∧ C k ≤ 255) {kd pos : Nat} (hk : kd < 12) (hp : pos ≤ L) : ∀ (r j fu : Nat), j + r = DDN kd → r < fu →
    f_X1_numberError_5 T (nI pos) (nI kd) fu (nI (10 ^ j)) (nI j) = some (.inr (match rdN L C (GGN kd) (LLN kd) (DDN kd) 0 pos with | .inl e => nI e | .inr _ => -9))
  | r, j, 0, _, h => by omega
  | 0, j, fu + 1, hj, _ => by
    obtain ⟨t1, t2, t3, t4, t5, t6, t7⟩ := tabs kd hk
    have hjd : j = DDN kd := by omega
    rw [f_X1_numberError_5, gb_in hk (by omega), nI_cl (by omega), t1, if_pos ((nI_leF (by omega) (by omega)).mpr (by omega)), hjd]
    have h := s_nerr (pos := pos) hT hk (DDN kd) 0 0 2000 (by omega) (by omega) (by omega) (by omega)
    rw [Nat.zero_mul, Nat.add_zero] at h
    exact h
  | r + 1, j, fu + 1, hj, hf => by
    obtain ⟨t1, t2, t3, t4, t5, t6, t7⟩ := tabs kd hk
    rw [f_X1_numberError_5, gb_in hk (by omega), nI_cl (by omega), t1, if_neg (by rw [nI_leF (by omega) (by omega)]; omega), show (10 : Int32) = nI 10 from rfl, pk_mul, nm_e2, nI_s1, ← Nat.pow_succ]
    exact s_nerr5 hT hk hp r (j + 1) fu (by omega) (by omega)
theorem s_numE (hT : tr_tln T = nI L ∧ L ≤ 120 ∧ ∀ k, k < L → tr_txt T k = nI (C k) ∧ C k ≤ 255) {kd pos : Nat} (hk : kd < 12) (hp : pos ≤ L) :
    f_X1_numberError T (nI pos) (nI kd) = some (.inr (match rdN L C (GGN kd) (LLN kd) (DDN kd) 0 pos with | .inl e => nI e | .inr _ => -9)) := by
  have h := s_nerr5 hT hk hp (DDN kd) 0 2000 (by omega) (by have := (tabs kd hk).2.2.2.1; omega)
  exact h
theorem rdN_q {hi lo : Nat} : ∀ (r v q w q' : Nat), rdN L C hi lo r v q = .inr (w, q') → q' = q + r ∧ (1 ≤ r → q' ≤ L)
  | 0, v, q, w, q', h => by
    rw [rdN] at h
    cases h
    exact ⟨rfl, fun z => by omega⟩
  | r + 1, v, q, w, q', h => by
    rw [rdN] at h
    split at h
    · rename_i z
      obtain ⟨h1, h2⟩ := rdN_q r _ _ w q' h
      exact ⟨by omega, fun _ => by
        by_cases z9 : 1 ≤ r
        · exact h2 z9
        · omega⟩
    · cases h
theorem rdN_e {hi lo : Nat} : ∀ (r v q e : Nat), rdN L C hi lo r v q = .inl e → q ≤ L → e ≤ L
  | 0, v, q, e, h, _ => by
    rw [rdN] at h
    cases h
  | r + 1, v, q, e, h, hq => by
    rw [rdN] at h
    split at h
    · rename_i z
      exact rdN_e r _ _ e h (by omega)
    · cases h
      exact hq
theorem rdN_v {hi lo : Nat} : ∀ (r v q w q' : Nat), rdN L C hi lo (r + 1) v q = .inr (w, q') → lo ≤ w ∧ w ≤ hi
  | 0, v, q, w, q', h => by
    rw [rdN] at h
    split at h
    · rename_i z
      rw [rdN] at h
      cases h
      obtain ⟨-, -, -, z1, z2⟩ := z
      rw [Nat.pow_zero, Nat.mul_one] at z1 z2
      exact ⟨by omega, z1⟩
    · cases h
  | r + 1, v, q, w, q', h => by
    rw [rdN] at h
    split at h
    · exact rdN_v r _ _ w q' h
    · cases h
theorem s_nat5 (hT : tr_tln T = nI L ∧ L ≤ 120 ∧ ∀ k, k < L → tr_txt T k = nI (C k) ∧ C k ≤ 255) {hi lo pos D : Nat} (hhi : hi ≤ 9999) (hD : D ≤ 4) (hpos : pos ≤ 120) : ∀ (r v q fu w q' : Nat), q + r = pos + D → r < fu → v * 10 ^ r ≤ 99999 → rdN L C hi lo r v q = .inr (w, q') → f_X1_numberAt_5 T (nI pos) (nI D) fu (nI v) (nI q) = some (.inr (nI w))
  | r, v, q, 0, w, q', _, h, _, _ => by omega
  | 0, v, q, fu + 1, w, q', hq, _, _, h => by
    rw [rdN] at h
    cases h
    rw [f_X1_numberAt_5, nI_add, if_pos ((nI_leF (by omega) (by omega)).mpr (by omega))]
  | r + 1, v, q, fu + 1, w, q', hq, hf, hv, h => by
    obtain ⟨hT1, hT2, hT3⟩ := id hT
    rw [rdN] at h
    split at h
    · rename_i z
      obtain ⟨z1, z2, z3, z4, z5⟩ := z
      obtain ⟨g1, g2⟩ := hT3 _ z1
      rw [f_X1_numberAt_5, nI_add, if_neg (by rw [nI_leF (by omega) (by omega)]; omega), hT1, if_neg (by rw [nI_leF (by omega) (by omega)]; omega), gb_in (by omega) (by omega), nI_cl (by omega), g1, show (48 : Int32) = nI 48 from rfl, pk_sub z2, show (10 : Int32) = nI 10 from rfl, pk_mul, nI_add, nm_e2, nI_s1]
      have hb : (10 * v + (C q - 48)) * 10 ^ r ≤ 99999 := by omega
      exact s_nat5 hT hhi hD hpos r _ (q + 1) fu w q' (by omega) (by omega) hb h
    · cases h
theorem s_numA (hT : tr_tln T = nI L ∧ L ≤ 120 ∧ ∀ k, k < L → tr_txt T k = nI (C k) ∧ C k ≤ 255) {kd pos w q' : Nat} (hk : kd < 12) (hp : pos ≤ L) (h : rdN L C (GGN kd) (LLN kd) (DDN kd) 0 pos = .inr (w, q')) : f_X1_numberAt T (nI pos) (nI (DDN kd)) = some (.inr (nI w)) := by
  obtain ⟨t1, t2, t3, t4, t5, t6, t7⟩ := tabs kd hk
  have hL := hT.2.1
  exact s_nat5 hT t7 t4 (by omega) (DDN kd) 0 pos 2000 w q' rfl (by omega) (by omega) h
/-- the reference's reading state -/
def mR (M : MdV) (rd : Int32) (rw : Nat → Int32) (q : Int32) : MdV := mu_spo (mu_rrw (mu_rdn M rd) rw) q
theorem mR_spo (M : MdV) (rd : Int32) (rw : Nat → Int32) (q q' : Int32) : mu_spo (mR M rd rw q) q' = mR M rd rw q' := by
  obtain ⟨a1, a2, a3, a4, a5, a6, a7, a8, a9, a10, a11, a12, a13, a14, a15⟩ := M
  rfl
theorem mR_rrw (M : MdV) (rd : Int32) (rw rw' : Nat → Int32) (q : Int32) : mu_rrw (mR M rd rw q) rw' = mR M rd rw' q := by
  obtain ⟨a1, a2, a3, a4, a5, a6, a7, a8, a9, a10, a11, a12, a13, a14, a15⟩ := M
  rfl
theorem mR_rdn (M : MdV) (rd rd' : Int32) (rw : Nat → Int32) (q : Int32) : mu_rdn (mR M rd rw q) rd' = mR M rd' rw q := by
  obtain ⟨a1, a2, a3, a4, a5, a6, a7, a8, a9, a10, a11, a12, a13, a14, a15⟩ := M
  rfl
theorem mR_self (M : MdV) : mR M (m_rdn M) (m_rrw M) (m_spo M) = M := by
  obtain ⟨a1, a2, a3, a4, a5, a6, a7, a8, a9, a10, a11, a12, a13, a14, a15⟩ := M
  rfl
theorem mR_gspo (M : MdV) (rd : Int32) (rw : Nat → Int32) (q : Int32) : m_spo (mR M rd rw q) = q := by
  obtain ⟨a1, a2, a3, a4, a5, a6, a7, a8, a9, a10, a11, a12, a13, a14, a15⟩ := M
  rfl
theorem mR_gscs (M : MdV) (rd : Int32) (rw : Nat → Int32) (q : Int32) : m_scs (mR M rd rw q) = m_scs M := by
  obtain ⟨a1, a2, a3, a4, a5, a6, a7, a8, a9, a10, a11, a12, a13, a14, a15⟩ := M
  rfl
theorem mR_gscr (M : MdV) (rd : Int32) (rw : Nat → Int32) (q : Int32) : m_scr (mR M rd rw q) = m_scr M := by
  obtain ⟨a1, a2, a3, a4, a5, a6, a7, a8, a9, a10, a11, a12, a13, a14, a15⟩ := M
  rfl
theorem mR_grrw (M : MdV) (rd : Int32) (rw : Nat → Int32) (q : Int32) : m_rrw (mR M rd rw q) = rw := by
  obtain ⟨a1, a2, a3, a4, a5, a6, a7, a8, a9, a10, a11, a12, a13, a14, a15⟩ := M
  rfl
theorem mR_grdn (M : MdV) (rd : Int32) (rw : Nat → Int32) (q : Int32) : m_rdn (mR M rd rw q) = rd := by
  obtain ⟨a1, a2, a3, a4, a5, a6, a7, a8, a9, a10, a11, a12, a13, a14, a15⟩ := M
  rfl
/-- the answer of the reference's number -/
def nrA (M : MdV) (rd : Int32) (rw : Nat → Int32) (x : Nat ⊕ (Nat × Nat)) : Int32 × MdV := match x with
  | .inl e => (-9, mR M rd rw (nI e))
  | .inr (w, q') => (nI w, mR M rd rw (nI q'))
theorem r_num6 {M : MdV} {rd : Int32} {rw : Nat → Int32} (h1 : m_scs M = nI L) (hL : L ≤ 120) (h2 : ∀ k, k < L → m_scr M k = nI (C k) ∧ C k ≤ 255) {D lo hi : Nat} (hD : D ≤ 4) (hlo : lo ≤ 9999) (hhi : hi ≤ 9999) : ∀ (r v j q fu : Nat), j + r = D → r < fu → q ≤ L → v * 10 ^ r ≤ 99999 →
    f_X2_number_6 (nI D) (nI lo) (nI hi) fu (nI v) (nI (j + 1)) (mR M rd rw (nI q)) = some (nrA M rd rw (rdN L C hi lo r v q))
  | r, v, j, q, 0, _, h, _, _ => by omega
  | 0, v, j, q, fu + 1, hj, _, _, _ => by
    rw [f_X2_number_6, if_pos ((nI_ltF (by omega) (by omega)).mpr (by omega)), rdN]
    rfl
  | r + 1, v, j, q, fu + 1, hj, hf, hq, hv => by
    have h10 := p10 (show r ≤ 4 by omega)
    have e10 : v * 10 ^ (r + 1) = 10 * v * 10 ^ r := by rw [Nat.pow_succ, Nat.mul_comm (10 ^ r) 10, ← Nat.mul_assoc, Nat.mul_comm v 10]
    have ht : f_X2_tenTo (nI D - nI (j + 1)) = some (lN (10 ^ r)) := by
      rw [pk_sub (by omega), show D - (j + 1) = r by omega]
      rcases (show r = 0 ∨ r = 1 ∨ r = 2 ∨ r = 3 by omega) with rfl | rfl | rfl | rfl <;> decide +kernel
    rw [f_X2_number_6, if_neg (by rw [nI_ltF (by omega) (by omega)]; omega), mR_gscs, mR_gspo, mR_gscr, h1, rdN]
    by_cases hqL : q < L
    · obtain ⟨g1, g2⟩ := h2 _ hqL
      rw [if_neg (by rw [nI_leF (by omega) (by omega)]; omega), gb_in (by omega) (by omega), nI_cl (by omega), g1]
      unfold f_X2_number_40
      rw [ht, bd_some, lN_i, nm_e2, nm_e2]
      by_cases h48 : 48 ≤ C q
      · obtain ⟨d, hd⟩ : ∃ d, d = C q - 48 := ⟨_, rfl⟩
        have hm := Nat.mul_le_mul (show d ≤ 255 by omega) h10.2
        have ed : nI (C q) - 48 = nI d := by rw [show (48 : Int32) = nI 48 from rfl, pk_sub h48, ← hd]
        have hb : (10 * v + d) * 10 ^ r ≤ 3000000 := by rw [Nat.add_mul, ← e10]; omega
        rw [ed, show (10 : Int32) = nI 10 from rfl, pk_mul, nI_add, pk_mul, ← hd]
        rcases rng (p := nI d) (lo := 0) (hi := 9) (a := 0) (b := 9) (by decide) (by decide) with ⟨z1, z2⟩ | ⟨z1, z9, z3, z2⟩
        · rw [z2, bd_some, if_pos rfl, if_neg]
          · rfl
          · intro z
            unfold f_X1_checkRange at z1
            rw [if_neg (nI_pos (lt31 (by omega))), show (9 : Int32) = nI 9 from rfl, if_pos ((nI_leF (a := d) (b := 9) (by omega) (by omega)).mpr (by have := z.2.2.1; omega))] at z1
            cases z1
        · have h9 : d ≤ 9 := (nI_leF (b := 9) (by omega) (by omega)).mp z9
          rw [z2, bd_some, if_neg (show ¬ (1 : Int32) = 0 by decide)]
          by_cases hG : (10 * v + d) * 10 ^ r ≤ hi
          · rw [if_neg (by rw [nI_ltF (by omega) (by omega)]; omega), nI_add, L1, pk_sub (by omega)]
            by_cases hLo : lo ≤ (10 * v + d) * 10 ^ r + 10 ^ r - 1
            · rw [if_pos ((nI_leF (by omega) (by omega)).mpr hLo), nm_e2, mR_gspo, nI_add, nm_e2, mR_spo, nm_e2, nI_add, if_pos ⟨hqL, h48, by omega, hG, hLo⟩]
              exact r_num6 h1 hL h2 hD hlo hhi r (10 * v + d) (j + 1) (q + 1) fu (by omega) (by omega) (by omega) (by omega)
            · rw [if_neg (by rw [nI_leF (by omega) (by omega)]; exact hLo), if_neg (fun z => hLo z.2.2.2.2)]
              rfl
          · rw [if_pos ((nI_ltF (by omega) (by omega)).mpr (by omega)), if_neg (fun z => hG z.2.2.2.1)]
            rfl
      · rw [neg48b _ (by omega), bd_some, if_pos rfl, if_neg (fun z => h48 z.2.1)]
        rfl
    · rw [if_pos ((nI_leF (by omega) (by omega)).mpr (by omega)), if_neg (fun z => hqL z.1)]
      unfold f_X2_number_40
      rw [ht, bd_some, nm_e2, nm_e2, show f_X2_in ((-9 : Int32).toInt64) 0 9 = some 0 by decide +kernel, bd_some, if_pos rfl]
      rfl
theorem r_numb {M : MdV} {rd : Int32} {rw : Nat → Int32} (h1 : m_scs M = nI L) (hL : L ≤ 120) (h2 : ∀ k, k < L → m_scr M k = nI (C k) ∧ C k ≤ 255) {kd q : Nat} (hk : kd < 12) (hq : q ≤ L) : f_X2_number (mR M rd rw (nI q)) (nI (DDN kd)) (nI (LLN kd)) (nI (GGN kd)) = some (nrA M rd rw (rdN L C (GGN kd) (LLN kd) (DDN kd) 0 q)) := by
  obtain ⟨t1, t2, t3, t4, t5, t6, t7⟩ := tabs kd hk
  exact r_num6 h1 hL h2 t4 t6 t7 (DDN kd) 0 0 q 2000 (by omega) (by omega) hq (by omega)
end TT
