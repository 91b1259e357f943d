/-! misuse, and two trains asked alike -/
theorem lgz {v : Int64} : lg_cmp v v = 0 := (lg_cmp_eq v v).mpr rfl
theorem n0 {n : Nat} (h : 0 < n) (h6 : n ≤ 6) : ¬ ((0 : Int32) < 0 ∨ nI n ≤ (0 : Int32)) := not_ix (j := 0) h (by omega)
theorem nN {n : Nat} : nI n < (0 : Int32) ∨ nI n ≤ nI n := Or.inr (Int32.le_refl _)
theorem cmd9 (M : MdV) : f_X2_command M 90000 = some (0, M) := by
  unfold f_X2_command
  rw [nm_e2, nm_e2, nm_e2, nm_e2, nm_e2, if_neg (by decide), if_neg (by decide), if_neg (by decide), if_neg (by decide), if_neg (by decide), if_neg (by decide), if_neg (by decide), if_neg (by decide)]
section LE
variable {X : XV} {n : Nat} {R : Nat → Nat}
theorem scr33 {p : Int32} {q : Int64} : oqv (f_X2_runScript_33 (mC n R) p q) = .inl xR := by
  unfold f_X2_runScript_33 f_X2_runScript_34
  rw [refused_1 (by decide), bd_some]
  dsimp only
  rw [if_neg (by decide)]
  rfl
theorem scr4 : u_script n R 4 0 = .inl xR := by
  unfold u_script f_X2_runScript
  rw [show f_X2_in ((4 : Int32).toInt64) 1 3 = some 0 by decide, bd_some, if_pos rfl]
  exact scr33
theorem ten1 : f_X2_tenTo (5 * 1) = some 100000 := tenT (j := 1) (by omega)
theorem ten0 : f_X2_tenTo (5 * ((1 - 1) - 0)) = some 1 := tenT (j := 0) (by omega)
theorem scr1 : u_script n R 1 100000 = .inl xR := by
  unfold u_script f_X2_runScript
  rw [show f_X2_in ((1 : Int32).toInt64) 1 3 = some 1 by decide, bd_some, if_neg (by decide), ten1, bd_some, show f_X2_in 100000 0 (100000 - 1) = some 0 by decide, bd_some, if_pos rfl]
  exact scr33
theorem scr9 : u_script n R 1 90000 = .inr 0 := by
  have hr : RR (m_now (mu_ref (mC n R) 0)) R := fun _ _ => rfl
  obtain ⟨t1, d1, b1⟩ := r_copy (t := m_tri (mu_ref (mC n R) 0)) hr
  unfold u_script f_X2_runScript
  rw [show f_X2_in ((1 : Int32).toInt64) 1 3 = some 1 by decide, bd_some, if_neg (by decide), ten1, bd_some, show f_X2_in 90000 0 (100000 - 1) = some 1 by decide, bd_some, if_neg (by decide)]
  unfold f_X2_runScript_34
  rw [refused_0, bd_some]
  dsimp only
  rw [if_pos rfl, d1, bd_some, nm_e2]
  show oqv (f_X2_runScript_60 1 90000 (1999 + 1) 0 _) = _
  rw [f_X2_runScript_60, if_neg (by decide), ten0, bd_some, gb_t (by decide), show ((90000 / 1 - 90000 / 1 / 100000 * 100000 : Int64).toInt32) = 90000 by decide, cmd9, bd_some]
  dsimp only
  rw [if_pos rfl]
  rfl
theorem sim1 : u_simulate n R 1 100 = .inl xR := by
  unfold u_simulate f_X2_simulate
  rw [show f_X2_in ((100 : Int32).toInt64) 1 99 = some 0 by decide, bd_some, if_pos rfl]
  unfold f_X2_simulate_18
  rw [refused_1 (by decide), bd_some]
  dsimp only
  rw [if_neg (by decide)]
  rfl
theorem er_e1 (h : okX 600 X) : o_append X (-1) = some ((-9000000000000000002), X) := by
  have e : u_append X (-1) = .inl xR := by
    unfold u_append
    rw [if_pos (by first | decide | decide +kernel)]
  rw [z_append h, e]
  exact congrArg (fun v => some (v, X)) wv_R
theorem er_e2 (h : okX 600 X) : o_append X 256 = some ((-9000000000000000002), X) := by
  have e : u_append X 256 = .inl xR := by
    unfold u_append
    rw [if_pos (by first | decide | decide +kernel)]
  rw [z_append h, e]
  exact congrArg (fun v => some (v, X)) wv_R
theorem er_e3 (h : okX 600 X) : o_about X 10 = some (-9000000000000000002) := by
  have e : u_about (x_n X) (x_R X) 10 = .inl xR := by
    unfold u_about
    rw [if_pos (by first | decide | decide +kernel)]
  rw [z_about h, e]
  exact congrArg some wv_R
theorem er_e4 (h : okX 600 X) : o_total X 10 = some (-9000000000000000002) := by
  have e : u_total (x_n X) (x_R X) 10 = .inl xR := by
    unfold u_total
    rw [if_pos (by first | decide | decide +kernel)]
  rw [z_total h, e]
  exact congrArg some wv_R
theorem er_e5 (h : okX 600 X) : o_effect X (nI (x_n X)) 99 = some (-9000000000000000001) := by
  have e : u_effect (x_n X) (x_R X) (nI (x_n X)) 99 = .inl xB := by
    unfold u_effect
    rw [if_pos nN]
  rw [z_effect h, e]
  exact congrArg some wv_B
theorem er_e6 (h : okX 600 X) : o_effect X 0 10 = some (-9000000000000000002) := by
  have e : u_effect (x_n X) (x_R X) 0 10 = .inl xR := by
    unfold u_effect
    rw [if_neg (n0 (by have := h.1.1.1.1; omega) h.1.1.1.2)]
    rw [if_pos (by first | decide | decide +kernel)]
  rw [z_effect h, e]
  exact congrArg some wv_R
theorem er_e7 (h : okX 600 X) : o_neighbor X (nI (x_n X)) 1 = some (-9000000000000000001) := by
  have e : u_neighbor (x_n X) (x_R X) (nI (x_n X)) 1 = .inl xB := by
    unfold u_neighbor
    rw [if_pos nN]
  rw [z_neighbor h, e]
  exact congrArg some wv_B
theorem er_e9 (h : okX 600 X) : o_tick X 0 = some ((-9000000000000000002), X) := by
  have e : u_tick X 0 = .inl xR := by
    unfold u_tick
    rw [if_pos (by first | decide | decide +kernel)]
  rw [z_tick h, e]
  exact congrArg (fun v => some (v, X)) wv_R
theorem er_e10 (h : okX 600 X) : o_tick X 100 = some ((-9000000000000000002), X) := by
  have e : u_tick X 100 = .inl xR := by
    unfold u_tick
    rw [if_pos (by first | decide | decide +kernel)]
  rw [z_tick h, e]
  exact congrArg (fun v => some (v, X)) wv_R
theorem er_e11 (h : okX 600 X) : o_set X 5 1 = some ((-9000000000000000002), X) := by
  have e : u_set X 5 1 = .inl xR := by
    unfold u_set
    rw [if_pos (by first | decide | decide +kernel)]
  rw [z_set h, e]
  exact congrArg (fun v => some (v, X)) wv_R
theorem er_e12 (h : okX 600 X) : o_set X 0 1000 = some ((-9000000000000000002), X) := by
  have e : u_set X 0 1000 = .inl xR := by
    unfold u_set
    rw [if_neg (by first | decide | decide +kernel)]
    rw [if_pos (by first | decide | decide +kernel)]
  rw [z_set h, e]
  exact congrArg (fun v => some (v, X)) wv_R
theorem er_e13 (h : okX 600 X) : o_set X 1 (-1) = some ((-9000000000000000002), X) := by
  have e : u_set X 1 (-1) = .inl xR := by
    unfold u_set
    rw [if_neg (by first | decide | decide +kernel)]
    rw [if_pos (by first | decide | decide +kernel)]
  rw [z_set h, e]
  exact congrArg (fun v => some (v, X)) wv_R
theorem er_e14 (h : okX 600 X) : o_set X 2 100 = some ((-9000000000000000002), X) := by
  have e : u_set X 2 100 = .inl xR := by
    unfold u_set
    rw [if_neg (by first | decide | decide +kernel)]
    rw [if_pos (by first | decide | decide +kernel)]
  rw [z_set h, e]
  exact congrArg (fun v => some (v, X)) wv_R
theorem er_e15 (h : okX 600 X) : o_set X 3 100 = some ((-9000000000000000002), X) := by
  have e : u_set X 3 100 = .inl xR := by
    unfold u_set
    rw [if_neg (by first | decide | decide +kernel)]
    rw [if_pos (by first | decide | decide +kernel)]
  rw [z_set h, e]
  exact congrArg (fun v => some (v, X)) wv_R
theorem er_e16 (h : okX 600 X) : o_set X 4 0 = some ((-9000000000000000002), X) := by
  have e : u_set X 4 0 = .inl xR := by
    unfold u_set
    rw [if_neg (by first | decide | decide +kernel)]
    rw [if_pos (by first | decide | decide +kernel)]
  rw [z_set h, e]
  exact congrArg (fun v => some (v, X)) wv_R
theorem er_e17 (h : okX 600 X) : o_set X 4 21 = some ((-9000000000000000002), X) := by
  have e : u_set X 4 21 = .inl xR := by
    unfold u_set
    rw [if_neg (by first | decide | decide +kernel)]
    rw [if_pos (by first | decide | decide +kernel)]
  rw [z_set h, e]
  exact congrArg (fun v => some (v, X)) wv_R
theorem er_e18 (h : okX 600 X) : o_setValve X (nI (x_n X)) 1000 = some ((-9000000000000000001), X) := by
  have e : u_setValve X (nI (x_n X)) 1000 = .inl xB := by
    unfold u_setValve
    rw [if_pos nN]
  rw [z_setValve h, e]
  exact congrArg (fun v => some (v, X)) wv_B
theorem er_e19 (h : okX 600 X) : o_setValve X 0 1000 = some ((-9000000000000000002), X) := by
  have e : u_setValve X 0 1000 = .inl xR := by
    unfold u_setValve
    rw [if_neg (n0 (by have := h.1.1.1.1; omega) h.1.1.1.2)]
    rw [if_pos (by first | decide | decide +kernel)]
  rw [z_setValve h, e]
  exact congrArg (fun v => some (v, X)) wv_R
theorem er_e20 (h : okX 600 X) : o_setBleed X (-1) 91 = some ((-9000000000000000001), X) := by
  have e : u_setBleed X (-1) 91 = .inl xB := by
    unfold u_setBleed
    rw [if_pos (Or.inl (by decide))]
  rw [z_setBleed h, e]
  exact congrArg (fun v => some (v, X)) wv_B
theorem er_e21 (h : okX 600 X) : o_setBleed X 0 91 = some ((-9000000000000000002), X) := by
  have e : u_setBleed X 0 91 = .inl xR := by
    unfold u_setBleed
    rw [if_neg (n0 (by have := h.1.1.1.1; omega) h.1.1.1.2)]
    rw [if_pos (by first | decide | decide +kernel)]
  rw [z_setBleed h, e]
  exact congrArg (fun v => some (v, X)) wv_R
theorem er_e22 (h : okX 600 X) : o_wash X (nI (x_n X)) 0 = some ((-9000000000000000001), X) := by
  have e : u_wash X (nI (x_n X)) 0 = .inl xB := by
    unfold u_wash
    rw [if_pos nN]
  rw [z_wash h, e]
  exact congrArg (fun v => some (v, X)) wv_B
theorem er_e23 (h : okX 600 X) : o_wash X 0 21 = some ((-9000000000000000002), X) := by
  have e : u_wash X 0 21 = .inl xR := by
    unfold u_wash
    rw [if_neg (n0 (by have := h.1.1.1.1; omega) h.1.1.1.2)]
    rw [if_pos (by first | decide | decide +kernel)]
  rw [z_wash h, e]
  exact congrArg (fun v => some (v, X)) wv_R
theorem er_e24 (h : okX 600 X) : o_endWash X (nI (x_n X)) = some ((-9000000000000000001), X) := by
  have e : u_endWash X (nI (x_n X)) = .inl xB := by
    unfold u_endWash
    rw [if_pos nN]
  rw [z_endWash h, e]
  exact congrArg (fun v => some (v, X)) wv_B
theorem er_d1 (h : okX 600 X) : o_ahead X (nI (x_n X)) 1 99 = some (-9000000000000000001) := by
  have e : u_ahead (x_n X) (x_R X) (nI (x_n X)) 1 99 = .inl xB := by
    unfold u_ahead
    rw [if_pos nN]
  rw [z_ahead h, e]
  exact congrArg some wv_B
theorem er_d2 (h : okX 600 X) : o_ahead X 0 100 0 = some (-9000000000000000002) := by
  have e : u_ahead (x_n X) (x_R X) 0 100 0 = .inl xR := by
    unfold u_ahead
    rw [if_neg (n0 (by have := h.1.1.1.1; omega) h.1.1.1.2)]
    rw [if_pos (by first | decide | decide +kernel)]
  rw [z_ahead h, e]
  exact congrArg some wv_R
theorem er_d3 (h : okX 600 X) : o_ahead X 0 0 10 = some (-9000000000000000002) := by
  have e : u_ahead (x_n X) (x_R X) 0 0 10 = .inl xR := by
    unfold u_ahead
    rw [if_neg (n0 (by have := h.1.1.1.1; omega) h.1.1.1.2)]
    rw [if_neg (by first | decide | decide +kernel)]
    rw [if_pos (by first | decide | decide +kernel)]
  rw [z_ahead h, e]
  exact congrArg some wv_R
theorem er_d4 (h : okX 600 X) : o_growth X 0 0 = some (-9000000000000000002) := by
  have e : u_growth (x_n X) (x_R X) 0 0 = .inl xR := by
    unfold u_growth
    rw [if_pos (by first | decide | decide +kernel)]
  rw [z_growth h, e]
  exact congrArg some wv_R
theorem er_d5 (h : okX 600 X) : o_growth X 1 10 = some (-9000000000000000002) := by
  have e : u_growth (x_n X) (x_R X) 1 10 = .inl xR := by
    unfold u_growth
    rw [if_neg (by first | decide | decide +kernel)]
    rw [if_pos (by first | decide | decide +kernel)]
  rw [z_growth h, e]
  exact congrArg some wv_R
theorem er_d6 (h : okX 600 X) : o_washGain X (nI (x_n X)) 0 0 = some (-9000000000000000001) := by
  have e : u_washGain (x_n X) (x_R X) (nI (x_n X)) 0 0 = .inl xB := by
    unfold u_washGain
    rw [if_pos nN]
  rw [z_washGain h, e]
  exact congrArg some wv_B
theorem er_d7 (h : okX 600 X) : o_washGain X 0 1 100 = some (-9000000000000000002) := by
  have e : u_washGain (x_n X) (x_R X) 0 1 100 = .inl xR := by
    unfold u_washGain
    rw [if_neg (n0 (by have := h.1.1.1.1; omega) h.1.1.1.2)]
    rw [if_neg (by first | decide | decide +kernel)]
    rw [if_pos (by first | decide | decide +kernel)]
  rw [z_washGain h, e]
  exact congrArg some wv_R
theorem er_d8 (h : okX 600 X) : o_bestTurns X 0 1 = some (-9000000000000000002) := by
  have e : u_bestTurns (x_n X) (x_R X) 0 1 = .inl xR := by
    unfold u_bestTurns
    rw [if_pos (by first | decide | decide +kernel)]
  rw [z_bestTurns h, e]
  exact congrArg some wv_R
theorem er_d9 (h : okX 600 X) : o_bestTurns X 4 0 = some (-9000000000000000002) := by
  have e : u_bestTurns (x_n X) (x_R X) 4 0 = .inl xR := by
    unfold u_bestTurns
    rw [if_pos (by first | decide | decide +kernel)]
  rw [z_bestTurns h, e]
  exact congrArg some wv_R
theorem er_d10 (h : okX 600 X) : o_scaledAfter X (nI (x_n X)) 0 = some (-9000000000000000001) := by
  have e : u_scaledAfter (x_n X) (x_R X) (nI (x_n X)) 0 = .inl xB := by
    unfold u_scaledAfter
    rw [if_pos nN]
  rw [z_scaledAfter h, e]
  exact congrArg some wv_B
theorem er_d11 (h : okX 600 X) : o_scaledAfter X 0 100 = some (-9000000000000000002) := by
  have e : u_scaledAfter (x_n X) (x_R X) 0 100 = .inl xR := by
    unfold u_scaledAfter
    rw [if_neg (n0 (by have := h.1.1.1.1; omega) h.1.1.1.2)]
    rw [if_pos (by first | decide | decide +kernel)]
  rw [z_scaledAfter h, e]
  exact congrArg some wv_R
theorem er_d12 (h : okX 600 X) : o_steamFor X 10000 1 = some (-9000000000000000002) := by
  have e : u_steamFor (x_n X) (x_R X) 10000 1 = .inl xR := by
    unfold u_steamFor
    rw [if_pos (by first | decide | decide +kernel)]
  rw [z_steamFor h, e]
  exact congrArg some wv_R
theorem er_d13 (h : okX 600 X) : o_steamFor X 1 21 = some (-9000000000000000002) := by
  have e : u_steamFor (x_n X) (x_R X) 1 21 = .inl xR := by
    unfold u_steamFor
    rw [if_neg (by first | decide | decide +kernel)]
    rw [if_pos (by first | decide | decide +kernel)]
  rw [z_steamFor h, e]
  exact congrArg some wv_R
theorem er_d14 (h : okX 600 X) : o_script X 4 0 = some (-9000000000000000002) := by
  have e : u_script (x_n X) (x_R X) 4 0 = .inl xR := by
    exact scr4
  rw [z_script h, e]
  exact congrArg some wv_R
theorem er_d15 (h : okX 600 X) : o_script X 1 100000 = some (-9000000000000000002) := by
  have e : u_script (x_n X) (x_R X) 1 100000 = .inl xR := by
    exact scr1
  rw [z_script h, e]
  exact congrArg some wv_R
theorem er_d17 (h : okX 600 X) : o_simulate X 1 100 = some (-9000000000000000002) := by
  have e : u_simulate (x_n X) (x_R X) 1 100 = .inl xR := by
    exact sim1
  rw [z_simulate h, e]
  exact congrArg some wv_R
theorem er_d18 (h : okX 600 X) : o_save X 2 = some ((-9000000000000000001), X) := by
  have e : u_save X 2 = .inl xB := by
    unfold u_save
    rw [if_pos (by first | decide | decide +kernel)]
  rw [z_save h, e]
  exact congrArg (fun v => some (v, X)) wv_B
theorem er_d19 (h : okX 600 X) : o_restore X (-1) = some ((-9000000000000000001), X) := by
  have e : u_restore X (-1) = .inl xB := by
    unfold u_restore
    rw [if_pos (by first | decide | decide +kernel)]
  rw [z_restore h, e]
  exact congrArg (fun v => some (v, X)) wv_B
theorem er_e8 (h : okX 600 X) : o_share X (-1) = some 3239051264 := by
  rw [z_share h]
  unfold u_share
  rw [if_pos (Or.inl (by decide))]
  rfl
theorem er_d16z (h : okX 600 X) : o_script X 1 90000 = some 0 := by
  rw [z_script h, scr9]
  rfl
theorem er_w1 (h : okX 600 X) {i : Nat} (hi : i < x_n X) (h6 : x_n X ≤ 6) (e0 : x_R X (42 + i) = 0) : o_endWash X (nI i) = some ((-9000000000000000003), X) := by
  have e : u_endWash X (nI i) = .inl xS := by
    unfold u_endWash
    rw [if_neg (not_ix hi (by omega)), nI_cl (by omega), if_pos e0]
  rw [z_endWash h, e]
  exact congrArg (fun v => some (v, X)) wv_S
theorem er_w2 (h : okX 600 X) {i : Nat} (hi : i < x_n X) (h6 : x_n X ≤ 6) : o_washGain X (nI i) 0 5 = some (-9000000000000000002) := by
  have e : u_washGain (x_n X) (x_R X) (nI i) 0 5 = .inl xR := by
    unfold u_washGain
    rw [if_neg (not_ix hi (by omega)), if_pos (by decide)]
  rw [z_washGain h, e]
  exact congrArg some wv_R
theorem er_w3 (h : okX 600 X) {i : Nat} (hi : i < x_n X) (h6 : x_n X ≤ 6) (e0 : ¬ x_R X (42 + i) = 0) : o_wash X (nI i) 5 = some ((-9000000000000000003), X) := by
  have e : u_wash X (nI i) 5 = .inl xS := by
    unfold u_wash
    rw [if_neg (not_ix hi (by omega)), if_neg (by decide), nI_cl (by omega), if_neg e0]
  rw [z_wash h, e]
  exact congrArg (fun v => some (v, X)) wv_S
theorem er_w4 (h : okX 600 X) {i : Nat} (hi : i < x_n X) (h6 : x_n X ≤ 6) (e0 : ¬ x_R X (42 + i) = 0) : o_washGain X (nI i) 5 5 = some (-9000000000000000003) := by
  have e : u_washGain (x_n X) (x_R X) (nI i) 5 5 = .inl xS := by
    unfold u_washGain
    rw [if_neg (not_ix hi (by omega)), if_neg (by decide), if_neg (by decide), nI_cl (by omega), if_neg e0]
  rw [z_washGain h, e]
  exact congrArg some wv_S
theorem er_444 (h : okX 600 X) {s : Int64} (hs : f_L_now X = some s) : f_L_errors_444 s (nI (x_n X)) 1 X = some (1, X) := by
  unfold f_L_errors_444
  rw [if_neg (by decide)]
  rw [er_d1 h, bd_some]
  rw [if_pos lgz]
  rw [er_d2 h, bd_some]
  rw [if_pos lgz]
  rw [er_d3 h, bd_some]
  rw [if_pos lgz]
  rw [er_d4 h, bd_some]
  rw [if_pos lgz]
  rw [er_d5 h, bd_some]
  rw [if_pos lgz]
  rw [er_d6 h, bd_some]
  rw [if_pos lgz]
  rw [er_d7 h, bd_some]
  rw [if_pos lgz]
  rw [er_d8 h, bd_some]
  rw [if_pos lgz]
  rw [er_d9 h, bd_some]
  rw [if_pos lgz]
  rw [er_d10 h, bd_some]
  rw [if_pos lgz]
  rw [er_d11 h, bd_some]
  rw [if_pos lgz]
  rw [er_d12 h, bd_some]
  rw [if_pos lgz]
  rw [er_d13 h, bd_some]
  rw [if_pos lgz]
  rw [er_d14 h, bd_some]
  rw [if_pos lgz]
  rw [er_d15 h, bd_some]
  rw [if_pos lgz]
  rw [er_d16z h, bd_some]
  rw [if_pos lgz]
  rw [er_d17 h, bd_some]
  rw [if_pos lgz]
  rw [er_d18 h, bd_some]
  dsimp only
  rw [if_pos lgz]
  rw [er_d19 h, bd_some]
  dsimp only
  rw [if_pos lgz]
  rw [hs, bd_some, if_pos lgz]
theorem y_left (h : okX 600 X) {i : Nat} (hi : i < x_n X) : o_effect X (nI i) 7 = some (lN (x_R X (42 + i))) := by
  have e : o_effect X (nI i) 7 = some (lN (deV (x_R X) i 7)) := y_effect h hi (j := 7) (by omega)
  rw [e]
  rfl
theorem l_le0 {v : Nat} (hv : v < 2147483648) : lg_cmp (lN v) 0 ≤ 0 ↔ v = 0 := by
  rw [lg_cmp_le]
  constructor
  · intro h
    have := (pk_lLE (a := v) (b := 0) (by omega) (by omega)).mp h
    omega
  · intro h
    exact (pk_lLE (a := v) (b := 0) (by omega) (by omega)).mpr (by omega)
theorem er_342 (h : okX 600 X) {s : Int64} (hs : f_L_now X = some s) : ∀ (r i fu : Nat), i + r = x_n X → r < fu → f_L_errors_342 fu s (nI (x_n X)) 1 (nI i) X = some (1, X)
  | _, _, 0, _, hf => absurd hf (Nat.not_lt_zero _)
  | r, i, fu + 1, hi, hf => by
    have h6 := h.1.1.1.2
    rw [f_L_errors_342]
    by_cases e : r = 0
    · rw [if_pos (by rw [nI_leF (by omega) (by omega)]; omega)]
      exact er_444 h hs
    · have hi2 : i < x_n X := by omega
      have hl : x_R X (42 + i) < 2147483648 := by have := (h.1.1.2.1 i hi2).2.2.2.2.2.2; omega
      rw [if_neg (by rw [nI_leF (by omega) (by omega)]; omega), if_neg (by decide), y_left h hi2, bd_some]
      by_cases w : x_R X (42 + i) = 0
      · rw [if_pos ((l_le0 hl).mpr w), er_w1 h hi2 h6 w, bd_some]
        dsimp only
        rw [if_pos lgz, er_w2 h hi2 h6, bd_some, if_pos lgz, nI_s1]
        exact er_342 h hs (r - 1) (i + 1) fu (by omega) (by omega)
      · rw [if_neg (fun c => w ((l_le0 hl).mp c)), er_w3 h hi2 h6 w, bd_some]
        dsimp only
        rw [if_pos lgz, er_w4 h hi2 h6 w, bd_some, if_pos lgz, nI_s1]
        exact er_342 h hs (r - 1) (i + 1) fu (by omega) (by omega)
theorem m9_nn : FP.Core.val32 3239051264 ≠ .nan := by decide +kernel
theorem L_errors (h : okX 600 X) : f_L_errors X = some (1, X) := by
  obtain ⟨s, hs⟩ := L_now h
  unfold f_L_errors
  rw [hs, bd_some, L_eff h, bd_some]
  rw [er_e1 h, bd_some]
  dsimp only
  rw [if_pos lgz]
  rw [er_e2 h, bd_some]
  dsimp only
  rw [if_pos lgz]
  rw [er_e3 h, bd_some]
  rw [if_pos lgz]
  rw [er_e4 h, bd_some]
  rw [if_pos lgz]
  rw [er_e5 h, bd_some]
  rw [if_pos lgz]
  rw [er_e6 h, bd_some]
  rw [if_pos lgz]
  rw [er_e7 h, bd_some]
  rw [if_pos lgz]
  rw [er_e8 h, bd_some]
  rw [if_pos (fc_self m9_nn)]
  rw [er_e9 h, bd_some]
  dsimp only
  rw [if_pos lgz]
  rw [er_e10 h, bd_some]
  dsimp only
  rw [if_pos lgz]
  rw [er_e11 h, bd_some]
  dsimp only
  rw [if_pos lgz]
  rw [er_e12 h, bd_some]
  dsimp only
  rw [if_pos lgz]
  rw [er_e13 h, bd_some]
  dsimp only
  rw [if_pos lgz]
  rw [er_e14 h, bd_some]
  dsimp only
  rw [if_pos lgz]
  rw [er_e15 h, bd_some]
  dsimp only
  rw [if_pos lgz]
  rw [er_e16 h, bd_some]
  dsimp only
  rw [if_pos lgz]
  rw [er_e17 h, bd_some]
  dsimp only
  rw [if_pos lgz]
  rw [er_e18 h, bd_some]
  dsimp only
  rw [if_pos lgz]
  rw [er_e19 h, bd_some]
  dsimp only
  rw [if_pos lgz]
  rw [er_e20 h, bd_some]
  dsimp only
  rw [if_pos lgz]
  rw [er_e21 h, bd_some]
  dsimp only
  rw [if_pos lgz]
  rw [er_e22 h, bd_some]
  dsimp only
  rw [if_pos lgz]
  rw [er_e23 h, bd_some]
  dsimp only
  rw [if_pos lgz]
  rw [er_e24 h, bd_some]
  dsimp only
  rw [if_pos lgz]
  exact er_342 h hs (x_n X) 0 7 (Nat.zero_add _) (by have := h.1.1.1.2; omega)
theorem sh_nn (h : okX 600 X) (p : Int32) : FP.Core.val32 (wf (u_share (x_n X) (x_R X) p)) ≠ .nan := by
  unfold u_share
  by_cases c : p < 0 ∨ nI (x_n X) ≤ p
  · rw [if_pos c]
    exact m9_nn
  · rw [if_neg c]
    obtain ⟨i, hi, rfl⟩ := iE h.1.1.1.2 c
    rw [nI_cl (by have := h.1.1.1.2; omega)]
    exact (sh_ok (h.1.1.2.1 i hi).2.1).1
theorem al_339 (h : okX 600 X) (p m : Int32) (q : Int64) : f_L_alike_339 X X p m q = some 1 := by
  unfold f_L_alike_339
  rw [z_script h, bd_some, bd_some, if_pos lgz, z_simulate h, bd_some, bd_some, if_pos lgz]
theorem al_260 (h : okX 600 X) (p m : Int32) : f_L_alike_260 X X p m 1 = some 1 := by
  unfold f_L_alike_260
  rw [nm_e2, if_neg (by decide)]
  by_cases c : 0 < p - p / 4 * 4
  · rw [if_pos c]
    exact al_339 h p m _
  · rw [if_neg c, z_steamFor h, bd_some, bd_some, if_pos lgz]
    exact al_339 h p m _
theorem al_94 (h : okX 600 X) (p i m b : Int32) : f_L_alike_94 X X p i m b i (wv (u_neighbor (x_n X) (x_R X) i b)) = some 1 := by
  unfold f_L_alike_94
  rw [z_neighbor h, bd_some, if_pos lgz, z_ahead h, bd_some, bd_some, if_pos lgz, z_growth h, bd_some, bd_some, if_pos lgz, z_washGain h, bd_some, bd_some, if_pos lgz, z_scaledAfter h, bd_some, bd_some, if_pos lgz]
  rw [z_bestTurns h, bd_some, bd_some, if_pos lgz]
  rw [z_bestTurns h, bd_some, bd_some, if_pos lgz]
  exact al_260 h p m
theorem L_alike (h : okX 600 X) (p : Int32) : f_L_alike X X p = some 1 := by
  obtain ⟨s, hs⟩ := L_now h
  unfold f_L_alike
  rw [nm_e2, nm_e2, hs, bd_some, bd_some, if_pos lgz, z_errorPosition h, bd_some, bd_some, if_pos rfl, z_economy h, bd_some, bd_some, if_pos (fc_self (ec_nn _ (by have : x_R X 54 ≤ 98901 * 600 := h.1.2.2.1 0 (by omega); omega))), z_share h, bd_some, bd_some, if_pos (fc_self (sh_nn h _))]
  by_cases c : p - p / 2 * 2 = 0
  · rw [if_pos c]
    unfold f_L_alike_78
    rw [z_neighbor h, bd_some, if_pos c]
    exact al_94 h p _ _ _
  · rw [if_neg c]
    unfold f_L_alike_78
    rw [z_neighbor h, bd_some, if_neg c]
    exact al_94 h p _ _ _
end LE
