/-! a new reference object -/
def mdI : MdV := (0, 0, 0, 0, 2, 0, fun _ => 0, fun _ => 0, (upd (upd (upd (upd (upd (upd (upd (upd (fun _ => 0) 0 5) 18 50) 1 5) 19 50) 48 100) 49 90) 50 10) 52 5), fun _ => 0, fun _ => 0, fun _ => 0, fun _ => 0, fun _ => 0, fun _ => 0)
set_option maxRecDepth 100000 in
set_option maxHeartbeats 4000000 in
theorem c_X2_init (l : Launch) (D : va_G) (k : Nat → ClassId) (h0 : Nat) : Cx l D (tyK k) yX2_init wsX2_init ({ frames := 1, cells := 9, slots := 1350, locals := 30 } : Room) [.ref h0] [(h0, .inr (2, [.int 0, .null, .int 0, .int 0, .int 0, .null, .int 0, .null, .null, .null, .int 0, .null, .null, .null, .null]))] [(h0, .inr (2, [.int 0, .null, .int 0, .int 0, .int 0, .null, .int 0, .null, .null, .null, .int 0, .null, .null, .null, .null]))] (.inr (fun (ov : Option Value) (w : va_W) => ov = none ∧ ∃ a : Nat → Nat, a 0 = h0 ∧ w = mdW k a mdI)) := by
  obtain ⟨O, hO⟩ : ∃ O : Oc, O = .inr (fun (ov : Option Value) (w : va_W) => ov = none ∧ ∃ a : Nat → Nat, a 0 = h0 ∧ w = mdW k a mdI) := ⟨_, rfl⟩
  rw [← hO]
  refine Cx_of (cc := cX2_init) (maxL := 2) (ret := none) (by decide) rfl (Nat.le_of_ble_eq_true rfl) ?_
  intro p e s m args below meth c A ls hx hb hr hml hts hown hlocks hnm htab hK hG hA hP hD hS hl
  have hl : lv_has ls 2 [(0, .ref h0)] := hl
  have w_0 := hts (.methodLink RX2 1 objectInit) (by decide +kernel)
  have w_1 := hts (.instanceMethod objectInit) (by decide +kernel)
  have w_2 := hts (.code objectInit ⟨#[0xb1]⟩ 1 none) (by decide +kernel)
  have w_3 := hts (.arrayClass .int) (by decide +kernel)
  have w_4 := hts (.fieldLink RX2 7 "EffectTrainModel" "script" "[I") (by decide +kernel)
  have w_5 : ∀ w ∈ wsX20, w ∈ wsX2_init := by decide +kernel
  have w_6 := hts (.fieldLink RX2 13 "EffectTrainModel" "readRow" "[I") (by decide +kernel)
  have w_7 := hts (.fieldLink RX2 16 "EffectTrainModel" "now" "[I") (by decide +kernel)
  have w_8 := hts (.fieldLink RX2 19 "EffectTrainModel" "trial" "[I") (by decide +kernel)
  have w_9 := hts (.fieldLink RX2 22 "EffectTrainModel" "diary" "[I") (by decide +kernel)
  have w_10 := hts (.fieldLink RX2 25 "EffectTrainModel" "kept" "[I") (by decide +kernel)
  have w_11 := hts (.arrayClass .boolean) (by decide +kernel)
  have w_12 := hts (.fieldLink RX2 28 "EffectTrainModel" "isKept" "[Z") (by decide +kernel)
  have w_13 := hts (.fieldLink RX2 32 "EffectTrainModel" "flow" "[I") (by decide +kernel)
  have w_14 := hts (.fieldLink RX2 35 "EffectTrainModel" "salt" "[I") (by decide +kernel)
  have w_15 := hts (.fieldLink RX2 38 "EffectTrainModel" "n" "I") (by decide +kernel)
  refine lv_aload_n hx hb dX2_init_0 rfl (lv_at hl 0 rfl) ?_
  refine W.objInit hx hb hown w_0 w_1 w_2 rfl (by rw [hml]; exact hl.1) rfl dX2_init_1 (Nat.le_of_ble_eq_true rfl) (Nat.le_of_ble_eq_true rfl) ?_
  refine W.eq (g2 := F0 m 4 ls []) rfl ?_
  refine lv_aload_n hx hb dX2_init_4 rfl (lv_at hl 0 rfl) ?_
  refine lv_bipush (v := 120) hx hb dX2_init_5 (by decide) ?_
  refine va_newa (atype := .int) (ty := .int) (a0 := (120, .inl (fun _ => 0))) (N' := 120) hx hb w_3 rfl hK hP hD hS hA (fun _ => rfl) (by decide) (by decide) (Nat.le_of_ble_eq_true rfl) (Nat.le_of_ble_eq_true rfl) (Nat.le_of_ble_eq_true rfl) dX2_init_7 (fun q_1 cA_1 H hK1 hP hD hS => ?_)
  have ecA_1 : cA_1 = k 0 := kcls_0 hK hK1
  subst ecA_1; clear hK1
  have hP : va_P D vwCl ([(h0, .inr (2, [.int 0, .null, .int 0, .int 0, .int 0, .null, .int 0, .null, .null, .null, .int 0, .null, .null, .null, .null])), (q_1, .inl (k 0, 120, .inl (fun _ => 0)))]) H := hP
  have hD : va_D A ([(h0, .inr (2, [.int 0, .null, .int 0, .int 0, .int 0, .null, .int 0, .null, .null, .null, .int 0, .null, .null, .null, .null])), (q_1, .inl (k 0, 120, .inl (fun _ => 0)))]) := hD
  refine W.eq (g2 := F0 m 9 ls [.ref q_1, .ref h0]) rfl ?_
  refine va_putF (D := D) (ci := 2) (v := .ref q_1) (ty := .array .int) (C := RX2) (T := TX2) (N := 15) hx hb hts w_5 tyX2 tyX2_ok nmX2 hown hK hP hD hS 0 rfl rfl 1 (by decide) w_4 (fun _ h9 => h9) rfl hnm rfl (by decide +kernel) rfl rfl (Nat.le_of_ble_eq_true rfl) dX2_init_9 (fun H locs hP hD hS => ?_)
  have hP : va_P D vwCl ([(h0, .inr (2, [.int 0, .ref q_1, .int 0, .int 0, .int 0, .null, .int 0, .null, .null, .null, .int 0, .null, .null, .null, .null])), (q_1, .inl (k 0, 120, .inl (fun _ => 0)))]) H := hP
  have hD : va_D A ([(h0, .inr (2, [.int 0, .ref q_1, .int 0, .int 0, .int 0, .null, .int 0, .null, .null, .null, .int 0, .null, .null, .null, .null])), (q_1, .inl (k 0, 120, .inl (fun _ => 0)))]) := hD
  refine lv_aload_n hx hb dX2_init_12 rfl (lv_at hl 0 rfl) ?_
  refine lv_bipush (v := 64) hx hb dX2_init_13 (by decide) ?_
  refine va_newa (atype := .int) (ty := .int) (a0 := (64, .inl (fun _ => 0))) (N' := 64) hx hb w_3 rfl hK hP hD hS hA (fun _ => rfl) (by decide) (by decide) (Nat.le_of_ble_eq_true rfl) (Nat.le_of_ble_eq_true rfl) (Nat.le_of_ble_eq_true rfl) dX2_init_15 (fun q_2 cA_2 H hK1 hP hD hS => ?_)
  have ecA_2 : cA_2 = k 0 := kcls_0 hK hK1
  subst ecA_2; clear hK1
  have hP : va_P D vwCl ([(h0, .inr (2, [.int 0, .ref q_1, .int 0, .int 0, .int 0, .null, .int 0, .null, .null, .null, .int 0, .null, .null, .null, .null])), (q_1, .inl (k 0, 120, .inl (fun _ => 0))), (q_2, .inl (k 0, 64, .inl (fun _ => 0)))]) H := hP
  have hD : va_D A ([(h0, .inr (2, [.int 0, .ref q_1, .int 0, .int 0, .int 0, .null, .int 0, .null, .null, .null, .int 0, .null, .null, .null, .null])), (q_1, .inl (k 0, 120, .inl (fun _ => 0))), (q_2, .inl (k 0, 64, .inl (fun _ => 0)))]) := hD
  refine W.eq (g2 := F0 m 17 ls [.ref q_2, .ref h0]) rfl ?_
  refine va_putF (D := D) (ci := 2) (v := .ref q_2) (ty := .array .int) (C := RX2) (T := TX2) (N := 15) hx hb hts w_5 tyX2 tyX2_ok nmX2 hown hK hP hD hS 0 rfl rfl 5 (by decide) w_6 (fun _ h9 => h9) rfl hnm rfl (by decide +kernel) rfl rfl (Nat.le_of_ble_eq_true rfl) dX2_init_17 (fun H locs hP hD hS => ?_)
  have hP : va_P D vwCl ([(h0, .inr (2, [.int 0, .ref q_1, .int 0, .int 0, .int 0, .ref q_2, .int 0, .null, .null, .null, .int 0, .null, .null, .null, .null])), (q_1, .inl (k 0, 120, .inl (fun _ => 0))), (q_2, .inl (k 0, 64, .inl (fun _ => 0)))]) H := hP
  have hD : va_D A ([(h0, .inr (2, [.int 0, .ref q_1, .int 0, .int 0, .int 0, .ref q_2, .int 0, .null, .null, .null, .int 0, .null, .null, .null, .null])), (q_1, .inl (k 0, 120, .inl (fun _ => 0))), (q_2, .inl (k 0, 64, .inl (fun _ => 0)))]) := hD
  refine lv_aload_n hx hb dX2_init_20 rfl (lv_at hl 0 rfl) ?_
  refine lv_bipush (v := 64) hx hb dX2_init_21 (by decide) ?_
  refine va_newa (atype := .int) (ty := .int) (a0 := (64, .inl (fun _ => 0))) (N' := 64) hx hb w_3 rfl hK hP hD hS hA (fun _ => rfl) (by decide) (by decide) (Nat.le_of_ble_eq_true rfl) (Nat.le_of_ble_eq_true rfl) (Nat.le_of_ble_eq_true rfl) dX2_init_23 (fun q_3 cA_3 H hK1 hP hD hS => ?_)
  have ecA_3 : cA_3 = k 0 := kcls_0 hK hK1
  subst ecA_3; clear hK1
  have hP : va_P D vwCl ([(h0, .inr (2, [.int 0, .ref q_1, .int 0, .int 0, .int 0, .ref q_2, .int 0, .null, .null, .null, .int 0, .null, .null, .null, .null])), (q_1, .inl (k 0, 120, .inl (fun _ => 0))), (q_2, .inl (k 0, 64, .inl (fun _ => 0))), (q_3, .inl (k 0, 64, .inl (fun _ => 0)))]) H := hP
  have hD : va_D A ([(h0, .inr (2, [.int 0, .ref q_1, .int 0, .int 0, .int 0, .ref q_2, .int 0, .null, .null, .null, .int 0, .null, .null, .null, .null])), (q_1, .inl (k 0, 120, .inl (fun _ => 0))), (q_2, .inl (k 0, 64, .inl (fun _ => 0))), (q_3, .inl (k 0, 64, .inl (fun _ => 0)))]) := hD
  refine W.eq (g2 := F0 m 25 ls [.ref q_3, .ref h0]) rfl ?_
  refine va_putF (D := D) (ci := 2) (v := .ref q_3) (ty := .array .int) (C := RX2) (T := TX2) (N := 15) hx hb hts w_5 tyX2 tyX2_ok nmX2 hown hK hP hD hS 0 rfl rfl 7 (by decide) w_7 (fun _ h9 => h9) rfl hnm rfl (by decide +kernel) rfl rfl (Nat.le_of_ble_eq_true rfl) dX2_init_25 (fun H locs hP hD hS => ?_)
  have hP : va_P D vwCl ([(h0, .inr (2, [.int 0, .ref q_1, .int 0, .int 0, .int 0, .ref q_2, .int 0, .ref q_3, .null, .null, .int 0, .null, .null, .null, .null])), (q_1, .inl (k 0, 120, .inl (fun _ => 0))), (q_2, .inl (k 0, 64, .inl (fun _ => 0))), (q_3, .inl (k 0, 64, .inl (fun _ => 0)))]) H := hP
  have hD : va_D A ([(h0, .inr (2, [.int 0, .ref q_1, .int 0, .int 0, .int 0, .ref q_2, .int 0, .ref q_3, .null, .null, .int 0, .null, .null, .null, .null])), (q_1, .inl (k 0, 120, .inl (fun _ => 0))), (q_2, .inl (k 0, 64, .inl (fun _ => 0))), (q_3, .inl (k 0, 64, .inl (fun _ => 0)))]) := hD
  refine lv_aload_n hx hb dX2_init_28 rfl (lv_at hl 0 rfl) ?_
  refine lv_bipush (v := 64) hx hb dX2_init_29 (by decide) ?_
  refine va_newa (atype := .int) (ty := .int) (a0 := (64, .inl (fun _ => 0))) (N' := 64) hx hb w_3 rfl hK hP hD hS hA (fun _ => rfl) (by decide) (by decide) (Nat.le_of_ble_eq_true rfl) (Nat.le_of_ble_eq_true rfl) (Nat.le_of_ble_eq_true rfl) dX2_init_31 (fun q_4 cA_4 H hK1 hP hD hS => ?_)
  have ecA_4 : cA_4 = k 0 := kcls_0 hK hK1
  subst ecA_4; clear hK1
  have hP : va_P D vwCl ([(h0, .inr (2, [.int 0, .ref q_1, .int 0, .int 0, .int 0, .ref q_2, .int 0, .ref q_3, .null, .null, .int 0, .null, .null, .null, .null])), (q_1, .inl (k 0, 120, .inl (fun _ => 0))), (q_2, .inl (k 0, 64, .inl (fun _ => 0))), (q_3, .inl (k 0, 64, .inl (fun _ => 0))), (q_4, .inl (k 0, 64, .inl (fun _ => 0)))]) H := hP
  have hD : va_D A ([(h0, .inr (2, [.int 0, .ref q_1, .int 0, .int 0, .int 0, .ref q_2, .int 0, .ref q_3, .null, .null, .int 0, .null, .null, .null, .null])), (q_1, .inl (k 0, 120, .inl (fun _ => 0))), (q_2, .inl (k 0, 64, .inl (fun _ => 0))), (q_3, .inl (k 0, 64, .inl (fun _ => 0))), (q_4, .inl (k 0, 64, .inl (fun _ => 0)))]) := hD
  refine W.eq (g2 := F0 m 33 ls [.ref q_4, .ref h0]) rfl ?_
  refine va_putF (D := D) (ci := 2) (v := .ref q_4) (ty := .array .int) (C := RX2) (T := TX2) (N := 15) hx hb hts w_5 tyX2 tyX2_ok nmX2 hown hK hP hD hS 0 rfl rfl 8 (by decide) w_8 (fun _ h9 => h9) rfl hnm rfl (by decide +kernel) rfl rfl (Nat.le_of_ble_eq_true rfl) dX2_init_33 (fun H locs hP hD hS => ?_)
  have hP : va_P D vwCl ([(h0, .inr (2, [.int 0, .ref q_1, .int 0, .int 0, .int 0, .ref q_2, .int 0, .ref q_3, .ref q_4, .null, .int 0, .null, .null, .null, .null])), (q_1, .inl (k 0, 120, .inl (fun _ => 0))), (q_2, .inl (k 0, 64, .inl (fun _ => 0))), (q_3, .inl (k 0, 64, .inl (fun _ => 0))), (q_4, .inl (k 0, 64, .inl (fun _ => 0)))]) H := hP
  have hD : va_D A ([(h0, .inr (2, [.int 0, .ref q_1, .int 0, .int 0, .int 0, .ref q_2, .int 0, .ref q_3, .ref q_4, .null, .int 0, .null, .null, .null, .null])), (q_1, .inl (k 0, 120, .inl (fun _ => 0))), (q_2, .inl (k 0, 64, .inl (fun _ => 0))), (q_3, .inl (k 0, 64, .inl (fun _ => 0))), (q_4, .inl (k 0, 64, .inl (fun _ => 0)))]) := hD
  refine lv_aload_n hx hb dX2_init_36 rfl (lv_at hl 0 rfl) ?_
  refine lv_sipush (v := 896) hx hb dX2_init_37 (by decide) ?_
  refine va_newa (atype := .int) (ty := .int) (a0 := (896, .inl (fun _ => 0))) (N' := 896) hx hb w_3 rfl hK hP hD hS hA (fun _ => rfl) (by decide) (by decide) (Nat.le_of_ble_eq_true rfl) (Nat.le_of_ble_eq_true rfl) (Nat.le_of_ble_eq_true rfl) dX2_init_40 (fun q_5 cA_5 H hK1 hP hD hS => ?_)
  have ecA_5 : cA_5 = k 0 := kcls_0 hK hK1
  subst ecA_5; clear hK1
  have hP : va_P D vwCl ([(h0, .inr (2, [.int 0, .ref q_1, .int 0, .int 0, .int 0, .ref q_2, .int 0, .ref q_3, .ref q_4, .null, .int 0, .null, .null, .null, .null])), (q_1, .inl (k 0, 120, .inl (fun _ => 0))), (q_2, .inl (k 0, 64, .inl (fun _ => 0))), (q_3, .inl (k 0, 64, .inl (fun _ => 0))), (q_4, .inl (k 0, 64, .inl (fun _ => 0))), (q_5, .inl (k 0, 896, .inl (fun _ => 0)))]) H := hP
  have hD : va_D A ([(h0, .inr (2, [.int 0, .ref q_1, .int 0, .int 0, .int 0, .ref q_2, .int 0, .ref q_3, .ref q_4, .null, .int 0, .null, .null, .null, .null])), (q_1, .inl (k 0, 120, .inl (fun _ => 0))), (q_2, .inl (k 0, 64, .inl (fun _ => 0))), (q_3, .inl (k 0, 64, .inl (fun _ => 0))), (q_4, .inl (k 0, 64, .inl (fun _ => 0))), (q_5, .inl (k 0, 896, .inl (fun _ => 0)))]) := hD
  refine W.eq (g2 := F0 m 42 ls [.ref q_5, .ref h0]) rfl ?_
  refine va_putF (D := D) (ci := 2) (v := .ref q_5) (ty := .array .int) (C := RX2) (T := TX2) (N := 15) hx hb hts w_5 tyX2 tyX2_ok nmX2 hown hK hP hD hS 0 rfl rfl 9 (by decide) w_9 (fun _ h9 => h9) rfl hnm rfl (by decide +kernel) rfl rfl (Nat.le_of_ble_eq_true rfl) dX2_init_42 (fun H locs hP hD hS => ?_)
  have hP : va_P D vwCl ([(h0, .inr (2, [.int 0, .ref q_1, .int 0, .int 0, .int 0, .ref q_2, .int 0, .ref q_3, .ref q_4, .ref q_5, .int 0, .null, .null, .null, .null])), (q_1, .inl (k 0, 120, .inl (fun _ => 0))), (q_2, .inl (k 0, 64, .inl (fun _ => 0))), (q_3, .inl (k 0, 64, .inl (fun _ => 0))), (q_4, .inl (k 0, 64, .inl (fun _ => 0))), (q_5, .inl (k 0, 896, .inl (fun _ => 0)))]) H := hP
  have hD : va_D A ([(h0, .inr (2, [.int 0, .ref q_1, .int 0, .int 0, .int 0, .ref q_2, .int 0, .ref q_3, .ref q_4, .ref q_5, .int 0, .null, .null, .null, .null])), (q_1, .inl (k 0, 120, .inl (fun _ => 0))), (q_2, .inl (k 0, 64, .inl (fun _ => 0))), (q_3, .inl (k 0, 64, .inl (fun _ => 0))), (q_4, .inl (k 0, 64, .inl (fun _ => 0))), (q_5, .inl (k 0, 896, .inl (fun _ => 0)))]) := hD
  refine lv_aload_n hx hb dX2_init_45 rfl (lv_at hl 0 rfl) ?_
  refine lv_sipush (v := 128) hx hb dX2_init_46 (by decide) ?_
  refine va_newa (atype := .int) (ty := .int) (a0 := (128, .inl (fun _ => 0))) (N' := 128) hx hb w_3 rfl hK hP hD hS hA (fun _ => rfl) (by decide) (by decide) (Nat.le_of_ble_eq_true rfl) (Nat.le_of_ble_eq_true rfl) (Nat.le_of_ble_eq_true rfl) dX2_init_49 (fun q_6 cA_6 H hK1 hP hD hS => ?_)
  have ecA_6 : cA_6 = k 0 := kcls_0 hK hK1
  subst ecA_6; clear hK1
  have hP : va_P D vwCl ([(h0, .inr (2, [.int 0, .ref q_1, .int 0, .int 0, .int 0, .ref q_2, .int 0, .ref q_3, .ref q_4, .ref q_5, .int 0, .null, .null, .null, .null])), (q_1, .inl (k 0, 120, .inl (fun _ => 0))), (q_2, .inl (k 0, 64, .inl (fun _ => 0))), (q_3, .inl (k 0, 64, .inl (fun _ => 0))), (q_4, .inl (k 0, 64, .inl (fun _ => 0))), (q_5, .inl (k 0, 896, .inl (fun _ => 0))), (q_6, .inl (k 0, 128, .inl (fun _ => 0)))]) H := hP
  have hD : va_D A ([(h0, .inr (2, [.int 0, .ref q_1, .int 0, .int 0, .int 0, .ref q_2, .int 0, .ref q_3, .ref q_4, .ref q_5, .int 0, .null, .null, .null, .null])), (q_1, .inl (k 0, 120, .inl (fun _ => 0))), (q_2, .inl (k 0, 64, .inl (fun _ => 0))), (q_3, .inl (k 0, 64, .inl (fun _ => 0))), (q_4, .inl (k 0, 64, .inl (fun _ => 0))), (q_5, .inl (k 0, 896, .inl (fun _ => 0))), (q_6, .inl (k 0, 128, .inl (fun _ => 0)))]) := hD
  refine W.eq (g2 := F0 m 51 ls [.ref q_6, .ref h0]) rfl ?_
  refine va_putF (D := D) (ci := 2) (v := .ref q_6) (ty := .array .int) (C := RX2) (T := TX2) (N := 15) hx hb hts w_5 tyX2 tyX2_ok nmX2 hown hK hP hD hS 0 rfl rfl 11 (by decide) w_10 (fun _ h9 => h9) rfl hnm rfl (by decide +kernel) rfl rfl (Nat.le_of_ble_eq_true rfl) dX2_init_51 (fun H locs hP hD hS => ?_)
  have hP : va_P D vwCl ([(h0, .inr (2, [.int 0, .ref q_1, .int 0, .int 0, .int 0, .ref q_2, .int 0, .ref q_3, .ref q_4, .ref q_5, .int 0, .ref q_6, .null, .null, .null])), (q_1, .inl (k 0, 120, .inl (fun _ => 0))), (q_2, .inl (k 0, 64, .inl (fun _ => 0))), (q_3, .inl (k 0, 64, .inl (fun _ => 0))), (q_4, .inl (k 0, 64, .inl (fun _ => 0))), (q_5, .inl (k 0, 896, .inl (fun _ => 0))), (q_6, .inl (k 0, 128, .inl (fun _ => 0)))]) H := hP
  have hD : va_D A ([(h0, .inr (2, [.int 0, .ref q_1, .int 0, .int 0, .int 0, .ref q_2, .int 0, .ref q_3, .ref q_4, .ref q_5, .int 0, .ref q_6, .null, .null, .null])), (q_1, .inl (k 0, 120, .inl (fun _ => 0))), (q_2, .inl (k 0, 64, .inl (fun _ => 0))), (q_3, .inl (k 0, 64, .inl (fun _ => 0))), (q_4, .inl (k 0, 64, .inl (fun _ => 0))), (q_5, .inl (k 0, 896, .inl (fun _ => 0))), (q_6, .inl (k 0, 128, .inl (fun _ => 0)))]) := hD
  refine lv_aload_n hx hb dX2_init_54 rfl (lv_at hl 0 rfl) ?_
  refine lv_iconst (v := 2) hx hb dX2_init_55 (by decide) ?_
  refine va_newa (atype := .boolean) (ty := .boolean) (a0 := (2, .inl (fun _ => 0))) (N' := 2) hx hb w_11 rfl hK hP hD hS hA (fun _ => rfl) (by decide) (by decide) (Nat.le_of_ble_eq_true rfl) (Nat.le_of_ble_eq_true rfl) (Nat.le_of_ble_eq_true rfl) dX2_init_56 (fun q_7 cA_7 H hK1 hP hD hS => ?_)
  have ecA_7 : cA_7 = k 2 := kcls_2 hK hK1
  subst ecA_7; clear hK1
  have hP : va_P D vwCl ([(h0, .inr (2, [.int 0, .ref q_1, .int 0, .int 0, .int 0, .ref q_2, .int 0, .ref q_3, .ref q_4, .ref q_5, .int 0, .ref q_6, .null, .null, .null])), (q_1, .inl (k 0, 120, .inl (fun _ => 0))), (q_2, .inl (k 0, 64, .inl (fun _ => 0))), (q_3, .inl (k 0, 64, .inl (fun _ => 0))), (q_4, .inl (k 0, 64, .inl (fun _ => 0))), (q_5, .inl (k 0, 896, .inl (fun _ => 0))), (q_6, .inl (k 0, 128, .inl (fun _ => 0))), (q_7, .inl (k 2, 2, .inl (fun _ => 0)))]) H := hP
  have hD : va_D A ([(h0, .inr (2, [.int 0, .ref q_1, .int 0, .int 0, .int 0, .ref q_2, .int 0, .ref q_3, .ref q_4, .ref q_5, .int 0, .ref q_6, .null, .null, .null])), (q_1, .inl (k 0, 120, .inl (fun _ => 0))), (q_2, .inl (k 0, 64, .inl (fun _ => 0))), (q_3, .inl (k 0, 64, .inl (fun _ => 0))), (q_4, .inl (k 0, 64, .inl (fun _ => 0))), (q_5, .inl (k 0, 896, .inl (fun _ => 0))), (q_6, .inl (k 0, 128, .inl (fun _ => 0))), (q_7, .inl (k 2, 2, .inl (fun _ => 0)))]) := hD
  refine W.eq (g2 := F0 m 58 ls [.ref q_7, .ref h0]) rfl ?_
  refine va_putF (D := D) (ci := 2) (v := .ref q_7) (ty := .array .boolean) (C := RX2) (T := TX2) (N := 15) hx hb hts w_5 tyX2 tyX2_ok nmX2 hown hK hP hD hS 0 rfl rfl 12 (by decide) w_12 (fun _ h9 => h9) rfl hnm rfl (by decide +kernel) rfl rfl (Nat.le_of_ble_eq_true rfl) dX2_init_58 (fun H locs hP hD hS => ?_)
  have hP : va_P D vwCl ([(h0, .inr (2, [.int 0, .ref q_1, .int 0, .int 0, .int 0, .ref q_2, .int 0, .ref q_3, .ref q_4, .ref q_5, .int 0, .ref q_6, .ref q_7, .null, .null])), (q_1, .inl (k 0, 120, .inl (fun _ => 0))), (q_2, .inl (k 0, 64, .inl (fun _ => 0))), (q_3, .inl (k 0, 64, .inl (fun _ => 0))), (q_4, .inl (k 0, 64, .inl (fun _ => 0))), (q_5, .inl (k 0, 896, .inl (fun _ => 0))), (q_6, .inl (k 0, 128, .inl (fun _ => 0))), (q_7, .inl (k 2, 2, .inl (fun _ => 0)))]) H := hP
  have hD : va_D A ([(h0, .inr (2, [.int 0, .ref q_1, .int 0, .int 0, .int 0, .ref q_2, .int 0, .ref q_3, .ref q_4, .ref q_5, .int 0, .ref q_6, .ref q_7, .null, .null])), (q_1, .inl (k 0, 120, .inl (fun _ => 0))), (q_2, .inl (k 0, 64, .inl (fun _ => 0))), (q_3, .inl (k 0, 64, .inl (fun _ => 0))), (q_4, .inl (k 0, 64, .inl (fun _ => 0))), (q_5, .inl (k 0, 896, .inl (fun _ => 0))), (q_6, .inl (k 0, 128, .inl (fun _ => 0))), (q_7, .inl (k 2, 2, .inl (fun _ => 0)))]) := hD
  refine lv_aload_n hx hb dX2_init_61 rfl (lv_at hl 0 rfl) ?_
  refine lv_bipush (v := 6) hx hb dX2_init_62 (by decide) ?_
  refine va_newa (atype := .int) (ty := .int) (a0 := (6, .inl (fun _ => 0))) (N' := 6) hx hb w_3 rfl hK hP hD hS hA (fun _ => rfl) (by decide) (by decide) (Nat.le_of_ble_eq_true rfl) (Nat.le_of_ble_eq_true rfl) (Nat.le_of_ble_eq_true rfl) dX2_init_64 (fun q_8 cA_8 H hK1 hP hD hS => ?_)
  have ecA_8 : cA_8 = k 0 := kcls_0 hK hK1
  subst ecA_8; clear hK1
  have hP : va_P D vwCl ([(h0, .inr (2, [.int 0, .ref q_1, .int 0, .int 0, .int 0, .ref q_2, .int 0, .ref q_3, .ref q_4, .ref q_5, .int 0, .ref q_6, .ref q_7, .null, .null])), (q_1, .inl (k 0, 120, .inl (fun _ => 0))), (q_2, .inl (k 0, 64, .inl (fun _ => 0))), (q_3, .inl (k 0, 64, .inl (fun _ => 0))), (q_4, .inl (k 0, 64, .inl (fun _ => 0))), (q_5, .inl (k 0, 896, .inl (fun _ => 0))), (q_6, .inl (k 0, 128, .inl (fun _ => 0))), (q_7, .inl (k 2, 2, .inl (fun _ => 0))), (q_8, .inl (k 0, 6, .inl (fun _ => 0)))]) H := hP
  have hD : va_D A ([(h0, .inr (2, [.int 0, .ref q_1, .int 0, .int 0, .int 0, .ref q_2, .int 0, .ref q_3, .ref q_4, .ref q_5, .int 0, .ref q_6, .ref q_7, .null, .null])), (q_1, .inl (k 0, 120, .inl (fun _ => 0))), (q_2, .inl (k 0, 64, .inl (fun _ => 0))), (q_3, .inl (k 0, 64, .inl (fun _ => 0))), (q_4, .inl (k 0, 64, .inl (fun _ => 0))), (q_5, .inl (k 0, 896, .inl (fun _ => 0))), (q_6, .inl (k 0, 128, .inl (fun _ => 0))), (q_7, .inl (k 2, 2, .inl (fun _ => 0))), (q_8, .inl (k 0, 6, .inl (fun _ => 0)))]) := hD
  refine W.eq (g2 := F0 m 66 ls [.ref q_8, .ref h0]) rfl ?_
  refine va_putF (D := D) (ci := 2) (v := .ref q_8) (ty := .array .int) (C := RX2) (T := TX2) (N := 15) hx hb hts w_5 tyX2 tyX2_ok nmX2 hown hK hP hD hS 0 rfl rfl 13 (by decide) w_13 (fun _ h9 => h9) rfl hnm rfl (by decide +kernel) rfl rfl (Nat.le_of_ble_eq_true rfl) dX2_init_66 (fun H locs hP hD hS => ?_)
  have hP : va_P D vwCl ([(h0, .inr (2, [.int 0, .ref q_1, .int 0, .int 0, .int 0, .ref q_2, .int 0, .ref q_3, .ref q_4, .ref q_5, .int 0, .ref q_6, .ref q_7, .ref q_8, .null])), (q_1, .inl (k 0, 120, .inl (fun _ => 0))), (q_2, .inl (k 0, 64, .inl (fun _ => 0))), (q_3, .inl (k 0, 64, .inl (fun _ => 0))), (q_4, .inl (k 0, 64, .inl (fun _ => 0))), (q_5, .inl (k 0, 896, .inl (fun _ => 0))), (q_6, .inl (k 0, 128, .inl (fun _ => 0))), (q_7, .inl (k 2, 2, .inl (fun _ => 0))), (q_8, .inl (k 0, 6, .inl (fun _ => 0)))]) H := hP
  have hD : va_D A ([(h0, .inr (2, [.int 0, .ref q_1, .int 0, .int 0, .int 0, .ref q_2, .int 0, .ref q_3, .ref q_4, .ref q_5, .int 0, .ref q_6, .ref q_7, .ref q_8, .null])), (q_1, .inl (k 0, 120, .inl (fun _ => 0))), (q_2, .inl (k 0, 64, .inl (fun _ => 0))), (q_3, .inl (k 0, 64, .inl (fun _ => 0))), (q_4, .inl (k 0, 64, .inl (fun _ => 0))), (q_5, .inl (k 0, 896, .inl (fun _ => 0))), (q_6, .inl (k 0, 128, .inl (fun _ => 0))), (q_7, .inl (k 2, 2, .inl (fun _ => 0))), (q_8, .inl (k 0, 6, .inl (fun _ => 0)))]) := hD
  refine lv_aload_n hx hb dX2_init_69 rfl (lv_at hl 0 rfl) ?_
  refine lv_bipush (v := 6) hx hb dX2_init_70 (by decide) ?_
  refine va_newa (atype := .int) (ty := .int) (a0 := (6, .inl (fun _ => 0))) (N' := 6) hx hb w_3 rfl hK hP hD hS hA (fun _ => rfl) (by decide) (by decide) (Nat.le_of_ble_eq_true rfl) (Nat.le_of_ble_eq_true rfl) (Nat.le_of_ble_eq_true rfl) dX2_init_72 (fun q_9 cA_9 H hK1 hP hD hS => ?_)
  have ecA_9 : cA_9 = k 0 := kcls_0 hK hK1
  subst ecA_9; clear hK1
  have hP : va_P D vwCl ([(h0, .inr (2, [.int 0, .ref q_1, .int 0, .int 0, .int 0, .ref q_2, .int 0, .ref q_3, .ref q_4, .ref q_5, .int 0, .ref q_6, .ref q_7, .ref q_8, .null])), (q_1, .inl (k 0, 120, .inl (fun _ => 0))), (q_2, .inl (k 0, 64, .inl (fun _ => 0))), (q_3, .inl (k 0, 64, .inl (fun _ => 0))), (q_4, .inl (k 0, 64, .inl (fun _ => 0))), (q_5, .inl (k 0, 896, .inl (fun _ => 0))), (q_6, .inl (k 0, 128, .inl (fun _ => 0))), (q_7, .inl (k 2, 2, .inl (fun _ => 0))), (q_8, .inl (k 0, 6, .inl (fun _ => 0))), (q_9, .inl (k 0, 6, .inl (fun _ => 0)))]) H := hP
  have hD : va_D A ([(h0, .inr (2, [.int 0, .ref q_1, .int 0, .int 0, .int 0, .ref q_2, .int 0, .ref q_3, .ref q_4, .ref q_5, .int 0, .ref q_6, .ref q_7, .ref q_8, .null])), (q_1, .inl (k 0, 120, .inl (fun _ => 0))), (q_2, .inl (k 0, 64, .inl (fun _ => 0))), (q_3, .inl (k 0, 64, .inl (fun _ => 0))), (q_4, .inl (k 0, 64, .inl (fun _ => 0))), (q_5, .inl (k 0, 896, .inl (fun _ => 0))), (q_6, .inl (k 0, 128, .inl (fun _ => 0))), (q_7, .inl (k 2, 2, .inl (fun _ => 0))), (q_8, .inl (k 0, 6, .inl (fun _ => 0))), (q_9, .inl (k 0, 6, .inl (fun _ => 0)))]) := hD
  refine W.eq (g2 := F0 m 74 ls [.ref q_9, .ref h0]) rfl ?_
  refine va_putF (D := D) (ci := 2) (v := .ref q_9) (ty := .array .int) (C := RX2) (T := TX2) (N := 15) hx hb hts w_5 tyX2 tyX2_ok nmX2 hown hK hP hD hS 0 rfl rfl 14 (by decide) w_14 (fun _ h9 => h9) rfl hnm rfl (by decide +kernel) rfl rfl (Nat.le_of_ble_eq_true rfl) dX2_init_74 (fun H locs hP hD hS => ?_)
  have hP : va_P D vwCl ([(h0, .inr (2, [.int 0, .ref q_1, .int 0, .int 0, .int 0, .ref q_2, .int 0, .ref q_3, .ref q_4, .ref q_5, .int 0, .ref q_6, .ref q_7, .ref q_8, .ref q_9])), (q_1, .inl (k 0, 120, .inl (fun _ => 0))), (q_2, .inl (k 0, 64, .inl (fun _ => 0))), (q_3, .inl (k 0, 64, .inl (fun _ => 0))), (q_4, .inl (k 0, 64, .inl (fun _ => 0))), (q_5, .inl (k 0, 896, .inl (fun _ => 0))), (q_6, .inl (k 0, 128, .inl (fun _ => 0))), (q_7, .inl (k 2, 2, .inl (fun _ => 0))), (q_8, .inl (k 0, 6, .inl (fun _ => 0))), (q_9, .inl (k 0, 6, .inl (fun _ => 0)))]) H := hP
  have hD : va_D A ([(h0, .inr (2, [.int 0, .ref q_1, .int 0, .int 0, .int 0, .ref q_2, .int 0, .ref q_3, .ref q_4, .ref q_5, .int 0, .ref q_6, .ref q_7, .ref q_8, .ref q_9])), (q_1, .inl (k 0, 120, .inl (fun _ => 0))), (q_2, .inl (k 0, 64, .inl (fun _ => 0))), (q_3, .inl (k 0, 64, .inl (fun _ => 0))), (q_4, .inl (k 0, 64, .inl (fun _ => 0))), (q_5, .inl (k 0, 896, .inl (fun _ => 0))), (q_6, .inl (k 0, 128, .inl (fun _ => 0))), (q_7, .inl (k 2, 2, .inl (fun _ => 0))), (q_8, .inl (k 0, 6, .inl (fun _ => 0))), (q_9, .inl (k 0, 6, .inl (fun _ => 0)))]) := hD
  refine lv_aload_n hx hb dX2_init_77 rfl (lv_at hl 0 rfl) ?_
  refine lv_iconst (v := 2) hx hb dX2_init_78 (by decide) ?_
  refine va_put (D := D) (ci := 2) (v := .int 2) (ty := .int) (C := RX2) (T := TX2) (N := 15) hx hb hts w_5 tyX2 tyX2_ok nmX2 hown hK hP hD hS 0 rfl rfl 6 (by decide) w_15 (fun _ h9 => h9) rfl (by decide +kernel) rfl rfl (Nat.le_of_ble_eq_true rfl) dX2_init_79 (fun H locs hP hD hS => ?_)
  have hP : va_P D vwCl ([(h0, .inr (2, [.int 0, .ref q_1, .int 0, .int 0, .int 0, .ref q_2, .int 2, .ref q_3, .ref q_4, .ref q_5, .int 0, .ref q_6, .ref q_7, .ref q_8, .ref q_9])), (q_1, .inl (k 0, 120, .inl (fun _ => 0))), (q_2, .inl (k 0, 64, .inl (fun _ => 0))), (q_3, .inl (k 0, 64, .inl (fun _ => 0))), (q_4, .inl (k 0, 64, .inl (fun _ => 0))), (q_5, .inl (k 0, 896, .inl (fun _ => 0))), (q_6, .inl (k 0, 128, .inl (fun _ => 0))), (q_7, .inl (k 2, 2, .inl (fun _ => 0))), (q_8, .inl (k 0, 6, .inl (fun _ => 0))), (q_9, .inl (k 0, 6, .inl (fun _ => 0)))]) H := hP
  have hD : va_D A ([(h0, .inr (2, [.int 0, .ref q_1, .int 0, .int 0, .int 0, .ref q_2, .int 2, .ref q_3, .ref q_4, .ref q_5, .int 0, .ref q_6, .ref q_7, .ref q_8, .ref q_9])), (q_1, .inl (k 0, 120, .inl (fun _ => 0))), (q_2, .inl (k 0, 64, .inl (fun _ => 0))), (q_3, .inl (k 0, 64, .inl (fun _ => 0))), (q_4, .inl (k 0, 64, .inl (fun _ => 0))), (q_5, .inl (k 0, 896, .inl (fun _ => 0))), (q_6, .inl (k 0, 128, .inl (fun _ => 0))), (q_7, .inl (k 2, 2, .inl (fun _ => 0))), (q_8, .inl (k 0, 6, .inl (fun _ => 0))), (q_9, .inl (k 0, 6, .inl (fun _ => 0)))]) := hD
  refine lv_iconst (v := 0) hx hb dX2_init_82 (by decide) ?_
  refine lv_istore_n (lv' := [(1, .int 0), (0, .ref h0)]) hx hb dX2_init_83 rfl hl (by decide) rfl (fun ls hl => ?_)
  refine lv_iload_n hx hb dX2_init_84 rfl (lv_at hl 0 rfl) ?_
  refine lv_iconst (v := 2) hx hb dX2_init_85 (by decide) ?_
  refine lv_icmp_ge (tgt := 115) hx hb dX2_init_86 (by decide) (fun c9 => absurd c9 (by decide)) (fun c9 => ?_)
  refine lv_aload_n hx hb dX2_init_89 rfl (lv_at hl 1 rfl) ?_
  refine va_get (D := D) (ci := 2) (v := .ref q_3) (C := RX2) (T := TX2) (N := 15) hx hb hts w_5 hown hK hP 0 rfl rfl 7 (by decide) w_7 (fun _ h9 => h9) rfl dX2_init_90 ?_
  refine lv_iconst (v := 0) hx hb dX2_init_93 (by decide) ?_
  refine lv_iload_n hx hb dX2_init_94 rfl (lv_at hl 0 rfl) ?_
  refine lv_iadd hx hb dX2_init_95 ?_
  refine W.eq (g2 := F0 m 96 ls [.int 0, .ref q_3]) (by rw [show (0 + 0 : Int32) = 0 by decide]) ?_
  refine lv_iconst (v := 5) hx hb dX2_init_96 (by decide) ?_
  refine va_iast hx hb hK hP hD hS 3 0 rfl rfl (inb_vp (by decide)) dX2_init_97 (fun H locs hP hD hS => ?_)
  have hP : va_P D vwCl ([(h0, .inr (2, [.int 0, .ref q_1, .int 0, .int 0, .int 0, .ref q_2, .int 2, .ref q_3, .ref q_4, .ref q_5, .int 0, .ref q_6, .ref q_7, .ref q_8, .ref q_9])), (q_1, .inl (k 0, 120, .inl (fun _ => 0))), (q_2, .inl (k 0, 64, .inl (fun _ => 0))), (q_3, .inl (k 0, 64, .inl (upd (fun _ => 0) 0 5))), (q_4, .inl (k 0, 64, .inl (fun _ => 0))), (q_5, .inl (k 0, 896, .inl (fun _ => 0))), (q_6, .inl (k 0, 128, .inl (fun _ => 0))), (q_7, .inl (k 2, 2, .inl (fun _ => 0))), (q_8, .inl (k 0, 6, .inl (fun _ => 0))), (q_9, .inl (k 0, 6, .inl (fun _ => 0)))]) H := hP
  have hD : va_D A ([(h0, .inr (2, [.int 0, .ref q_1, .int 0, .int 0, .int 0, .ref q_2, .int 2, .ref q_3, .ref q_4, .ref q_5, .int 0, .ref q_6, .ref q_7, .ref q_8, .ref q_9])), (q_1, .inl (k 0, 120, .inl (fun _ => 0))), (q_2, .inl (k 0, 64, .inl (fun _ => 0))), (q_3, .inl (k 0, 64, .inl (upd (fun _ => 0) 0 5))), (q_4, .inl (k 0, 64, .inl (fun _ => 0))), (q_5, .inl (k 0, 896, .inl (fun _ => 0))), (q_6, .inl (k 0, 128, .inl (fun _ => 0))), (q_7, .inl (k 2, 2, .inl (fun _ => 0))), (q_8, .inl (k 0, 6, .inl (fun _ => 0))), (q_9, .inl (k 0, 6, .inl (fun _ => 0)))]) := hD
  refine W.eq (g2 := F0 m 98 ls []) rfl ?_
  refine lv_aload_n hx hb dX2_init_98 rfl (lv_at hl 1 rfl) ?_
  refine va_get (D := D) (ci := 2) (v := .ref q_3) (C := RX2) (T := TX2) (N := 15) hx hb hts w_5 hown hK hP 0 rfl rfl 7 (by decide) w_7 (fun _ h9 => h9) rfl dX2_init_99 ?_
  refine lv_bipush (v := 18) hx hb dX2_init_102 (by decide) ?_
  refine lv_iload_n hx hb dX2_init_104 rfl (lv_at hl 0 rfl) ?_
  refine lv_iadd hx hb dX2_init_105 ?_
  refine W.eq (g2 := F0 m 106 ls [.int 18, .ref q_3]) (by rw [show (18 + 0 : Int32) = 18 by decide]) ?_
  refine lv_bipush (v := 50) hx hb dX2_init_106 (by decide) ?_
  refine va_iast hx hb hK hP hD hS 3 0 rfl rfl (inb_vp (by decide)) dX2_init_108 (fun H locs hP hD hS => ?_)
  have hP : va_P D vwCl ([(h0, .inr (2, [.int 0, .ref q_1, .int 0, .int 0, .int 0, .ref q_2, .int 2, .ref q_3, .ref q_4, .ref q_5, .int 0, .ref q_6, .ref q_7, .ref q_8, .ref q_9])), (q_1, .inl (k 0, 120, .inl (fun _ => 0))), (q_2, .inl (k 0, 64, .inl (fun _ => 0))), (q_3, .inl (k 0, 64, .inl (upd (upd (fun _ => 0) 0 5) 18 50))), (q_4, .inl (k 0, 64, .inl (fun _ => 0))), (q_5, .inl (k 0, 896, .inl (fun _ => 0))), (q_6, .inl (k 0, 128, .inl (fun _ => 0))), (q_7, .inl (k 2, 2, .inl (fun _ => 0))), (q_8, .inl (k 0, 6, .inl (fun _ => 0))), (q_9, .inl (k 0, 6, .inl (fun _ => 0)))]) H := hP
  have hD : va_D A ([(h0, .inr (2, [.int 0, .ref q_1, .int 0, .int 0, .int 0, .ref q_2, .int 2, .ref q_3, .ref q_4, .ref q_5, .int 0, .ref q_6, .ref q_7, .ref q_8, .ref q_9])), (q_1, .inl (k 0, 120, .inl (fun _ => 0))), (q_2, .inl (k 0, 64, .inl (fun _ => 0))), (q_3, .inl (k 0, 64, .inl (upd (upd (fun _ => 0) 0 5) 18 50))), (q_4, .inl (k 0, 64, .inl (fun _ => 0))), (q_5, .inl (k 0, 896, .inl (fun _ => 0))), (q_6, .inl (k 0, 128, .inl (fun _ => 0))), (q_7, .inl (k 2, 2, .inl (fun _ => 0))), (q_8, .inl (k 0, 6, .inl (fun _ => 0))), (q_9, .inl (k 0, 6, .inl (fun _ => 0)))]) := hD
  refine W.eq (g2 := F0 m 109 ls []) rfl ?_
  refine lv_iinc (v := 1) (lv' := [(1, .int 1), (0, .ref h0)]) hx hb dX2_init_109 hl (k := 0) rfl (by decide) (by decide) rfl (fun ls hl => ?_)
  refine lv_goto (tgt := 84) hx hb dX2_init_112 (by decide) ?_
  refine lv_iload_n hx hb dX2_init_84 rfl (lv_at hl 0 rfl) ?_
  refine lv_iconst (v := 2) hx hb dX2_init_85 (by decide) ?_
  refine lv_icmp_ge (tgt := 115) hx hb dX2_init_86 (by decide) (fun c9 => absurd c9 (by decide)) (fun c9 => ?_)
  refine lv_aload_n hx hb dX2_init_89 rfl (lv_at hl 1 rfl) ?_
  refine va_get (D := D) (ci := 2) (v := .ref q_3) (C := RX2) (T := TX2) (N := 15) hx hb hts w_5 hown hK hP 0 rfl rfl 7 (by decide) w_7 (fun _ h9 => h9) rfl dX2_init_90 ?_
  refine lv_iconst (v := 0) hx hb dX2_init_93 (by decide) ?_
  refine lv_iload_n hx hb dX2_init_94 rfl (lv_at hl 0 rfl) ?_
  refine lv_iadd hx hb dX2_init_95 ?_
  refine W.eq (g2 := F0 m 96 ls [.int 1, .ref q_3]) (by rw [show (0 + 1 : Int32) = 1 by decide]) ?_
  refine lv_iconst (v := 5) hx hb dX2_init_96 (by decide) ?_
  refine va_iast hx hb hK hP hD hS 3 0 rfl rfl (inb_vp (by decide)) dX2_init_97 (fun H locs hP hD hS => ?_)
  have hP : va_P D vwCl ([(h0, .inr (2, [.int 0, .ref q_1, .int 0, .int 0, .int 0, .ref q_2, .int 2, .ref q_3, .ref q_4, .ref q_5, .int 0, .ref q_6, .ref q_7, .ref q_8, .ref q_9])), (q_1, .inl (k 0, 120, .inl (fun _ => 0))), (q_2, .inl (k 0, 64, .inl (fun _ => 0))), (q_3, .inl (k 0, 64, .inl (upd (upd (upd (fun _ => 0) 0 5) 18 50) 1 5))), (q_4, .inl (k 0, 64, .inl (fun _ => 0))), (q_5, .inl (k 0, 896, .inl (fun _ => 0))), (q_6, .inl (k 0, 128, .inl (fun _ => 0))), (q_7, .inl (k 2, 2, .inl (fun _ => 0))), (q_8, .inl (k 0, 6, .inl (fun _ => 0))), (q_9, .inl (k 0, 6, .inl (fun _ => 0)))]) H := hP
  have hD : va_D A ([(h0, .inr (2, [.int 0, .ref q_1, .int 0, .int 0, .int 0, .ref q_2, .int 2, .ref q_3, .ref q_4, .ref q_5, .int 0, .ref q_6, .ref q_7, .ref q_8, .ref q_9])), (q_1, .inl (k 0, 120, .inl (fun _ => 0))), (q_2, .inl (k 0, 64, .inl (fun _ => 0))), (q_3, .inl (k 0, 64, .inl (upd (upd (upd (fun _ => 0) 0 5) 18 50) 1 5))), (q_4, .inl (k 0, 64, .inl (fun _ => 0))), (q_5, .inl (k 0, 896, .inl (fun _ => 0))), (q_6, .inl (k 0, 128, .inl (fun _ => 0))), (q_7, .inl (k 2, 2, .inl (fun _ => 0))), (q_8, .inl (k 0, 6, .inl (fun _ => 0))), (q_9, .inl (k 0, 6, .inl (fun _ => 0)))]) := hD
  refine W.eq (g2 := F0 m 98 ls []) rfl ?_
  refine lv_aload_n hx hb dX2_init_98 rfl (lv_at hl 1 rfl) ?_
  refine va_get (D := D) (ci := 2) (v := .ref q_3) (C := RX2) (T := TX2) (N := 15) hx hb hts w_5 hown hK hP 0 rfl rfl 7 (by decide) w_7 (fun _ h9 => h9) rfl dX2_init_99 ?_
  refine lv_bipush (v := 18) hx hb dX2_init_102 (by decide) ?_
  refine lv_iload_n hx hb dX2_init_104 rfl (lv_at hl 0 rfl) ?_
  refine lv_iadd hx hb dX2_init_105 ?_
  refine W.eq (g2 := F0 m 106 ls [.int 19, .ref q_3]) (by rw [show (18 + 1 : Int32) = 19 by decide]) ?_
  refine lv_bipush (v := 50) hx hb dX2_init_106 (by decide) ?_
  refine va_iast hx hb hK hP hD hS 3 0 rfl rfl (inb_vp (by decide)) dX2_init_108 (fun H locs hP hD hS => ?_)
  have hP : va_P D vwCl ([(h0, .inr (2, [.int 0, .ref q_1, .int 0, .int 0, .int 0, .ref q_2, .int 2, .ref q_3, .ref q_4, .ref q_5, .int 0, .ref q_6, .ref q_7, .ref q_8, .ref q_9])), (q_1, .inl (k 0, 120, .inl (fun _ => 0))), (q_2, .inl (k 0, 64, .inl (fun _ => 0))), (q_3, .inl (k 0, 64, .inl (upd (upd (upd (upd (fun _ => 0) 0 5) 18 50) 1 5) 19 50))), (q_4, .inl (k 0, 64, .inl (fun _ => 0))), (q_5, .inl (k 0, 896, .inl (fun _ => 0))), (q_6, .inl (k 0, 128, .inl (fun _ => 0))), (q_7, .inl (k 2, 2, .inl (fun _ => 0))), (q_8, .inl (k 0, 6, .inl (fun _ => 0))), (q_9, .inl (k 0, 6, .inl (fun _ => 0)))]) H := hP
  have hD : va_D A ([(h0, .inr (2, [.int 0, .ref q_1, .int 0, .int 0, .int 0, .ref q_2, .int 2, .ref q_3, .ref q_4, .ref q_5, .int 0, .ref q_6, .ref q_7, .ref q_8, .ref q_9])), (q_1, .inl (k 0, 120, .inl (fun _ => 0))), (q_2, .inl (k 0, 64, .inl (fun _ => 0))), (q_3, .inl (k 0, 64, .inl (upd (upd (upd (upd (fun _ => 0) 0 5) 18 50) 1 5) 19 50))), (q_4, .inl (k 0, 64, .inl (fun _ => 0))), (q_5, .inl (k 0, 896, .inl (fun _ => 0))), (q_6, .inl (k 0, 128, .inl (fun _ => 0))), (q_7, .inl (k 2, 2, .inl (fun _ => 0))), (q_8, .inl (k 0, 6, .inl (fun _ => 0))), (q_9, .inl (k 0, 6, .inl (fun _ => 0)))]) := hD
  refine W.eq (g2 := F0 m 109 ls []) rfl ?_
  refine lv_iinc (v := 2) (lv' := [(1, .int 2), (0, .ref h0)]) hx hb dX2_init_109 hl (k := 0) rfl (by decide) (by decide) rfl (fun ls hl => ?_)
  refine lv_goto (tgt := 84) hx hb dX2_init_112 (by decide) ?_
  refine lv_iload_n hx hb dX2_init_84 rfl (lv_at hl 0 rfl) ?_
  refine lv_iconst (v := 2) hx hb dX2_init_85 (by decide) ?_
  refine lv_icmp_ge (tgt := 115) hx hb dX2_init_86 (by decide) (fun c9 => ?_) (fun c9 => absurd (by decide) c9)
  refine lv_aload_n hx hb dX2_init_115 rfl (lv_at hl 1 rfl) ?_
  refine va_get (D := D) (ci := 2) (v := .ref q_3) (C := RX2) (T := TX2) (N := 15) hx hb hts w_5 hown hK hP 0 rfl rfl 7 (by decide) w_7 (fun _ h9 => h9) rfl dX2_init_116 ?_
  refine lv_bipush (v := 48) hx hb dX2_init_119 (by decide) ?_
  refine lv_bipush (v := 100) hx hb dX2_init_121 (by decide) ?_
  refine va_iast hx hb hK hP hD hS 3 0 rfl rfl (inb_vp (by decide)) dX2_init_123 (fun H locs hP hD hS => ?_)
  have hP : va_P D vwCl ([(h0, .inr (2, [.int 0, .ref q_1, .int 0, .int 0, .int 0, .ref q_2, .int 2, .ref q_3, .ref q_4, .ref q_5, .int 0, .ref q_6, .ref q_7, .ref q_8, .ref q_9])), (q_1, .inl (k 0, 120, .inl (fun _ => 0))), (q_2, .inl (k 0, 64, .inl (fun _ => 0))), (q_3, .inl (k 0, 64, .inl (upd (upd (upd (upd (upd (fun _ => 0) 0 5) 18 50) 1 5) 19 50) 48 100))), (q_4, .inl (k 0, 64, .inl (fun _ => 0))), (q_5, .inl (k 0, 896, .inl (fun _ => 0))), (q_6, .inl (k 0, 128, .inl (fun _ => 0))), (q_7, .inl (k 2, 2, .inl (fun _ => 0))), (q_8, .inl (k 0, 6, .inl (fun _ => 0))), (q_9, .inl (k 0, 6, .inl (fun _ => 0)))]) H := hP
  have hD : va_D A ([(h0, .inr (2, [.int 0, .ref q_1, .int 0, .int 0, .int 0, .ref q_2, .int 2, .ref q_3, .ref q_4, .ref q_5, .int 0, .ref q_6, .ref q_7, .ref q_8, .ref q_9])), (q_1, .inl (k 0, 120, .inl (fun _ => 0))), (q_2, .inl (k 0, 64, .inl (fun _ => 0))), (q_3, .inl (k 0, 64, .inl (upd (upd (upd (upd (upd (fun _ => 0) 0 5) 18 50) 1 5) 19 50) 48 100))), (q_4, .inl (k 0, 64, .inl (fun _ => 0))), (q_5, .inl (k 0, 896, .inl (fun _ => 0))), (q_6, .inl (k 0, 128, .inl (fun _ => 0))), (q_7, .inl (k 2, 2, .inl (fun _ => 0))), (q_8, .inl (k 0, 6, .inl (fun _ => 0))), (q_9, .inl (k 0, 6, .inl (fun _ => 0)))]) := hD
  refine W.eq (g2 := F0 m 124 ls []) rfl ?_
  refine lv_aload_n hx hb dX2_init_124 rfl (lv_at hl 1 rfl) ?_
  refine va_get (D := D) (ci := 2) (v := .ref q_3) (C := RX2) (T := TX2) (N := 15) hx hb hts w_5 hown hK hP 0 rfl rfl 7 (by decide) w_7 (fun _ h9 => h9) rfl dX2_init_125 ?_
  refine lv_bipush (v := 49) hx hb dX2_init_128 (by decide) ?_
  refine lv_bipush (v := 90) hx hb dX2_init_130 (by decide) ?_
  refine va_iast hx hb hK hP hD hS 3 0 rfl rfl (inb_vp (by decide)) dX2_init_132 (fun H locs hP hD hS => ?_)
  have hP : va_P D vwCl ([(h0, .inr (2, [.int 0, .ref q_1, .int 0, .int 0, .int 0, .ref q_2, .int 2, .ref q_3, .ref q_4, .ref q_5, .int 0, .ref q_6, .ref q_7, .ref q_8, .ref q_9])), (q_1, .inl (k 0, 120, .inl (fun _ => 0))), (q_2, .inl (k 0, 64, .inl (fun _ => 0))), (q_3, .inl (k 0, 64, .inl (upd (upd (upd (upd (upd (upd (fun _ => 0) 0 5) 18 50) 1 5) 19 50) 48 100) 49 90))), (q_4, .inl (k 0, 64, .inl (fun _ => 0))), (q_5, .inl (k 0, 896, .inl (fun _ => 0))), (q_6, .inl (k 0, 128, .inl (fun _ => 0))), (q_7, .inl (k 2, 2, .inl (fun _ => 0))), (q_8, .inl (k 0, 6, .inl (fun _ => 0))), (q_9, .inl (k 0, 6, .inl (fun _ => 0)))]) H := hP
  have hD : va_D A ([(h0, .inr (2, [.int 0, .ref q_1, .int 0, .int 0, .int 0, .ref q_2, .int 2, .ref q_3, .ref q_4, .ref q_5, .int 0, .ref q_6, .ref q_7, .ref q_8, .ref q_9])), (q_1, .inl (k 0, 120, .inl (fun _ => 0))), (q_2, .inl (k 0, 64, .inl (fun _ => 0))), (q_3, .inl (k 0, 64, .inl (upd (upd (upd (upd (upd (upd (fun _ => 0) 0 5) 18 50) 1 5) 19 50) 48 100) 49 90))), (q_4, .inl (k 0, 64, .inl (fun _ => 0))), (q_5, .inl (k 0, 896, .inl (fun _ => 0))), (q_6, .inl (k 0, 128, .inl (fun _ => 0))), (q_7, .inl (k 2, 2, .inl (fun _ => 0))), (q_8, .inl (k 0, 6, .inl (fun _ => 0))), (q_9, .inl (k 0, 6, .inl (fun _ => 0)))]) := hD
  refine W.eq (g2 := F0 m 133 ls []) rfl ?_
  refine lv_aload_n hx hb dX2_init_133 rfl (lv_at hl 1 rfl) ?_
  refine va_get (D := D) (ci := 2) (v := .ref q_3) (C := RX2) (T := TX2) (N := 15) hx hb hts w_5 hown hK hP 0 rfl rfl 7 (by decide) w_7 (fun _ h9 => h9) rfl dX2_init_134 ?_
  refine lv_bipush (v := 50) hx hb dX2_init_137 (by decide) ?_
  refine lv_bipush (v := 10) hx hb dX2_init_139 (by decide) ?_
  refine va_iast hx hb hK hP hD hS 3 0 rfl rfl (inb_vp (by decide)) dX2_init_141 (fun H locs hP hD hS => ?_)
  have hP : va_P D vwCl ([(h0, .inr (2, [.int 0, .ref q_1, .int 0, .int 0, .int 0, .ref q_2, .int 2, .ref q_3, .ref q_4, .ref q_5, .int 0, .ref q_6, .ref q_7, .ref q_8, .ref q_9])), (q_1, .inl (k 0, 120, .inl (fun _ => 0))), (q_2, .inl (k 0, 64, .inl (fun _ => 0))), (q_3, .inl (k 0, 64, .inl (upd (upd (upd (upd (upd (upd (upd (fun _ => 0) 0 5) 18 50) 1 5) 19 50) 48 100) 49 90) 50 10))), (q_4, .inl (k 0, 64, .inl (fun _ => 0))), (q_5, .inl (k 0, 896, .inl (fun _ => 0))), (q_6, .inl (k 0, 128, .inl (fun _ => 0))), (q_7, .inl (k 2, 2, .inl (fun _ => 0))), (q_8, .inl (k 0, 6, .inl (fun _ => 0))), (q_9, .inl (k 0, 6, .inl (fun _ => 0)))]) H := hP
  have hD : va_D A ([(h0, .inr (2, [.int 0, .ref q_1, .int 0, .int 0, .int 0, .ref q_2, .int 2, .ref q_3, .ref q_4, .ref q_5, .int 0, .ref q_6, .ref q_7, .ref q_8, .ref q_9])), (q_1, .inl (k 0, 120, .inl (fun _ => 0))), (q_2, .inl (k 0, 64, .inl (fun _ => 0))), (q_3, .inl (k 0, 64, .inl (upd (upd (upd (upd (upd (upd (upd (fun _ => 0) 0 5) 18 50) 1 5) 19 50) 48 100) 49 90) 50 10))), (q_4, .inl (k 0, 64, .inl (fun _ => 0))), (q_5, .inl (k 0, 896, .inl (fun _ => 0))), (q_6, .inl (k 0, 128, .inl (fun _ => 0))), (q_7, .inl (k 2, 2, .inl (fun _ => 0))), (q_8, .inl (k 0, 6, .inl (fun _ => 0))), (q_9, .inl (k 0, 6, .inl (fun _ => 0)))]) := hD
  refine W.eq (g2 := F0 m 142 ls []) rfl ?_
  refine lv_aload_n hx hb dX2_init_142 rfl (lv_at hl 1 rfl) ?_
  refine va_get (D := D) (ci := 2) (v := .ref q_3) (C := RX2) (T := TX2) (N := 15) hx hb hts w_5 hown hK hP 0 rfl rfl 7 (by decide) w_7 (fun _ h9 => h9) rfl dX2_init_143 ?_
  refine lv_bipush (v := 52) hx hb dX2_init_146 (by decide) ?_
  refine lv_iconst (v := 5) hx hb dX2_init_148 (by decide) ?_
  refine va_iast hx hb hK hP hD hS 3 0 rfl rfl (inb_vp (by decide)) dX2_init_149 (fun H locs hP hD hS => ?_)
  have hP : va_P D vwCl ([(h0, .inr (2, [.int 0, .ref q_1, .int 0, .int 0, .int 0, .ref q_2, .int 2, .ref q_3, .ref q_4, .ref q_5, .int 0, .ref q_6, .ref q_7, .ref q_8, .ref q_9])), (q_1, .inl (k 0, 120, .inl (fun _ => 0))), (q_2, .inl (k 0, 64, .inl (fun _ => 0))), (q_3, .inl (k 0, 64, .inl (upd (upd (upd (upd (upd (upd (upd (upd (fun _ => 0) 0 5) 18 50) 1 5) 19 50) 48 100) 49 90) 50 10) 52 5))), (q_4, .inl (k 0, 64, .inl (fun _ => 0))), (q_5, .inl (k 0, 896, .inl (fun _ => 0))), (q_6, .inl (k 0, 128, .inl (fun _ => 0))), (q_7, .inl (k 2, 2, .inl (fun _ => 0))), (q_8, .inl (k 0, 6, .inl (fun _ => 0))), (q_9, .inl (k 0, 6, .inl (fun _ => 0)))]) H := hP
  have hD : va_D A ([(h0, .inr (2, [.int 0, .ref q_1, .int 0, .int 0, .int 0, .ref q_2, .int 2, .ref q_3, .ref q_4, .ref q_5, .int 0, .ref q_6, .ref q_7, .ref q_8, .ref q_9])), (q_1, .inl (k 0, 120, .inl (fun _ => 0))), (q_2, .inl (k 0, 64, .inl (fun _ => 0))), (q_3, .inl (k 0, 64, .inl (upd (upd (upd (upd (upd (upd (upd (upd (fun _ => 0) 0 5) 18 50) 1 5) 19 50) 48 100) 49 90) 50 10) 52 5))), (q_4, .inl (k 0, 64, .inl (fun _ => 0))), (q_5, .inl (k 0, 896, .inl (fun _ => 0))), (q_6, .inl (k 0, 128, .inl (fun _ => 0))), (q_7, .inl (k 2, 2, .inl (fun _ => 0))), (q_8, .inl (k 0, 6, .inl (fun _ => 0))), (q_9, .inl (k 0, 6, .inl (fun _ => 0)))]) := hD
  refine W.eq (g2 := F0 m 150 ls []) rfl ?_
  exact Cx_vret hO (⟨rfl, fun j => [h0, q_1, q_2, q_3, q_4, q_5, q_6, q_7, q_8, q_9].getD j 0, rfl, rfl⟩) (Nat.le_of_ble_eq_true rfl) (Nat.le_of_ble_eq_true rfl) hx hb hr hP hD hS dX2_init_150 hlocks
