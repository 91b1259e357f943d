theorem kcls_4 {D : va_G} {cl : List vw_C} {k : Nat → ClassId} {cA : ClassId} {s : State} (h : va_K D cl (tyK k) s) (h1 : va_K D cl (tyK k ++ [(cA, .long)]) s) : cA = k 4 := by
  have a : s.vm.findClass ("[" ++ FieldType.long.toString) = some (k 4) := (h.2 4 _ rfl).2
  have b : s.vm.findClass ("[" ++ FieldType.long.toString) = some cA := (h1.2 5 _ rfl).2
  exact Option.some.inj (b.symm.trans a)
noncomputable def f_L_follows_923 (x2_923 : Int64) (x7_923 : Int64) (t0_923 : Int32) (X_923 : XV) : Option (Int32 × XV) := if t0_923 = 0 then (some (0, X_923)) else (bd (f_L_now X_923) fun v_3 => if (lg_cmp v_3 x2_923) = 0 then (bd (o_restore X_923 1) fun ⟨v_7, X_9⟩ => if (lg_cmp v_7 x7_923) = 0 then (bd (f_L_now X_9) fun v_12 => if (lg_cmp v_12 x2_923) = 0 then (bd (o_undo X_9) fun ⟨v_16, X_18⟩ => if (lg_cmp v_16 (-9000000000000000003)) = 0 then (some (1, X_18)) else (some (0, X_18))) else (some (0, X_9))) else (some (0, X_9))) else (some (0, X_923)))
noncomputable def f_L_follows_922 (x2_922 : Int64) (x7_922 : Int64) (X_922 : XV) : Option (Int32 × XV) := f_L_follows_923 x2_922 x7_922 0 X_922
noncomputable def f_L_follows_918 (x2_918 : Int64) (x7_918 : Int64) (X_918 : XV) : Option (Int32 × XV) := f_L_follows_923 x2_918 x7_918 1 X_918
noncomputable def f_L_follows_868 (x2_868 : Int64) (x7_868 : Int64) (x9_868 : Int32) (X_868 : XV) : Option (Int32 × XV) := bd (o_economy X_868) fun v_21 => if x9_868 = 0 then (f_L_follows_922 x2_868 x7_868 X_868) else (bd (o_total X_868 0) fun v_25 => if (lg_cmp v_25 0) = 0 then (if (Op.cmpValue (FP.fcmp v_21 FP.fconst0) .l) = 0 then (f_L_follows_918 x2_868 x7_868 X_868) else (f_L_follows_922 x2_868 x7_868 X_868)) else (bd (o_total X_868 1) fun v_29 => bd (o_total X_868 0) fun v_32 => gb (nn32 (FP.fdiv (FP.l2f v_29) (FP.l2f v_32))) <| if (Op.cmpValue (FP.fcmp v_21 (FP.fdiv (FP.l2f v_29) (FP.l2f v_32))) .l) = 0 then (f_L_follows_918 x2_868 x7_868 X_868) else (f_L_follows_922 x2_868 x7_868 X_868)))
noncomputable def f_L_follows_866 (x2_866 : Int64) (x7_866 : Int64) (t0_866 : Int32) (X_866 : XV) : Option (Int32 × XV) := f_L_follows_868 x2_866 x7_866 t0_866 X_866
noncomputable def f_L_follows_865 (x2_865 : Int64) (x7_865 : Int64) (X_865 : XV) : Option (Int32 × XV) := f_L_follows_866 x2_865 x7_865 0 X_865
noncomputable def f_L_follows_861 (x2_861 : Int64) (x7_861 : Int64) (X_861 : XV) : Option (Int32 × XV) := f_L_follows_866 x2_861 x7_861 1 X_861
noncomputable def f_L_follows_734 (p1 : Int32) (x2_734 : Int64) (x7_734 : Int64) (x9_734 : Int32) (X_734 : XV) : Option (Int32 × XV) := if (p1 - p1 / 3 * 3) = 0 then (if x9_734 = 0 then (f_L_follows_868 x2_734 x7_734 x9_734 X_734) else (nm ((p1 / 7) - (p1 / 7) / 900 * 900) fun v_39 => bd (o_steamFor X_734 v_39 3) fun v_41 => bd (o_about X_734 1) fun v_44 => if (lg_cmp v_41 (-9)) = 0 then (f_L_follows_861 x2_734 x7_734 X_734) else (bd (o_set X_734 0 (v_41.toInt32)) fun ⟨v_48, X_50⟩ => if (lg_cmp v_48 v_44) = 0 then (bd (o_growth X_50 3 1) fun v_53 => if (lg_cmp v_53 (v_39.toInt64)) < 0 then (f_L_follows_865 x2_734 x7_734 X_50) else (bd (o_undo X_50) fun ⟨v_57, X_59⟩ => if (lg_cmp v_57 0) < 0 then (f_L_follows_865 x2_734 x7_734 X_59) else (if (lg_cmp v_41 0) = 0 then (f_L_follows_861 x2_734 x7_734 X_59) else (bd (o_set X_59 0 ((v_41.toInt32) - 1)) fun ⟨v_63, X_65⟩ => if (lg_cmp v_63 v_44) = 0 then (bd (o_growth X_65 3 1) fun v_68 => if 0 ≤ (lg_cmp v_68 (v_39.toInt64)) then (f_L_follows_865 x2_734 x7_734 X_65) else (bd (o_undo X_65) fun ⟨v_72, X_74⟩ => if (lg_cmp v_72 0) < 0 then (f_L_follows_865 x2_734 x7_734 X_74) else (f_L_follows_861 x2_734 x7_734 X_74))) else (f_L_follows_865 x2_734 x7_734 X_65))))) else (f_L_follows_865 x2_734 x7_734 X_50)))) else (f_L_follows_868 x2_734 x7_734 x9_734 X_734)
noncomputable def f_L_follows_675 (p1 : Int32) : Nat → Int64 → Int32 → Int64 → Int32 → Int64 → Int32 → XV → Option (Int32 × XV)
  | 0, _, _, _, _, _, _, _ => none
  | fu + 1, x2_675, x4_675, x7_675, x9_675, x29_675, x32_675, X_675 => if x4_675 ≤ x32_675 then (f_L_follows_734 p1 x2_675 x7_675 x9_675 X_675) else (if x9_675 = 0 then (f_L_follows_734 p1 x2_675 x7_675 x9_675 X_675) else (bd (o_effect X_675 x32_675 7) fun v_79 => if 0 < (lg_cmp v_79 0) then ((f_L_follows_675 p1 fu) x2_675 x4_675 x7_675 1 x29_675 (x32_675 + 1) X_675) else (bd (o_growth X_675 5 1) fun v_83 => bd (o_washGain X_675 x32_675 5 5) fun v_86 => if 0 < (lg_cmp (v_83 + v_86) x29_675) then ((f_L_follows_675 p1 fu) x2_675 x4_675 x7_675 0 x29_675 (x32_675 + 1) X_675) else ((f_L_follows_675 p1 fu) x2_675 x4_675 x7_675 1 x29_675 (x32_675 + 1) X_675))))
noncomputable def f_L_follows_648 (p1 : Int32) (x2_648 : Int64) (x4_648 : Int32) (x7_648 : Int64) (x29_648 : Int64) (X_648 : XV) : Option (Int32 × XV) := bd (o_bestTurns X_648 2 0) fun v_90 => bd (o_growth X_648 10 1) fun v_93 => if (lg_cmp v_90 v_93) < 0 then (f_L_follows_675 p1 7 x2_648 x4_648 x7_648 0 x29_648 0 X_648) else (f_L_follows_675 p1 7 x2_648 x4_648 x7_648 1 x29_648 0 X_648)
noncomputable def f_L_follows_559 (p1 : Int32) (x2_559 : Int64) (x4_559 : Int32) (x7_559 : Int64) (t0_559 : Int32) (X_559 : XV) : Option (Int32 × XV) := bd (o_bestTurns X_559 1 0) fun v_97 => bd (o_bestTurns X_559 1 1) fun v_100 => nm (v_100.toInt32) fun v_102 => if t0_559 = 0 then (f_L_follows_675 p1 7 x2_559 x4_559 x7_559 0 v_97 0 X_559) else (bd (o_growth X_559 5 1) fun v_105 => if 0 < (lg_cmp v_105 v_97) then (f_L_follows_675 p1 7 x2_559 x4_559 x7_559 0 v_97 0 X_559) else (if v_102 < 0 then (bd (o_growth X_559 5 1) fun v_110 => if (lg_cmp v_110 v_97) = 0 then (f_L_follows_648 p1 x2_559 x4_559 x7_559 v_97 X_559) else (f_L_follows_675 p1 7 x2_559 x4_559 x7_559 0 v_97 0 X_559)) else (bd (o_growth X_559 5 1) fun v_114 => if 0 ≤ (lg_cmp v_114 v_97) then (f_L_follows_675 p1 7 x2_559 x4_559 x7_559 0 v_97 0 X_559) else (bd (o_growth X_559 5 1) fun v_118 => bd (o_washGain X_559 v_102 5 5) fun v_121 => if (lg_cmp (v_118 + v_121) v_97) = 0 then (f_L_follows_648 p1 x2_559 x4_559 x7_559 v_97 X_559) else (f_L_follows_675 p1 7 x2_559 x4_559 x7_559 0 v_97 0 X_559)))))
noncomputable def f_L_follows_558 (p1 : Int32) (x2_558 : Int64) (x4_558 : Int32) (x7_558 : Int64) (X_558 : XV) : Option (Int32 × XV) := f_L_follows_559 p1 x2_558 x4_558 x7_558 0 X_558
noncomputable def f_L_follows_545 (p1 : Int32) (x2_545 : Int64) (x4_545 : Int32) (x7_545 : Int64) (X_545 : XV) : Option (Int32 × XV) := bd (f_L_now X_545) fun v_125 => if (lg_cmp v_125 x2_545) = 0 then (f_L_follows_559 p1 x2_545 x4_545 x7_545 1 X_545) else (f_L_follows_558 p1 x2_545 x4_545 x7_545 X_545)
noncomputable def f_L_follows_474 (p1 : Int32) (x2_474 : Int64) (x4_474 : Int32) (x5_474 : Int32) (x6_474 : Int32) (x7_474 : Int64) (x22_474 : Int32) (x25_474 : Int64) (x27_474 : Int64) (t0_474 : Int64) (t1_474 : Int64) (X_474 : XV) : Option (Int32 × XV) := if (lg_cmp t1_474 t0_474) = 0 then (if x22_474 = 0 then (f_L_follows_545 p1 x2_474 x4_474 x7_474 X_474) else (bd (o_growth X_474 x5_474 1) fun v_131 => if (lg_cmp (v_131 - x27_474) x25_474) = 0 then (bd (o_effect X_474 x6_474 7) fun v_135 => if (lg_cmp v_135 5) = 0 then (bd (o_endWash X_474 x6_474) fun ⟨v_139, X_141⟩ => if (lg_cmp v_139 5) = 0 then (bd (o_undo X_141) fun ⟨v_144, X_146⟩ => if (lg_cmp v_144 0) < 0 then (f_L_follows_558 p1 x2_474 x4_474 x7_474 X_146) else (bd (o_undo X_146) fun ⟨v_149, X_151⟩ => if (lg_cmp v_149 0) < 0 then (f_L_follows_558 p1 x2_474 x4_474 x7_474 X_151) else (f_L_follows_545 p1 x2_474 x4_474 x7_474 X_151))) else (f_L_follows_558 p1 x2_474 x4_474 x7_474 X_141)) else (f_L_follows_558 p1 x2_474 x4_474 x7_474 X_474)) else (f_L_follows_558 p1 x2_474 x4_474 x7_474 X_474))) else (f_L_follows_558 p1 x2_474 x4_474 x7_474 X_474)
noncomputable def f_L_follows_417 (p1 : Int32) (x2_417 : Int64) (x4_417 : Int32) (x5_417 : Int32) (x6_417 : Int32) (x7_417 : Int64) (x9_417 : Int32) (t0_417 : Int32) (X_417 : XV) : Option (Int32 × XV) := bd (o_about X_417 7) fun v_154 => bd (o_washGain X_417 x6_417 5 x5_417) fun v_157 => bd (o_growth X_417 x5_417 1) fun v_160 => if x9_417 = 0 then (f_L_follows_558 p1 x2_417 x4_417 x7_417 X_417) else (bd (o_wash X_417 x6_417 5) fun ⟨v_164, X_166⟩ => if t0_417 = 0 then (f_L_follows_474 p1 x2_417 x4_417 x5_417 x6_417 x7_417 t0_417 v_157 v_160 (-9000000000000000003) v_164 X_166) else (f_L_follows_474 p1 x2_417 x4_417 x5_417 x6_417 x7_417 t0_417 v_157 v_160 (v_154 + 1) v_164 X_166))
noncomputable def f_L_follows_397 (p1 : Int32) (x2_397 : Int64) (x4_397 : Int32) (x5_397 : Int32) (x6_397 : Int32) (x7_397 : Int64) (t0_397 : Int32) (X_397 : XV) : Option (Int32 × XV) := bd (o_effect X_397 x6_397 7) fun v_169 => if (lg_cmp v_169 0) = 0 then (f_L_follows_417 p1 x2_397 x4_397 x5_397 x6_397 x7_397 t0_397 1 X_397) else (f_L_follows_417 p1 x2_397 x4_397 x5_397 x6_397 x7_397 t0_397 0 X_397)
noncomputable def f_L_follows_396 (p1 : Int32) (x2_396 : Int64) (x4_396 : Int32) (x5_396 : Int32) (x6_396 : Int32) (x7_396 : Int64) (X_396 : XV) : Option (Int32 × XV) := f_L_follows_397 p1 x2_396 x4_396 x5_396 x6_396 x7_396 0 X_396
noncomputable def f_L_follows_305 (p1 : Int32) (x2_305 : Int64) (x4_305 : Int32) (x5_305 : Int32) (x6_305 : Int32) (x7_305 : Int64) (x9_305 : Int32) (x12_305 : Int64) (x14_305 : Int64) (X_305 : XV) (g0_305 : Nat → Int64) (g1_305 : Nat → Int64) : Option (Int32 × XV) := if x9_305 = 0 then (f_L_follows_396 p1 x2_305 x4_305 x5_305 x6_305 x7_305 X_305) else (bd (o_about X_305 8) fun v_174 => if (lg_cmp v_174 (((x12_305 + (g1_305 5)) - (g1_305 7)) - (g1_305 1))) = 0 then (bd (o_about X_305 9) fun v_178 => if (lg_cmp v_178 ((x14_305 + (g1_305 6)) - (g1_305 8))) = 0 then (if 0 < (lg_cmp (g1_305 9) (x5_305.toInt64)) then (f_L_follows_396 p1 x2_305 x4_305 x5_305 x6_305 x7_305 X_305) else (bd (o_undo X_305) fun ⟨v_183, X_185⟩ => if (lg_cmp v_183 0) < 0 then (f_L_follows_396 p1 x2_305 x4_305 x5_305 x6_305 x7_305 X_185) else (bd (f_L_now X_185) fun v_188 => if (lg_cmp v_188 x2_305) = 0 then (f_L_follows_397 p1 x2_305 x4_305 x5_305 x6_305 x7_305 1 X_185) else (f_L_follows_396 p1 x2_305 x4_305 x5_305 x6_305 x7_305 X_185)))) else (f_L_follows_396 p1 x2_305 x4_305 x5_305 x6_305 x7_305 X_305)) else (f_L_follows_396 p1 x2_305 x4_305 x5_305 x6_305 x7_305 X_305))
noncomputable def f_L_follows_249 (p1 : Int32) : Nat → Int64 → Int32 → Int32 → Int32 → Int64 → Int32 → Int64 → Int64 → Int32 → XV → (Nat → Int64) → (Nat → Int64) → Option (Int32 × XV)
  | 0, _, _, _, _, _, _, _, _, _, _, _, _ => none
  | fu + 1, x2_249, x4_249, x5_249, x6_249, x7_249, x9_249, x12_249, x14_249, x22_249, X_249, g0_249, g1_249 => if 10 ≤ x22_249 then (f_L_follows_305 p1 x2_249 x4_249 x5_249 x6_249 x7_249 x9_249 x12_249 x14_249 X_249 g0_249 g1_249) else (if x9_249 = 0 then (f_L_follows_305 p1 x2_249 x4_249 x5_249 x6_249 x7_249 x9_249 x12_249 x14_249 X_249 g0_249 g1_249) else (bd (o_total X_249 x22_249) fun v_194 => gb (inb x22_249 10) <| gb (inb x22_249 10) <| if (lg_cmp v_194 ((g0_249 x22_249.toNatClampNeg) + (g1_249 x22_249.toNatClampNeg))) = 0 then (gb (inb x22_249 10) <| if (lg_cmp (g1_249 x22_249.toNatClampNeg) 0) < 0 then ((f_L_follows_249 p1 fu) x2_249 x4_249 x5_249 x6_249 x7_249 0 x12_249 x14_249 (x22_249 + 1) X_249 g0_249 g1_249) else ((f_L_follows_249 p1 fu) x2_249 x4_249 x5_249 x6_249 x7_249 1 x12_249 x14_249 (x22_249 + 1) X_249 g0_249 g1_249)) else ((f_L_follows_249 p1 fu) x2_249 x4_249 x5_249 x6_249 x7_249 0 x12_249 x14_249 (x22_249 + 1) X_249 g0_249 g1_249)))
noncomputable def f_L_follows_164 (p1 : Int32) (x2_164 : Int64) (x4_164 : Int32) (x5_164 : Int32) (x6_164 : Int32) (x7_164 : Int64) (x9_164 : Int32) (x12_164 : Int64) (x14_164 : Int64) (x16_164 : Int64) (x18_164 : Int64) (t0_164 : Int64) (X_164 : XV) (g0_164 : Nat → Int64) (g1_164 : Nat → Int64) : Option (Int32 × XV) := if x9_164 = 0 then (f_L_follows_249 p1 11 x2_164 x4_164 x5_164 x6_164 x7_164 0 x12_164 x14_164 0 X_164 g0_164 g1_164) else (bd (o_tick X_164 x5_164) fun ⟨v_203, X_205⟩ => if (lg_cmp v_203 (g1_164 1)) = 0 then (bd (o_about X_205 6) fun v_208 => if (lg_cmp v_208 (x7_164 + (x5_164.toInt64))) = 0 then (bd (o_effect X_205 x6_164 5) fun v_212 => if (lg_cmp v_212 x16_164) = 0 then (bd (o_effect X_205 x6_164 1) fun v_216 => if (lg_cmp v_216 x18_164) = 0 then (bd (f_L_in t0_164 0 (x5_164.toInt64)) fun v_220 => if v_220 = 0 then (f_L_follows_249 p1 11 x2_164 x4_164 x5_164 x6_164 x7_164 0 x12_164 x14_164 0 X_205 g0_164 g1_164) else (f_L_follows_249 p1 11 x2_164 x4_164 x5_164 x6_164 x7_164 1 x12_164 x14_164 0 X_205 g0_164 g1_164)) else (f_L_follows_249 p1 11 x2_164 x4_164 x5_164 x6_164 x7_164 0 x12_164 x14_164 0 X_205 g0_164 g1_164)) else (f_L_follows_249 p1 11 x2_164 x4_164 x5_164 x6_164 x7_164 0 x12_164 x14_164 0 X_205 g0_164 g1_164)) else (f_L_follows_249 p1 11 x2_164 x4_164 x5_164 x6_164 x7_164 0 x12_164 x14_164 0 X_205 g0_164 g1_164)) else (f_L_follows_249 p1 11 x2_164 x4_164 x5_164 x6_164 x7_164 0 x12_164 x14_164 0 X_205 g0_164 g1_164))
noncomputable def f_L_follows_69 (p1 : Int32) : Nat → Int64 → Int32 → Int32 → Int32 → Int64 → Int32 → Int32 → XV → (Nat → Int64) → (Nat → Int64) → Option (Int32 × XV)
  | 0, _, _, _, _, _, _, _, _, _, _ => none
  | fu + 1, x2_69, x4_69, x5_69, x6_69, x7_69, x9_69, x12_69, X_69, g0_69, g1_69 => if 10 ≤ x12_69 then (bd (o_about X_69 8) fun v_224 => bd (o_about X_69 9) fun v_227 => bd (o_ahead X_69 x6_69 x5_69 5) fun v_230 => bd (o_ahead X_69 x6_69 x5_69 1) fun v_233 => if (lg_cmp v_230 0) = 0 then (f_L_follows_164 p1 x2_69 x4_69 x5_69 x6_69 x7_69 x9_69 v_224 v_227 v_230 v_233 0 X_69 g0_69 g1_69) else (bd (o_scaledAfter X_69 x6_69 (v_230.toInt32)) fun v_237 => f_L_follows_164 p1 x2_69 x4_69 x5_69 x6_69 x7_69 x9_69 v_224 v_227 v_230 v_233 v_237 X_69 g0_69 g1_69)) else (bd (o_total X_69 x12_69) fun v_240 => gb (inb x12_69 10) <| nm (vp_updL g0_69 x12_69.toNatClampNeg v_240) fun g_243 => bd (o_growth X_69 x5_69 x12_69) fun v_245 => gb (inb x12_69 10) <| nm (vp_updL g1_69 x12_69.toNatClampNeg v_245) fun g_248 => (f_L_follows_69 p1 fu) x2_69 x4_69 x5_69 x6_69 x7_69 x9_69 (x12_69 + 1) X_69 g_243 g_248)
noncomputable def f_L_follows (X : XV) (p1 : Int32) : Option (Int32 × XV) := bd (f_L_now X) fun v_250 => bd (f_L_effects X) fun v_253 => nm (1 + (p1 - p1 / 50 * 50)) fun v_255 => gb (nz v_253) <| nm ((p1 / 50) - (p1 / 50) / v_253 * v_253) fun v_257 => bd (o_about X 6) fun v_259 => bd (o_save X 1) fun ⟨v_262, X_264⟩ => if (lg_cmp v_262 v_259) = 0 then (f_L_follows_69 p1 11 v_250 v_253 v_255 v_257 v_259 1 0 X_264 (fun _ => 0) (fun _ => 0)) else (f_L_follows_69 p1 11 v_250 v_253 v_255 v_257 v_259 0 0 X_264 (fun _ => 0) (fun _ => 0))
set_option maxRecDepth 100000 in
set_option maxHeartbeats 4000000 in
theorem c_L_follows (l : Launch) (hst : l.stackTraces = false) (D : va_G) (k : Nat → ClassId) (cA nA tA : Nat → Nat) (X : XV) (w : va_W) (hw : Ob k cA nA tA X w) (p1 : Int32) (o : Int32 × XV) (h : f_L_follows X p1 = some o) : CO l D k yL_follows wsL_follows ({ frames := 14, cells := 1554, slots := 9530, locals := 749 } : Room) [.ref (cA 0), .int p1] (w) (fun (ov : Option Value) (w' : va_W) => ov = some (.int o.1) ∧ Ob k cA nA tA o.2 w') := by
  obtain ⟨B9, hB9⟩ : ∃ B : Option Value → va_W → Prop, B = fun (ov : Option Value) (w' : va_W) => ov = some (.int o.1) ∧ Ob k cA nA tA o.2 w' := ⟨_, rfl⟩
  refine CO.of (P := B9) ?_ (fun ov w' h9 => by rw [hB9] at h9; exact h9)
  refine Cl_of0 (cc := cL_follows) (maxL := 37) (ret := (some .boolean)) (by decide) rfl (Nat.le_of_ble_eq_true rfl) ?_
  intro p e s m args below meth c A ls hx hb hr hml hts hown hlocks hK hG hC hA hP hD hS hl
  have hl : lv_has ls 37 [(0, .ref (cA 0)), (1, .int p1)] := hl
  have hP := P_n hP
  have hD := D_n hD
  have w_0 := hts (.constantLong RL 21 (-9000000000000000003)) (by decide +kernel)
  have w_1 := hts (.constantLong RL 206 (-9)) (by decide +kernel)
  have w_2 := hts (.constantLong RL 204 (5)) (by decide +kernel)
  have w_3 := hts (.arrayClass .long) (by decide +kernel)
  unfold f_L_follows at h
  have hC_923 : ∀ (x2_923 : Int64) (x7_923 : Int64) (t0_923 : Int32) (X_923 : XV) (w_923 : va_W) (H : Heap) (locs : List Loc) (ls : Array Slot), Ob k cA nA tA X_923 w_923 → va_P D vwCl (w_923 ++ []) H → va_D A (w_923 ++ []) → va_S A s.heap H locs → lv_has ls 37 [(0, .ref (cA 0)), (2, .long x2_923), (7, .long x7_923)] → f_L_follows_923 x2_923 x7_923 t0_923 X_923 = some o → W p l e ({ frames := 14, cells := 1554, slots := 9530, locals := 749 } : Room) s m args below meth c H locs (1083) (6686) (vx_MQ below (Qx D A (.inr B9)) (Xx D A (w) (.inr B9)) args s 1554 9530 A) (F0 m 923 ls [.int t0_923]) := by
    intro x2_923 x7_923 t0_923 X_923 w_923 H locs ls hw_923 hP hD hS hl h
    unfold f_L_follows_923 at h
    refine lv_istore (lv' := [(9, .int t0_923), (0, .ref (cA 0)), (2, .long x2_923), (7, .long x7_923)]) hx hb dL_follows_923 hl (by decide) rfl (fun ls hl => ?_)
    refine lv_iload hx hb dL_follows_925 (lv_at hl 0 rfl) ?_
    refine lv_if_eq (tgt := 974) hx hb dL_follows_927 (by decide) (fun c_1 => ?_) (fun c_1 => ?_)
    · have h := it_l c_1 h
      refine lv_iconst (v := 0) hx hb dL_follows_974 (by decide) ?_
      cases h
      exact Cx_zret (B := B9) rfl (by rw [hB9]; exact ⟨rfl, hw_923⟩) (by show 1083 ≤ 1554; omega) (by show 6686 ≤ 9530; omega) hx hb hr (by decide) (P_l hP) (D_l hD) hS dL_follows_975 hlocks
    · have h := it_r c_1 h
      refine lv_aload_n hx hb dL_follows_930 rfl (lv_at hl 1 rfl) ?_
      obtain ⟨v_3, hv_2, h⟩ := bd_l h
      refine Lo_S (As := [.ref (cA 0)]) (rest := []) (wA := w_923) (wr := []) 224 1344 (1307) (8030) 1554 9530 (c_L_now l hst D k cA nA tA X_923 w_923 hw_923 v_3 hv_2) ⟨hx, hb, hml, hown, hts⟩ (va_cwS 1 hts gL_follows_L_now rfl rfl rfl (by decide +kernel) ⟨Nat.le_of_ble_eq_true rfl, Nat.le_of_ble_eq_true rfl⟩) hK hG hC hP hD hS hA (List.Perm.refl _) rfl hl.1 rfl (Nat.le_of_ble_eq_true rfl) dL_follows_931 ⟨rfl, rfl⟩ ⟨rfl, rfl⟩ (by omega) (by omega) (fun ov w_4 H locs hQ hP hD hS => ?_)
      obtain ⟨rfl, hw_4⟩ := hQ
      refine W.eq (g2 := F0 m 934 ls [.long v_3]) rfl ?_
      refine lv_lload_n hx hb dL_follows_934 rfl (lv_at hl 2 rfl) ?_
      refine W.lcmp hx hb dL_follows_935 ?_
      refine lv_if_ne (tgt := 974) hx hb dL_follows_936 (by decide) (fun c_5 => ?_) (fun c_5 => ?_)
      · have h := it_r c_5 h
        refine lv_iconst (v := 0) hx hb dL_follows_974 (by decide) ?_
        cases h
        exact Cx_zret (B := B9) rfl (by rw [hB9]; exact ⟨rfl, hw_4⟩) (by show 1307 ≤ 1554; omega) (by show 8030 ≤ 9530; omega) hx hb hr (by decide) (P_l hP) (D_l hD) hS dL_follows_975 hlocks
      · have h := it_l c_5 h
        refine lv_aload_n hx hb dL_follows_939 rfl (lv_at hl 1 rfl) ?_
        refine lv_iconst (v := 1) hx hb dL_follows_940 (by decide) ?_
        obtain ⟨⟨v_7, X_9⟩, hv_6, h⟩ := bd_l h
        refine Lo_T (As := [.ref (cA 0), .int 1]) (rest := []) (wA := w_4) (wr := []) 12 81 (1319) (8111) 1554 9530 (co_restore l hst D k cA nA tA X_923 w_4 hw_4 1 (v_7, X_9) hv_6) ⟨hx, hb, hml, hown, hts⟩ (vx_cwSW 2 hts gL_follows_L_restore rfl rfl rfl (by decide +kernel) ⟨Nat.le_of_ble_eq_true rfl, Nat.le_of_ble_eq_true rfl⟩) hK hG hC hP hD hS hA (List.Perm.refl _) rfl hl.1 rfl (Nat.le_of_ble_eq_true rfl) dL_follows_941 ⟨rfl, rfl⟩ ⟨rfl, rfl⟩ (by omega) (by omega) (fun ov w_8 H locs hQ hP hD hS => ?_)
        obtain ⟨rfl, hw_8⟩ := hQ
        refine W.eq (g2 := F0 m 944 ls [.long v_7]) rfl ?_
        refine lv_lload hx hb dL_follows_944 (lv_at hl 3 rfl) ?_
        refine W.lcmp hx hb dL_follows_946 ?_
        refine lv_if_ne (tgt := 974) hx hb dL_follows_947 (by decide) (fun c_10 => ?_) (fun c_10 => ?_)
        · have h := it_r c_10 h
          refine lv_iconst (v := 0) hx hb dL_follows_974 (by decide) ?_
          cases h
          exact Cx_zret (B := B9) rfl (by rw [hB9]; exact ⟨rfl, hw_8⟩) (by show 1319 ≤ 1554; omega) (by show 8111 ≤ 9530; omega) hx hb hr (by decide) (P_l hP) (D_l hD) hS dL_follows_975 hlocks
        · have h := it_l c_10 h
          refine lv_aload_n hx hb dL_follows_950 rfl (lv_at hl 1 rfl) ?_
          obtain ⟨v_12, hv_11, h⟩ := bd_l h
          refine Lo_S (As := [.ref (cA 0)]) (rest := []) (wA := w_8) (wr := []) 224 1344 (1543) (9455) 1554 9530 (c_L_now l hst D k cA nA tA X_9 w_8 hw_8 v_12 hv_11) ⟨hx, hb, hml, hown, hts⟩ (va_cwS 1 hts gL_follows_L_now rfl rfl rfl (by decide +kernel) ⟨Nat.le_of_ble_eq_true rfl, Nat.le_of_ble_eq_true rfl⟩) hK hG hC hP hD hS hA (List.Perm.refl _) rfl hl.1 rfl (Nat.le_of_ble_eq_true rfl) dL_follows_951 ⟨rfl, rfl⟩ ⟨rfl, rfl⟩ (by omega) (by omega) (fun ov w_13 H locs hQ hP hD hS => ?_)
          obtain ⟨rfl, hw_13⟩ := hQ
          refine W.eq (g2 := F0 m 954 ls [.long v_12]) rfl ?_
          refine lv_lload_n hx hb dL_follows_954 rfl (lv_at hl 2 rfl) ?_
          refine W.lcmp hx hb dL_follows_955 ?_
          refine lv_if_ne (tgt := 974) hx hb dL_follows_956 (by decide) (fun c_14 => ?_) (fun c_14 => ?_)
          · have h := it_r c_14 h
            refine lv_iconst (v := 0) hx hb dL_follows_974 (by decide) ?_
            cases h
            exact Cx_zret (B := B9) rfl (by rw [hB9]; exact ⟨rfl, hw_13⟩) (by show 1543 ≤ 1554; omega) (by show 9455 ≤ 9530; omega) hx hb hr (by decide) (P_l hP) (D_l hD) hS dL_follows_975 hlocks
          · have h := it_l c_14 h
            refine lv_aload_n hx hb dL_follows_959 rfl (lv_at hl 1 rfl) ?_
            obtain ⟨⟨v_16, X_18⟩, hv_15, h⟩ := bd_l h
            refine Lo_T (As := [.ref (cA 0)]) (rest := []) (wA := w_13) (wr := []) 11 75 (1554) (9530) 1554 9530 (co_undo l hst D k cA nA tA X_9 w_13 hw_13 (v_16, X_18) hv_15) ⟨hx, hb, hml, hown, hts⟩ (vx_cwSW 1 hts gL_follows_L_undo rfl rfl rfl (by decide +kernel) ⟨Nat.le_of_ble_eq_true rfl, Nat.le_of_ble_eq_true rfl⟩) hK hG hC hP hD hS hA (List.Perm.refl _) rfl hl.1 rfl (Nat.le_of_ble_eq_true rfl) dL_follows_960 ⟨rfl, rfl⟩ ⟨rfl, rfl⟩ (by omega) (by omega) (fun ov w_17 H locs hQ hP hD hS => ?_)
            obtain ⟨rfl, hw_17⟩ := hQ
            refine W.eq (g2 := F0 m 963 ls [.long v_16]) rfl ?_
            refine lv_ldc2 (v := -9000000000000000003) hx hb hown w_0 dL_follows_963 ?_
            refine W.lcmp hx hb dL_follows_966 ?_
            refine lv_if_ne (tgt := 974) hx hb dL_follows_967 (by decide) (fun c_19 => ?_) (fun c_19 => ?_)
            · have h := it_r c_19 h
              refine lv_iconst (v := 0) hx hb dL_follows_974 (by decide) ?_
              cases h
              exact Cx_zret (B := B9) rfl (by rw [hB9]; exact ⟨rfl, hw_17⟩) (by show 1554 ≤ 1554; omega) (by show 9530 ≤ 9530; omega) hx hb hr (by decide) (P_l hP) (D_l hD) hS dL_follows_975 hlocks
            · have h := it_l c_19 h
              refine lv_iconst (v := 1) hx hb dL_follows_970 (by decide) ?_
              refine lv_goto (tgt := 975) hx hb dL_follows_971 (by decide) ?_
              cases h
              exact Cx_zret (B := B9) rfl (by rw [hB9]; exact ⟨rfl, hw_17⟩) (by show 1554 ≤ 1554; omega) (by show 9530 ≤ 9530; omega) hx hb hr (by decide) (P_l hP) (D_l hD) hS dL_follows_975 hlocks
  have hC_922 : ∀ (x2_922 : Int64) (x7_922 : Int64) (X_922 : XV) (w_922 : va_W) (H : Heap) (locs : List Loc) (ls : Array Slot), Ob k cA nA tA X_922 w_922 → va_P D vwCl (w_922 ++ []) H → va_D A (w_922 ++ []) → va_S A s.heap H locs → lv_has ls 37 [(0, .ref (cA 0)), (2, .long x2_922), (7, .long x7_922)] → f_L_follows_922 x2_922 x7_922 X_922 = some o → W p l e ({ frames := 14, cells := 1554, slots := 9530, locals := 749 } : Room) s m args below meth c H locs (1083) (6686) (vx_MQ below (Qx D A (.inr B9)) (Xx D A (w) (.inr B9)) args s 1554 9530 A) (F0 m 922 ls []) := by
    intro x2_922 x7_922 X_922 w_922 H locs ls hw_922 hP hD hS hl h
    unfold f_L_follows_922 at h
    refine lv_iconst (v := 0) hx hb dL_follows_922 (by decide) ?_
    refine W.widen (k := 1083) (n := 6686) (by omega) (by omega) ?_
    exact hC_923 x2_922 x7_922 0 X_922 w_922 _ _ _ hw_922 hP hD hS (lv_sub hl [0, 1, 2] rfl) h
  have hC_918 : ∀ (x2_918 : Int64) (x7_918 : Int64) (X_918 : XV) (w_918 : va_W) (H : Heap) (locs : List Loc) (ls : Array Slot), Ob k cA nA tA X_918 w_918 → va_P D vwCl (w_918 ++ []) H → va_D A (w_918 ++ []) → va_S A s.heap H locs → lv_has ls 37 [(0, .ref (cA 0)), (2, .long x2_918), (7, .long x7_918)] → f_L_follows_918 x2_918 x7_918 X_918 = some o → W p l e ({ frames := 14, cells := 1554, slots := 9530, locals := 749 } : Room) s m args below meth c H locs (1083) (6686) (vx_MQ below (Qx D A (.inr B9)) (Xx D A (w) (.inr B9)) args s 1554 9530 A) (F0 m 918 ls []) := by
    intro x2_918 x7_918 X_918 w_918 H locs ls hw_918 hP hD hS hl h
    unfold f_L_follows_918 at h
    refine lv_iconst (v := 1) hx hb dL_follows_918 (by decide) ?_
    refine lv_goto (tgt := 923) hx hb dL_follows_919 (by decide) ?_
    refine W.widen (k := 1083) (n := 6686) (by omega) (by omega) ?_
    exact hC_923 x2_918 x7_918 1 X_918 w_918 _ _ _ hw_918 hP hD hS (lv_sub hl [0, 1, 2] rfl) h
  have hC_868 : ∀ (x2_868 : Int64) (x7_868 : Int64) (x9_868 : Int32) (X_868 : XV) (w_868 : va_W) (H : Heap) (locs : List Loc) (ls : Array Slot), Ob k cA nA tA X_868 w_868 → va_P D vwCl (w_868 ++ []) H → va_D A (w_868 ++ []) → va_S A s.heap H locs → lv_has ls 37 [(0, .ref (cA 0)), (2, .long x2_868), (7, .long x7_868), (9, .int x9_868)] → f_L_follows_868 x2_868 x7_868 x9_868 X_868 = some o → W p l e ({ frames := 14, cells := 1554, slots := 9530, locals := 749 } : Room) s m args below meth c H locs (1080) (6668) (vx_MQ below (Qx D A (.inr B9)) (Xx D A (w) (.inr B9)) args s 1554 9530 A) (F0 m 868 ls []) := by
    intro x2_868 x7_868 x9_868 X_868 w_868 H locs ls hw_868 hP hD hS hl h
    unfold f_L_follows_868 at h
    refine lv_aload_n hx hb dL_follows_868 rfl (lv_at hl 0 rfl) ?_
    obtain ⟨v_21, hv_20, h⟩ := bd_l h
    refine Lo_V (As := []) (rest := []) (wA := w_868) (wr := []) 0 0 (1080) (6668) 1554 9530 (co_economy l hst D k cA nA tA X_868 w_868 hw_868 v_21 hv_20) ⟨hx, hb, hml, hown, hts⟩ (cwV 0 hts gL_follows_X1_economy rfl rfl rfl (by decide +kernel) ⟨Nat.le_of_ble_eq_true rfl, Nat.le_of_ble_eq_true rfl⟩) hK hG hP hD hS hA (List.Perm.refl _) rfl hl.1 rfl (Nat.le_of_ble_eq_true rfl) dL_follows_869 ⟨rfl, rfl⟩ ⟨rfl, rfl⟩ (by omega) (by omega) (fun ov w_22 H locs hQ hP hD hS => ?_)
    obtain ⟨rfl, hw_22⟩ := hQ
    refine W.eq (g2 := F0 m 872 ls [.float v_21]) rfl ?_
    refine lv_fstore (lv' := [(32, .float v_21), (0, .ref (cA 0)), (2, .long x2_868), (7, .long x7_868), (9, .int x9_868)]) hx hb dL_follows_872 hl (by decide) rfl (fun ls hl => ?_)
    refine lv_iload hx hb dL_follows_874 (lv_at hl 4 rfl) ?_
    refine lv_if_eq (tgt := 922) hx hb dL_follows_876 (by decide) (fun c_23 => ?_) (fun c_23 => ?_)
    · have h := it_l c_23 h
      refine W.widen (k := 1083) (n := 6686) (by omega) (by omega) ?_
      exact hC_922 x2_868 x7_868 X_868 w_22 _ _ _ hw_22 hP hD hS (lv_sub hl [1, 2, 3] rfl) h
    · have h := it_r c_23 h
      refine lv_aload_n hx hb dL_follows_879 rfl (lv_at hl 1 rfl) ?_
      refine lv_iconst (v := 0) hx hb dL_follows_880 (by decide) ?_
      obtain ⟨v_25, hv_24, h⟩ := bd_l h
      refine Lo_T (As := [.ref (cA 0), .int 0]) (rest := []) (wA := w_22) (wr := []) 1 6 (1081) (6674) 1554 9530 (co_total l hst D k cA nA tA X_868 w_22 hw_22 0 v_25 hv_24) ⟨hx, hb, hml, hown, hts⟩ (vx_cwSW 2 hts gL_follows_L_total rfl rfl rfl (by decide +kernel) ⟨Nat.le_of_ble_eq_true rfl, Nat.le_of_ble_eq_true rfl⟩) hK hG hC hP hD hS hA (List.Perm.refl _) rfl hl.1 rfl (Nat.le_of_ble_eq_true rfl) dL_follows_881 ⟨rfl, rfl⟩ ⟨rfl, rfl⟩ (by omega) (by omega) (fun ov w_26 H locs hQ hP hD hS => ?_)
      obtain ⟨rfl, hw_26⟩ := hQ
      refine W.eq (g2 := F0 m 884 ls [.long v_25]) rfl ?_
      refine lv_lconst (v := 0) hx hb dL_follows_884 (by decide) ?_
      refine W.lcmp hx hb dL_follows_885 ?_
      refine lv_if_ne (tgt := 899) hx hb dL_follows_886 (by decide) (fun c_27 => ?_) (fun c_27 => ?_)
      · have h := it_r c_27 h
        refine lv_fload hx hb dL_follows_899 (lv_at hl 0 rfl) ?_
        refine lv_aload_n hx hb dL_follows_901 rfl (lv_at hl 1 rfl) ?_
        refine lv_iconst (v := 1) hx hb dL_follows_902 (by decide) ?_
        obtain ⟨v_29, hv_28, h⟩ := bd_l h
        refine Lo_T (As := [.ref (cA 0), .int 1]) (rest := [.float v_21]) (wA := w_26) (wr := []) 1 6 (1082) (6680) 1554 9530 (co_total l hst D k cA nA tA X_868 w_26 hw_26 1 v_29 hv_28) ⟨hx, hb, hml, hown, hts⟩ (vx_cwSW 2 hts gL_follows_L_total rfl rfl rfl (by decide +kernel) ⟨Nat.le_of_ble_eq_true rfl, Nat.le_of_ble_eq_true rfl⟩) hK hG hC hP hD hS hA (List.Perm.refl _) rfl hl.1 rfl (Nat.le_of_ble_eq_true rfl) dL_follows_903 ⟨rfl, rfl⟩ ⟨rfl, rfl⟩ (by omega) (by omega) (fun ov w_30 H locs hQ hP hD hS => ?_)
        obtain ⟨rfl, hw_30⟩ := hQ
        refine W.eq (g2 := F0 m 906 ls [.long v_29, .float v_21]) rfl ?_
        refine lv_l2f hx hb dL_follows_906 ?_
        refine lv_aload_n hx hb dL_follows_907 rfl (lv_at hl 1 rfl) ?_
        refine lv_iconst (v := 0) hx hb dL_follows_908 (by decide) ?_
        obtain ⟨v_32, hv_31, h⟩ := bd_l h
        refine Lo_T (As := [.ref (cA 0), .int 0]) (rest := [.float (FP.l2f v_29), .float v_21]) (wA := w_30) (wr := []) 1 6 (1083) (6686) 1554 9530 (co_total l hst D k cA nA tA X_868 w_30 hw_30 0 v_32 hv_31) ⟨hx, hb, hml, hown, hts⟩ (vx_cwSW 2 hts gL_follows_L_total rfl rfl rfl (by decide +kernel) ⟨Nat.le_of_ble_eq_true rfl, Nat.le_of_ble_eq_true rfl⟩) hK hG hC hP hD hS hA (List.Perm.refl _) rfl hl.1 rfl (Nat.le_of_ble_eq_true rfl) dL_follows_909 ⟨rfl, rfl⟩ ⟨rfl, rfl⟩ (by omega) (by omega) (fun ov w_33 H locs hQ hP hD hS => ?_)
        obtain ⟨rfl, hw_33⟩ := hQ
        refine W.eq (g2 := F0 m 912 ls [.long v_32, .float (FP.l2f v_29), .float v_21]) rfl ?_
        refine lv_l2f hx hb dL_follows_912 ?_
        have g_34 := nn32_l (gb_l h)
        have h := gb_r h
        refine lv_fdiv hx hb dL_follows_913 g_34 ?_
        refine lv_fcmp hx hb dL_follows_914 ?_
        refine lv_if_ne (tgt := 922) hx hb dL_follows_915 (by decide) (fun c_35 => ?_) (fun c_35 => ?_)
        · have h := it_r c_35 h
          refine W.widen (k := 1083) (n := 6686) (by omega) (by omega) ?_
          exact hC_922 x2_868 x7_868 X_868 w_33 _ _ _ hw_33 hP hD hS (lv_sub hl [1, 2, 3] rfl) h
        · have h := it_l c_35 h
          refine W.widen (k := 1083) (n := 6686) (by omega) (by omega) ?_
          exact hC_918 x2_868 x7_868 X_868 w_33 _ _ _ hw_33 hP hD hS (lv_sub hl [1, 2, 3] rfl) h
      · have h := it_l c_27 h
        refine lv_fload hx hb dL_follows_889 (lv_at hl 0 rfl) ?_
        refine lv_fconst0 hx hb dL_follows_891 ?_
        refine lv_fcmp hx hb dL_follows_892 ?_
        refine lv_if_ne (tgt := 922) hx hb dL_follows_893 (by decide) (fun c_36 => ?_) (fun c_36 => ?_)
        · have h := it_r c_36 h
          refine W.widen (k := 1083) (n := 6686) (by omega) (by omega) ?_
          exact hC_922 x2_868 x7_868 X_868 w_26 _ _ _ hw_26 hP hD hS (lv_sub hl [1, 2, 3] rfl) h
        · have h := it_l c_36 h
          refine lv_goto (tgt := 918) hx hb dL_follows_896 (by decide) ?_
          refine W.widen (k := 1083) (n := 6686) (by omega) (by omega) ?_
          exact hC_918 x2_868 x7_868 X_868 w_26 _ _ _ hw_26 hP hD hS (lv_sub hl [1, 2, 3] rfl) h
  have hC_866 : ∀ (x2_866 : Int64) (x7_866 : Int64) (t0_866 : Int32) (X_866 : XV) (w_866 : va_W) (H : Heap) (locs : List Loc) (ls : Array Slot), Ob k cA nA tA X_866 w_866 → va_P D vwCl (w_866 ++ []) H → va_D A (w_866 ++ []) → va_S A s.heap H locs → lv_has ls 37 [(0, .ref (cA 0)), (2, .long x2_866), (7, .long x7_866)] → f_L_follows_866 x2_866 x7_866 t0_866 X_866 = some o → W p l e ({ frames := 14, cells := 1554, slots := 9530, locals := 749 } : Room) s m args below meth c H locs (1080) (6668) (vx_MQ below (Qx D A (.inr B9)) (Xx D A (w) (.inr B9)) args s 1554 9530 A) (F0 m 866 ls [.int t0_866]) := by
    intro x2_866 x7_866 t0_866 X_866 w_866 H locs ls hw_866 hP hD hS hl h
    unfold f_L_follows_866 at h
    refine lv_istore (lv' := [(9, .int t0_866), (0, .ref (cA 0)), (2, .long x2_866), (7, .long x7_866)]) hx hb dL_follows_866 hl (by decide) rfl (fun ls hl => ?_)
    refine W.widen (k := 1080) (n := 6668) (by omega) (by omega) ?_
    exact hC_868 x2_866 x7_866 t0_866 X_866 w_866 _ _ _ hw_866 hP hD hS (lv_sub hl [1, 2, 3, 0] rfl) h
  have hC_865 : ∀ (x2_865 : Int64) (x7_865 : Int64) (X_865 : XV) (w_865 : va_W) (H : Heap) (locs : List Loc) (ls : Array Slot), Ob k cA nA tA X_865 w_865 → va_P D vwCl (w_865 ++ []) H → va_D A (w_865 ++ []) → va_S A s.heap H locs → lv_has ls 37 [(0, .ref (cA 0)), (2, .long x2_865), (7, .long x7_865)] → f_L_follows_865 x2_865 x7_865 X_865 = some o → W p l e ({ frames := 14, cells := 1554, slots := 9530, locals := 749 } : Room) s m args below meth c H locs (1080) (6668) (vx_MQ below (Qx D A (.inr B9)) (Xx D A (w) (.inr B9)) args s 1554 9530 A) (F0 m 865 ls []) := by
    intro x2_865 x7_865 X_865 w_865 H locs ls hw_865 hP hD hS hl h
    unfold f_L_follows_865 at h
    refine lv_iconst (v := 0) hx hb dL_follows_865 (by decide) ?_
    refine W.widen (k := 1080) (n := 6668) (by omega) (by omega) ?_
    exact hC_866 x2_865 x7_865 0 X_865 w_865 _ _ _ hw_865 hP hD hS (lv_sub hl [0, 1, 2] rfl) h
  have hC_861 : ∀ (x2_861 : Int64) (x7_861 : Int64) (X_861 : XV) (w_861 : va_W) (H : Heap) (locs : List Loc) (ls : Array Slot), Ob k cA nA tA X_861 w_861 → va_P D vwCl (w_861 ++ []) H → va_D A (w_861 ++ []) → va_S A s.heap H locs → lv_has ls 37 [(0, .ref (cA 0)), (2, .long x2_861), (7, .long x7_861)] → f_L_follows_861 x2_861 x7_861 X_861 = some o → W p l e ({ frames := 14, cells := 1554, slots := 9530, locals := 749 } : Room) s m args below meth c H locs (1080) (6668) (vx_MQ below (Qx D A (.inr B9)) (Xx D A (w) (.inr B9)) args s 1554 9530 A) (F0 m 861 ls []) := by
    intro x2_861 x7_861 X_861 w_861 H locs ls hw_861 hP hD hS hl h
    unfold f_L_follows_861 at h
    refine lv_iconst (v := 1) hx hb dL_follows_861 (by decide) ?_
    refine lv_goto (tgt := 866) hx hb dL_follows_862 (by decide) ?_
    refine W.widen (k := 1080) (n := 6668) (by omega) (by omega) ?_
    exact hC_866 x2_861 x7_861 1 X_861 w_861 _ _ _ hw_861 hP hD hS (lv_sub hl [0, 1, 2] rfl) h
  have hC_734 : ∀ (x2_734 : Int64) (x7_734 : Int64) (x9_734 : Int32) (X_734 : XV) (w_734 : va_W) (H : Heap) (locs : List Loc) (ls : Array Slot), Ob k cA nA tA X_734 w_734 → va_P D vwCl (w_734 ++ []) H → va_D A (w_734 ++ []) → va_S A s.heap H locs → lv_has ls 37 [(0, .ref (cA 0)), (1, .int p1), (2, .long x2_734), (7, .long x7_734), (9, .int x9_734)] → f_L_follows_734 p1 x2_734 x7_734 x9_734 X_734 = some o → W p l e ({ frames := 14, cells := 1554, slots := 9530, locals := 749 } : Room) s m args below meth c H locs (1020) (6272) (vx_MQ below (Qx D A (.inr B9)) (Xx D A (w) (.inr B9)) args s 1554 9530 A) (F0 m 734 ls []) := by
    intro x2_734 x7_734 x9_734 X_734 w_734 H locs ls hw_734 hP hD hS hl h
    unfold f_L_follows_734 at h
    refine lv_iload_n hx hb dL_follows_734 rfl (lv_at hl 1 rfl) ?_
    refine lv_iconst (v := 3) hx hb dL_follows_735 (by decide) ?_
    refine lv_irem hx hb dL_follows_736 (by decide) ?_
    refine lv_if_ne (tgt := 868) hx hb dL_follows_737 (by decide) (fun c_37 => ?_) (fun c_37 => ?_)
    · have h := it_r c_37 h
      refine W.widen (k := 1080) (n := 6668) (by omega) (by omega) ?_
      exact hC_868 x2_734 x7_734 x9_734 X_734 w_734 _ _ _ hw_734 hP hD hS (lv_sub hl [0, 2, 3, 4] rfl) h
    · have h := it_l c_37 h
      refine lv_iload hx hb dL_follows_740 (lv_at hl 4 rfl) ?_
      refine lv_if_eq (tgt := 868) hx hb dL_follows_742 (by decide) (fun c_38 => ?_) (fun c_38 => ?_)
      · have h := it_l c_38 h
        refine W.widen (k := 1080) (n := 6668) (by omega) (by omega) ?_
        exact hC_868 x2_734 x7_734 x9_734 X_734 w_734 _ _ _ hw_734 hP hD hS (lv_sub hl [0, 2, 3, 4] rfl) h
      · have h := it_r c_38 h
        refine lv_iload_n hx hb dL_follows_745 rfl (lv_at hl 1 rfl) ?_
        refine lv_bipush (v := 7) hx hb dL_follows_746 (by decide) ?_
        refine lv_idiv hx hb dL_follows_748 (by decide) ?_
        refine lv_sipush (v := 900) hx hb dL_follows_749 (by decide) ?_
        refine lv_irem hx hb dL_follows_752 (by decide) ?_
        refine lv_topi (fun v_39 ev_39 => ?_)
        have h := nm_l h ev_39
        refine lv_istore (lv' := [(32, .int v_39), (0, .ref (cA 0)), (1, .int p1), (2, .long x2_734), (7, .long x7_734), (9, .int x9_734)]) hx hb dL_follows_753 hl (by decide) rfl (fun ls hl => ?_)
        refine lv_aload_n hx hb dL_follows_755 rfl (lv_at hl 1 rfl) ?_
        refine lv_iload hx hb dL_follows_756 (lv_at hl 0 rfl) ?_
        refine lv_iconst (v := 3) hx hb dL_follows_758 (by decide) ?_
        obtain ⟨v_41, hv_40, h⟩ := bd_l h
        refine Lo_T (As := [.ref (cA 0), .int v_39, .int 3]) (rest := []) (wA := w_734) (wr := []) 7 42 (1027) (6314) 1554 9530 (co_steamFor l hst D k cA nA tA X_734 w_734 hw_734 v_39 3 v_41 hv_40) ⟨hx, hb, hml, hown, hts⟩ (vx_cwSW 3 hts gL_follows_L_steamFor rfl rfl rfl (by decide +kernel) ⟨Nat.le_of_ble_eq_true rfl, Nat.le_of_ble_eq_true rfl⟩) hK hG hC hP hD hS hA (List.Perm.refl _) rfl hl.1 rfl (Nat.le_of_ble_eq_true rfl) dL_follows_759 ⟨rfl, rfl⟩ ⟨rfl, rfl⟩ (by omega) (by omega) (fun ov w_42 H locs hQ hP hD hS => ?_)
        obtain ⟨rfl, hw_42⟩ := hQ
        refine W.eq (g2 := F0 m 762 ls [.long v_41]) rfl ?_
        refine lv_lstore (lv' := [(33, .long v_41), (32, .int v_39), (0, .ref (cA 0)), (1, .int p1), (2, .long x2_734), (7, .long x7_734), (9, .int x9_734)]) hx hb dL_follows_762 hl (by decide) rfl (fun ls hl => ?_)
        refine lv_aload_n hx hb dL_follows_764 rfl (lv_at hl 2 rfl) ?_
        refine lv_iconst (v := 1) hx hb dL_follows_765 (by decide) ?_
        obtain ⟨v_44, hv_43, h⟩ := bd_l h
        refine Lo_T (As := [.ref (cA 0), .int 1]) (rest := []) (wA := w_42) (wr := []) 1 6 (1028) (6320) 1554 9530 (co_about l hst D k cA nA tA X_734 w_42 hw_42 1 v_44 hv_43) ⟨hx, hb, hml, hown, hts⟩ (vx_cwSW 2 hts gL_follows_L_about rfl rfl rfl (by decide +kernel) ⟨Nat.le_of_ble_eq_true rfl, Nat.le_of_ble_eq_true rfl⟩) hK hG hC hP hD hS hA (List.Perm.refl _) rfl hl.1 rfl (Nat.le_of_ble_eq_true rfl) dL_follows_766 ⟨rfl, rfl⟩ ⟨rfl, rfl⟩ (by omega) (by omega) (fun ov w_45 H locs hQ hP hD hS => ?_)
        obtain ⟨rfl, hw_45⟩ := hQ
        refine W.eq (g2 := F0 m 769 ls [.long v_44]) rfl ?_
        refine lv_lstore (lv' := [(35, .long v_44), (33, .long v_41), (32, .int v_39), (0, .ref (cA 0)), (1, .int p1), (2, .long x2_734), (7, .long x7_734), (9, .int x9_734)]) hx hb dL_follows_769 hl (by decide) rfl (fun ls hl => ?_)
        refine lv_lload hx hb dL_follows_771 (lv_at hl 1 rfl) ?_
        refine lv_ldc2 (v := -9) hx hb hown w_1 dL_follows_773 ?_
        refine W.lcmp hx hb dL_follows_776 ?_
        refine lv_if_eq (tgt := 861) hx hb dL_follows_777 (by decide) (fun c_46 => ?_) (fun c_46 => ?_)
        · have h := it_l c_46 h
          refine W.widen (k := 1080) (n := 6668) (by omega) (by omega) ?_
          exact hC_861 x2_734 x7_734 X_734 w_45 _ _ _ hw_45 hP hD hS (lv_sub hl [3, 5, 6] rfl) h
        · have h := it_r c_46 h
          refine lv_aload_n hx hb dL_follows_780 rfl (lv_at hl 3 rfl) ?_
          refine lv_iconst (v := 0) hx hb dL_follows_781 (by decide) ?_
          refine lv_lload hx hb dL_follows_782 (lv_at hl 1 rfl) ?_
          refine lv_l2i hx hb dL_follows_784 rfl ?_
          obtain ⟨⟨v_48, X_50⟩, hv_47, h⟩ := bd_l h
          refine Lo_T (As := [.ref (cA 0), .int 0, .int (v_41.toInt32)]) (rest := []) (wA := w_45) (wr := []) 13 87 (1041) (6407) 1554 9530 (co_set l hst D k cA nA tA X_734 w_45 hw_45 0 (v_41.toInt32) (v_48, X_50) hv_47) ⟨hx, hb, hml, hown, hts⟩ (vx_cwSW 3 hts gL_follows_L_set rfl rfl rfl (by decide +kernel) ⟨Nat.le_of_ble_eq_true rfl, Nat.le_of_ble_eq_true rfl⟩) hK hG hC hP hD hS hA (List.Perm.refl _) rfl hl.1 rfl (Nat.le_of_ble_eq_true rfl) dL_follows_785 ⟨rfl, rfl⟩ ⟨rfl, rfl⟩ (by omega) (by omega) (fun ov w_49 H locs hQ hP hD hS => ?_)
          obtain ⟨rfl, hw_49⟩ := hQ
          refine W.eq (g2 := F0 m 788 ls [.long v_48]) rfl ?_
          refine lv_lload hx hb dL_follows_788 (lv_at hl 0 rfl) ?_
          refine W.lcmp hx hb dL_follows_790 ?_
          refine lv_if_ne (tgt := 865) hx hb dL_follows_791 (by decide) (fun c_51 => ?_) (fun c_51 => ?_)
          · have h := it_r c_51 h
            refine W.widen (k := 1080) (n := 6668) (by omega) (by omega) ?_
            exact hC_865 x2_734 x7_734 X_50 w_49 _ _ _ hw_49 hP hD hS (lv_sub hl [3, 5, 6] rfl) h
          · have h := it_l c_51 h
            refine lv_aload_n hx hb dL_follows_794 rfl (lv_at hl 3 rfl) ?_
            refine lv_iconst (v := 3) hx hb dL_follows_795 (by decide) ?_
            refine lv_iconst (v := 1) hx hb dL_follows_796 (by decide) ?_
            obtain ⟨v_53, hv_52, h⟩ := bd_l h
            refine Lo_T (As := [.ref (cA 0), .int 3, .int 1]) (rest := []) (wA := w_49) (wr := []) 2 12 (1043) (6419) 1554 9530 (co_growth l hst D k cA nA tA X_50 w_49 hw_49 3 1 v_53 hv_52) ⟨hx, hb, hml, hown, hts⟩ (vx_cwSW 3 hts gL_follows_L_growth rfl rfl rfl (by decide +kernel) ⟨Nat.le_of_ble_eq_true rfl, Nat.le_of_ble_eq_true rfl⟩) hK hG hC hP hD hS hA (List.Perm.refl _) rfl hl.1 rfl (Nat.le_of_ble_eq_true rfl) dL_follows_797 ⟨rfl, rfl⟩ ⟨rfl, rfl⟩ (by omega) (by omega) (fun ov w_54 H locs hQ hP hD hS => ?_)
            obtain ⟨rfl, hw_54⟩ := hQ
            refine W.eq (g2 := F0 m 800 ls [.long v_53]) rfl ?_
            refine lv_iload hx hb dL_follows_800 (lv_at hl 2 rfl) ?_
            refine lv_i2l hx hb dL_follows_802 rfl ?_
            refine W.lcmp hx hb dL_follows_803 ?_
            refine lv_if_lt (tgt := 865) hx hb dL_follows_804 (by decide) (fun c_55 => ?_) (fun c_55 => ?_)
            · have h := it_l c_55 h
              refine W.widen (k := 1080) (n := 6668) (by omega) (by omega) ?_
              exact hC_865 x2_734 x7_734 X_50 w_54 _ _ _ hw_54 hP hD hS (lv_sub hl [3, 5, 6] rfl) h
            · have h := it_r c_55 h
              refine lv_aload_n hx hb dL_follows_807 rfl (lv_at hl 3 rfl) ?_
              obtain ⟨⟨v_57, X_59⟩, hv_56, h⟩ := bd_l h
              refine Lo_T (As := [.ref (cA 0)]) (rest := []) (wA := w_54) (wr := []) 11 75 (1054) (6494) 1554 9530 (co_undo l hst D k cA nA tA X_50 w_54 hw_54 (v_57, X_59) hv_56) ⟨hx, hb, hml, hown, hts⟩ (vx_cwSW 1 hts gL_follows_L_undo rfl rfl rfl (by decide +kernel) ⟨Nat.le_of_ble_eq_true rfl, Nat.le_of_ble_eq_true rfl⟩) hK hG hC hP hD hS hA (List.Perm.refl _) rfl hl.1 rfl (Nat.le_of_ble_eq_true rfl) dL_follows_808 ⟨rfl, rfl⟩ ⟨rfl, rfl⟩ (by omega) (by omega) (fun ov w_58 H locs hQ hP hD hS => ?_)
              obtain ⟨rfl, hw_58⟩ := hQ
              refine W.eq (g2 := F0 m 811 ls [.long v_57]) rfl ?_
              refine lv_lconst (v := 0) hx hb dL_follows_811 (by decide) ?_
              refine W.lcmp hx hb dL_follows_812 ?_
              refine lv_if_lt (tgt := 865) hx hb dL_follows_813 (by decide) (fun c_60 => ?_) (fun c_60 => ?_)
              · have h := it_l c_60 h
                refine W.widen (k := 1080) (n := 6668) (by omega) (by omega) ?_
                exact hC_865 x2_734 x7_734 X_59 w_58 _ _ _ hw_58 hP hD hS (lv_sub hl [3, 5, 6] rfl) h
              · have h := it_r c_60 h
                refine lv_lload hx hb dL_follows_816 (lv_at hl 1 rfl) ?_
                refine lv_lconst (v := 0) hx hb dL_follows_818 (by decide) ?_
                refine W.lcmp hx hb dL_follows_819 ?_
                refine lv_if_eq (tgt := 861) hx hb dL_follows_820 (by decide) (fun c_61 => ?_) (fun c_61 => ?_)
                · have h := it_l c_61 h
                  refine W.widen (k := 1080) (n := 6668) (by omega) (by omega) ?_
                  exact hC_861 x2_734 x7_734 X_59 w_58 _ _ _ hw_58 hP hD hS (lv_sub hl [3, 5, 6] rfl) h
                · have h := it_r c_61 h
                  refine lv_aload_n hx hb dL_follows_823 rfl (lv_at hl 3 rfl) ?_
                  refine lv_iconst (v := 0) hx hb dL_follows_824 (by decide) ?_
                  refine lv_lload hx hb dL_follows_825 (lv_at hl 1 rfl) ?_
                  refine lv_l2i hx hb dL_follows_827 rfl ?_
                  refine lv_iconst (v := 1) hx hb dL_follows_828 (by decide) ?_
                  refine lv_isub hx hb dL_follows_829 ?_
                  obtain ⟨⟨v_63, X_65⟩, hv_62, h⟩ := bd_l h
                  refine Lo_T (As := [.ref (cA 0), .int 0, .int ((v_41.toInt32) - 1)]) (rest := []) (wA := w_58) (wr := []) 13 87 (1067) (6581) 1554 9530 (co_set l hst D k cA nA tA X_59 w_58 hw_58 0 ((v_41.toInt32) - 1) (v_63, X_65) hv_62) ⟨hx, hb, hml, hown, hts⟩ (vx_cwSW 3 hts gL_follows_L_set rfl rfl rfl (by decide +kernel) ⟨Nat.le_of_ble_eq_true rfl, Nat.le_of_ble_eq_true rfl⟩) hK hG hC hP hD hS hA (List.Perm.refl _) rfl hl.1 rfl (Nat.le_of_ble_eq_true rfl) dL_follows_830 ⟨rfl, rfl⟩ ⟨rfl, rfl⟩ (by omega) (by omega) (fun ov w_64 H locs hQ hP hD hS => ?_)
                  obtain ⟨rfl, hw_64⟩ := hQ
                  refine W.eq (g2 := F0 m 833 ls [.long v_63]) rfl ?_
                  refine lv_lload hx hb dL_follows_833 (lv_at hl 0 rfl) ?_
                  refine W.lcmp hx hb dL_follows_835 ?_
                  refine lv_if_ne (tgt := 865) hx hb dL_follows_836 (by decide) (fun c_66 => ?_) (fun c_66 => ?_)
                  · have h := it_r c_66 h
                    refine W.widen (k := 1080) (n := 6668) (by omega) (by omega) ?_
                    exact hC_865 x2_734 x7_734 X_65 w_64 _ _ _ hw_64 hP hD hS (lv_sub hl [3, 5, 6] rfl) h
                  · have h := it_l c_66 h
                    refine lv_aload_n hx hb dL_follows_839 rfl (lv_at hl 3 rfl) ?_
                    refine lv_iconst (v := 3) hx hb dL_follows_840 (by decide) ?_
                    refine lv_iconst (v := 1) hx hb dL_follows_841 (by decide) ?_
                    obtain ⟨v_68, hv_67, h⟩ := bd_l h
                    refine Lo_T (As := [.ref (cA 0), .int 3, .int 1]) (rest := []) (wA := w_64) (wr := []) 2 12 (1069) (6593) 1554 9530 (co_growth l hst D k cA nA tA X_65 w_64 hw_64 3 1 v_68 hv_67) ⟨hx, hb, hml, hown, hts⟩ (vx_cwSW 3 hts gL_follows_L_growth rfl rfl rfl (by decide +kernel) ⟨Nat.le_of_ble_eq_true rfl, Nat.le_of_ble_eq_true rfl⟩) hK hG hC hP hD hS hA (List.Perm.refl _) rfl hl.1 rfl (Nat.le_of_ble_eq_true rfl) dL_follows_842 ⟨rfl, rfl⟩ ⟨rfl, rfl⟩ (by omega) (by omega) (fun ov w_69 H locs hQ hP hD hS => ?_)
                    obtain ⟨rfl, hw_69⟩ := hQ
                    refine W.eq (g2 := F0 m 845 ls [.long v_68]) rfl ?_
                    refine lv_iload hx hb dL_follows_845 (lv_at hl 2 rfl) ?_
                    refine lv_i2l hx hb dL_follows_847 rfl ?_
                    refine W.lcmp hx hb dL_follows_848 ?_
                    refine lv_if_ge (tgt := 865) hx hb dL_follows_849 (by decide) (fun c_70 => ?_) (fun c_70 => ?_)
                    · have h := it_l c_70 h
                      refine W.widen (k := 1080) (n := 6668) (by omega) (by omega) ?_
                      exact hC_865 x2_734 x7_734 X_65 w_69 _ _ _ hw_69 hP hD hS (lv_sub hl [3, 5, 6] rfl) h
                    · have h := it_r c_70 h
                      refine lv_aload_n hx hb dL_follows_852 rfl (lv_at hl 3 rfl) ?_
                      obtain ⟨⟨v_72, X_74⟩, hv_71, h⟩ := bd_l h
                      refine Lo_T (As := [.ref (cA 0)]) (rest := []) (wA := w_69) (wr := []) 11 75 (1080) (6668) 1554 9530 (co_undo l hst D k cA nA tA X_65 w_69 hw_69 (v_72, X_74) hv_71) ⟨hx, hb, hml, hown, hts⟩ (vx_cwSW 1 hts gL_follows_L_undo rfl rfl rfl (by decide +kernel) ⟨Nat.le_of_ble_eq_true rfl, Nat.le_of_ble_eq_true rfl⟩) hK hG hC hP hD hS hA (List.Perm.refl _) rfl hl.1 rfl (Nat.le_of_ble_eq_true rfl) dL_follows_853 ⟨rfl, rfl⟩ ⟨rfl, rfl⟩ (by omega) (by omega) (fun ov w_73 H locs hQ hP hD hS => ?_)
                      obtain ⟨rfl, hw_73⟩ := hQ
                      refine W.eq (g2 := F0 m 856 ls [.long v_72]) rfl ?_
                      refine lv_lconst (v := 0) hx hb dL_follows_856 (by decide) ?_
                      refine W.lcmp hx hb dL_follows_857 ?_
                      refine lv_if_lt (tgt := 865) hx hb dL_follows_858 (by decide) (fun c_75 => ?_) (fun c_75 => ?_)
                      · have h := it_l c_75 h
                        refine W.widen (k := 1080) (n := 6668) (by omega) (by omega) ?_
                        exact hC_865 x2_734 x7_734 X_74 w_73 _ _ _ hw_73 hP hD hS (lv_sub hl [3, 5, 6] rfl) h
                      · have h := it_r c_75 h
                        refine W.widen (k := 1080) (n := 6668) (by omega) (by omega) ?_
                        exact hC_861 x2_734 x7_734 X_74 w_73 _ _ _ hw_73 hP hD hS (lv_sub hl [3, 5, 6] rfl) h
  have hC_675 : ∀ (fu_675 : Nat) (x2_675 : Int64) (x4_675 : Int32) (x7_675 : Int64) (x9_675 : Int32) (x29_675 : Int64) (x32_675 : Int32) (X_675 : XV) (w_675 : va_W) (H : Heap) (locs : List Loc) (ls : Array Slot), fu_675 ≤ 7 → Ob k cA nA tA X_675 w_675 → va_P D vwCl (w_675 ++ []) H → va_D A (w_675 ++ []) → va_S A s.heap H locs → lv_has ls 37 [(0, .ref (cA 0)), (1, .int p1), (2, .long x2_675), (4, .int x4_675), (7, .long x7_675), (9, .int x9_675), (29, .long x29_675), (32, .int x32_675)] → f_L_follows_675 p1 fu_675 x2_675 x4_675 x7_675 x9_675 x29_675 x32_675 X_675 = some o → W p l e ({ frames := 14, cells := 1554, slots := 9530, locals := 749 } : Room) s m args below meth c H locs ((1012 - 8 * fu_675)) ((6224 - 48 * fu_675)) (vx_MQ below (Qx D A (.inr B9)) (Xx D A (w) (.inr B9)) args s 1554 9530 A) (F0 m 675 ls []) := by
    intro fu_675
    induction fu_675 with
    | zero => intro x2_675 x4_675 x7_675 x9_675 x29_675 x32_675 X_675 w_675 H locs ls _ _ _ _ _ _ h; exact (no_l h).elim
    | succ fu_675 ih_675 =>
      intro x2_675 x4_675 x7_675 x9_675 x29_675 x32_675 X_675 w_675 H locs ls hfu_675 hw_675 hP hD hS hl h
      rw [f_L_follows_675] at h
      refine lv_iload hx hb dL_follows_675 (lv_at hl 7 rfl) ?_
      refine lv_iload hx hb dL_follows_677 (lv_at hl 3 rfl) ?_
      refine lv_icmp_ge (tgt := 734) hx hb dL_follows_679 (by decide) (fun c_76 => ?_) (fun c_76 => ?_)
      · have h := it_l c_76 h
        refine W.widen (k := 1020) (n := 6272) (by omega) (by omega) ?_
        exact hC_734 x2_675 x7_675 x9_675 X_675 w_675 _ _ _ hw_675 hP hD hS (lv_sub hl [0, 1, 2, 4, 5] rfl) h
      · have h := it_r c_76 h
        refine lv_iload hx hb dL_follows_682 (lv_at hl 5 rfl) ?_
        refine lv_if_eq (tgt := 734) hx hb dL_follows_684 (by decide) (fun c_77 => ?_) (fun c_77 => ?_)
        · have h := it_l c_77 h
          refine W.widen (k := 1020) (n := 6272) (by omega) (by omega) ?_
          exact hC_734 x2_675 x7_675 x9_675 X_675 w_675 _ _ _ hw_675 hP hD hS (lv_sub hl [0, 1, 2, 4, 5] rfl) h
        · have h := it_r c_77 h
          refine lv_aload_n hx hb dL_follows_687 rfl (lv_at hl 0 rfl) ?_
          refine lv_iload hx hb dL_follows_688 (lv_at hl 7 rfl) ?_
          refine lv_bipush (v := 7) hx hb dL_follows_690 (by decide) ?_
          obtain ⟨v_79, hv_78, h⟩ := bd_l h
          refine Lo_T (As := [.ref (cA 0), .int x32_675, .int 7]) (rest := []) (wA := w_675) (wr := []) 2 12 ((1012 - 8 * (fu_675 + 1)) + 2) ((6224 - 48 * (fu_675 + 1)) + 12) 1554 9530 (co_effect l hst D k cA nA tA X_675 w_675 hw_675 x32_675 7 v_79 hv_78) ⟨hx, hb, hml, hown, hts⟩ (vx_cwSW 3 hts gL_follows_L_effect rfl rfl rfl (by decide +kernel) ⟨Nat.le_of_ble_eq_true rfl, Nat.le_of_ble_eq_true rfl⟩) hK hG hC hP hD hS hA (List.Perm.refl _) rfl hl.1 rfl (Nat.le_of_ble_eq_true rfl) dL_follows_692 ⟨rfl, rfl⟩ ⟨rfl, rfl⟩ (by omega) (by omega) (fun ov w_80 H locs hQ hP hD hS => ?_)
          obtain ⟨rfl, hw_80⟩ := hQ
          refine W.eq (g2 := F0 m 695 ls [.long v_79]) rfl ?_
          refine lv_lconst (v := 0) hx hb dL_follows_695 (by decide) ?_
          refine W.lcmp hx hb dL_follows_696 ?_
          refine lv_if_gt (tgt := 721) hx hb dL_follows_697 (by decide) (fun c_81 => ?_) (fun c_81 => ?_)
          · have h := it_l c_81 h
            refine lv_iconst (v := 1) hx hb dL_follows_721 (by decide) ?_
            refine lv_goto (tgt := 726) hx hb dL_follows_722 (by decide) ?_
            refine lv_istore (lv' := [(9, .int 1), (0, .ref (cA 0)), (1, .int p1), (2, .long x2_675), (4, .int x4_675), (7, .long x7_675), (29, .long x29_675), (32, .int x32_675)]) hx hb dL_follows_726 hl (by decide) rfl (fun ls hl => ?_)
            refine lv_iinc (v := (x32_675 + 1)) (lv' := [(32, .int (x32_675 + 1)), (9, .int 1), (0, .ref (cA 0)), (1, .int p1), (2, .long x2_675), (4, .int x4_675), (7, .long x7_675), (29, .long x29_675)]) hx hb dL_follows_728 hl (k := 7) rfl rfl (by decide) rfl (fun ls hl => ?_)
            refine lv_goto (tgt := 675) hx hb dL_follows_731 (by decide) ?_
            refine W.widen (k := (1012 - 8 * fu_675)) (n := (6224 - 48 * fu_675)) (by omega) (by omega) ?_
            exact ih_675 x2_675 x4_675 x7_675 1 x29_675 (x32_675 + 1) X_675 w_80 _ _ _ (by omega) hw_80 hP hD hS (lv_sub hl [2, 3, 4, 5, 6, 1, 7, 0] rfl) h
          · have h := it_r c_81 h
            refine lv_aload_n hx hb dL_follows_700 rfl (lv_at hl 0 rfl) ?_
            refine lv_iconst (v := 5) hx hb dL_follows_701 (by decide) ?_
            refine lv_iconst (v := 1) hx hb dL_follows_702 (by decide) ?_
            obtain ⟨v_83, hv_82, h⟩ := bd_l h
            refine Lo_T (As := [.ref (cA 0), .int 5, .int 1]) (rest := []) (wA := w_80) (wr := []) 2 12 ((1012 - 8 * (fu_675 + 1)) + 4) ((6224 - 48 * (fu_675 + 1)) + 24) 1554 9530 (co_growth l hst D k cA nA tA X_675 w_80 hw_80 5 1 v_83 hv_82) ⟨hx, hb, hml, hown, hts⟩ (vx_cwSW 3 hts gL_follows_L_growth rfl rfl rfl (by decide +kernel) ⟨Nat.le_of_ble_eq_true rfl, Nat.le_of_ble_eq_true rfl⟩) hK hG hC hP hD hS hA (List.Perm.refl _) rfl hl.1 rfl (Nat.le_of_ble_eq_true rfl) dL_follows_703 ⟨rfl, rfl⟩ ⟨rfl, rfl⟩ (by omega) (by omega) (fun ov w_84 H locs hQ hP hD hS => ?_)
            obtain ⟨rfl, hw_84⟩ := hQ
            refine W.eq (g2 := F0 m 706 ls [.long v_83]) rfl ?_
            refine lv_aload_n hx hb dL_follows_706 rfl (lv_at hl 0 rfl) ?_
            refine lv_iload hx hb dL_follows_707 (lv_at hl 7 rfl) ?_
            refine lv_iconst (v := 5) hx hb dL_follows_709 (by decide) ?_
            refine lv_iconst (v := 5) hx hb dL_follows_710 (by decide) ?_
            obtain ⟨v_86, hv_85, h⟩ := bd_l h
            refine Lo_T (As := [.ref (cA 0), .int x32_675, .int 5, .int 5]) (rest := [.long v_83]) (wA := w_84) (wr := []) 4 24 ((1012 - 8 * (fu_675 + 1)) + 8) ((6224 - 48 * (fu_675 + 1)) + 48) 1554 9530 (co_washGain l hst D k cA nA tA X_675 w_84 hw_84 x32_675 5 5 v_86 hv_85) ⟨hx, hb, hml, hown, hts⟩ (vx_cwSW 4 hts gL_follows_L_washGain rfl rfl rfl (by decide +kernel) ⟨Nat.le_of_ble_eq_true rfl, Nat.le_of_ble_eq_true rfl⟩) hK hG hC hP hD hS hA (List.Perm.refl _) rfl hl.1 rfl (Nat.le_of_ble_eq_true rfl) dL_follows_711 ⟨rfl, rfl⟩ ⟨rfl, rfl⟩ (by omega) (by omega) (fun ov w_87 H locs hQ hP hD hS => ?_)
            obtain ⟨rfl, hw_87⟩ := hQ
            refine W.eq (g2 := F0 m 714 ls [.long v_86, .long v_83]) rfl ?_
            refine lv_ladd hx hb dL_follows_714 ?_
            refine lv_lload hx hb dL_follows_715 (lv_at hl 6 rfl) ?_
            refine W.lcmp hx hb dL_follows_717 ?_
            refine lv_if_gt (tgt := 725) hx hb dL_follows_718 (by decide) (fun c_88 => ?_) (fun c_88 => ?_)
            · have h := it_l c_88 h
              refine lv_iconst (v := 0) hx hb dL_follows_725 (by decide) ?_
              refine lv_istore (lv' := [(9, .int 0), (0, .ref (cA 0)), (1, .int p1), (2, .long x2_675), (4, .int x4_675), (7, .long x7_675), (29, .long x29_675), (32, .int x32_675)]) hx hb dL_follows_726 hl (by decide) rfl (fun ls hl => ?_)
              refine lv_iinc (v := (x32_675 + 1)) (lv' := [(32, .int (x32_675 + 1)), (9, .int 0), (0, .ref (cA 0)), (1, .int p1), (2, .long x2_675), (4, .int x4_675), (7, .long x7_675), (29, .long x29_675)]) hx hb dL_follows_728 hl (k := 7) rfl rfl (by decide) rfl (fun ls hl => ?_)
              refine lv_goto (tgt := 675) hx hb dL_follows_731 (by decide) ?_
              refine W.widen (k := (1012 - 8 * fu_675)) (n := (6224 - 48 * fu_675)) (by omega) (by omega) ?_
              exact ih_675 x2_675 x4_675 x7_675 0 x29_675 (x32_675 + 1) X_675 w_87 _ _ _ (by omega) hw_87 hP hD hS (lv_sub hl [2, 3, 4, 5, 6, 1, 7, 0] rfl) h
            · have h := it_r c_88 h
              refine lv_iconst (v := 1) hx hb dL_follows_721 (by decide) ?_
              refine lv_goto (tgt := 726) hx hb dL_follows_722 (by decide) ?_
              refine lv_istore (lv' := [(9, .int 1), (0, .ref (cA 0)), (1, .int p1), (2, .long x2_675), (4, .int x4_675), (7, .long x7_675), (29, .long x29_675), (32, .int x32_675)]) hx hb dL_follows_726 hl (by decide) rfl (fun ls hl => ?_)
              refine lv_iinc (v := (x32_675 + 1)) (lv' := [(32, .int (x32_675 + 1)), (9, .int 1), (0, .ref (cA 0)), (1, .int p1), (2, .long x2_675), (4, .int x4_675), (7, .long x7_675), (29, .long x29_675)]) hx hb dL_follows_728 hl (k := 7) rfl rfl (by decide) rfl (fun ls hl => ?_)
              refine lv_goto (tgt := 675) hx hb dL_follows_731 (by decide) ?_
              refine W.widen (k := (1012 - 8 * fu_675)) (n := (6224 - 48 * fu_675)) (by omega) (by omega) ?_
              exact ih_675 x2_675 x4_675 x7_675 1 x29_675 (x32_675 + 1) X_675 w_87 _ _ _ (by omega) hw_87 hP hD hS (lv_sub hl [2, 3, 4, 5, 6, 1, 7, 0] rfl) h
  have hC_648 : ∀ (x2_648 : Int64) (x4_648 : Int32) (x7_648 : Int64) (x29_648 : Int64) (X_648 : XV) (w_648 : va_W) (H : Heap) (locs : List Loc) (ls : Array Slot), Ob k cA nA tA X_648 w_648 → va_P D vwCl (w_648 ++ []) H → va_D A (w_648 ++ []) → va_S A s.heap H locs → lv_has ls 37 [(0, .ref (cA 0)), (1, .int p1), (2, .long x2_648), (4, .int x4_648), (7, .long x7_648), (29, .long x29_648)] → f_L_follows_648 p1 x2_648 x4_648 x7_648 x29_648 X_648 = some o → W p l e ({ frames := 14, cells := 1554, slots := 9530, locals := 749 } : Room) s m args below meth c H locs (920) (5645) (vx_MQ below (Qx D A (.inr B9)) (Xx D A (w) (.inr B9)) args s 1554 9530 A) (F0 m 648 ls []) := by
    intro x2_648 x4_648 x7_648 x29_648 X_648 w_648 H locs ls hw_648 hP hD hS hl h
    unfold f_L_follows_648 at h
    refine lv_aload_n hx hb dL_follows_648 rfl (lv_at hl 0 rfl) ?_
    refine lv_iconst (v := 2) hx hb dL_follows_649 (by decide) ?_
    refine lv_iconst (v := 0) hx hb dL_follows_650 (by decide) ?_
    obtain ⟨v_90, hv_89, h⟩ := bd_l h
    refine Lo_T (As := [.ref (cA 0), .int 2, .int 0]) (rest := []) (wA := w_648) (wr := []) 34 231 (954) (5876) 1554 9530 (co_bestTurns l hst D k cA nA tA X_648 w_648 hw_648 2 0 v_90 hv_89) ⟨hx, hb, hml, hown, hts⟩ (vx_cwSW 3 hts gL_follows_L_bestTurns rfl rfl rfl (by decide +kernel) ⟨Nat.le_of_ble_eq_true rfl, Nat.le_of_ble_eq_true rfl⟩) hK hG hC hP hD hS hA (List.Perm.refl _) rfl hl.1 rfl (Nat.le_of_ble_eq_true rfl) dL_follows_651 ⟨rfl, rfl⟩ ⟨rfl, rfl⟩ (by omega) (by omega) (fun ov w_91 H locs hQ hP hD hS => ?_)
    obtain ⟨rfl, hw_91⟩ := hQ
    refine W.eq (g2 := F0 m 654 ls [.long v_90]) rfl ?_
    refine lv_aload_n hx hb dL_follows_654 rfl (lv_at hl 0 rfl) ?_
    refine lv_bipush (v := 10) hx hb dL_follows_655 (by decide) ?_
    refine lv_iconst (v := 1) hx hb dL_follows_657 (by decide) ?_
    obtain ⟨v_93, hv_92, h⟩ := bd_l h
    refine Lo_T (As := [.ref (cA 0), .int 10, .int 1]) (rest := [.long v_90]) (wA := w_91) (wr := []) 2 12 (956) (5888) 1554 9530 (co_growth l hst D k cA nA tA X_648 w_91 hw_91 10 1 v_93 hv_92) ⟨hx, hb, hml, hown, hts⟩ (vx_cwSW 3 hts gL_follows_L_growth rfl rfl rfl (by decide +kernel) ⟨Nat.le_of_ble_eq_true rfl, Nat.le_of_ble_eq_true rfl⟩) hK hG hC hP hD hS hA (List.Perm.refl _) rfl hl.1 rfl (Nat.le_of_ble_eq_true rfl) dL_follows_658 ⟨rfl, rfl⟩ ⟨rfl, rfl⟩ (by omega) (by omega) (fun ov w_94 H locs hQ hP hD hS => ?_)
    obtain ⟨rfl, hw_94⟩ := hQ
    refine W.eq (g2 := F0 m 661 ls [.long v_93, .long v_90]) rfl ?_
    refine W.lcmp hx hb dL_follows_661 ?_
    refine lv_if_lt (tgt := 669) hx hb dL_follows_662 (by decide) (fun c_95 => ?_) (fun c_95 => ?_)
    · have h := it_l c_95 h
      refine lv_iconst (v := 0) hx hb dL_follows_669 (by decide) ?_
      refine lv_istore (lv' := [(9, .int 0), (0, .ref (cA 0)), (1, .int p1), (2, .long x2_648), (4, .int x4_648), (7, .long x7_648), (29, .long x29_648)]) hx hb dL_follows_670 hl (by decide) rfl (fun ls hl => ?_)
      refine lv_iconst (v := 0) hx hb dL_follows_672 (by decide) ?_
      refine lv_istore (lv' := [(32, .int 0), (9, .int 0), (0, .ref (cA 0)), (1, .int p1), (2, .long x2_648), (4, .int x4_648), (7, .long x7_648), (29, .long x29_648)]) hx hb dL_follows_673 hl (by decide) rfl (fun ls hl => ?_)
      refine W.widen (k := (1012 - 8 * 7)) (n := (6224 - 48 * 7)) (by omega) (by omega) ?_
      exact hC_675 7 x2_648 x4_648 x7_648 0 x29_648 0 X_648 w_94 _ _ _ (Nat.le_refl _) hw_94 hP hD hS (lv_sub hl [2, 3, 4, 5, 6, 1, 7, 0] rfl) h
    · have h := it_r c_95 h
      refine lv_iconst (v := 1) hx hb dL_follows_665 (by decide) ?_
      refine lv_goto (tgt := 670) hx hb dL_follows_666 (by decide) ?_
      refine lv_istore (lv' := [(9, .int 1), (0, .ref (cA 0)), (1, .int p1), (2, .long x2_648), (4, .int x4_648), (7, .long x7_648), (29, .long x29_648)]) hx hb dL_follows_670 hl (by decide) rfl (fun ls hl => ?_)
      refine lv_iconst (v := 0) hx hb dL_follows_672 (by decide) ?_
      refine lv_istore (lv' := [(32, .int 0), (9, .int 1), (0, .ref (cA 0)), (1, .int p1), (2, .long x2_648), (4, .int x4_648), (7, .long x7_648), (29, .long x29_648)]) hx hb dL_follows_673 hl (by decide) rfl (fun ls hl => ?_)
      refine W.widen (k := (1012 - 8 * 7)) (n := (6224 - 48 * 7)) (by omega) (by omega) ?_
      exact hC_675 7 x2_648 x4_648 x7_648 1 x29_648 0 X_648 w_94 _ _ _ (Nat.le_refl _) hw_94 hP hD hS (lv_sub hl [2, 3, 4, 5, 6, 1, 7, 0] rfl) h
  have hC_559 : ∀ (x2_559 : Int64) (x4_559 : Int32) (x7_559 : Int64) (t0_559 : Int32) (X_559 : XV) (w_559 : va_W) (H : Heap) (locs : List Loc) (ls : Array Slot), Ob k cA nA tA X_559 w_559 → va_P D vwCl (w_559 ++ []) H → va_D A (w_559 ++ []) → va_S A s.heap H locs → lv_has ls 37 [(0, .ref (cA 0)), (1, .int p1), (2, .long x2_559), (4, .int x4_559), (7, .long x7_559)] → f_L_follows_559 p1 x2_559 x4_559 x7_559 t0_559 X_559 = some o → W p l e ({ frames := 14, cells := 1554, slots := 9530, locals := 749 } : Room) s m args below meth c H locs (842) (5123) (vx_MQ below (Qx D A (.inr B9)) (Xx D A (w) (.inr B9)) args s 1554 9530 A) (F0 m 559 ls [.int t0_559]) := by
    intro x2_559 x4_559 x7_559 t0_559 X_559 w_559 H locs ls hw_559 hP hD hS hl h
    unfold f_L_follows_559 at h
    refine lv_istore (lv' := [(9, .int t0_559), (0, .ref (cA 0)), (1, .int p1), (2, .long x2_559), (4, .int x4_559), (7, .long x7_559)]) hx hb dL_follows_559 hl (by decide) rfl (fun ls hl => ?_)
    refine lv_aload_n hx hb dL_follows_561 rfl (lv_at hl 1 rfl) ?_
    refine lv_iconst (v := 1) hx hb dL_follows_562 (by decide) ?_
    refine lv_iconst (v := 0) hx hb dL_follows_563 (by decide) ?_
    obtain ⟨v_97, hv_96, h⟩ := bd_l h
    refine Lo_T (As := [.ref (cA 0), .int 1, .int 0]) (rest := []) (wA := w_559) (wr := []) 34 231 (876) (5354) 1554 9530 (co_bestTurns l hst D k cA nA tA X_559 w_559 hw_559 1 0 v_97 hv_96) ⟨hx, hb, hml, hown, hts⟩ (vx_cwSW 3 hts gL_follows_L_bestTurns rfl rfl rfl (by decide +kernel) ⟨Nat.le_of_ble_eq_true rfl, Nat.le_of_ble_eq_true rfl⟩) hK hG hC hP hD hS hA (List.Perm.refl _) rfl hl.1 rfl (Nat.le_of_ble_eq_true rfl) dL_follows_564 ⟨rfl, rfl⟩ ⟨rfl, rfl⟩ (by omega) (by omega) (fun ov w_98 H locs hQ hP hD hS => ?_)
    obtain ⟨rfl, hw_98⟩ := hQ
    refine W.eq (g2 := F0 m 567 ls [.long v_97]) rfl ?_
    refine lv_lstore (lv' := [(29, .long v_97), (9, .int t0_559), (0, .ref (cA 0)), (1, .int p1), (2, .long x2_559), (4, .int x4_559), (7, .long x7_559)]) hx hb dL_follows_567 hl (by decide) rfl (fun ls hl => ?_)
    refine lv_aload_n hx hb dL_follows_569 rfl (lv_at hl 2 rfl) ?_
    refine lv_iconst (v := 1) hx hb dL_follows_570 (by decide) ?_
    refine lv_iconst (v := 1) hx hb dL_follows_571 (by decide) ?_
    obtain ⟨v_100, hv_99, h⟩ := bd_l h
    refine Lo_T (As := [.ref (cA 0), .int 1, .int 1]) (rest := []) (wA := w_98) (wr := []) 34 231 (910) (5585) 1554 9530 (co_bestTurns l hst D k cA nA tA X_559 w_98 hw_98 1 1 v_100 hv_99) ⟨hx, hb, hml, hown, hts⟩ (vx_cwSW 3 hts gL_follows_L_bestTurns rfl rfl rfl (by decide +kernel) ⟨Nat.le_of_ble_eq_true rfl, Nat.le_of_ble_eq_true rfl⟩) hK hG hC hP hD hS hA (List.Perm.refl _) rfl hl.1 rfl (Nat.le_of_ble_eq_true rfl) dL_follows_572 ⟨rfl, rfl⟩ ⟨rfl, rfl⟩ (by omega) (by omega) (fun ov w_101 H locs hQ hP hD hS => ?_)
    obtain ⟨rfl, hw_101⟩ := hQ
    refine W.eq (g2 := F0 m 575 ls [.long v_100]) rfl ?_
    refine lv_l2i hx hb dL_follows_575 rfl ?_
    refine lv_topi (fun v_102 ev_102 => ?_)
    have h := nm_l h ev_102
    refine lv_istore (lv' := [(31, .int v_102), (29, .long v_97), (9, .int t0_559), (0, .ref (cA 0)), (1, .int p1), (2, .long x2_559), (4, .int x4_559), (7, .long x7_559)]) hx hb dL_follows_576 hl (by decide) rfl (fun ls hl => ?_)
    refine lv_iload hx hb dL_follows_578 (lv_at hl 2 rfl) ?_
    refine lv_if_eq (tgt := 669) hx hb dL_follows_580 (by decide) (fun c_103 => ?_) (fun c_103 => ?_)
    · have h := it_l c_103 h
      refine lv_iconst (v := 0) hx hb dL_follows_669 (by decide) ?_
      refine lv_istore (lv' := [(9, .int 0), (31, .int v_102), (29, .long v_97), (0, .ref (cA 0)), (1, .int p1), (2, .long x2_559), (4, .int x4_559), (7, .long x7_559)]) hx hb dL_follows_670 hl (by decide) rfl (fun ls hl => ?_)
      refine lv_iconst (v := 0) hx hb dL_follows_672 (by decide) ?_
      refine lv_istore (lv' := [(32, .int 0), (9, .int 0), (31, .int v_102), (29, .long v_97), (0, .ref (cA 0)), (1, .int p1), (2, .long x2_559), (4, .int x4_559), (7, .long x7_559)]) hx hb dL_follows_673 hl (by decide) rfl (fun ls hl => ?_)
      refine W.widen (k := (1012 - 8 * 7)) (n := (6224 - 48 * 7)) (by omega) (by omega) ?_
      exact hC_675 7 x2_559 x4_559 x7_559 0 v_97 0 X_559 w_101 _ _ _ (Nat.le_refl _) hw_101 hP hD hS (lv_sub hl [4, 5, 6, 7, 8, 1, 3, 0] rfl) h
    · have h := it_r c_103 h
      refine lv_aload_n hx hb dL_follows_583 rfl (lv_at hl 3 rfl) ?_
      refine lv_iconst (v := 5) hx hb dL_follows_584 (by decide) ?_
      refine lv_iconst (v := 1) hx hb dL_follows_585 (by decide) ?_
      obtain ⟨v_105, hv_104, h⟩ := bd_l h
      refine Lo_T (As := [.ref (cA 0), .int 5, .int 1]) (rest := []) (wA := w_101) (wr := []) 2 12 (912) (5597) 1554 9530 (co_growth l hst D k cA nA tA X_559 w_101 hw_101 5 1 v_105 hv_104) ⟨hx, hb, hml, hown, hts⟩ (vx_cwSW 3 hts gL_follows_L_growth rfl rfl rfl (by decide +kernel) ⟨Nat.le_of_ble_eq_true rfl, Nat.le_of_ble_eq_true rfl⟩) hK hG hC hP hD hS hA (List.Perm.refl _) rfl hl.1 rfl (Nat.le_of_ble_eq_true rfl) dL_follows_586 ⟨rfl, rfl⟩ ⟨rfl, rfl⟩ (by omega) (by omega) (fun ov w_106 H locs hQ hP hD hS => ?_)
      obtain ⟨rfl, hw_106⟩ := hQ
      refine W.eq (g2 := F0 m 589 ls [.long v_105]) rfl ?_
      refine lv_lload hx hb dL_follows_589 (lv_at hl 1 rfl) ?_
      refine W.lcmp hx hb dL_follows_591 ?_
      refine lv_if_gt (tgt := 669) hx hb dL_follows_592 (by decide) (fun c_107 => ?_) (fun c_107 => ?_)
      · have h := it_l c_107 h
        refine lv_iconst (v := 0) hx hb dL_follows_669 (by decide) ?_
        refine lv_istore (lv' := [(9, .int 0), (31, .int v_102), (29, .long v_97), (0, .ref (cA 0)), (1, .int p1), (2, .long x2_559), (4, .int x4_559), (7, .long x7_559)]) hx hb dL_follows_670 hl (by decide) rfl (fun ls hl => ?_)
        refine lv_iconst (v := 0) hx hb dL_follows_672 (by decide) ?_
        refine lv_istore (lv' := [(32, .int 0), (9, .int 0), (31, .int v_102), (29, .long v_97), (0, .ref (cA 0)), (1, .int p1), (2, .long x2_559), (4, .int x4_559), (7, .long x7_559)]) hx hb dL_follows_673 hl (by decide) rfl (fun ls hl => ?_)
        refine W.widen (k := (1012 - 8 * 7)) (n := (6224 - 48 * 7)) (by omega) (by omega) ?_
        exact hC_675 7 x2_559 x4_559 x7_559 0 v_97 0 X_559 w_106 _ _ _ (Nat.le_refl _) hw_106 hP hD hS (lv_sub hl [4, 5, 6, 7, 8, 1, 3, 0] rfl) h
      · have h := it_r c_107 h
        refine lv_iload hx hb dL_follows_595 (lv_at hl 0 rfl) ?_
        refine lv_if_lt (tgt := 636) hx hb dL_follows_597 (by decide) (fun c_108 => ?_) (fun c_108 => ?_)
        · have h := it_l c_108 h
          refine lv_aload_n hx hb dL_follows_636 rfl (lv_at hl 3 rfl) ?_
          refine lv_iconst (v := 5) hx hb dL_follows_637 (by decide) ?_
          refine lv_iconst (v := 1) hx hb dL_follows_638 (by decide) ?_
          obtain ⟨v_110, hv_109, h⟩ := bd_l h
          refine Lo_T (As := [.ref (cA 0), .int 5, .int 1]) (rest := []) (wA := w_106) (wr := []) 2 12 (914) (5609) 1554 9530 (co_growth l hst D k cA nA tA X_559 w_106 hw_106 5 1 v_110 hv_109) ⟨hx, hb, hml, hown, hts⟩ (vx_cwSW 3 hts gL_follows_L_growth rfl rfl rfl (by decide +kernel) ⟨Nat.le_of_ble_eq_true rfl, Nat.le_of_ble_eq_true rfl⟩) hK hG hC hP hD hS hA (List.Perm.refl _) rfl hl.1 rfl (Nat.le_of_ble_eq_true rfl) dL_follows_639 ⟨rfl, rfl⟩ ⟨rfl, rfl⟩ (by omega) (by omega) (fun ov w_111 H locs hQ hP hD hS => ?_)
          obtain ⟨rfl, hw_111⟩ := hQ
          refine W.eq (g2 := F0 m 642 ls [.long v_110]) rfl ?_
          refine lv_lload hx hb dL_follows_642 (lv_at hl 1 rfl) ?_
          refine W.lcmp hx hb dL_follows_644 ?_
          refine lv_if_ne (tgt := 669) hx hb dL_follows_645 (by decide) (fun c_112 => ?_) (fun c_112 => ?_)
          · have h := it_r c_112 h
            refine lv_iconst (v := 0) hx hb dL_follows_669 (by decide) ?_
            refine lv_istore (lv' := [(9, .int 0), (31, .int v_102), (29, .long v_97), (0, .ref (cA 0)), (1, .int p1), (2, .long x2_559), (4, .int x4_559), (7, .long x7_559)]) hx hb dL_follows_670 hl (by decide) rfl (fun ls hl => ?_)
            refine lv_iconst (v := 0) hx hb dL_follows_672 (by decide) ?_
            refine lv_istore (lv' := [(32, .int 0), (9, .int 0), (31, .int v_102), (29, .long v_97), (0, .ref (cA 0)), (1, .int p1), (2, .long x2_559), (4, .int x4_559), (7, .long x7_559)]) hx hb dL_follows_673 hl (by decide) rfl (fun ls hl => ?_)
            refine W.widen (k := (1012 - 8 * 7)) (n := (6224 - 48 * 7)) (by omega) (by omega) ?_
            exact hC_675 7 x2_559 x4_559 x7_559 0 v_97 0 X_559 w_111 _ _ _ (Nat.le_refl _) hw_111 hP hD hS (lv_sub hl [4, 5, 6, 7, 8, 1, 3, 0] rfl) h
          · have h := it_l c_112 h
            refine W.widen (k := 920) (n := 5645) (by omega) (by omega) ?_
            exact hC_648 x2_559 x4_559 x7_559 v_97 X_559 w_111 _ _ _ hw_111 hP hD hS (lv_sub hl [3, 4, 5, 6, 7, 1] rfl) h
        · have h := it_r c_108 h
          refine lv_aload_n hx hb dL_follows_600 rfl (lv_at hl 3 rfl) ?_
          refine lv_iconst (v := 5) hx hb dL_follows_601 (by decide) ?_
          refine lv_iconst (v := 1) hx hb dL_follows_602 (by decide) ?_
          obtain ⟨v_114, hv_113, h⟩ := bd_l h
          refine Lo_T (As := [.ref (cA 0), .int 5, .int 1]) (rest := []) (wA := w_106) (wr := []) 2 12 (914) (5609) 1554 9530 (co_growth l hst D k cA nA tA X_559 w_106 hw_106 5 1 v_114 hv_113) ⟨hx, hb, hml, hown, hts⟩ (vx_cwSW 3 hts gL_follows_L_growth rfl rfl rfl (by decide +kernel) ⟨Nat.le_of_ble_eq_true rfl, Nat.le_of_ble_eq_true rfl⟩) hK hG hC hP hD hS hA (List.Perm.refl _) rfl hl.1 rfl (Nat.le_of_ble_eq_true rfl) dL_follows_603 ⟨rfl, rfl⟩ ⟨rfl, rfl⟩ (by omega) (by omega) (fun ov w_115 H locs hQ hP hD hS => ?_)
          obtain ⟨rfl, hw_115⟩ := hQ
          refine W.eq (g2 := F0 m 606 ls [.long v_114]) rfl ?_
          refine lv_lload hx hb dL_follows_606 (lv_at hl 1 rfl) ?_
          refine W.lcmp hx hb dL_follows_608 ?_
          refine lv_if_ge (tgt := 669) hx hb dL_follows_609 (by decide) (fun c_116 => ?_) (fun c_116 => ?_)
          · have h := it_l c_116 h
            refine lv_iconst (v := 0) hx hb dL_follows_669 (by decide) ?_
            refine lv_istore (lv' := [(9, .int 0), (31, .int v_102), (29, .long v_97), (0, .ref (cA 0)), (1, .int p1), (2, .long x2_559), (4, .int x4_559), (7, .long x7_559)]) hx hb dL_follows_670 hl (by decide) rfl (fun ls hl => ?_)
            refine lv_iconst (v := 0) hx hb dL_follows_672 (by decide) ?_
            refine lv_istore (lv' := [(32, .int 0), (9, .int 0), (31, .int v_102), (29, .long v_97), (0, .ref (cA 0)), (1, .int p1), (2, .long x2_559), (4, .int x4_559), (7, .long x7_559)]) hx hb dL_follows_673 hl (by decide) rfl (fun ls hl => ?_)
            refine W.widen (k := (1012 - 8 * 7)) (n := (6224 - 48 * 7)) (by omega) (by omega) ?_
            exact hC_675 7 x2_559 x4_559 x7_559 0 v_97 0 X_559 w_115 _ _ _ (Nat.le_refl _) hw_115 hP hD hS (lv_sub hl [4, 5, 6, 7, 8, 1, 3, 0] rfl) h
          · have h := it_r c_116 h
            refine lv_aload_n hx hb dL_follows_612 rfl (lv_at hl 3 rfl) ?_
            refine lv_iconst (v := 5) hx hb dL_follows_613 (by decide) ?_
            refine lv_iconst (v := 1) hx hb dL_follows_614 (by decide) ?_
            obtain ⟨v_118, hv_117, h⟩ := bd_l h
            refine Lo_T (As := [.ref (cA 0), .int 5, .int 1]) (rest := []) (wA := w_115) (wr := []) 2 12 (916) (5621) 1554 9530 (co_growth l hst D k cA nA tA X_559 w_115 hw_115 5 1 v_118 hv_117) ⟨hx, hb, hml, hown, hts⟩ (vx_cwSW 3 hts gL_follows_L_growth rfl rfl rfl (by decide +kernel) ⟨Nat.le_of_ble_eq_true rfl, Nat.le_of_ble_eq_true rfl⟩) hK hG hC hP hD hS hA (List.Perm.refl _) rfl hl.1 rfl (Nat.le_of_ble_eq_true rfl) dL_follows_615 ⟨rfl, rfl⟩ ⟨rfl, rfl⟩ (by omega) (by omega) (fun ov w_119 H locs hQ hP hD hS => ?_)
            obtain ⟨rfl, hw_119⟩ := hQ
            refine W.eq (g2 := F0 m 618 ls [.long v_118]) rfl ?_
            refine lv_aload_n hx hb dL_follows_618 rfl (lv_at hl 3 rfl) ?_
            refine lv_iload hx hb dL_follows_619 (lv_at hl 0 rfl) ?_
            refine lv_iconst (v := 5) hx hb dL_follows_621 (by decide) ?_
            refine lv_iconst (v := 5) hx hb dL_follows_622 (by decide) ?_
            obtain ⟨v_121, hv_120, h⟩ := bd_l h
            refine Lo_T (As := [.ref (cA 0), .int v_102, .int 5, .int 5]) (rest := [.long v_118]) (wA := w_119) (wr := []) 4 24 (920) (5645) 1554 9530 (co_washGain l hst D k cA nA tA X_559 w_119 hw_119 v_102 5 5 v_121 hv_120) ⟨hx, hb, hml, hown, hts⟩ (vx_cwSW 4 hts gL_follows_L_washGain rfl rfl rfl (by decide +kernel) ⟨Nat.le_of_ble_eq_true rfl, Nat.le_of_ble_eq_true rfl⟩) hK hG hC hP hD hS hA (List.Perm.refl _) rfl hl.1 rfl (Nat.le_of_ble_eq_true rfl) dL_follows_623 ⟨rfl, rfl⟩ ⟨rfl, rfl⟩ (by omega) (by omega) (fun ov w_122 H locs hQ hP hD hS => ?_)
            obtain ⟨rfl, hw_122⟩ := hQ
            refine W.eq (g2 := F0 m 626 ls [.long v_121, .long v_118]) rfl ?_
            refine lv_ladd hx hb dL_follows_626 ?_
            refine lv_lload hx hb dL_follows_627 (lv_at hl 1 rfl) ?_
            refine W.lcmp hx hb dL_follows_629 ?_
            refine lv_if_ne (tgt := 669) hx hb dL_follows_630 (by decide) (fun c_123 => ?_) (fun c_123 => ?_)
            · have h := it_r c_123 h
              refine lv_iconst (v := 0) hx hb dL_follows_669 (by decide) ?_
              refine lv_istore (lv' := [(9, .int 0), (31, .int v_102), (29, .long v_97), (0, .ref (cA 0)), (1, .int p1), (2, .long x2_559), (4, .int x4_559), (7, .long x7_559)]) hx hb dL_follows_670 hl (by decide) rfl (fun ls hl => ?_)
              refine lv_iconst (v := 0) hx hb dL_follows_672 (by decide) ?_
              refine lv_istore (lv' := [(32, .int 0), (9, .int 0), (31, .int v_102), (29, .long v_97), (0, .ref (cA 0)), (1, .int p1), (2, .long x2_559), (4, .int x4_559), (7, .long x7_559)]) hx hb dL_follows_673 hl (by decide) rfl (fun ls hl => ?_)
              refine W.widen (k := (1012 - 8 * 7)) (n := (6224 - 48 * 7)) (by omega) (by omega) ?_
              exact hC_675 7 x2_559 x4_559 x7_559 0 v_97 0 X_559 w_122 _ _ _ (Nat.le_refl _) hw_122 hP hD hS (lv_sub hl [4, 5, 6, 7, 8, 1, 3, 0] rfl) h
            · have h := it_l c_123 h
              refine lv_goto (tgt := 648) hx hb dL_follows_633 (by decide) ?_
              refine W.widen (k := 920) (n := 5645) (by omega) (by omega) ?_
              exact hC_648 x2_559 x4_559 x7_559 v_97 X_559 w_122 _ _ _ hw_122 hP hD hS (lv_sub hl [3, 4, 5, 6, 7, 1] rfl) h
  have hC_558 : ∀ (x2_558 : Int64) (x4_558 : Int32) (x7_558 : Int64) (X_558 : XV) (w_558 : va_W) (H : Heap) (locs : List Loc) (ls : Array Slot), Ob k cA nA tA X_558 w_558 → va_P D vwCl (w_558 ++ []) H → va_D A (w_558 ++ []) → va_S A s.heap H locs → lv_has ls 37 [(0, .ref (cA 0)), (1, .int p1), (2, .long x2_558), (4, .int x4_558), (7, .long x7_558)] → f_L_follows_558 p1 x2_558 x4_558 x7_558 X_558 = some o → W p l e ({ frames := 14, cells := 1554, slots := 9530, locals := 749 } : Room) s m args below meth c H locs (842) (5123) (vx_MQ below (Qx D A (.inr B9)) (Xx D A (w) (.inr B9)) args s 1554 9530 A) (F0 m 558 ls []) := by
    intro x2_558 x4_558 x7_558 X_558 w_558 H locs ls hw_558 hP hD hS hl h
    unfold f_L_follows_558 at h
    refine lv_iconst (v := 0) hx hb dL_follows_558 (by decide) ?_
    refine W.widen (k := 842) (n := 5123) (by omega) (by omega) ?_
    exact hC_559 x2_558 x4_558 x7_558 0 X_558 w_558 _ _ _ hw_558 hP hD hS (lv_sub hl [0, 1, 2, 3, 4] rfl) h
  have hC_545 : ∀ (x2_545 : Int64) (x4_545 : Int32) (x7_545 : Int64) (X_545 : XV) (w_545 : va_W) (H : Heap) (locs : List Loc) (ls : Array Slot), Ob k cA nA tA X_545 w_545 → va_P D vwCl (w_545 ++ []) H → va_D A (w_545 ++ []) → va_S A s.heap H locs → lv_has ls 37 [(0, .ref (cA 0)), (1, .int p1), (2, .long x2_545), (4, .int x4_545), (7, .long x7_545)] → f_L_follows_545 p1 x2_545 x4_545 x7_545 X_545 = some o → W p l e ({ frames := 14, cells := 1554, slots := 9530, locals := 749 } : Room) s m args below meth c H locs (618) (3779) (vx_MQ below (Qx D A (.inr B9)) (Xx D A (w) (.inr B9)) args s 1554 9530 A) (F0 m 545 ls []) := by
    intro x2_545 x4_545 x7_545 X_545 w_545 H locs ls hw_545 hP hD hS hl h
    unfold f_L_follows_545 at h
    refine lv_aload_n hx hb dL_follows_545 rfl (lv_at hl 0 rfl) ?_
    obtain ⟨v_125, hv_124, h⟩ := bd_l h
    refine Lo_S (As := [.ref (cA 0)]) (rest := []) (wA := w_545) (wr := []) 224 1344 (842) (5123) 1554 9530 (c_L_now l hst D k cA nA tA X_545 w_545 hw_545 v_125 hv_124) ⟨hx, hb, hml, hown, hts⟩ (va_cwS 1 hts gL_follows_L_now rfl rfl rfl (by decide +kernel) ⟨Nat.le_of_ble_eq_true rfl, Nat.le_of_ble_eq_true rfl⟩) hK hG hC hP hD hS hA (List.Perm.refl _) rfl hl.1 rfl (Nat.le_of_ble_eq_true rfl) dL_follows_546 ⟨rfl, rfl⟩ ⟨rfl, rfl⟩ (by omega) (by omega) (fun ov w_126 H locs hQ hP hD hS => ?_)
    obtain ⟨rfl, hw_126⟩ := hQ
    refine W.eq (g2 := F0 m 549 ls [.long v_125]) rfl ?_
    refine lv_lload_n hx hb dL_follows_549 rfl (lv_at hl 2 rfl) ?_
    refine W.lcmp hx hb dL_follows_550 ?_
    refine lv_if_ne (tgt := 558) hx hb dL_follows_551 (by decide) (fun c_127 => ?_) (fun c_127 => ?_)
    · have h := it_r c_127 h
      refine W.widen (k := 842) (n := 5123) (by omega) (by omega) ?_
      exact hC_558 x2_545 x4_545 x7_545 X_545 w_126 _ _ _ hw_126 hP hD hS (lv_sub hl [0, 1, 2, 3, 4] rfl) h
    · have h := it_l c_127 h
      refine lv_iconst (v := 1) hx hb dL_follows_554 (by decide) ?_
      refine lv_goto (tgt := 559) hx hb dL_follows_555 (by decide) ?_
      refine W.widen (k := 842) (n := 5123) (by omega) (by omega) ?_
      exact hC_559 x2_545 x4_545 x7_545 1 X_545 w_126 _ _ _ hw_126 hP hD hS (lv_sub hl [0, 1, 2, 3, 4] rfl) h
  have hC_474 : ∀ (x2_474 : Int64) (x4_474 : Int32) (x5_474 : Int32) (x6_474 : Int32) (x7_474 : Int64) (x22_474 : Int32) (x25_474 : Int64) (x27_474 : Int64) (t0_474 : Int64) (t1_474 : Int64) (X_474 : XV) (w_474 : va_W) (H : Heap) (locs : List Loc) (ls : Array Slot), Ob k cA nA tA X_474 w_474 → va_P D vwCl (w_474 ++ []) H → va_D A (w_474 ++ []) → va_S A s.heap H locs → lv_has ls 37 [(0, .ref (cA 0)), (1, .int p1), (2, .long x2_474), (4, .int x4_474), (5, .int x5_474), (6, .int x6_474), (7, .long x7_474), (22, .int x22_474), (25, .long x25_474), (27, .long x27_474)] → f_L_follows_474 p1 x2_474 x4_474 x5_474 x6_474 x7_474 x22_474 x25_474 x27_474 t0_474 t1_474 X_474 = some o → W p l e ({ frames := 14, cells := 1554, slots := 9530, locals := 749 } : Room) s m args below meth c H locs (580) (3524) (vx_MQ below (Qx D A (.inr B9)) (Xx D A (w) (.inr B9)) args s 1554 9530 A) (F0 m 474 ls [.long t0_474, .long t1_474]) := by
    intro x2_474 x4_474 x5_474 x6_474 x7_474 x22_474 x25_474 x27_474 t0_474 t1_474 X_474 w_474 H locs ls hw_474 hP hD hS hl h
    unfold f_L_follows_474 at h
    refine W.lcmp hx hb dL_follows_474 ?_
    refine lv_if_ne (tgt := 558) hx hb dL_follows_475 (by decide) (fun c_128 => ?_) (fun c_128 => ?_)
    · have h := it_r c_128 h
      refine W.widen (k := 842) (n := 5123) (by omega) (by omega) ?_
      exact hC_558 x2_474 x4_474 x7_474 X_474 w_474 _ _ _ hw_474 hP hD hS (lv_sub hl [0, 1, 2, 3, 6] rfl) h
    · have h := it_l c_128 h
      refine lv_iload hx hb dL_follows_478 (lv_at hl 7 rfl) ?_
      refine lv_if_eq (tgt := 545) hx hb dL_follows_480 (by decide) (fun c_129 => ?_) (fun c_129 => ?_)
      · have h := it_l c_129 h
        refine W.widen (k := 618) (n := 3779) (by omega) (by omega) ?_
        exact hC_545 x2_474 x4_474 x7_474 X_474 w_474 _ _ _ hw_474 hP hD hS (lv_sub hl [0, 1, 2, 3, 6] rfl) h
      · have h := it_r c_129 h
        refine lv_aload_n hx hb dL_follows_483 rfl (lv_at hl 0 rfl) ?_
        refine lv_iload hx hb dL_follows_484 (lv_at hl 4 rfl) ?_
        refine lv_iconst (v := 1) hx hb dL_follows_486 (by decide) ?_
        obtain ⟨v_131, hv_130, h⟩ := bd_l h
        refine Lo_T (As := [.ref (cA 0), .int x5_474, .int 1]) (rest := []) (wA := w_474) (wr := []) 2 12 (582) (3536) 1554 9530 (co_growth l hst D k cA nA tA X_474 w_474 hw_474 x5_474 1 v_131 hv_130) ⟨hx, hb, hml, hown, hts⟩ (vx_cwSW 3 hts gL_follows_L_growth rfl rfl rfl (by decide +kernel) ⟨Nat.le_of_ble_eq_true rfl, Nat.le_of_ble_eq_true rfl⟩) hK hG hC hP hD hS hA (List.Perm.refl _) rfl hl.1 rfl (Nat.le_of_ble_eq_true rfl) dL_follows_487 ⟨rfl, rfl⟩ ⟨rfl, rfl⟩ (by omega) (by omega) (fun ov w_132 H locs hQ hP hD hS => ?_)
        obtain ⟨rfl, hw_132⟩ := hQ
        refine W.eq (g2 := F0 m 490 ls [.long v_131]) rfl ?_
        refine lv_lload hx hb dL_follows_490 (lv_at hl 9 rfl) ?_
        refine lv_lsub hx hb dL_follows_492 ?_
        refine lv_lload hx hb dL_follows_493 (lv_at hl 8 rfl) ?_
        refine W.lcmp hx hb dL_follows_495 ?_
        refine lv_if_ne (tgt := 558) hx hb dL_follows_496 (by decide) (fun c_133 => ?_) (fun c_133 => ?_)
        · have h := it_r c_133 h
          refine W.widen (k := 842) (n := 5123) (by omega) (by omega) ?_
          exact hC_558 x2_474 x4_474 x7_474 X_474 w_132 _ _ _ hw_132 hP hD hS (lv_sub hl [0, 1, 2, 3, 6] rfl) h
        · have h := it_l c_133 h
          refine lv_aload_n hx hb dL_follows_499 rfl (lv_at hl 0 rfl) ?_
          refine lv_iload hx hb dL_follows_500 (lv_at hl 5 rfl) ?_
          refine lv_bipush (v := 7) hx hb dL_follows_502 (by decide) ?_
          obtain ⟨v_135, hv_134, h⟩ := bd_l h
          refine Lo_T (As := [.ref (cA 0), .int x6_474, .int 7]) (rest := []) (wA := w_132) (wr := []) 2 12 (584) (3548) 1554 9530 (co_effect l hst D k cA nA tA X_474 w_132 hw_132 x6_474 7 v_135 hv_134) ⟨hx, hb, hml, hown, hts⟩ (vx_cwSW 3 hts gL_follows_L_effect rfl rfl rfl (by decide +kernel) ⟨Nat.le_of_ble_eq_true rfl, Nat.le_of_ble_eq_true rfl⟩) hK hG hC hP hD hS hA (List.Perm.refl _) rfl hl.1 rfl (Nat.le_of_ble_eq_true rfl) dL_follows_504 ⟨rfl, rfl⟩ ⟨rfl, rfl⟩ (by omega) (by omega) (fun ov w_136 H locs hQ hP hD hS => ?_)
          obtain ⟨rfl, hw_136⟩ := hQ
          refine W.eq (g2 := F0 m 507 ls [.long v_135]) rfl ?_
          refine lv_ldc2 (v := 5) hx hb hown w_2 dL_follows_507 ?_
          refine W.lcmp hx hb dL_follows_510 ?_
          refine lv_if_ne (tgt := 558) hx hb dL_follows_511 (by decide) (fun c_137 => ?_) (fun c_137 => ?_)
          · have h := it_r c_137 h
            refine W.widen (k := 842) (n := 5123) (by omega) (by omega) ?_
            exact hC_558 x2_474 x4_474 x7_474 X_474 w_136 _ _ _ hw_136 hP hD hS (lv_sub hl [0, 1, 2, 3, 6] rfl) h
          · have h := it_l c_137 h
            refine lv_aload_n hx hb dL_follows_514 rfl (lv_at hl 0 rfl) ?_
            refine lv_iload hx hb dL_follows_515 (lv_at hl 5 rfl) ?_
            obtain ⟨⟨v_139, X_141⟩, hv_138, h⟩ := bd_l h
            refine Lo_T (As := [.ref (cA 0), .int x6_474]) (rest := []) (wA := w_136) (wr := []) 12 81 (596) (3629) 1554 9530 (co_endWash l hst D k cA nA tA X_474 w_136 hw_136 x6_474 (v_139, X_141) hv_138) ⟨hx, hb, hml, hown, hts⟩ (vx_cwSW 2 hts gL_follows_L_endWash rfl rfl rfl (by decide +kernel) ⟨Nat.le_of_ble_eq_true rfl, Nat.le_of_ble_eq_true rfl⟩) hK hG hC hP hD hS hA (List.Perm.refl _) rfl hl.1 rfl (Nat.le_of_ble_eq_true rfl) dL_follows_517 ⟨rfl, rfl⟩ ⟨rfl, rfl⟩ (by omega) (by omega) (fun ov w_140 H locs hQ hP hD hS => ?_)
            obtain ⟨rfl, hw_140⟩ := hQ
            refine W.eq (g2 := F0 m 520 ls [.long v_139]) rfl ?_
            refine lv_ldc2 (v := 5) hx hb hown w_2 dL_follows_520 ?_
            refine W.lcmp hx hb dL_follows_523 ?_
            refine lv_if_ne (tgt := 558) hx hb dL_follows_524 (by decide) (fun c_142 => ?_) (fun c_142 => ?_)
            · have h := it_r c_142 h
              refine W.widen (k := 842) (n := 5123) (by omega) (by omega) ?_
              exact hC_558 x2_474 x4_474 x7_474 X_141 w_140 _ _ _ hw_140 hP hD hS (lv_sub hl [0, 1, 2, 3, 6] rfl) h
            · have h := it_l c_142 h
              refine lv_aload_n hx hb dL_follows_527 rfl (lv_at hl 0 rfl) ?_
              obtain ⟨⟨v_144, X_146⟩, hv_143, h⟩ := bd_l h
              refine Lo_T (As := [.ref (cA 0)]) (rest := []) (wA := w_140) (wr := []) 11 75 (607) (3704) 1554 9530 (co_undo l hst D k cA nA tA X_141 w_140 hw_140 (v_144, X_146) hv_143) ⟨hx, hb, hml, hown, hts⟩ (vx_cwSW 1 hts gL_follows_L_undo rfl rfl rfl (by decide +kernel) ⟨Nat.le_of_ble_eq_true rfl, Nat.le_of_ble_eq_true rfl⟩) hK hG hC hP hD hS hA (List.Perm.refl _) rfl hl.1 rfl (Nat.le_of_ble_eq_true rfl) dL_follows_528 ⟨rfl, rfl⟩ ⟨rfl, rfl⟩ (by omega) (by omega) (fun ov w_145 H locs hQ hP hD hS => ?_)
              obtain ⟨rfl, hw_145⟩ := hQ
              refine W.eq (g2 := F0 m 531 ls [.long v_144]) rfl ?_
              refine lv_lconst (v := 0) hx hb dL_follows_531 (by decide) ?_
              refine W.lcmp hx hb dL_follows_532 ?_
              refine lv_if_lt (tgt := 558) hx hb dL_follows_533 (by decide) (fun c_147 => ?_) (fun c_147 => ?_)
              · have h := it_l c_147 h
                refine W.widen (k := 842) (n := 5123) (by omega) (by omega) ?_
                exact hC_558 x2_474 x4_474 x7_474 X_146 w_145 _ _ _ hw_145 hP hD hS (lv_sub hl [0, 1, 2, 3, 6] rfl) h
              · have h := it_r c_147 h
                refine lv_aload_n hx hb dL_follows_536 rfl (lv_at hl 0 rfl) ?_
                obtain ⟨⟨v_149, X_151⟩, hv_148, h⟩ := bd_l h
                refine Lo_T (As := [.ref (cA 0)]) (rest := []) (wA := w_145) (wr := []) 11 75 (618) (3779) 1554 9530 (co_undo l hst D k cA nA tA X_146 w_145 hw_145 (v_149, X_151) hv_148) ⟨hx, hb, hml, hown, hts⟩ (vx_cwSW 1 hts gL_follows_L_undo rfl rfl rfl (by decide +kernel) ⟨Nat.le_of_ble_eq_true rfl, Nat.le_of_ble_eq_true rfl⟩) hK hG hC hP hD hS hA (List.Perm.refl _) rfl hl.1 rfl (Nat.le_of_ble_eq_true rfl) dL_follows_537 ⟨rfl, rfl⟩ ⟨rfl, rfl⟩ (by omega) (by omega) (fun ov w_150 H locs hQ hP hD hS => ?_)
                obtain ⟨rfl, hw_150⟩ := hQ
                refine W.eq (g2 := F0 m 540 ls [.long v_149]) rfl ?_
                refine lv_lconst (v := 0) hx hb dL_follows_540 (by decide) ?_
                refine W.lcmp hx hb dL_follows_541 ?_
                refine lv_if_lt (tgt := 558) hx hb dL_follows_542 (by decide) (fun c_152 => ?_) (fun c_152 => ?_)
                · have h := it_l c_152 h
                  refine W.widen (k := 842) (n := 5123) (by omega) (by omega) ?_
                  exact hC_558 x2_474 x4_474 x7_474 X_151 w_150 _ _ _ hw_150 hP hD hS (lv_sub hl [0, 1, 2, 3, 6] rfl) h
                · have h := it_r c_152 h
                  refine W.widen (k := 618) (n := 3779) (by omega) (by omega) ?_
                  exact hC_545 x2_474 x4_474 x7_474 X_151 w_150 _ _ _ hw_150 hP hD hS (lv_sub hl [0, 1, 2, 3, 6] rfl) h
  have hC_417 : ∀ (x2_417 : Int64) (x4_417 : Int32) (x5_417 : Int32) (x6_417 : Int32) (x7_417 : Int64) (x9_417 : Int32) (t0_417 : Int32) (X_417 : XV) (w_417 : va_W) (H : Heap) (locs : List Loc) (ls : Array Slot), Ob k cA nA tA X_417 w_417 → va_P D vwCl (w_417 ++ []) H → va_D A (w_417 ++ []) → va_S A s.heap H locs → lv_has ls 37 [(0, .ref (cA 0)), (1, .int p1), (2, .long x2_417), (4, .int x4_417), (5, .int x5_417), (6, .int x6_417), (7, .long x7_417), (9, .int x9_417)] → f_L_follows_417 p1 x2_417 x4_417 x5_417 x6_417 x7_417 x9_417 t0_417 X_417 = some o → W p l e ({ frames := 14, cells := 1554, slots := 9530, locals := 749 } : Room) s m args below meth c H locs (559) (3389) (vx_MQ below (Qx D A (.inr B9)) (Xx D A (w) (.inr B9)) args s 1554 9530 A) (F0 m 417 ls [.int t0_417]) := by
    intro x2_417 x4_417 x5_417 x6_417 x7_417 x9_417 t0_417 X_417 w_417 H locs ls hw_417 hP hD hS hl h
    unfold f_L_follows_417 at h
    refine lv_istore (lv' := [(22, .int t0_417), (0, .ref (cA 0)), (1, .int p1), (2, .long x2_417), (4, .int x4_417), (5, .int x5_417), (6, .int x6_417), (7, .long x7_417), (9, .int x9_417)]) hx hb dL_follows_417 hl (by decide) rfl (fun ls hl => ?_)
    refine lv_aload_n hx hb dL_follows_419 rfl (lv_at hl 1 rfl) ?_
    refine lv_bipush (v := 7) hx hb dL_follows_420 (by decide) ?_
    obtain ⟨v_154, hv_153, h⟩ := bd_l h
    refine Lo_T (As := [.ref (cA 0), .int 7]) (rest := []) (wA := w_417) (wr := []) 1 6 (560) (3395) 1554 9530 (co_about l hst D k cA nA tA X_417 w_417 hw_417 7 v_154 hv_153) ⟨hx, hb, hml, hown, hts⟩ (vx_cwSW 2 hts gL_follows_L_about rfl rfl rfl (by decide +kernel) ⟨Nat.le_of_ble_eq_true rfl, Nat.le_of_ble_eq_true rfl⟩) hK hG hC hP hD hS hA (List.Perm.refl _) rfl hl.1 rfl (Nat.le_of_ble_eq_true rfl) dL_follows_422 ⟨rfl, rfl⟩ ⟨rfl, rfl⟩ (by omega) (by omega) (fun ov w_155 H locs hQ hP hD hS => ?_)
    obtain ⟨rfl, hw_155⟩ := hQ
    refine W.eq (g2 := F0 m 425 ls [.long v_154]) rfl ?_
    refine lv_lstore (lv' := [(23, .long v_154), (22, .int t0_417), (0, .ref (cA 0)), (1, .int p1), (2, .long x2_417), (4, .int x4_417), (5, .int x5_417), (6, .int x6_417), (7, .long x7_417), (9, .int x9_417)]) hx hb dL_follows_425 hl (by decide) rfl (fun ls hl => ?_)
    refine lv_aload_n hx hb dL_follows_427 rfl (lv_at hl 2 rfl) ?_
    refine lv_iload hx hb dL_follows_428 (lv_at hl 7 rfl) ?_
    refine lv_iconst (v := 5) hx hb dL_follows_430 (by decide) ?_
    refine lv_iload hx hb dL_follows_431 (lv_at hl 6 rfl) ?_
    obtain ⟨v_157, hv_156, h⟩ := bd_l h
    refine Lo_T (As := [.ref (cA 0), .int x6_417, .int 5, .int x5_417]) (rest := []) (wA := w_155) (wr := []) 4 24 (564) (3419) 1554 9530 (co_washGain l hst D k cA nA tA X_417 w_155 hw_155 x6_417 5 x5_417 v_157 hv_156) ⟨hx, hb, hml, hown, hts⟩ (vx_cwSW 4 hts gL_follows_L_washGain rfl rfl rfl (by decide +kernel) ⟨Nat.le_of_ble_eq_true rfl, Nat.le_of_ble_eq_true rfl⟩) hK hG hC hP hD hS hA (List.Perm.refl _) rfl hl.1 rfl (Nat.le_of_ble_eq_true rfl) dL_follows_433 ⟨rfl, rfl⟩ ⟨rfl, rfl⟩ (by omega) (by omega) (fun ov w_158 H locs hQ hP hD hS => ?_)
    obtain ⟨rfl, hw_158⟩ := hQ
    refine W.eq (g2 := F0 m 436 ls [.long v_157]) rfl ?_
    refine lv_lstore (lv' := [(25, .long v_157), (23, .long v_154), (22, .int t0_417), (0, .ref (cA 0)), (1, .int p1), (2, .long x2_417), (4, .int x4_417), (5, .int x5_417), (6, .int x6_417), (7, .long x7_417), (9, .int x9_417)]) hx hb dL_follows_436 hl (by decide) rfl (fun ls hl => ?_)
    refine lv_aload_n hx hb dL_follows_438 rfl (lv_at hl 3 rfl) ?_
    refine lv_iload hx hb dL_follows_439 (lv_at hl 7 rfl) ?_
    refine lv_iconst (v := 1) hx hb dL_follows_441 (by decide) ?_
    obtain ⟨v_160, hv_159, h⟩ := bd_l h
    refine Lo_T (As := [.ref (cA 0), .int x5_417, .int 1]) (rest := []) (wA := w_158) (wr := []) 2 12 (566) (3431) 1554 9530 (co_growth l hst D k cA nA tA X_417 w_158 hw_158 x5_417 1 v_160 hv_159) ⟨hx, hb, hml, hown, hts⟩ (vx_cwSW 3 hts gL_follows_L_growth rfl rfl rfl (by decide +kernel) ⟨Nat.le_of_ble_eq_true rfl, Nat.le_of_ble_eq_true rfl⟩) hK hG hC hP hD hS hA (List.Perm.refl _) rfl hl.1 rfl (Nat.le_of_ble_eq_true rfl) dL_follows_442 ⟨rfl, rfl⟩ ⟨rfl, rfl⟩ (by omega) (by omega) (fun ov w_161 H locs hQ hP hD hS => ?_)
    obtain ⟨rfl, hw_161⟩ := hQ
    refine W.eq (g2 := F0 m 445 ls [.long v_160]) rfl ?_
    refine lv_lstore (lv' := [(27, .long v_160), (25, .long v_157), (23, .long v_154), (22, .int t0_417), (0, .ref (cA 0)), (1, .int p1), (2, .long x2_417), (4, .int x4_417), (5, .int x5_417), (6, .int x6_417), (7, .long x7_417), (9, .int x9_417)]) hx hb dL_follows_445 hl (by decide) rfl (fun ls hl => ?_)
    refine lv_iload hx hb dL_follows_447 (lv_at hl 11 rfl) ?_
    refine lv_if_eq (tgt := 558) hx hb dL_follows_449 (by decide) (fun c_162 => ?_) (fun c_162 => ?_)
    · have h := it_l c_162 h
      refine W.widen (k := 842) (n := 5123) (by omega) (by omega) ?_
      exact hC_558 x2_417 x4_417 x7_417 X_417 w_161 _ _ _ hw_161 hP hD hS (lv_sub hl [4, 5, 6, 7, 10] rfl) h
    · have h := it_r c_162 h
      refine lv_aload_n hx hb dL_follows_452 rfl (lv_at hl 4 rfl) ?_
      refine lv_iload hx hb dL_follows_453 (lv_at hl 9 rfl) ?_
      refine lv_iconst (v := 5) hx hb dL_follows_455 (by decide) ?_
      obtain ⟨⟨v_164, X_166⟩, hv_163, h⟩ := bd_l h
      refine Lo_T (As := [.ref (cA 0), .int x6_417, .int 5]) (rest := []) (wA := w_161) (wr := []) 14 93 (580) (3524) 1554 9530 (co_wash l hst D k cA nA tA X_417 w_161 hw_161 x6_417 5 (v_164, X_166) hv_163) ⟨hx, hb, hml, hown, hts⟩ (vx_cwSW 3 hts gL_follows_L_wash rfl rfl rfl (by decide +kernel) ⟨Nat.le_of_ble_eq_true rfl, Nat.le_of_ble_eq_true rfl⟩) hK hG hC hP hD hS hA (List.Perm.refl _) rfl hl.1 rfl (Nat.le_of_ble_eq_true rfl) dL_follows_456 ⟨rfl, rfl⟩ ⟨rfl, rfl⟩ (by omega) (by omega) (fun ov w_165 H locs hQ hP hD hS => ?_)
      obtain ⟨rfl, hw_165⟩ := hQ
      refine W.eq (g2 := F0 m 459 ls [.long v_164]) rfl ?_
      refine lv_iload hx hb dL_follows_459 (lv_at hl 3 rfl) ?_
      refine lv_if_eq (tgt := 471) hx hb dL_follows_461 (by decide) (fun c_167 => ?_) (fun c_167 => ?_)
      · have h := it_l c_167 h
        refine lv_ldc2 (v := -9000000000000000003) hx hb hown w_0 dL_follows_471 ?_
        refine W.widen (k := 580) (n := 3524) (by omega) (by omega) ?_
        exact hC_474 x2_417 x4_417 x5_417 x6_417 x7_417 t0_417 v_157 v_160 (-9000000000000000003) v_164 X_166 w_165 _ _ _ hw_165 hP hD hS (lv_sub hl [4, 5, 6, 7, 8, 9, 10, 3, 1, 0] rfl) h
      · have h := it_r c_167 h
        refine lv_lload hx hb dL_follows_464 (lv_at hl 2 rfl) ?_
        refine lv_lconst (v := 1) hx hb dL_follows_466 (by decide) ?_
        refine lv_ladd hx hb dL_follows_467 ?_
        refine lv_goto (tgt := 474) hx hb dL_follows_468 (by decide) ?_
        refine W.widen (k := 580) (n := 3524) (by omega) (by omega) ?_
        exact hC_474 x2_417 x4_417 x5_417 x6_417 x7_417 t0_417 v_157 v_160 (v_154 + 1) v_164 X_166 w_165 _ _ _ hw_165 hP hD hS (lv_sub hl [4, 5, 6, 7, 8, 9, 10, 3, 1, 0] rfl) h
  have hC_397 : ∀ (x2_397 : Int64) (x4_397 : Int32) (x5_397 : Int32) (x6_397 : Int32) (x7_397 : Int64) (t0_397 : Int32) (X_397 : XV) (w_397 : va_W) (H : Heap) (locs : List Loc) (ls : Array Slot), Ob k cA nA tA X_397 w_397 → va_P D vwCl (w_397 ++ []) H → va_D A (w_397 ++ []) → va_S A s.heap H locs → lv_has ls 37 [(0, .ref (cA 0)), (1, .int p1), (2, .long x2_397), (4, .int x4_397), (5, .int x5_397), (6, .int x6_397), (7, .long x7_397)] → f_L_follows_397 p1 x2_397 x4_397 x5_397 x6_397 x7_397 t0_397 X_397 = some o → W p l e ({ frames := 14, cells := 1554, slots := 9530, locals := 749 } : Room) s m args below meth c H locs (557) (3377) (vx_MQ below (Qx D A (.inr B9)) (Xx D A (w) (.inr B9)) args s 1554 9530 A) (F0 m 397 ls [.int t0_397]) := by
    intro x2_397 x4_397 x5_397 x6_397 x7_397 t0_397 X_397 w_397 H locs ls hw_397 hP hD hS hl h
    unfold f_L_follows_397 at h
    refine lv_istore (lv' := [(9, .int t0_397), (0, .ref (cA 0)), (1, .int p1), (2, .long x2_397), (4, .int x4_397), (5, .int x5_397), (6, .int x6_397), (7, .long x7_397)]) hx hb dL_follows_397 hl (by decide) rfl (fun ls hl => ?_)
    refine lv_aload_n hx hb dL_follows_399 rfl (lv_at hl 1 rfl) ?_
    refine lv_iload hx hb dL_follows_400 (lv_at hl 6 rfl) ?_
    refine lv_bipush (v := 7) hx hb dL_follows_402 (by decide) ?_
    obtain ⟨v_169, hv_168, h⟩ := bd_l h
    refine Lo_T (As := [.ref (cA 0), .int x6_397, .int 7]) (rest := []) (wA := w_397) (wr := []) 2 12 (559) (3389) 1554 9530 (co_effect l hst D k cA nA tA X_397 w_397 hw_397 x6_397 7 v_169 hv_168) ⟨hx, hb, hml, hown, hts⟩ (vx_cwSW 3 hts gL_follows_L_effect rfl rfl rfl (by decide +kernel) ⟨Nat.le_of_ble_eq_true rfl, Nat.le_of_ble_eq_true rfl⟩) hK hG hC hP hD hS hA (List.Perm.refl _) rfl hl.1 rfl (Nat.le_of_ble_eq_true rfl) dL_follows_404 ⟨rfl, rfl⟩ ⟨rfl, rfl⟩ (by omega) (by omega) (fun ov w_170 H locs hQ hP hD hS => ?_)
    obtain ⟨rfl, hw_170⟩ := hQ
    refine W.eq (g2 := F0 m 407 ls [.long v_169]) rfl ?_
    refine lv_lconst (v := 0) hx hb dL_follows_407 (by decide) ?_
    refine W.lcmp hx hb dL_follows_408 ?_
    refine lv_if_ne (tgt := 416) hx hb dL_follows_409 (by decide) (fun c_171 => ?_) (fun c_171 => ?_)
    · have h := it_r c_171 h
      refine lv_iconst (v := 0) hx hb dL_follows_416 (by decide) ?_
      refine W.widen (k := 559) (n := 3389) (by omega) (by omega) ?_
      exact hC_417 x2_397 x4_397 x5_397 x6_397 x7_397 t0_397 0 X_397 w_170 _ _ _ hw_170 hP hD hS (lv_sub hl [1, 2, 3, 4, 5, 6, 7, 0] rfl) h
    · have h := it_l c_171 h
      refine lv_iconst (v := 1) hx hb dL_follows_412 (by decide) ?_
      refine lv_goto (tgt := 417) hx hb dL_follows_413 (by decide) ?_
      refine W.widen (k := 559) (n := 3389) (by omega) (by omega) ?_
      exact hC_417 x2_397 x4_397 x5_397 x6_397 x7_397 t0_397 1 X_397 w_170 _ _ _ hw_170 hP hD hS (lv_sub hl [1, 2, 3, 4, 5, 6, 7, 0] rfl) h
  have hC_396 : ∀ (x2_396 : Int64) (x4_396 : Int32) (x5_396 : Int32) (x6_396 : Int32) (x7_396 : Int64) (X_396 : XV) (w_396 : va_W) (H : Heap) (locs : List Loc) (ls : Array Slot), Ob k cA nA tA X_396 w_396 → va_P D vwCl (w_396 ++ []) H → va_D A (w_396 ++ []) → va_S A s.heap H locs → lv_has ls 37 [(0, .ref (cA 0)), (1, .int p1), (2, .long x2_396), (4, .int x4_396), (5, .int x5_396), (6, .int x6_396), (7, .long x7_396)] → f_L_follows_396 p1 x2_396 x4_396 x5_396 x6_396 x7_396 X_396 = some o → W p l e ({ frames := 14, cells := 1554, slots := 9530, locals := 749 } : Room) s m args below meth c H locs (557) (3377) (vx_MQ below (Qx D A (.inr B9)) (Xx D A (w) (.inr B9)) args s 1554 9530 A) (F0 m 396 ls []) := by
    intro x2_396 x4_396 x5_396 x6_396 x7_396 X_396 w_396 H locs ls hw_396 hP hD hS hl h
    unfold f_L_follows_396 at h
    refine lv_iconst (v := 0) hx hb dL_follows_396 (by decide) ?_
    refine W.widen (k := 557) (n := 3377) (by omega) (by omega) ?_
    exact hC_397 x2_396 x4_396 x5_396 x6_396 x7_396 0 X_396 w_396 _ _ _ hw_396 hP hD hS (lv_sub hl [0, 1, 2, 3, 4, 5, 6] rfl) h
  have hC_305 : ∀ (x2_305 : Int64) (x4_305 : Int32) (x5_305 : Int32) (x6_305 : Int32) (x7_305 : Int64) (x9_305 : Int32) (x12_305 : Int64) (x14_305 : Int64) (X_305 : XV) (g0_305 : Nat → Int64) (g1_305 : Nat → Int64) (w_305 : va_W) (a0_305 : Nat) (a1_305 : Nat) (H : Heap) (locs : List Loc) (ls : Array Slot), Ob k cA nA tA X_305 w_305 → va_P D vwCl (w_305 ++ ([(a0_305, .inl (k 4, 10, .inr (.inl g0_305)))] ++ [(a1_305, .inl (k 4, 10, .inr (.inl g1_305)))])) H → va_D A (w_305 ++ ([(a0_305, .inl (k 4, 10, .inr (.inl g0_305)))] ++ [(a1_305, .inl (k 4, 10, .inr (.inl g1_305)))])) → va_S A s.heap H locs → lv_has ls 37 [(0, .ref (cA 0)), (1, .int p1), (2, .long x2_305), (4, .int x4_305), (5, .int x5_305), (6, .int x6_305), (7, .long x7_305), (9, .int x9_305), (10, .ref a0_305), (11, .ref a1_305), (12, .long x12_305), (14, .long x14_305)] → f_L_follows_305 p1 x2_305 x4_305 x5_305 x6_305 x7_305 x9_305 x12_305 x14_305 X_305 g0_305 g1_305 = some o → W p l e ({ frames := 14, cells := 1554, slots := 9530, locals := 749 } : Room) s m args below meth c H locs (320) (1946) (vx_MQ below (Qx D A (.inr B9)) (Xx D A (w) (.inr B9)) args s 1554 9530 A) (F0 m 305 ls []) := by
    intro x2_305 x4_305 x5_305 x6_305 x7_305 x9_305 x12_305 x14_305 X_305 g0_305 g1_305 w_305 a0_305 a1_305 H locs ls hw_305 hP hD hS hl h
    unfold f_L_follows_305 at h
    refine lv_iload hx hb dL_follows_305 (lv_at hl 7 rfl) ?_
    refine lv_if_eq (tgt := 396) hx hb dL_follows_307 (by decide) (fun c_172 => ?_) (fun c_172 => ?_)
    · have h := it_l c_172 h
      have hP := P_n (P_l hP)
      have hD := D_n (D_l hD)
      refine W.widen (k := 557) (n := 3377) (by omega) (by omega) ?_
      exact hC_396 x2_305 x4_305 x5_305 x6_305 x7_305 X_305 w_305 _ _ _ hw_305 hP hD hS (lv_sub hl [0, 1, 2, 3, 4, 5, 6] rfl) h
    · have h := it_r c_172 h
      refine lv_aload_n hx hb dL_follows_310 rfl (lv_at hl 0 rfl) ?_
      refine lv_bipush (v := 8) hx hb dL_follows_311 (by decide) ?_
      obtain ⟨v_174, hv_173, h⟩ := bd_l h
      refine Lo_T (As := [.ref (cA 0), .int 8]) (rest := []) (wA := w_305) (wr := ([(a0_305, .inl (k 4, 10, .inr (.inl g0_305)))] ++ [(a1_305, .inl (k 4, 10, .inr (.inl g1_305)))])) 1 6 (321) (1952) 1554 9530 (co_about l hst D k cA nA tA X_305 w_305 hw_305 8 v_174 hv_173) ⟨hx, hb, hml, hown, hts⟩ (vx_cwSW 2 hts gL_follows_L_about rfl rfl rfl (by decide +kernel) ⟨Nat.le_of_ble_eq_true rfl, Nat.le_of_ble_eq_true rfl⟩) hK hG hC hP hD hS hA (List.Perm.refl _) rfl hl.1 rfl (Nat.le_of_ble_eq_true rfl) dL_follows_313 ⟨rfl, rfl⟩ ⟨rfl, rfl⟩ (by omega) (by omega) (fun ov w_175 H locs hQ hP hD hS => ?_)
      obtain ⟨rfl, hw_175⟩ := hQ
      refine W.eq (g2 := F0 m 316 ls [.long v_174]) rfl ?_
      refine lv_lload hx hb dL_follows_316 (lv_at hl 10 rfl) ?_
      refine lv_aload hx hb dL_follows_318 (lv_at hl 9 rfl) ?_
      refine lv_iconst (v := 5) hx hb dL_follows_320 (by decide) ?_
      have hP : va_P D vwCl (([(a0_305, .inl (k 4, 10, .inr (.inl g0_305)))] ++ [(a1_305, .inl (k 4, 10, .inr (.inl g1_305)))]) ++ w_175) H := P_perm List.perm_append_comm hP
      have hD : va_D A (([(a0_305, .inl (k 4, 10, .inr (.inl g0_305)))] ++ [(a1_305, .inl (k 4, 10, .inr (.inl g1_305)))]) ++ w_175) := D_perm List.perm_append_comm hD
      refine va_lald hx hb hK hP 1 4 rfl rfl (inb_vp (by decide)) dL_follows_321 ?_
      refine W.eq (g2 := F0 m 322 ls [.long (g1_305 5), .long x12_305, .long v_174]) rfl ?_
      refine lv_ladd hx hb dL_follows_322 ?_
      refine lv_aload hx hb dL_follows_323 (lv_at hl 9 rfl) ?_
      refine lv_bipush (v := 7) hx hb dL_follows_325 (by decide) ?_
      refine va_lald hx hb hK hP 1 4 rfl rfl (inb_vp (by decide)) dL_follows_327 ?_
      refine W.eq (g2 := F0 m 328 ls [.long (g1_305 7), .long (x12_305 + (g1_305 5)), .long v_174]) rfl ?_
      refine lv_lsub hx hb dL_follows_328 ?_
      refine lv_aload hx hb dL_follows_329 (lv_at hl 9 rfl) ?_
      refine lv_iconst (v := 1) hx hb dL_follows_331 (by decide) ?_
      refine va_lald hx hb hK hP 1 4 rfl rfl (inb_vp (by decide)) dL_follows_332 ?_
      refine W.eq (g2 := F0 m 333 ls [.long (g1_305 1), .long ((x12_305 + (g1_305 5)) - (g1_305 7)), .long v_174]) rfl ?_
      refine lv_lsub hx hb dL_follows_333 ?_
      refine W.lcmp hx hb dL_follows_334 ?_
      refine lv_if_ne (tgt := 396) hx hb dL_follows_335 (by decide) (fun c_176 => ?_) (fun c_176 => ?_)
      · have h := it_r c_176 h
        have hP : va_P D vwCl (w_175 ++ ([(a0_305, .inl (k 4, 10, .inr (.inl g0_305)))] ++ [(a1_305, .inl (k 4, 10, .inr (.inl g1_305)))])) H := P_perm List.perm_append_comm hP
        have hD : va_D A (w_175 ++ ([(a0_305, .inl (k 4, 10, .inr (.inl g0_305)))] ++ [(a1_305, .inl (k 4, 10, .inr (.inl g1_305)))])) := D_perm List.perm_append_comm hD
        have hP := P_n (P_l hP)
        have hD := D_n (D_l hD)
        refine W.widen (k := 557) (n := 3377) (by omega) (by omega) ?_
        exact hC_396 x2_305 x4_305 x5_305 x6_305 x7_305 X_305 w_175 _ _ _ hw_175 hP hD hS (lv_sub hl [0, 1, 2, 3, 4, 5, 6] rfl) h
      · have h := it_l c_176 h
        refine lv_aload_n hx hb dL_follows_338 rfl (lv_at hl 0 rfl) ?_
        refine lv_bipush (v := 9) hx hb dL_follows_339 (by decide) ?_
        obtain ⟨v_178, hv_177, h⟩ := bd_l h
        refine Lo_T (As := [.ref (cA 0), .int 9]) (rest := []) (wA := w_175) (wr := ([(a0_305, .inl (k 4, 10, .inr (.inl g0_305)))] ++ [(a1_305, .inl (k 4, 10, .inr (.inl g1_305)))])) 1 6 (322) (1958) 1554 9530 (co_about l hst D k cA nA tA X_305 w_175 hw_175 9 v_178 hv_177) ⟨hx, hb, hml, hown, hts⟩ (vx_cwSW 2 hts gL_follows_L_about rfl rfl rfl (by decide +kernel) ⟨Nat.le_of_ble_eq_true rfl, Nat.le_of_ble_eq_true rfl⟩) hK hG hC hP hD hS hA (List.perm_append_comm) rfl hl.1 rfl (Nat.le_of_ble_eq_true rfl) dL_follows_341 ⟨rfl, rfl⟩ ⟨rfl, rfl⟩ (by omega) (by omega) (fun ov w_179 H locs hQ hP hD hS => ?_)
        obtain ⟨rfl, hw_179⟩ := hQ
        refine W.eq (g2 := F0 m 344 ls [.long v_178]) rfl ?_
        refine lv_lload hx hb dL_follows_344 (lv_at hl 11 rfl) ?_
        refine lv_aload hx hb dL_follows_346 (lv_at hl 9 rfl) ?_
        refine lv_bipush (v := 6) hx hb dL_follows_348 (by decide) ?_
        have hP : va_P D vwCl (([(a0_305, .inl (k 4, 10, .inr (.inl g0_305)))] ++ [(a1_305, .inl (k 4, 10, .inr (.inl g1_305)))]) ++ w_179) H := P_perm List.perm_append_comm hP
        have hD : va_D A (([(a0_305, .inl (k 4, 10, .inr (.inl g0_305)))] ++ [(a1_305, .inl (k 4, 10, .inr (.inl g1_305)))]) ++ w_179) := D_perm List.perm_append_comm hD
        refine va_lald hx hb hK hP 1 4 rfl rfl (inb_vp (by decide)) dL_follows_350 ?_
        refine W.eq (g2 := F0 m 351 ls [.long (g1_305 6), .long x14_305, .long v_178]) rfl ?_
        refine lv_ladd hx hb dL_follows_351 ?_
        refine lv_aload hx hb dL_follows_352 (lv_at hl 9 rfl) ?_
        refine lv_bipush (v := 8) hx hb dL_follows_354 (by decide) ?_
        refine va_lald hx hb hK hP 1 4 rfl rfl (inb_vp (by decide)) dL_follows_356 ?_
        refine W.eq (g2 := F0 m 357 ls [.long (g1_305 8), .long (x14_305 + (g1_305 6)), .long v_178]) rfl ?_
        refine lv_lsub hx hb dL_follows_357 ?_
        refine W.lcmp hx hb dL_follows_358 ?_
        refine lv_if_ne (tgt := 396) hx hb dL_follows_359 (by decide) (fun c_180 => ?_) (fun c_180 => ?_)
        · have h := it_r c_180 h
          have hP : va_P D vwCl (w_179 ++ ([(a0_305, .inl (k 4, 10, .inr (.inl g0_305)))] ++ [(a1_305, .inl (k 4, 10, .inr (.inl g1_305)))])) H := P_perm List.perm_append_comm hP
          have hD : va_D A (w_179 ++ ([(a0_305, .inl (k 4, 10, .inr (.inl g0_305)))] ++ [(a1_305, .inl (k 4, 10, .inr (.inl g1_305)))])) := D_perm List.perm_append_comm hD
          have hP := P_n (P_l hP)
          have hD := D_n (D_l hD)
          refine W.widen (k := 557) (n := 3377) (by omega) (by omega) ?_
          exact hC_396 x2_305 x4_305 x5_305 x6_305 x7_305 X_305 w_179 _ _ _ hw_179 hP hD hS (lv_sub hl [0, 1, 2, 3, 4, 5, 6] rfl) h
        · have h := it_l c_180 h
          refine lv_aload hx hb dL_follows_362 (lv_at hl 9 rfl) ?_
          refine lv_bipush (v := 9) hx hb dL_follows_364 (by decide) ?_
          refine va_lald hx hb hK hP 1 4 rfl rfl (inb_vp (by decide)) dL_follows_366 ?_
          refine W.eq (g2 := F0 m 367 ls [.long (g1_305 9)]) rfl ?_
          refine lv_iload hx hb dL_follows_367 (lv_at hl 4 rfl) ?_
          refine lv_i2l hx hb dL_follows_369 rfl ?_
          refine W.lcmp hx hb dL_follows_370 ?_
          refine lv_if_gt (tgt := 396) hx hb dL_follows_371 (by decide) (fun c_181 => ?_) (fun c_181 => ?_)
          · have h := it_l c_181 h
            have hP : va_P D vwCl (w_179 ++ ([(a0_305, .inl (k 4, 10, .inr (.inl g0_305)))] ++ [(a1_305, .inl (k 4, 10, .inr (.inl g1_305)))])) H := P_perm List.perm_append_comm hP
            have hD : va_D A (w_179 ++ ([(a0_305, .inl (k 4, 10, .inr (.inl g0_305)))] ++ [(a1_305, .inl (k 4, 10, .inr (.inl g1_305)))])) := D_perm List.perm_append_comm hD
            have hP := P_n (P_l hP)
            have hD := D_n (D_l hD)
            refine W.widen (k := 557) (n := 3377) (by omega) (by omega) ?_
            exact hC_396 x2_305 x4_305 x5_305 x6_305 x7_305 X_305 w_179 _ _ _ hw_179 hP hD hS (lv_sub hl [0, 1, 2, 3, 4, 5, 6] rfl) h
          · have h := it_r c_181 h
            refine lv_aload_n hx hb dL_follows_374 rfl (lv_at hl 0 rfl) ?_
            obtain ⟨⟨v_183, X_185⟩, hv_182, h⟩ := bd_l h
            refine Lo_T (As := [.ref (cA 0)]) (rest := []) (wA := w_179) (wr := ([(a0_305, .inl (k 4, 10, .inr (.inl g0_305)))] ++ [(a1_305, .inl (k 4, 10, .inr (.inl g1_305)))])) 11 75 (333) (2033) 1554 9530 (co_undo l hst D k cA nA tA X_305 w_179 hw_179 (v_183, X_185) hv_182) ⟨hx, hb, hml, hown, hts⟩ (vx_cwSW 1 hts gL_follows_L_undo rfl rfl rfl (by decide +kernel) ⟨Nat.le_of_ble_eq_true rfl, Nat.le_of_ble_eq_true rfl⟩) hK hG hC hP hD hS hA (List.perm_append_comm) rfl hl.1 rfl (Nat.le_of_ble_eq_true rfl) dL_follows_375 ⟨rfl, rfl⟩ ⟨rfl, rfl⟩ (by omega) (by omega) (fun ov w_184 H locs hQ hP hD hS => ?_)
            obtain ⟨rfl, hw_184⟩ := hQ
            refine W.eq (g2 := F0 m 378 ls [.long v_183]) rfl ?_
            refine lv_lconst (v := 0) hx hb dL_follows_378 (by decide) ?_
            refine W.lcmp hx hb dL_follows_379 ?_
            refine lv_if_lt (tgt := 396) hx hb dL_follows_380 (by decide) (fun c_186 => ?_) (fun c_186 => ?_)
            · have h := it_l c_186 h
              have hP := P_n (P_l hP)
              have hD := D_n (D_l hD)
              refine W.widen (k := 557) (n := 3377) (by omega) (by omega) ?_
              exact hC_396 x2_305 x4_305 x5_305 x6_305 x7_305 X_185 w_184 _ _ _ hw_184 hP hD hS (lv_sub hl [0, 1, 2, 3, 4, 5, 6] rfl) h
            · have h := it_r c_186 h
              refine lv_aload_n hx hb dL_follows_383 rfl (lv_at hl 0 rfl) ?_
              obtain ⟨v_188, hv_187, h⟩ := bd_l h
              refine Lo_S (As := [.ref (cA 0)]) (rest := []) (wA := w_184) (wr := ([(a0_305, .inl (k 4, 10, .inr (.inl g0_305)))] ++ [(a1_305, .inl (k 4, 10, .inr (.inl g1_305)))])) 224 1344 (557) (3377) 1554 9530 (c_L_now l hst D k cA nA tA X_185 w_184 hw_184 v_188 hv_187) ⟨hx, hb, hml, hown, hts⟩ (va_cwS 1 hts gL_follows_L_now rfl rfl rfl (by decide +kernel) ⟨Nat.le_of_ble_eq_true rfl, Nat.le_of_ble_eq_true rfl⟩) hK hG hC hP hD hS hA (List.Perm.refl _) rfl hl.1 rfl (Nat.le_of_ble_eq_true rfl) dL_follows_384 ⟨rfl, rfl⟩ ⟨rfl, rfl⟩ (by omega) (by omega) (fun ov w_189 H locs hQ hP hD hS => ?_)
              obtain ⟨rfl, hw_189⟩ := hQ
              refine W.eq (g2 := F0 m 387 ls [.long v_188]) rfl ?_
              refine lv_lload_n hx hb dL_follows_387 rfl (lv_at hl 2 rfl) ?_
              refine W.lcmp hx hb dL_follows_388 ?_
              refine lv_if_ne (tgt := 396) hx hb dL_follows_389 (by decide) (fun c_190 => ?_) (fun c_190 => ?_)
              · have h := it_r c_190 h
                have hP := P_n (P_l hP)
                have hD := D_n (D_l hD)
                refine W.widen (k := 557) (n := 3377) (by omega) (by omega) ?_
                exact hC_396 x2_305 x4_305 x5_305 x6_305 x7_305 X_185 w_189 _ _ _ hw_189 hP hD hS (lv_sub hl [0, 1, 2, 3, 4, 5, 6] rfl) h
              · have h := it_l c_190 h
                refine lv_iconst (v := 1) hx hb dL_follows_392 (by decide) ?_
                refine lv_goto (tgt := 397) hx hb dL_follows_393 (by decide) ?_
                have hP := P_n (P_l hP)
                have hD := D_n (D_l hD)
                refine W.widen (k := 557) (n := 3377) (by omega) (by omega) ?_
                exact hC_397 x2_305 x4_305 x5_305 x6_305 x7_305 1 X_185 w_189 _ _ _ hw_189 hP hD hS (lv_sub hl [0, 1, 2, 3, 4, 5, 6] rfl) h
  have hC_249 : ∀ (fu_249 : Nat) (x2_249 : Int64) (x4_249 : Int32) (x5_249 : Int32) (x6_249 : Int32) (x7_249 : Int64) (x9_249 : Int32) (x12_249 : Int64) (x14_249 : Int64) (x22_249 : Int32) (X_249 : XV) (g0_249 : Nat → Int64) (g1_249 : Nat → Int64) (w_249 : va_W) (a0_249 : Nat) (a1_249 : Nat) (H : Heap) (locs : List Loc) (ls : Array Slot), fu_249 ≤ 11 → Ob k cA nA tA X_249 w_249 → va_P D vwCl (w_249 ++ ([(a0_249, .inl (k 4, 10, .inr (.inl g0_249)))] ++ [(a1_249, .inl (k 4, 10, .inr (.inl g1_249)))])) H → va_D A (w_249 ++ ([(a0_249, .inl (k 4, 10, .inr (.inl g0_249)))] ++ [(a1_249, .inl (k 4, 10, .inr (.inl g1_249)))])) → va_S A s.heap H locs → lv_has ls 37 [(0, .ref (cA 0)), (1, .int p1), (2, .long x2_249), (4, .int x4_249), (5, .int x5_249), (6, .int x6_249), (7, .long x7_249), (9, .int x9_249), (10, .ref a0_249), (11, .ref a1_249), (12, .long x12_249), (14, .long x14_249), (22, .int x22_249)] → f_L_follows_249 p1 fu_249 x2_249 x4_249 x5_249 x6_249 x7_249 x9_249 x12_249 x14_249 x22_249 X_249 g0_249 g1_249 = some o → W p l e ({ frames := 14, cells := 1554, slots := 9530, locals := 749 } : Room) s m args below meth c H locs ((319 - 1 * fu_249)) ((1940 - 6 * fu_249)) (vx_MQ below (Qx D A (.inr B9)) (Xx D A (w) (.inr B9)) args s 1554 9530 A) (F0 m 249 ls []) := by
    intro fu_249
    induction fu_249 with
    | zero => intro x2_249 x4_249 x5_249 x6_249 x7_249 x9_249 x12_249 x14_249 x22_249 X_249 g0_249 g1_249 w_249 a0_249 a1_249 H locs ls _ _ _ _ _ _ h; exact (no_l h).elim
    | succ fu_249 ih_249 =>
      intro x2_249 x4_249 x5_249 x6_249 x7_249 x9_249 x12_249 x14_249 x22_249 X_249 g0_249 g1_249 w_249 a0_249 a1_249 H locs ls hfu_249 hw_249 hP hD hS hl h
      rw [f_L_follows_249] at h
      refine lv_iload hx hb dL_follows_249 (lv_at hl 12 rfl) ?_
      refine lv_bipush (v := 10) hx hb dL_follows_251 (by decide) ?_
      refine lv_icmp_ge (tgt := 305) hx hb dL_follows_253 (by decide) (fun c_191 => ?_) (fun c_191 => ?_)
      · have h := it_l c_191 h
        refine W.widen (k := 320) (n := 1946) (by omega) (by omega) ?_
        exact hC_305 x2_249 x4_249 x5_249 x6_249 x7_249 x9_249 x12_249 x14_249 X_249 g0_249 g1_249 w_249 a0_249 a1_249 _ _ _ hw_249 hP hD hS (lv_sub hl [0, 1, 2, 3, 4, 5, 6, 7, 8, 9, 10, 11] rfl) h
      · have h := it_r c_191 h
        refine lv_iload hx hb dL_follows_256 (lv_at hl 7 rfl) ?_
        refine lv_if_eq (tgt := 305) hx hb dL_follows_258 (by decide) (fun c_192 => ?_) (fun c_192 => ?_)
        · have h := it_l c_192 h
          refine W.widen (k := 320) (n := 1946) (by omega) (by omega) ?_
          exact hC_305 x2_249 x4_249 x5_249 x6_249 x7_249 x9_249 x12_249 x14_249 X_249 g0_249 g1_249 w_249 a0_249 a1_249 _ _ _ hw_249 hP hD hS (lv_sub hl [0, 1, 2, 3, 4, 5, 6, 7, 8, 9, 10, 11] rfl) h
        · have h := it_r c_192 h
          refine lv_aload_n hx hb dL_follows_261 rfl (lv_at hl 0 rfl) ?_
          refine lv_iload hx hb dL_follows_262 (lv_at hl 12 rfl) ?_
          obtain ⟨v_194, hv_193, h⟩ := bd_l h
          refine Lo_T (As := [.ref (cA 0), .int x22_249]) (rest := []) (wA := w_249) (wr := ([(a0_249, .inl (k 4, 10, .inr (.inl g0_249)))] ++ [(a1_249, .inl (k 4, 10, .inr (.inl g1_249)))])) 1 6 ((319 - 1 * (fu_249 + 1)) + 1) ((1940 - 6 * (fu_249 + 1)) + 6) 1554 9530 (co_total l hst D k cA nA tA X_249 w_249 hw_249 x22_249 v_194 hv_193) ⟨hx, hb, hml, hown, hts⟩ (vx_cwSW 2 hts gL_follows_L_total rfl rfl rfl (by decide +kernel) ⟨Nat.le_of_ble_eq_true rfl, Nat.le_of_ble_eq_true rfl⟩) hK hG hC hP hD hS hA (List.Perm.refl _) rfl hl.1 rfl (Nat.le_of_ble_eq_true rfl) dL_follows_264 ⟨rfl, rfl⟩ ⟨rfl, rfl⟩ (by omega) (by omega) (fun ov w_195 H locs hQ hP hD hS => ?_)
          obtain ⟨rfl, hw_195⟩ := hQ
          refine W.eq (g2 := F0 m 267 ls [.long v_194]) rfl ?_
          refine lv_aload hx hb dL_follows_267 (lv_at hl 8 rfl) ?_
          refine lv_iload hx hb dL_follows_269 (lv_at hl 12 rfl) ?_
          have hP : va_P D vwCl (([(a0_249, .inl (k 4, 10, .inr (.inl g0_249)))] ++ [(a1_249, .inl (k 4, 10, .inr (.inl g1_249)))]) ++ w_195) H := P_perm List.perm_append_comm hP
          have hD : va_D A (([(a0_249, .inl (k 4, 10, .inr (.inl g0_249)))] ++ [(a1_249, .inl (k 4, 10, .inr (.inl g1_249)))]) ++ w_195) := D_perm List.perm_append_comm hD
          have g_196 := inb_vp (gb_l h)
          have h := gb_r h
          refine va_lald hx hb hK hP 0 4 rfl rfl g_196 dL_follows_271 ?_
          refine lv_aload hx hb dL_follows_272 (lv_at hl 9 rfl) ?_
          refine lv_iload hx hb dL_follows_274 (lv_at hl 12 rfl) ?_
          have g_197 := inb_vp (gb_l h)
          have h := gb_r h
          refine va_lald hx hb hK hP 1 4 rfl rfl g_197 dL_follows_276 ?_
          refine lv_ladd hx hb dL_follows_277 ?_
          refine W.lcmp hx hb dL_follows_278 ?_
          refine lv_if_ne (tgt := 296) hx hb dL_follows_279 (by decide) (fun c_198 => ?_) (fun c_198 => ?_)
          · have h := it_r c_198 h
            refine lv_iconst (v := 0) hx hb dL_follows_296 (by decide) ?_
            refine lv_istore (lv' := [(9, .int 0), (0, .ref (cA 0)), (1, .int p1), (2, .long x2_249), (4, .int x4_249), (5, .int x5_249), (6, .int x6_249), (7, .long x7_249), (10, .ref a0_249), (11, .ref a1_249), (12, .long x12_249), (14, .long x14_249), (22, .int x22_249)]) hx hb dL_follows_297 hl (by decide) rfl (fun ls hl => ?_)
            refine lv_iinc (v := (x22_249 + 1)) (lv' := [(22, .int (x22_249 + 1)), (9, .int 0), (0, .ref (cA 0)), (1, .int p1), (2, .long x2_249), (4, .int x4_249), (5, .int x5_249), (6, .int x6_249), (7, .long x7_249), (10, .ref a0_249), (11, .ref a1_249), (12, .long x12_249), (14, .long x14_249)]) hx hb dL_follows_299 hl (k := 12) rfl rfl (by decide) rfl (fun ls hl => ?_)
            refine lv_goto (tgt := 249) hx hb dL_follows_302 (by decide) ?_
            have hP : va_P D vwCl (w_195 ++ ([(a0_249, .inl (k 4, 10, .inr (.inl g0_249)))] ++ [(a1_249, .inl (k 4, 10, .inr (.inl g1_249)))])) H := P_perm List.perm_append_comm hP
            have hD : va_D A (w_195 ++ ([(a0_249, .inl (k 4, 10, .inr (.inl g0_249)))] ++ [(a1_249, .inl (k 4, 10, .inr (.inl g1_249)))])) := D_perm List.perm_append_comm hD
            refine W.widen (k := (319 - 1 * fu_249)) (n := (1940 - 6 * fu_249)) (by omega) (by omega) ?_
            exact ih_249 x2_249 x4_249 x5_249 x6_249 x7_249 0 x12_249 x14_249 (x22_249 + 1) X_249 g0_249 g1_249 w_195 a0_249 a1_249 _ _ _ (by omega) hw_195 hP hD hS (lv_sub hl [2, 3, 4, 5, 6, 7, 8, 1, 9, 10, 11, 12, 0] rfl) h
          · have h := it_l c_198 h
            refine lv_aload hx hb dL_follows_282 (lv_at hl 9 rfl) ?_
            refine lv_iload hx hb dL_follows_284 (lv_at hl 12 rfl) ?_
            have g_199 := inb_vp (gb_l h)
            have h := gb_r h
            refine va_lald hx hb hK hP 1 4 rfl rfl g_199 dL_follows_286 ?_
            refine lv_lconst (v := 0) hx hb dL_follows_287 (by decide) ?_
            refine W.lcmp hx hb dL_follows_288 ?_
            refine lv_if_lt (tgt := 296) hx hb dL_follows_289 (by decide) (fun c_200 => ?_) (fun c_200 => ?_)
            · have h := it_l c_200 h
              refine lv_iconst (v := 0) hx hb dL_follows_296 (by decide) ?_
              refine lv_istore (lv' := [(9, .int 0), (0, .ref (cA 0)), (1, .int p1), (2, .long x2_249), (4, .int x4_249), (5, .int x5_249), (6, .int x6_249), (7, .long x7_249), (10, .ref a0_249), (11, .ref a1_249), (12, .long x12_249), (14, .long x14_249), (22, .int x22_249)]) hx hb dL_follows_297 hl (by decide) rfl (fun ls hl => ?_)
              refine lv_iinc (v := (x22_249 + 1)) (lv' := [(22, .int (x22_249 + 1)), (9, .int 0), (0, .ref (cA 0)), (1, .int p1), (2, .long x2_249), (4, .int x4_249), (5, .int x5_249), (6, .int x6_249), (7, .long x7_249), (10, .ref a0_249), (11, .ref a1_249), (12, .long x12_249), (14, .long x14_249)]) hx hb dL_follows_299 hl (k := 12) rfl rfl (by decide) rfl (fun ls hl => ?_)
              refine lv_goto (tgt := 249) hx hb dL_follows_302 (by decide) ?_
              have hP : va_P D vwCl (w_195 ++ ([(a0_249, .inl (k 4, 10, .inr (.inl g0_249)))] ++ [(a1_249, .inl (k 4, 10, .inr (.inl g1_249)))])) H := P_perm List.perm_append_comm hP
              have hD : va_D A (w_195 ++ ([(a0_249, .inl (k 4, 10, .inr (.inl g0_249)))] ++ [(a1_249, .inl (k 4, 10, .inr (.inl g1_249)))])) := D_perm List.perm_append_comm hD
              refine W.widen (k := (319 - 1 * fu_249)) (n := (1940 - 6 * fu_249)) (by omega) (by omega) ?_
              exact ih_249 x2_249 x4_249 x5_249 x6_249 x7_249 0 x12_249 x14_249 (x22_249 + 1) X_249 g0_249 g1_249 w_195 a0_249 a1_249 _ _ _ (by omega) hw_195 hP hD hS (lv_sub hl [2, 3, 4, 5, 6, 7, 8, 1, 9, 10, 11, 12, 0] rfl) h
            · have h := it_r c_200 h
              refine lv_iconst (v := 1) hx hb dL_follows_292 (by decide) ?_
              refine lv_goto (tgt := 297) hx hb dL_follows_293 (by decide) ?_
              refine lv_istore (lv' := [(9, .int 1), (0, .ref (cA 0)), (1, .int p1), (2, .long x2_249), (4, .int x4_249), (5, .int x5_249), (6, .int x6_249), (7, .long x7_249), (10, .ref a0_249), (11, .ref a1_249), (12, .long x12_249), (14, .long x14_249), (22, .int x22_249)]) hx hb dL_follows_297 hl (by decide) rfl (fun ls hl => ?_)
              refine lv_iinc (v := (x22_249 + 1)) (lv' := [(22, .int (x22_249 + 1)), (9, .int 1), (0, .ref (cA 0)), (1, .int p1), (2, .long x2_249), (4, .int x4_249), (5, .int x5_249), (6, .int x6_249), (7, .long x7_249), (10, .ref a0_249), (11, .ref a1_249), (12, .long x12_249), (14, .long x14_249)]) hx hb dL_follows_299 hl (k := 12) rfl rfl (by decide) rfl (fun ls hl => ?_)
              refine lv_goto (tgt := 249) hx hb dL_follows_302 (by decide) ?_
              have hP : va_P D vwCl (w_195 ++ ([(a0_249, .inl (k 4, 10, .inr (.inl g0_249)))] ++ [(a1_249, .inl (k 4, 10, .inr (.inl g1_249)))])) H := P_perm List.perm_append_comm hP
              have hD : va_D A (w_195 ++ ([(a0_249, .inl (k 4, 10, .inr (.inl g0_249)))] ++ [(a1_249, .inl (k 4, 10, .inr (.inl g1_249)))])) := D_perm List.perm_append_comm hD
              refine W.widen (k := (319 - 1 * fu_249)) (n := (1940 - 6 * fu_249)) (by omega) (by omega) ?_
              exact ih_249 x2_249 x4_249 x5_249 x6_249 x7_249 1 x12_249 x14_249 (x22_249 + 1) X_249 g0_249 g1_249 w_195 a0_249 a1_249 _ _ _ (by omega) hw_195 hP hD hS (lv_sub hl [2, 3, 4, 5, 6, 7, 8, 1, 9, 10, 11, 12, 0] rfl) h
  have hC_164 : ∀ (x2_164 : Int64) (x4_164 : Int32) (x5_164 : Int32) (x6_164 : Int32) (x7_164 : Int64) (x9_164 : Int32) (x12_164 : Int64) (x14_164 : Int64) (x16_164 : Int64) (x18_164 : Int64) (t0_164 : Int64) (X_164 : XV) (g0_164 : Nat → Int64) (g1_164 : Nat → Int64) (w_164 : va_W) (a0_164 : Nat) (a1_164 : Nat) (H : Heap) (locs : List Loc) (ls : Array Slot), Ob k cA nA tA X_164 w_164 → va_P D vwCl (w_164 ++ ([(a0_164, .inl (k 4, 10, .inr (.inl g0_164)))] ++ [(a1_164, .inl (k 4, 10, .inr (.inl g1_164)))])) H → va_D A (w_164 ++ ([(a0_164, .inl (k 4, 10, .inr (.inl g0_164)))] ++ [(a1_164, .inl (k 4, 10, .inr (.inl g1_164)))])) → va_S A s.heap H locs → lv_has ls 37 [(0, .ref (cA 0)), (1, .int p1), (2, .long x2_164), (4, .int x4_164), (5, .int x5_164), (6, .int x6_164), (7, .long x7_164), (9, .int x9_164), (10, .ref a0_164), (11, .ref a1_164), (12, .long x12_164), (14, .long x14_164), (16, .long x16_164), (18, .long x18_164)] → f_L_follows_164 p1 x2_164 x4_164 x5_164 x6_164 x7_164 x9_164 x12_164 x14_164 x16_164 x18_164 t0_164 X_164 g0_164 g1_164 = some o → W p l e ({ frames := 14, cells := 1554, slots := 9530, locals := 749 } : Room) s m args below meth c H locs (291) (1763) (vx_MQ below (Qx D A (.inr B9)) (Xx D A (w) (.inr B9)) args s 1554 9530 A) (F0 m 164 ls [.long t0_164]) := by
    intro x2_164 x4_164 x5_164 x6_164 x7_164 x9_164 x12_164 x14_164 x16_164 x18_164 t0_164 X_164 g0_164 g1_164 w_164 a0_164 a1_164 H locs ls hw_164 hP hD hS hl h
    unfold f_L_follows_164 at h
    refine lv_lstore (lv' := [(20, .long t0_164), (0, .ref (cA 0)), (1, .int p1), (2, .long x2_164), (4, .int x4_164), (5, .int x5_164), (6, .int x6_164), (7, .long x7_164), (9, .int x9_164), (10, .ref a0_164), (11, .ref a1_164), (12, .long x12_164), (14, .long x14_164), (16, .long x16_164), (18, .long x18_164)]) hx hb dL_follows_164 hl (by decide) rfl (fun ls hl => ?_)
    refine lv_iload hx hb dL_follows_166 (lv_at hl 8 rfl) ?_
    refine lv_if_eq (tgt := 243) hx hb dL_follows_168 (by decide) (fun c_201 => ?_) (fun c_201 => ?_)
    · have h := it_l c_201 h
      refine lv_iconst (v := 0) hx hb dL_follows_243 (by decide) ?_
      refine lv_istore (lv' := [(9, .int 0), (20, .long t0_164), (0, .ref (cA 0)), (1, .int p1), (2, .long x2_164), (4, .int x4_164), (5, .int x5_164), (6, .int x6_164), (7, .long x7_164), (10, .ref a0_164), (11, .ref a1_164), (12, .long x12_164), (14, .long x14_164), (16, .long x16_164), (18, .long x18_164)]) hx hb dL_follows_244 hl (by decide) rfl (fun ls hl => ?_)
      refine lv_iconst (v := 0) hx hb dL_follows_246 (by decide) ?_
      refine lv_istore (lv' := [(22, .int 0), (9, .int 0), (20, .long t0_164), (0, .ref (cA 0)), (1, .int p1), (2, .long x2_164), (4, .int x4_164), (5, .int x5_164), (6, .int x6_164), (7, .long x7_164), (10, .ref a0_164), (11, .ref a1_164), (12, .long x12_164), (14, .long x14_164), (16, .long x16_164), (18, .long x18_164)]) hx hb dL_follows_247 hl (by decide) rfl (fun ls hl => ?_)
      refine W.widen (k := (319 - 1 * 11)) (n := (1940 - 6 * 11)) (by omega) (by omega) ?_
      exact hC_249 11 x2_164 x4_164 x5_164 x6_164 x7_164 0 x12_164 x14_164 0 X_164 g0_164 g1_164 w_164 a0_164 a1_164 _ _ _ (Nat.le_refl _) hw_164 hP hD hS (lv_sub hl [3, 4, 5, 6, 7, 8, 9, 1, 10, 11, 12, 13, 0] rfl) h
    · have h := it_r c_201 h
      refine lv_aload_n hx hb dL_follows_171 rfl (lv_at hl 1 rfl) ?_
      refine lv_iload hx hb dL_follows_172 (lv_at hl 5 rfl) ?_
      obtain ⟨⟨v_203, X_205⟩, hv_202, h⟩ := bd_l h
      refine Lo_T (As := [.ref (cA 0), .int x5_164]) (rest := []) (wA := w_164) (wr := ([(a0_164, .inl (k 4, 10, .inr (.inl g0_164)))] ++ [(a1_164, .inl (k 4, 10, .inr (.inl g1_164)))])) 12 81 (303) (1844) 1554 9530 (co_tick l hst D k cA nA tA X_164 w_164 hw_164 x5_164 (v_203, X_205) hv_202) ⟨hx, hb, hml, hown, hts⟩ (vx_cwSW 2 hts gL_follows_L_tick rfl rfl rfl (by decide +kernel) ⟨Nat.le_of_ble_eq_true rfl, Nat.le_of_ble_eq_true rfl⟩) hK hG hC hP hD hS hA (List.Perm.refl _) rfl hl.1 rfl (Nat.le_of_ble_eq_true rfl) dL_follows_174 ⟨rfl, rfl⟩ ⟨rfl, rfl⟩ (by omega) (by omega) (fun ov w_204 H locs hQ hP hD hS => ?_)
      obtain ⟨rfl, hw_204⟩ := hQ
      refine W.eq (g2 := F0 m 177 ls [.long v_203]) rfl ?_
      refine lv_aload hx hb dL_follows_177 (lv_at hl 10 rfl) ?_
      refine lv_iconst (v := 1) hx hb dL_follows_179 (by decide) ?_
      have hP : va_P D vwCl (([(a0_164, .inl (k 4, 10, .inr (.inl g0_164)))] ++ [(a1_164, .inl (k 4, 10, .inr (.inl g1_164)))]) ++ w_204) H := P_perm List.perm_append_comm hP
      have hD : va_D A (([(a0_164, .inl (k 4, 10, .inr (.inl g0_164)))] ++ [(a1_164, .inl (k 4, 10, .inr (.inl g1_164)))]) ++ w_204) := D_perm List.perm_append_comm hD
      refine va_lald hx hb hK hP 1 4 rfl rfl (inb_vp (by decide)) dL_follows_180 ?_
      refine W.eq (g2 := F0 m 181 ls [.long (g1_164 1), .long v_203]) rfl ?_
      refine W.lcmp hx hb dL_follows_181 ?_
      refine lv_if_ne (tgt := 243) hx hb dL_follows_182 (by decide) (fun c_206 => ?_) (fun c_206 => ?_)
      · have h := it_r c_206 h
        refine lv_iconst (v := 0) hx hb dL_follows_243 (by decide) ?_
        refine lv_istore (lv' := [(9, .int 0), (20, .long t0_164), (0, .ref (cA 0)), (1, .int p1), (2, .long x2_164), (4, .int x4_164), (5, .int x5_164), (6, .int x6_164), (7, .long x7_164), (10, .ref a0_164), (11, .ref a1_164), (12, .long x12_164), (14, .long x14_164), (16, .long x16_164), (18, .long x18_164)]) hx hb dL_follows_244 hl (by decide) rfl (fun ls hl => ?_)
        refine lv_iconst (v := 0) hx hb dL_follows_246 (by decide) ?_
        refine lv_istore (lv' := [(22, .int 0), (9, .int 0), (20, .long t0_164), (0, .ref (cA 0)), (1, .int p1), (2, .long x2_164), (4, .int x4_164), (5, .int x5_164), (6, .int x6_164), (7, .long x7_164), (10, .ref a0_164), (11, .ref a1_164), (12, .long x12_164), (14, .long x14_164), (16, .long x16_164), (18, .long x18_164)]) hx hb dL_follows_247 hl (by decide) rfl (fun ls hl => ?_)
        have hP : va_P D vwCl (w_204 ++ ([(a0_164, .inl (k 4, 10, .inr (.inl g0_164)))] ++ [(a1_164, .inl (k 4, 10, .inr (.inl g1_164)))])) H := P_perm List.perm_append_comm hP
        have hD : va_D A (w_204 ++ ([(a0_164, .inl (k 4, 10, .inr (.inl g0_164)))] ++ [(a1_164, .inl (k 4, 10, .inr (.inl g1_164)))])) := D_perm List.perm_append_comm hD
        refine W.widen (k := (319 - 1 * 11)) (n := (1940 - 6 * 11)) (by omega) (by omega) ?_
        exact hC_249 11 x2_164 x4_164 x5_164 x6_164 x7_164 0 x12_164 x14_164 0 X_205 g0_164 g1_164 w_204 a0_164 a1_164 _ _ _ (Nat.le_refl _) hw_204 hP hD hS (lv_sub hl [3, 4, 5, 6, 7, 8, 9, 1, 10, 11, 12, 13, 0] rfl) h
      · have h := it_l c_206 h
        refine lv_aload_n hx hb dL_follows_185 rfl (lv_at hl 1 rfl) ?_
        refine lv_bipush (v := 6) hx hb dL_follows_186 (by decide) ?_
        obtain ⟨v_208, hv_207, h⟩ := bd_l h
        refine Lo_T (As := [.ref (cA 0), .int 6]) (rest := []) (wA := w_204) (wr := ([(a0_164, .inl (k 4, 10, .inr (.inl g0_164)))] ++ [(a1_164, .inl (k 4, 10, .inr (.inl g1_164)))])) 1 6 (304) (1850) 1554 9530 (co_about l hst D k cA nA tA X_205 w_204 hw_204 6 v_208 hv_207) ⟨hx, hb, hml, hown, hts⟩ (vx_cwSW 2 hts gL_follows_L_about rfl rfl rfl (by decide +kernel) ⟨Nat.le_of_ble_eq_true rfl, Nat.le_of_ble_eq_true rfl⟩) hK hG hC hP hD hS hA (List.perm_append_comm) rfl hl.1 rfl (Nat.le_of_ble_eq_true rfl) dL_follows_188 ⟨rfl, rfl⟩ ⟨rfl, rfl⟩ (by omega) (by omega) (fun ov w_209 H locs hQ hP hD hS => ?_)
        obtain ⟨rfl, hw_209⟩ := hQ
        refine W.eq (g2 := F0 m 191 ls [.long v_208]) rfl ?_
        refine lv_lload hx hb dL_follows_191 (lv_at hl 7 rfl) ?_
        refine lv_iload hx hb dL_follows_193 (lv_at hl 5 rfl) ?_
        refine lv_i2l hx hb dL_follows_195 rfl ?_
        refine lv_ladd hx hb dL_follows_196 ?_
        refine W.lcmp hx hb dL_follows_197 ?_
        refine lv_if_ne (tgt := 243) hx hb dL_follows_198 (by decide) (fun c_210 => ?_) (fun c_210 => ?_)
        · have h := it_r c_210 h
          refine lv_iconst (v := 0) hx hb dL_follows_243 (by decide) ?_
          refine lv_istore (lv' := [(9, .int 0), (20, .long t0_164), (0, .ref (cA 0)), (1, .int p1), (2, .long x2_164), (4, .int x4_164), (5, .int x5_164), (6, .int x6_164), (7, .long x7_164), (10, .ref a0_164), (11, .ref a1_164), (12, .long x12_164), (14, .long x14_164), (16, .long x16_164), (18, .long x18_164)]) hx hb dL_follows_244 hl (by decide) rfl (fun ls hl => ?_)
          refine lv_iconst (v := 0) hx hb dL_follows_246 (by decide) ?_
          refine lv_istore (lv' := [(22, .int 0), (9, .int 0), (20, .long t0_164), (0, .ref (cA 0)), (1, .int p1), (2, .long x2_164), (4, .int x4_164), (5, .int x5_164), (6, .int x6_164), (7, .long x7_164), (10, .ref a0_164), (11, .ref a1_164), (12, .long x12_164), (14, .long x14_164), (16, .long x16_164), (18, .long x18_164)]) hx hb dL_follows_247 hl (by decide) rfl (fun ls hl => ?_)
          refine W.widen (k := (319 - 1 * 11)) (n := (1940 - 6 * 11)) (by omega) (by omega) ?_
          exact hC_249 11 x2_164 x4_164 x5_164 x6_164 x7_164 0 x12_164 x14_164 0 X_205 g0_164 g1_164 w_209 a0_164 a1_164 _ _ _ (Nat.le_refl _) hw_209 hP hD hS (lv_sub hl [3, 4, 5, 6, 7, 8, 9, 1, 10, 11, 12, 13, 0] rfl) h
        · have h := it_l c_210 h
          refine lv_aload_n hx hb dL_follows_201 rfl (lv_at hl 1 rfl) ?_
          refine lv_iload hx hb dL_follows_202 (lv_at hl 6 rfl) ?_
          refine lv_iconst (v := 5) hx hb dL_follows_204 (by decide) ?_
          obtain ⟨v_212, hv_211, h⟩ := bd_l h
          refine Lo_T (As := [.ref (cA 0), .int x6_164, .int 5]) (rest := []) (wA := w_209) (wr := ([(a0_164, .inl (k 4, 10, .inr (.inl g0_164)))] ++ [(a1_164, .inl (k 4, 10, .inr (.inl g1_164)))])) 2 12 (306) (1862) 1554 9530 (co_effect l hst D k cA nA tA X_205 w_209 hw_209 x6_164 5 v_212 hv_211) ⟨hx, hb, hml, hown, hts⟩ (vx_cwSW 3 hts gL_follows_L_effect rfl rfl rfl (by decide +kernel) ⟨Nat.le_of_ble_eq_true rfl, Nat.le_of_ble_eq_true rfl⟩) hK hG hC hP hD hS hA (List.Perm.refl _) rfl hl.1 rfl (Nat.le_of_ble_eq_true rfl) dL_follows_205 ⟨rfl, rfl⟩ ⟨rfl, rfl⟩ (by omega) (by omega) (fun ov w_213 H locs hQ hP hD hS => ?_)
          obtain ⟨rfl, hw_213⟩ := hQ
          refine W.eq (g2 := F0 m 208 ls [.long v_212]) rfl ?_
          refine lv_lload hx hb dL_follows_208 (lv_at hl 13 rfl) ?_
          refine W.lcmp hx hb dL_follows_210 ?_
          refine lv_if_ne (tgt := 243) hx hb dL_follows_211 (by decide) (fun c_214 => ?_) (fun c_214 => ?_)
          · have h := it_r c_214 h
            refine lv_iconst (v := 0) hx hb dL_follows_243 (by decide) ?_
            refine lv_istore (lv' := [(9, .int 0), (20, .long t0_164), (0, .ref (cA 0)), (1, .int p1), (2, .long x2_164), (4, .int x4_164), (5, .int x5_164), (6, .int x6_164), (7, .long x7_164), (10, .ref a0_164), (11, .ref a1_164), (12, .long x12_164), (14, .long x14_164), (16, .long x16_164), (18, .long x18_164)]) hx hb dL_follows_244 hl (by decide) rfl (fun ls hl => ?_)
            refine lv_iconst (v := 0) hx hb dL_follows_246 (by decide) ?_
            refine lv_istore (lv' := [(22, .int 0), (9, .int 0), (20, .long t0_164), (0, .ref (cA 0)), (1, .int p1), (2, .long x2_164), (4, .int x4_164), (5, .int x5_164), (6, .int x6_164), (7, .long x7_164), (10, .ref a0_164), (11, .ref a1_164), (12, .long x12_164), (14, .long x14_164), (16, .long x16_164), (18, .long x18_164)]) hx hb dL_follows_247 hl (by decide) rfl (fun ls hl => ?_)
            refine W.widen (k := (319 - 1 * 11)) (n := (1940 - 6 * 11)) (by omega) (by omega) ?_
            exact hC_249 11 x2_164 x4_164 x5_164 x6_164 x7_164 0 x12_164 x14_164 0 X_205 g0_164 g1_164 w_213 a0_164 a1_164 _ _ _ (Nat.le_refl _) hw_213 hP hD hS (lv_sub hl [3, 4, 5, 6, 7, 8, 9, 1, 10, 11, 12, 13, 0] rfl) h
          · have h := it_l c_214 h
            refine lv_aload_n hx hb dL_follows_214 rfl (lv_at hl 1 rfl) ?_
            refine lv_iload hx hb dL_follows_215 (lv_at hl 6 rfl) ?_
            refine lv_iconst (v := 1) hx hb dL_follows_217 (by decide) ?_
            obtain ⟨v_216, hv_215, h⟩ := bd_l h
            refine Lo_T (As := [.ref (cA 0), .int x6_164, .int 1]) (rest := []) (wA := w_213) (wr := ([(a0_164, .inl (k 4, 10, .inr (.inl g0_164)))] ++ [(a1_164, .inl (k 4, 10, .inr (.inl g1_164)))])) 2 12 (308) (1874) 1554 9530 (co_effect l hst D k cA nA tA X_205 w_213 hw_213 x6_164 1 v_216 hv_215) ⟨hx, hb, hml, hown, hts⟩ (vx_cwSW 3 hts gL_follows_L_effect rfl rfl rfl (by decide +kernel) ⟨Nat.le_of_ble_eq_true rfl, Nat.le_of_ble_eq_true rfl⟩) hK hG hC hP hD hS hA (List.Perm.refl _) rfl hl.1 rfl (Nat.le_of_ble_eq_true rfl) dL_follows_218 ⟨rfl, rfl⟩ ⟨rfl, rfl⟩ (by omega) (by omega) (fun ov w_217 H locs hQ hP hD hS => ?_)
            obtain ⟨rfl, hw_217⟩ := hQ
            refine W.eq (g2 := F0 m 221 ls [.long v_216]) rfl ?_
            refine lv_lload hx hb dL_follows_221 (lv_at hl 14 rfl) ?_
            refine W.lcmp hx hb dL_follows_223 ?_
            refine lv_if_ne (tgt := 243) hx hb dL_follows_224 (by decide) (fun c_218 => ?_) (fun c_218 => ?_)
            · have h := it_r c_218 h
              refine lv_iconst (v := 0) hx hb dL_follows_243 (by decide) ?_
              refine lv_istore (lv' := [(9, .int 0), (20, .long t0_164), (0, .ref (cA 0)), (1, .int p1), (2, .long x2_164), (4, .int x4_164), (5, .int x5_164), (6, .int x6_164), (7, .long x7_164), (10, .ref a0_164), (11, .ref a1_164), (12, .long x12_164), (14, .long x14_164), (16, .long x16_164), (18, .long x18_164)]) hx hb dL_follows_244 hl (by decide) rfl (fun ls hl => ?_)
              refine lv_iconst (v := 0) hx hb dL_follows_246 (by decide) ?_
              refine lv_istore (lv' := [(22, .int 0), (9, .int 0), (20, .long t0_164), (0, .ref (cA 0)), (1, .int p1), (2, .long x2_164), (4, .int x4_164), (5, .int x5_164), (6, .int x6_164), (7, .long x7_164), (10, .ref a0_164), (11, .ref a1_164), (12, .long x12_164), (14, .long x14_164), (16, .long x16_164), (18, .long x18_164)]) hx hb dL_follows_247 hl (by decide) rfl (fun ls hl => ?_)
              refine W.widen (k := (319 - 1 * 11)) (n := (1940 - 6 * 11)) (by omega) (by omega) ?_
              exact hC_249 11 x2_164 x4_164 x5_164 x6_164 x7_164 0 x12_164 x14_164 0 X_205 g0_164 g1_164 w_217 a0_164 a1_164 _ _ _ (Nat.le_refl _) hw_217 hP hD hS (lv_sub hl [3, 4, 5, 6, 7, 8, 9, 1, 10, 11, 12, 13, 0] rfl) h
            · have h := it_l c_218 h
              refine lv_lload hx hb dL_follows_227 (lv_at hl 0 rfl) ?_
              refine lv_lconst (v := 0) hx hb dL_follows_229 (by decide) ?_
              refine lv_iload hx hb dL_follows_230 (lv_at hl 5 rfl) ?_
              refine lv_i2l hx hb dL_follows_232 rfl ?_
              obtain ⟨v_220, hv_219, h⟩ := bd_l h
              refine Lo_S (As := [.long t0_164, .long 0, .long (x5_164.toInt64)]) (rest := []) (wA := []) (wr := w_217 ++ ([(a0_164, .inl (k 4, 10, .inr (.inl g0_164)))] ++ [(a1_164, .inl (k 4, 10, .inr (.inl g1_164)))])) 0 0 (308) (1874) 1554 9530 (c_L_in l hst D k t0_164 0 (x5_164.toInt64) v_220 hv_219) ⟨hx, hb, hml, hown, hts⟩ (va_cwS 3 hts gL_follows_L_in rfl rfl rfl (by decide +kernel) ⟨Nat.le_of_ble_eq_true rfl, Nat.le_of_ble_eq_true rfl⟩) hK hG hC hP hD hS hA (List.Perm.refl _) rfl hl.1 rfl (Nat.le_of_ble_eq_true rfl) dL_follows_233 ⟨rfl, rfl⟩ ⟨rfl, rfl⟩ (by omega) (by omega) (fun ov w9 H locs hQ hP hD hS => ?_)
              obtain ⟨rfl, rfl⟩ := hQ
              have hP : va_P D vwCl (w_217 ++ ([(a0_164, .inl (k 4, 10, .inr (.inl g0_164)))] ++ [(a1_164, .inl (k 4, 10, .inr (.inl g1_164)))])) H := hP
              have hD : va_D A (w_217 ++ ([(a0_164, .inl (k 4, 10, .inr (.inl g0_164)))] ++ [(a1_164, .inl (k 4, 10, .inr (.inl g1_164)))])) := hD
              refine W.eq (g2 := F0 m 236 ls [.int v_220]) rfl ?_
              refine lv_if_eq (tgt := 243) hx hb dL_follows_236 (by decide) (fun c_221 => ?_) (fun c_221 => ?_)
              · have h := it_l c_221 h
                refine lv_iconst (v := 0) hx hb dL_follows_243 (by decide) ?_
                refine lv_istore (lv' := [(9, .int 0), (20, .long t0_164), (0, .ref (cA 0)), (1, .int p1), (2, .long x2_164), (4, .int x4_164), (5, .int x5_164), (6, .int x6_164), (7, .long x7_164), (10, .ref a0_164), (11, .ref a1_164), (12, .long x12_164), (14, .long x14_164), (16, .long x16_164), (18, .long x18_164)]) hx hb dL_follows_244 hl (by decide) rfl (fun ls hl => ?_)
                refine lv_iconst (v := 0) hx hb dL_follows_246 (by decide) ?_
                refine lv_istore (lv' := [(22, .int 0), (9, .int 0), (20, .long t0_164), (0, .ref (cA 0)), (1, .int p1), (2, .long x2_164), (4, .int x4_164), (5, .int x5_164), (6, .int x6_164), (7, .long x7_164), (10, .ref a0_164), (11, .ref a1_164), (12, .long x12_164), (14, .long x14_164), (16, .long x16_164), (18, .long x18_164)]) hx hb dL_follows_247 hl (by decide) rfl (fun ls hl => ?_)
                refine W.widen (k := (319 - 1 * 11)) (n := (1940 - 6 * 11)) (by omega) (by omega) ?_
                exact hC_249 11 x2_164 x4_164 x5_164 x6_164 x7_164 0 x12_164 x14_164 0 X_205 g0_164 g1_164 w_217 a0_164 a1_164 _ _ _ (Nat.le_refl _) hw_217 hP hD hS (lv_sub hl [3, 4, 5, 6, 7, 8, 9, 1, 10, 11, 12, 13, 0] rfl) h
              · have h := it_r c_221 h
                refine lv_iconst (v := 1) hx hb dL_follows_239 (by decide) ?_
                refine lv_goto (tgt := 244) hx hb dL_follows_240 (by decide) ?_
                refine lv_istore (lv' := [(9, .int 1), (20, .long t0_164), (0, .ref (cA 0)), (1, .int p1), (2, .long x2_164), (4, .int x4_164), (5, .int x5_164), (6, .int x6_164), (7, .long x7_164), (10, .ref a0_164), (11, .ref a1_164), (12, .long x12_164), (14, .long x14_164), (16, .long x16_164), (18, .long x18_164)]) hx hb dL_follows_244 hl (by decide) rfl (fun ls hl => ?_)
                refine lv_iconst (v := 0) hx hb dL_follows_246 (by decide) ?_
                refine lv_istore (lv' := [(22, .int 0), (9, .int 1), (20, .long t0_164), (0, .ref (cA 0)), (1, .int p1), (2, .long x2_164), (4, .int x4_164), (5, .int x5_164), (6, .int x6_164), (7, .long x7_164), (10, .ref a0_164), (11, .ref a1_164), (12, .long x12_164), (14, .long x14_164), (16, .long x16_164), (18, .long x18_164)]) hx hb dL_follows_247 hl (by decide) rfl (fun ls hl => ?_)
                refine W.widen (k := (319 - 1 * 11)) (n := (1940 - 6 * 11)) (by omega) (by omega) ?_
                exact hC_249 11 x2_164 x4_164 x5_164 x6_164 x7_164 1 x12_164 x14_164 0 X_205 g0_164 g1_164 w_217 a0_164 a1_164 _ _ _ (Nat.le_refl _) hw_217 hP hD hS (lv_sub hl [3, 4, 5, 6, 7, 8, 9, 1, 10, 11, 12, 13, 0] rfl) h
  have hC_69 : ∀ (fu_69 : Nat) (x2_69 : Int64) (x4_69 : Int32) (x5_69 : Int32) (x6_69 : Int32) (x7_69 : Int64) (x9_69 : Int32) (x12_69 : Int32) (X_69 : XV) (g0_69 : Nat → Int64) (g1_69 : Nat → Int64) (w_69 : va_W) (a0_69 : Nat) (a1_69 : Nat) (H : Heap) (locs : List Loc) (ls : Array Slot), fu_69 ≤ 11 → Ob k cA nA tA X_69 w_69 → va_P D vwCl (w_69 ++ ([(a0_69, .inl (k 4, 10, .inr (.inl g0_69)))] ++ [(a1_69, .inl (k 4, 10, .inr (.inl g1_69)))])) H → va_D A (w_69 ++ ([(a0_69, .inl (k 4, 10, .inr (.inl g0_69)))] ++ [(a1_69, .inl (k 4, 10, .inr (.inl g1_69)))])) → va_S A s.heap H locs → lv_has ls 37 [(0, .ref (cA 0)), (1, .int p1), (2, .long x2_69), (4, .int x4_69), (5, .int x5_69), (6, .int x6_69), (7, .long x7_69), (9, .int x9_69), (10, .ref a0_69), (11, .ref a1_69), (12, .int x12_69)] → f_L_follows_69 p1 fu_69 x2_69 x4_69 x5_69 x6_69 x7_69 x9_69 x12_69 X_69 g0_69 g1_69 = some o → W p l e ({ frames := 14, cells := 1554, slots := 9530, locals := 749 } : Room) s m args below meth c H locs ((273 - 3 * fu_69)) ((1655 - 18 * fu_69)) (vx_MQ below (Qx D A (.inr B9)) (Xx D A (w) (.inr B9)) args s 1554 9530 A) (F0 m 69 ls []) := by
    intro fu_69
    induction fu_69 with
    | zero => intro x2_69 x4_69 x5_69 x6_69 x7_69 x9_69 x12_69 X_69 g0_69 g1_69 w_69 a0_69 a1_69 H locs ls _ _ _ _ _ _ h; exact (no_l h).elim
    | succ fu_69 ih_69 =>
      intro x2_69 x4_69 x5_69 x6_69 x7_69 x9_69 x12_69 X_69 g0_69 g1_69 w_69 a0_69 a1_69 H locs ls hfu_69 hw_69 hP hD hS hl h
      rw [f_L_follows_69] at h
      refine lv_iload hx hb dL_follows_69 (lv_at hl 10 rfl) ?_
      refine lv_bipush (v := 10) hx hb dL_follows_71 (by decide) ?_
      refine lv_icmp_ge (tgt := 106) hx hb dL_follows_73 (by decide) (fun c_222 => ?_) (fun c_222 => ?_)
      · have h := it_l c_222 h
        refine lv_aload_n hx hb dL_follows_106 rfl (lv_at hl 0 rfl) ?_
        refine lv_bipush (v := 8) hx hb dL_follows_107 (by decide) ?_
        obtain ⟨v_224, hv_223, h⟩ := bd_l h
        refine Lo_T (As := [.ref (cA 0), .int 8]) (rest := []) (wA := w_69) (wr := ([(a0_69, .inl (k 4, 10, .inr (.inl g0_69)))] ++ [(a1_69, .inl (k 4, 10, .inr (.inl g1_69)))])) 1 6 ((273 - 3 * (fu_69 + 1)) + 1) ((1655 - 18 * (fu_69 + 1)) + 6) 1554 9530 (co_about l hst D k cA nA tA X_69 w_69 hw_69 8 v_224 hv_223) ⟨hx, hb, hml, hown, hts⟩ (vx_cwSW 2 hts gL_follows_L_about rfl rfl rfl (by decide +kernel) ⟨Nat.le_of_ble_eq_true rfl, Nat.le_of_ble_eq_true rfl⟩) hK hG hC hP hD hS hA (List.Perm.refl _) rfl hl.1 rfl (Nat.le_of_ble_eq_true rfl) dL_follows_109 ⟨rfl, rfl⟩ ⟨rfl, rfl⟩ (by omega) (by omega) (fun ov w_225 H locs hQ hP hD hS => ?_)
        obtain ⟨rfl, hw_225⟩ := hQ
        refine W.eq (g2 := F0 m 112 ls [.long v_224]) rfl ?_
        refine lv_lstore (lv' := [(12, .long v_224), (0, .ref (cA 0)), (1, .int p1), (2, .long x2_69), (4, .int x4_69), (5, .int x5_69), (6, .int x6_69), (7, .long x7_69), (9, .int x9_69), (10, .ref a0_69), (11, .ref a1_69)]) hx hb dL_follows_112 hl (by decide) rfl (fun ls hl => ?_)
        refine lv_aload_n hx hb dL_follows_114 rfl (lv_at hl 1 rfl) ?_
        refine lv_bipush (v := 9) hx hb dL_follows_115 (by decide) ?_
        obtain ⟨v_227, hv_226, h⟩ := bd_l h
        refine Lo_T (As := [.ref (cA 0), .int 9]) (rest := []) (wA := w_225) (wr := ([(a0_69, .inl (k 4, 10, .inr (.inl g0_69)))] ++ [(a1_69, .inl (k 4, 10, .inr (.inl g1_69)))])) 1 6 ((273 - 3 * (fu_69 + 1)) + 2) ((1655 - 18 * (fu_69 + 1)) + 12) 1554 9530 (co_about l hst D k cA nA tA X_69 w_225 hw_225 9 v_227 hv_226) ⟨hx, hb, hml, hown, hts⟩ (vx_cwSW 2 hts gL_follows_L_about rfl rfl rfl (by decide +kernel) ⟨Nat.le_of_ble_eq_true rfl, Nat.le_of_ble_eq_true rfl⟩) hK hG hC hP hD hS hA (List.Perm.refl _) rfl hl.1 rfl (Nat.le_of_ble_eq_true rfl) dL_follows_117 ⟨rfl, rfl⟩ ⟨rfl, rfl⟩ (by omega) (by omega) (fun ov w_228 H locs hQ hP hD hS => ?_)
        obtain ⟨rfl, hw_228⟩ := hQ
        refine W.eq (g2 := F0 m 120 ls [.long v_227]) rfl ?_
        refine lv_lstore (lv' := [(14, .long v_227), (12, .long v_224), (0, .ref (cA 0)), (1, .int p1), (2, .long x2_69), (4, .int x4_69), (5, .int x5_69), (6, .int x6_69), (7, .long x7_69), (9, .int x9_69), (10, .ref a0_69), (11, .ref a1_69)]) hx hb dL_follows_120 hl (by decide) rfl (fun ls hl => ?_)
        refine lv_aload_n hx hb dL_follows_122 rfl (lv_at hl 2 rfl) ?_
        refine lv_iload hx hb dL_follows_123 (lv_at hl 7 rfl) ?_
        refine lv_iload hx hb dL_follows_125 (lv_at hl 6 rfl) ?_
        refine lv_iconst (v := 5) hx hb dL_follows_127 (by decide) ?_
        obtain ⟨v_230, hv_229, h⟩ := bd_l h
        refine Lo_T (As := [.ref (cA 0), .int x6_69, .int x5_69, .int 5]) (rest := []) (wA := w_228) (wr := ([(a0_69, .inl (k 4, 10, .inr (.inl g0_69)))] ++ [(a1_69, .inl (k 4, 10, .inr (.inl g1_69)))])) 3 18 ((273 - 3 * (fu_69 + 1)) + 5) ((1655 - 18 * (fu_69 + 1)) + 30) 1554 9530 (co_ahead l hst D k cA nA tA X_69 w_228 hw_228 x6_69 x5_69 5 v_230 hv_229) ⟨hx, hb, hml, hown, hts⟩ (vx_cwSW 4 hts gL_follows_L_ahead rfl rfl rfl (by decide +kernel) ⟨Nat.le_of_ble_eq_true rfl, Nat.le_of_ble_eq_true rfl⟩) hK hG hC hP hD hS hA (List.Perm.refl _) rfl hl.1 rfl (Nat.le_of_ble_eq_true rfl) dL_follows_128 ⟨rfl, rfl⟩ ⟨rfl, rfl⟩ (by omega) (by omega) (fun ov w_231 H locs hQ hP hD hS => ?_)
        obtain ⟨rfl, hw_231⟩ := hQ
        refine W.eq (g2 := F0 m 131 ls [.long v_230]) rfl ?_
        refine lv_lstore (lv' := [(16, .long v_230), (14, .long v_227), (12, .long v_224), (0, .ref (cA 0)), (1, .int p1), (2, .long x2_69), (4, .int x4_69), (5, .int x5_69), (6, .int x6_69), (7, .long x7_69), (9, .int x9_69), (10, .ref a0_69), (11, .ref a1_69)]) hx hb dL_follows_131 hl (by decide) rfl (fun ls hl => ?_)
        refine lv_aload_n hx hb dL_follows_133 rfl (lv_at hl 3 rfl) ?_
        refine lv_iload hx hb dL_follows_134 (lv_at hl 8 rfl) ?_
        refine lv_iload hx hb dL_follows_136 (lv_at hl 7 rfl) ?_
        refine lv_iconst (v := 1) hx hb dL_follows_138 (by decide) ?_
        obtain ⟨v_233, hv_232, h⟩ := bd_l h
        refine Lo_T (As := [.ref (cA 0), .int x6_69, .int x5_69, .int 1]) (rest := []) (wA := w_231) (wr := ([(a0_69, .inl (k 4, 10, .inr (.inl g0_69)))] ++ [(a1_69, .inl (k 4, 10, .inr (.inl g1_69)))])) 3 18 ((273 - 3 * (fu_69 + 1)) + 8) ((1655 - 18 * (fu_69 + 1)) + 48) 1554 9530 (co_ahead l hst D k cA nA tA X_69 w_231 hw_231 x6_69 x5_69 1 v_233 hv_232) ⟨hx, hb, hml, hown, hts⟩ (vx_cwSW 4 hts gL_follows_L_ahead rfl rfl rfl (by decide +kernel) ⟨Nat.le_of_ble_eq_true rfl, Nat.le_of_ble_eq_true rfl⟩) hK hG hC hP hD hS hA (List.Perm.refl _) rfl hl.1 rfl (Nat.le_of_ble_eq_true rfl) dL_follows_139 ⟨rfl, rfl⟩ ⟨rfl, rfl⟩ (by omega) (by omega) (fun ov w_234 H locs hQ hP hD hS => ?_)
        obtain ⟨rfl, hw_234⟩ := hQ
        refine W.eq (g2 := F0 m 142 ls [.long v_233]) rfl ?_
        refine lv_lstore (lv' := [(18, .long v_233), (16, .long v_230), (14, .long v_227), (12, .long v_224), (0, .ref (cA 0)), (1, .int p1), (2, .long x2_69), (4, .int x4_69), (5, .int x5_69), (6, .int x6_69), (7, .long x7_69), (9, .int x9_69), (10, .ref a0_69), (11, .ref a1_69)]) hx hb dL_follows_142 hl (by decide) rfl (fun ls hl => ?_)
        refine lv_lload hx hb dL_follows_144 (lv_at hl 1 rfl) ?_
        refine lv_lconst (v := 0) hx hb dL_follows_146 (by decide) ?_
        refine W.lcmp hx hb dL_follows_147 ?_
        refine lv_if_ne (tgt := 155) hx hb dL_follows_148 (by decide) (fun c_235 => ?_) (fun c_235 => ?_)
        · have h := it_r c_235 h
          refine lv_aload_n hx hb dL_follows_155 rfl (lv_at hl 4 rfl) ?_
          refine lv_iload hx hb dL_follows_156 (lv_at hl 9 rfl) ?_
          refine lv_lload hx hb dL_follows_158 (lv_at hl 1 rfl) ?_
          refine lv_l2i hx hb dL_follows_160 rfl ?_
          obtain ⟨v_237, hv_236, h⟩ := bd_l h
          refine Lo_T (As := [.ref (cA 0), .int x6_69, .int (v_230.toInt32)]) (rest := []) (wA := w_234) (wr := ([(a0_69, .inl (k 4, 10, .inr (.inl g0_69)))] ++ [(a1_69, .inl (k 4, 10, .inr (.inl g1_69)))])) 7 42 ((273 - 3 * (fu_69 + 1)) + 15) ((1655 - 18 * (fu_69 + 1)) + 90) 1554 9530 (co_scaledAfter l hst D k cA nA tA X_69 w_234 hw_234 x6_69 (v_230.toInt32) v_237 hv_236) ⟨hx, hb, hml, hown, hts⟩ (vx_cwSW 3 hts gL_follows_L_scaledAfter rfl rfl rfl (by decide +kernel) ⟨Nat.le_of_ble_eq_true rfl, Nat.le_of_ble_eq_true rfl⟩) hK hG hC hP hD hS hA (List.Perm.refl _) rfl hl.1 rfl (Nat.le_of_ble_eq_true rfl) dL_follows_161 ⟨rfl, rfl⟩ ⟨rfl, rfl⟩ (by omega) (by omega) (fun ov w_238 H locs hQ hP hD hS => ?_)
          obtain ⟨rfl, hw_238⟩ := hQ
          refine W.eq (g2 := F0 m 164 ls [.long v_237]) rfl ?_
          refine W.widen (k := 291) (n := 1763) (by omega) (by omega) ?_
          exact hC_164 x2_69 x4_69 x5_69 x6_69 x7_69 x9_69 v_224 v_227 v_230 v_233 v_237 X_69 g0_69 g1_69 w_238 a0_69 a1_69 _ _ _ hw_238 hP hD hS (lv_sub hl [4, 5, 6, 7, 8, 9, 10, 11, 12, 13, 3, 2, 1, 0] rfl) h
        · have h := it_l c_235 h
          refine lv_lconst (v := 0) hx hb dL_follows_151 (by decide) ?_
          refine lv_goto (tgt := 164) hx hb dL_follows_152 (by decide) ?_
          refine W.widen (k := 291) (n := 1763) (by omega) (by omega) ?_
          exact hC_164 x2_69 x4_69 x5_69 x6_69 x7_69 x9_69 v_224 v_227 v_230 v_233 0 X_69 g0_69 g1_69 w_234 a0_69 a1_69 _ _ _ hw_234 hP hD hS (lv_sub hl [4, 5, 6, 7, 8, 9, 10, 11, 12, 13, 3, 2, 1, 0] rfl) h
      · have h := it_r c_222 h
        refine lv_aload hx hb dL_follows_76 (lv_at hl 8 rfl) ?_
        refine lv_iload hx hb dL_follows_78 (lv_at hl 10 rfl) ?_
        refine lv_aload_n hx hb dL_follows_80 rfl (lv_at hl 0 rfl) ?_
        refine lv_iload hx hb dL_follows_81 (lv_at hl 10 rfl) ?_
        obtain ⟨v_240, hv_239, h⟩ := bd_l h
        refine Lo_T (As := [.ref (cA 0), .int x12_69]) (rest := [.int x12_69, .ref a0_69]) (wA := w_69) (wr := ([(a0_69, .inl (k 4, 10, .inr (.inl g0_69)))] ++ [(a1_69, .inl (k 4, 10, .inr (.inl g1_69)))])) 1 6 ((273 - 3 * (fu_69 + 1)) + 1) ((1655 - 18 * (fu_69 + 1)) + 6) 1554 9530 (co_total l hst D k cA nA tA X_69 w_69 hw_69 x12_69 v_240 hv_239) ⟨hx, hb, hml, hown, hts⟩ (vx_cwSW 2 hts gL_follows_L_total rfl rfl rfl (by decide +kernel) ⟨Nat.le_of_ble_eq_true rfl, Nat.le_of_ble_eq_true rfl⟩) hK hG hC hP hD hS hA (List.Perm.refl _) rfl hl.1 rfl (Nat.le_of_ble_eq_true rfl) dL_follows_83 ⟨rfl, rfl⟩ ⟨rfl, rfl⟩ (by omega) (by omega) (fun ov w_241 H locs hQ hP hD hS => ?_)
        obtain ⟨rfl, hw_241⟩ := hQ
        refine W.eq (g2 := F0 m 86 ls [.long v_240, .int x12_69, .ref a0_69]) rfl ?_
        have hP : va_P D vwCl (([(a0_69, .inl (k 4, 10, .inr (.inl g0_69)))] ++ [(a1_69, .inl (k 4, 10, .inr (.inl g1_69)))]) ++ w_241) H := P_perm List.perm_append_comm hP
        have hD : va_D A (([(a0_69, .inl (k 4, 10, .inr (.inl g0_69)))] ++ [(a1_69, .inl (k 4, 10, .inr (.inl g1_69)))]) ++ w_241) := D_perm List.perm_append_comm hD
        have g_242 := inb_vp (gb_l h)
        have h := gb_r h
        refine va_last hx hb hK hP hD hS 0 4 rfl rfl g_242 dL_follows_86 (fun H locs hP hD hS => ?_)
        obtain ⟨g_243, eg_243⟩ : ∃ y : Nat → Int64, y = vp_updL g0_69 x12_69.toNatClampNeg v_240 := ⟨_, rfl⟩
        have hP : va_P D vwCl (([(a0_69, .inl (k 4, 10, .inr (.inl g_243)))] ++ [(a1_69, .inl (k 4, 10, .inr (.inl g1_69)))]) ++ w_241) H := by rw [eg_243]; exact hP
        have hD : va_D A (([(a0_69, .inl (k 4, 10, .inr (.inl g_243)))] ++ [(a1_69, .inl (k 4, 10, .inr (.inl g1_69)))]) ++ w_241) := by rw [eg_243]; exact hD
        have h := nm_l h eg_243
        refine lv_aload hx hb dL_follows_87 (lv_at hl 9 rfl) ?_
        refine lv_iload hx hb dL_follows_89 (lv_at hl 10 rfl) ?_
        refine lv_aload_n hx hb dL_follows_91 rfl (lv_at hl 0 rfl) ?_
        refine lv_iload hx hb dL_follows_92 (lv_at hl 4 rfl) ?_
        refine lv_iload hx hb dL_follows_94 (lv_at hl 10 rfl) ?_
        obtain ⟨v_245, hv_244, h⟩ := bd_l h
        refine Lo_T (As := [.ref (cA 0), .int x5_69, .int x12_69]) (rest := [.int x12_69, .ref a1_69]) (wA := w_241) (wr := ([(a0_69, .inl (k 4, 10, .inr (.inl g_243)))] ++ [(a1_69, .inl (k 4, 10, .inr (.inl g1_69)))])) 2 12 ((273 - 3 * (fu_69 + 1)) + 3) ((1655 - 18 * (fu_69 + 1)) + 18) 1554 9530 (co_growth l hst D k cA nA tA X_69 w_241 hw_241 x5_69 x12_69 v_245 hv_244) ⟨hx, hb, hml, hown, hts⟩ (vx_cwSW 3 hts gL_follows_L_growth rfl rfl rfl (by decide +kernel) ⟨Nat.le_of_ble_eq_true rfl, Nat.le_of_ble_eq_true rfl⟩) hK hG hC hP hD hS hA (List.perm_append_comm) rfl hl.1 rfl (Nat.le_of_ble_eq_true rfl) dL_follows_96 ⟨rfl, rfl⟩ ⟨rfl, rfl⟩ (by omega) (by omega) (fun ov w_246 H locs hQ hP hD hS => ?_)
        obtain ⟨rfl, hw_246⟩ := hQ
        refine W.eq (g2 := F0 m 99 ls [.long v_245, .int x12_69, .ref a1_69]) rfl ?_
        have hP : va_P D vwCl (([(a0_69, .inl (k 4, 10, .inr (.inl g_243)))] ++ [(a1_69, .inl (k 4, 10, .inr (.inl g1_69)))]) ++ w_246) H := P_perm List.perm_append_comm hP
        have hD : va_D A (([(a0_69, .inl (k 4, 10, .inr (.inl g_243)))] ++ [(a1_69, .inl (k 4, 10, .inr (.inl g1_69)))]) ++ w_246) := D_perm List.perm_append_comm hD
        have g_247 := inb_vp (gb_l h)
        have h := gb_r h
        refine va_last hx hb hK hP hD hS 1 4 rfl rfl g_247 dL_follows_99 (fun H locs hP hD hS => ?_)
        obtain ⟨g_248, eg_248⟩ : ∃ y : Nat → Int64, y = vp_updL g1_69 x12_69.toNatClampNeg v_245 := ⟨_, rfl⟩
        have hP : va_P D vwCl (([(a0_69, .inl (k 4, 10, .inr (.inl g_243)))] ++ [(a1_69, .inl (k 4, 10, .inr (.inl g_248)))]) ++ w_246) H := by rw [eg_248]; exact hP
        have hD : va_D A (([(a0_69, .inl (k 4, 10, .inr (.inl g_243)))] ++ [(a1_69, .inl (k 4, 10, .inr (.inl g_248)))]) ++ w_246) := by rw [eg_248]; exact hD
        have h := nm_l h eg_248
        refine lv_iinc (v := (x12_69 + 1)) (lv' := [(12, .int (x12_69 + 1)), (0, .ref (cA 0)), (1, .int p1), (2, .long x2_69), (4, .int x4_69), (5, .int x5_69), (6, .int x6_69), (7, .long x7_69), (9, .int x9_69), (10, .ref a0_69), (11, .ref a1_69)]) hx hb dL_follows_100 hl (k := 10) rfl rfl (by decide) rfl (fun ls hl => ?_)
        refine lv_goto (tgt := 69) hx hb dL_follows_103 (by decide) ?_
        have hP : va_P D vwCl (w_246 ++ ([(a0_69, .inl (k 4, 10, .inr (.inl g_243)))] ++ [(a1_69, .inl (k 4, 10, .inr (.inl g_248)))])) H := P_perm List.perm_append_comm hP
        have hD : va_D A (w_246 ++ ([(a0_69, .inl (k 4, 10, .inr (.inl g_243)))] ++ [(a1_69, .inl (k 4, 10, .inr (.inl g_248)))])) := D_perm List.perm_append_comm hD
        refine W.widen (k := (273 - 3 * fu_69)) (n := (1655 - 18 * fu_69)) (by omega) (by omega) ?_
        exact ih_69 x2_69 x4_69 x5_69 x6_69 x7_69 x9_69 (x12_69 + 1) X_69 g_243 g_248 w_246 a0_69 a1_69 _ _ _ (by omega) hw_246 hP hD hS (lv_sub hl [1, 2, 3, 4, 5, 6, 7, 8, 9, 10, 0] rfl) h
  refine lv_aload_n hx hb dL_follows_0 rfl (lv_at hl 0 rfl) ?_
  obtain ⟨v_250, hv_249, h⟩ := bd_l h
  refine Lo_S (As := [.ref (cA 0)]) (rest := []) (wA := w) (wr := []) 224 1344 (224) (1344) 1554 9530 (c_L_now l hst D k cA nA tA X w hw v_250 hv_249) ⟨hx, hb, hml, hown, hts⟩ (va_cwS 1 hts gL_follows_L_now rfl rfl rfl (by decide +kernel) ⟨Nat.le_of_ble_eq_true rfl, Nat.le_of_ble_eq_true rfl⟩) hK hG hC hP hD hS hA (List.Perm.refl _) rfl hl.1 rfl (Nat.le_of_ble_eq_true rfl) dL_follows_1 ⟨rfl, rfl⟩ ⟨rfl, rfl⟩ (by omega) (by omega) (fun ov w_251 H locs hQ hP hD hS => ?_)
  obtain ⟨rfl, hw_251⟩ := hQ
  refine W.eq (g2 := F0 m 4 ls [.long v_250]) rfl ?_
  refine lv_lstore_n (lv' := [(2, .long v_250), (0, .ref (cA 0)), (1, .int p1)]) hx hb dL_follows_4 rfl hl (by decide) rfl (fun ls hl => ?_)
  refine lv_aload_n hx hb dL_follows_5 rfl (lv_at hl 1 rfl) ?_
  obtain ⟨v_253, hv_252, h⟩ := bd_l h
  refine Lo_S (As := [.ref (cA 0)]) (rest := []) (wA := w_251) (wr := []) 1 6 (225) (1350) 1554 9530 (c_L_effects l hst D k cA nA tA X w_251 hw_251 v_253 hv_252) ⟨hx, hb, hml, hown, hts⟩ (va_cwS 1 hts gL_follows_L_effects rfl rfl rfl (by decide +kernel) ⟨Nat.le_of_ble_eq_true rfl, Nat.le_of_ble_eq_true rfl⟩) hK hG hC hP hD hS hA (List.Perm.refl _) rfl hl.1 rfl (Nat.le_of_ble_eq_true rfl) dL_follows_6 ⟨rfl, rfl⟩ ⟨rfl, rfl⟩ (by omega) (by omega) (fun ov w_254 H locs hQ hP hD hS => ?_)
  obtain ⟨rfl, hw_254⟩ := hQ
  refine W.eq (g2 := F0 m 9 ls [.int v_253]) rfl ?_
  refine lv_istore (lv' := [(4, .int v_253), (2, .long v_250), (0, .ref (cA 0)), (1, .int p1)]) hx hb dL_follows_9 hl (by decide) rfl (fun ls hl => ?_)
  refine lv_iconst (v := 1) hx hb dL_follows_11 (by decide) ?_
  refine lv_iload_n hx hb dL_follows_12 rfl (lv_at hl 3 rfl) ?_
  refine lv_bipush (v := 50) hx hb dL_follows_13 (by decide) ?_
  refine lv_irem hx hb dL_follows_15 (by decide) ?_
  refine lv_iadd hx hb dL_follows_16 ?_
  refine lv_topi (fun v_255 ev_255 => ?_)
  have h := nm_l h ev_255
  refine lv_istore (lv' := [(5, .int v_255), (4, .int v_253), (2, .long v_250), (0, .ref (cA 0)), (1, .int p1)]) hx hb dL_follows_17 hl (by decide) rfl (fun ls hl => ?_)
  refine lv_iload_n hx hb dL_follows_19 rfl (lv_at hl 4 rfl) ?_
  refine lv_bipush (v := 50) hx hb dL_follows_20 (by decide) ?_
  refine lv_idiv hx hb dL_follows_22 (by decide) ?_
  refine lv_iload hx hb dL_follows_23 (lv_at hl 1 rfl) ?_
  have g_256 := nz_l (gb_l h)
  have h := gb_r h
  refine lv_irem hx hb dL_follows_25 g_256 ?_
  refine lv_topi (fun v_257 ev_257 => ?_)
  have h := nm_l h ev_257
  refine lv_istore (lv' := [(6, .int v_257), (5, .int v_255), (4, .int v_253), (2, .long v_250), (0, .ref (cA 0)), (1, .int p1)]) hx hb dL_follows_26 hl (by decide) rfl (fun ls hl => ?_)
  refine lv_aload_n hx hb dL_follows_28 rfl (lv_at hl 4 rfl) ?_
  refine lv_bipush (v := 6) hx hb dL_follows_29 (by decide) ?_
  obtain ⟨v_259, hv_258, h⟩ := bd_l h
  refine Lo_T (As := [.ref (cA 0), .int 6]) (rest := []) (wA := w_254) (wr := []) 1 6 (226) (1356) 1554 9530 (co_about l hst D k cA nA tA X w_254 hw_254 6 v_259 hv_258) ⟨hx, hb, hml, hown, hts⟩ (vx_cwSW 2 hts gL_follows_L_about rfl rfl rfl (by decide +kernel) ⟨Nat.le_of_ble_eq_true rfl, Nat.le_of_ble_eq_true rfl⟩) hK hG hC hP hD hS hA (List.Perm.refl _) rfl hl.1 rfl (Nat.le_of_ble_eq_true rfl) dL_follows_31 ⟨rfl, rfl⟩ ⟨rfl, rfl⟩ (by omega) (by omega) (fun ov w_260 H locs hQ hP hD hS => ?_)
  obtain ⟨rfl, hw_260⟩ := hQ
  refine W.eq (g2 := F0 m 34 ls [.long v_259]) rfl ?_
  refine lv_lstore (lv' := [(7, .long v_259), (6, .int v_257), (5, .int v_255), (4, .int v_253), (2, .long v_250), (0, .ref (cA 0)), (1, .int p1)]) hx hb dL_follows_34 hl (by decide) rfl (fun ls hl => ?_)
  refine lv_aload_n hx hb dL_follows_36 rfl (lv_at hl 5 rfl) ?_
  refine lv_iconst (v := 1) hx hb dL_follows_37 (by decide) ?_
  obtain ⟨⟨v_262, X_264⟩, hv_261, h⟩ := bd_l h
  refine Lo_T (As := [.ref (cA 0), .int 1]) (rest := []) (wA := w_260) (wr := []) 12 81 (238) (1437) 1554 9530 (co_save l hst D k cA nA tA X w_260 hw_260 1 (v_262, X_264) hv_261) ⟨hx, hb, hml, hown, hts⟩ (vx_cwSW 2 hts gL_follows_L_save rfl rfl rfl (by decide +kernel) ⟨Nat.le_of_ble_eq_true rfl, Nat.le_of_ble_eq_true rfl⟩) hK hG hC hP hD hS hA (List.Perm.refl _) rfl hl.1 rfl (Nat.le_of_ble_eq_true rfl) dL_follows_38 ⟨rfl, rfl⟩ ⟨rfl, rfl⟩ (by omega) (by omega) (fun ov w_263 H locs hQ hP hD hS => ?_)
  obtain ⟨rfl, hw_263⟩ := hQ
  refine W.eq (g2 := F0 m 41 ls [.long v_262]) rfl ?_
  refine lv_lload hx hb dL_follows_41 (lv_at hl 0 rfl) ?_
  refine W.lcmp hx hb dL_follows_43 ?_
  refine lv_if_ne (tgt := 51) hx hb dL_follows_44 (by decide) (fun c_265 => ?_) (fun c_265 => ?_)
  · have h := it_r c_265 h
    refine lv_iconst (v := 0) hx hb dL_follows_51 (by decide) ?_
    refine lv_istore (lv' := [(9, .int 0), (7, .long v_259), (6, .int v_257), (5, .int v_255), (4, .int v_253), (2, .long v_250), (0, .ref (cA 0)), (1, .int p1)]) hx hb dL_follows_52 hl (by decide) rfl (fun ls hl => ?_)
    refine lv_bipush (v := 10) hx hb dL_follows_54 (by decide) ?_
    refine va_newa (atype := .long) (ty := .long) (a0 := (10, .inr (.inl (fun _ => 0)))) (N' := 10) hx hb w_3 rfl hK hP hD hS hA (fun _ => rfl) (by decide) (by decide) (Nat.le_of_ble_eq_true rfl) (by show 238 + 1 ≤ 1554; omega) (by show 1437 + 10 ≤ 9530; omega) dL_follows_56 (fun ar0 c4 H hK1 hP hD hS => ?_)
    have ec4 : c4 = k 4 := kcls_4 hK hK1
    subst ec4; clear hK1
    refine W.widen (k := 239) (n := 1447) (by omega) (by omega) ?_
    have hP : va_P D vwCl (w_263 ++ [(ar0, .inl (k 4, 10, .inr (.inl (fun _ => 0))))]) H := by rw [List.append_assoc] at hP; exact hP
    have hD : va_D A (w_263 ++ [(ar0, .inl (k 4, 10, .inr (.inl (fun _ => 0))))]) := by rw [List.append_assoc] at hD; exact hD
    refine W.eq (g2 := F0 m 58 ls [.ref ar0]) rfl ?_
    refine lv_astore (lv' := [(10, .ref ar0), (9, .int 0), (7, .long v_259), (6, .int v_257), (5, .int v_255), (4, .int v_253), (2, .long v_250), (0, .ref (cA 0)), (1, .int p1)]) hx hb dL_follows_58 hl (by decide) rfl (fun ls hl => ?_)
    refine lv_bipush (v := 10) hx hb dL_follows_60 (by decide) ?_
    refine va_newa (atype := .long) (ty := .long) (a0 := (10, .inr (.inl (fun _ => 0)))) (N' := 10) hx hb w_3 rfl hK hP hD hS hA (fun _ => rfl) (by decide) (by decide) (Nat.le_of_ble_eq_true rfl) (by show 239 + 1 ≤ 1554; omega) (by show 1447 + 10 ≤ 9530; omega) dL_follows_62 (fun ar1 c4 H hK1 hP hD hS => ?_)
    have ec4 : c4 = k 4 := kcls_4 hK hK1
    subst ec4; clear hK1
    refine W.widen (k := 240) (n := 1457) (by omega) (by omega) ?_
    have hP : va_P D vwCl (w_263 ++ ([(ar0, .inl (k 4, 10, .inr (.inl (fun _ => 0))))] ++ [(ar1, .inl (k 4, 10, .inr (.inl (fun _ => 0))))])) H := by rw [List.append_assoc] at hP; exact hP
    have hD : va_D A (w_263 ++ ([(ar0, .inl (k 4, 10, .inr (.inl (fun _ => 0))))] ++ [(ar1, .inl (k 4, 10, .inr (.inl (fun _ => 0))))])) := by rw [List.append_assoc] at hD; exact hD
    refine W.eq (g2 := F0 m 64 ls [.ref ar1]) rfl ?_
    refine lv_astore (lv' := [(11, .ref ar1), (10, .ref ar0), (9, .int 0), (7, .long v_259), (6, .int v_257), (5, .int v_255), (4, .int v_253), (2, .long v_250), (0, .ref (cA 0)), (1, .int p1)]) hx hb dL_follows_64 hl (by decide) rfl (fun ls hl => ?_)
    refine lv_iconst (v := 0) hx hb dL_follows_66 (by decide) ?_
    refine lv_istore (lv' := [(12, .int 0), (11, .ref ar1), (10, .ref ar0), (9, .int 0), (7, .long v_259), (6, .int v_257), (5, .int v_255), (4, .int v_253), (2, .long v_250), (0, .ref (cA 0)), (1, .int p1)]) hx hb dL_follows_67 hl (by decide) rfl (fun ls hl => ?_)
    refine W.widen (k := (273 - 3 * 11)) (n := (1655 - 18 * 11)) (by omega) (by omega) ?_
    exact hC_69 11 v_250 v_253 v_255 v_257 v_259 0 0 X_264 (fun _ => 0) (fun _ => 0) w_263 ar0 ar1 _ _ _ (Nat.le_refl _) hw_263 hP hD hS (lv_sub hl [9, 10, 8, 7, 6, 5, 4, 3, 2, 1, 0] rfl) h
  · have h := it_l c_265 h
    refine lv_iconst (v := 1) hx hb dL_follows_47 (by decide) ?_
    refine lv_goto (tgt := 52) hx hb dL_follows_48 (by decide) ?_
    refine lv_istore (lv' := [(9, .int 1), (7, .long v_259), (6, .int v_257), (5, .int v_255), (4, .int v_253), (2, .long v_250), (0, .ref (cA 0)), (1, .int p1)]) hx hb dL_follows_52 hl (by decide) rfl (fun ls hl => ?_)
    refine lv_bipush (v := 10) hx hb dL_follows_54 (by decide) ?_
    refine va_newa (atype := .long) (ty := .long) (a0 := (10, .inr (.inl (fun _ => 0)))) (N' := 10) hx hb w_3 rfl hK hP hD hS hA (fun _ => rfl) (by decide) (by decide) (Nat.le_of_ble_eq_true rfl) (by show 238 + 1 ≤ 1554; omega) (by show 1437 + 10 ≤ 9530; omega) dL_follows_56 (fun ar0 c4 H hK1 hP hD hS => ?_)
    have ec4 : c4 = k 4 := kcls_4 hK hK1
    subst ec4; clear hK1
    refine W.widen (k := 239) (n := 1447) (by omega) (by omega) ?_
    have hP : va_P D vwCl (w_263 ++ [(ar0, .inl (k 4, 10, .inr (.inl (fun _ => 0))))]) H := by rw [List.append_assoc] at hP; exact hP
    have hD : va_D A (w_263 ++ [(ar0, .inl (k 4, 10, .inr (.inl (fun _ => 0))))]) := by rw [List.append_assoc] at hD; exact hD
    refine W.eq (g2 := F0 m 58 ls [.ref ar0]) rfl ?_
    refine lv_astore (lv' := [(10, .ref ar0), (9, .int 1), (7, .long v_259), (6, .int v_257), (5, .int v_255), (4, .int v_253), (2, .long v_250), (0, .ref (cA 0)), (1, .int p1)]) hx hb dL_follows_58 hl (by decide) rfl (fun ls hl => ?_)
    refine lv_bipush (v := 10) hx hb dL_follows_60 (by decide) ?_
    refine va_newa (atype := .long) (ty := .long) (a0 := (10, .inr (.inl (fun _ => 0)))) (N' := 10) hx hb w_3 rfl hK hP hD hS hA (fun _ => rfl) (by decide) (by decide) (Nat.le_of_ble_eq_true rfl) (by show 239 + 1 ≤ 1554; omega) (by show 1447 + 10 ≤ 9530; omega) dL_follows_62 (fun ar1 c4 H hK1 hP hD hS => ?_)
    have ec4 : c4 = k 4 := kcls_4 hK hK1
    subst ec4; clear hK1
    refine W.widen (k := 240) (n := 1457) (by omega) (by omega) ?_
    have hP : va_P D vwCl (w_263 ++ ([(ar0, .inl (k 4, 10, .inr (.inl (fun _ => 0))))] ++ [(ar1, .inl (k 4, 10, .inr (.inl (fun _ => 0))))])) H := by rw [List.append_assoc] at hP; exact hP
    have hD : va_D A (w_263 ++ ([(ar0, .inl (k 4, 10, .inr (.inl (fun _ => 0))))] ++ [(ar1, .inl (k 4, 10, .inr (.inl (fun _ => 0))))])) := by rw [List.append_assoc] at hD; exact hD
    refine W.eq (g2 := F0 m 64 ls [.ref ar1]) rfl ?_
    refine lv_astore (lv' := [(11, .ref ar1), (10, .ref ar0), (9, .int 1), (7, .long v_259), (6, .int v_257), (5, .int v_255), (4, .int v_253), (2, .long v_250), (0, .ref (cA 0)), (1, .int p1)]) hx hb dL_follows_64 hl (by decide) rfl (fun ls hl => ?_)
    refine lv_iconst (v := 0) hx hb dL_follows_66 (by decide) ?_
    refine lv_istore (lv' := [(12, .int 0), (11, .ref ar1), (10, .ref ar0), (9, .int 1), (7, .long v_259), (6, .int v_257), (5, .int v_255), (4, .int v_253), (2, .long v_250), (0, .ref (cA 0)), (1, .int p1)]) hx hb dL_follows_67 hl (by decide) rfl (fun ls hl => ?_)
    refine W.widen (k := (273 - 3 * 11)) (n := (1655 - 18 * 11)) (by omega) (by omega) ?_
    exact hC_69 11 v_250 v_253 v_255 v_257 v_259 1 0 X_264 (fun _ => 0) (fun _ => 0) w_263 ar0 ar1 _ _ _ (Nat.le_refl _) hw_263 hP hD hS (lv_sub hl [9, 10, 8, 7, 6, 5, 4, 3, 2, 1, 0] rfl) h
