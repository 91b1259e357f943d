/-! save and restore leave the core -/
theorem L_save {X : XV} (h : okX 600 X) : o_save X 1 = some (lN (x_R X 53), (x_n X, x_R X, (x_L X, x_C X), x_d X, fun s => if s = 1 then some (x_R X) else x_K X s)) := by
  have h53 := h.1.2.1
  have hu : u_save X 1 = .inr (nI (x_R X 53), (x_n X, x_R X, (x_L X, x_C X), x_d X, fun s => if s = 1 then some (x_R X) else x_K X s)) := by
    unfold u_save
    rw [if_neg (by decide)]
    rfl
  rw [z_save h, hu, wm_r, nI_l (lt31 (by omega))]
theorem L_rest {X : XV} (h : okX 600 X) (hY : okX 600 (x_n X, x_R X, (x_L X, x_C X), x_d X, fun s => if s = 1 then some (x_R X) else x_K X s)) : o_restore (x_n X, x_R X, (x_L X, x_C X), x_d X, fun s => if s = 1 then some (x_R X) else x_K X s) 1 = some (lN (x_R X 53), (x_n X, x_R X, (x_L X, x_C X), [], fun s => if s = 1 then some (x_R X) else x_K X s)) := by
  have h53 := h.1.2.1
  have hu : u_restore (x_n X, x_R X, (x_L X, x_C X), x_d X, fun s => if s = 1 then some (x_R X) else x_K X s) 1 = .inr (nI (x_R X 53), (x_n X, x_R X, (x_L X, x_C X), [], fun s => if s = 1 then some (x_R X) else x_K X s)) := by
    unfold u_restore
    rw [if_neg (by decide)]
    rfl
  rw [z_restore hY, hu, wm_r, nI_l (lt31 (by omega))]
section LP
variable {p : Program} {l : Launch} {e : Env} {s : State} {m : MethodId} {below : List Frame} {meth : Method} {c : Code} {Z : State → Prop} {b L : Nat} {xs : Nat → Int32} {D : va_G} {k : Nat → ClassId} {cA nA tA cB nB tB : Nat → Nat}

theorem k_252 (C0 : LC p s m meth c l b L xs D k) {i ax ay c9 s9 : Nat} (hi : i < 26) (ha : ax < 2147483648) (hy : ay < 2147483648) (h9 : c9 + 3493 * 26 + 662 ≤ 656351) (h8 : s9 + 21596 * 26 + 4080 ≤ 7132416) {X : XV} (kk : KN p l e s m below meth c b D k cA nA tA cB nB tB Z X X (c9 + 3493 * i + 3493) (s9 + 21596 * i + 21596) 258 (lv7 b cA cB i (nI ax) (nI ay)) []) : KN p l e s m below meth c b D k cA nA tA cB nB tB Z X X (c9 + 3493 * i + 3493) (s9 + 21596 * i + 21596) 252 (lv7 b cA cB i (nI ax) (nI ay)) [] := by
  obtain ⟨⟨hx, hb, hr, hml, hown, hts, hX9, hbl, hlocks, hgv⟩, hst, hK, hG, hC, hL⟩ := id C0
  intro H locs ls hLS hS hl
  refine lv_iconst (v := 1) hx hb dL_law_252 (by decide) ?_
  refine lv_goto (tgt := 257) hx hb dL_law_253 (by decide) ?_
  refine lv_istore_n (lv' := [(3, .int 1), (0, .ref b), (1, .ref (cA 0)), (2, .ref (cB 0)), (4, .int (nI i)), (5, .int (nI ax)), (6, .int (nI ay))]) hx hb dL_law_257 rfl hl (by decide) rfl (fun ls hl => ?_)
  have hl := lv_sub hl [1, 2, 3, 0, 4, 5, 6] rfl
  exact kk H locs ls hLS hS hl
theorem k_230 (C0 : LC p s m meth c l b L xs D k) {i ax ay c9 s9 : Nat} (hi : i < 26) (ha : ax < 2147483648) (hy : ay < 2147483648) (h9 : c9 + 3493 * 26 + 662 ≤ 656351) (h8 : s9 + 21596 * 26 + 4080 ≤ 7132416) {X : XV} (hX : okX (i + 1) X) (kk : KN p l e s m below meth c b D k cA nA tA cB nB tB Z X X (c9 + 3493 * i + 3493) (s9 + 21596 * i + 21596) 258 (lv7 b cA cB i (nI ax) (nI ay)) []) : KN p l e s m below meth c b D k cA nA tA cB nB tB Z X X (c9 + 3493 * i + 2831) (s9 + 21596 * i + 17516) 230 (lv7 b cA cB i (nI ax) (nI ay)) [] := by
  obtain ⟨⟨hx, hb, hr, hml, hown, hts, hX9, hbl, hlocks, hgv⟩, hst, hK, hG, hC, hL⟩ := id C0
  intro H locs ls hLS hS hl
  have k2 := k_252 C0 hi ha hy h9 h8 kk
  refine lv_iload_n hx hb dL_law_230 rfl (lv_at hl 3 rfl) ?_
  refine lv_if_eq (tgt := 256) hx hb dL_law_231 (by decide) (fun q => absurd q (by decide)) (fun _ => ?_)
  refine lv_iload hx hb dL_law_234 (lv_at hl 4 rfl) ?_
  refine lv_bipush (v := 6) hx hb dL_law_236 (by decide) ?_
  refine lv_irem hx hb dL_law_238 (by decide) ?_
  refine lv_if_gt (tgt := 252) hx hb dL_law_239 (by decide) (fun _ => ?_) (fun _ => ?_)
  · refine W.widen (k := (c9 + 3493 * i + 3493)) (n := (s9 + 21596 * i + 21596)) (by omega) (by omega) ?_
    exact k2 H locs ls hLS hS hl
  · refine lv_aload_n hx hb dL_law_242 rfl (lv_at hl 1 rfl) ?_
    refine lv_aload_n hx hb dL_law_243 rfl (lv_at hl 2 rfl) ?_
    refine lv_iload hx hb dL_law_244 (lv_at hl 6 rfl) ?_
    refine lo_alike C0 hLS hS hl.1 (Nat.le_of_ble_eq_true rfl) dL_law_246 (L_alike (hX.up (by omega)) _) (by omega) (by omega) (fun H locs hLS hS => ?_)
    refine W.eq (g2 := F0 m 249 ls [.int 1]) rfl ?_
    refine lv_if_eq (tgt := 256) hx hb dL_law_249 (by decide) (fun q => absurd q (by decide)) (fun _ => ?_)
    refine W.widen (k := (c9 + 3493 * i + 3493)) (n := (s9 + 21596 * i + 21596)) (by omega) (by omega) ?_
    exact k2 H locs ls hLS hS hl
theorem k_181 (C0 : LC p s m meth c l b L xs D k) {i ax ay c9 s9 : Nat} (hi : i < 26) (ha : ax < 2147483648) (hy : ay < 2147483648) (h9 : c9 + 3493 * 26 + 662 ≤ 656351) (h8 : s9 + 21596 * 26 + 4080 ≤ 7132416) {X : XV} (hX : okX (i + 1) X) (kk : ∀ X : XV, okX (i + 1) X → KN p l e s m below meth c b D k cA nA tA cB nB tB Z X X (c9 + 3493 * i + 3493) (s9 + 21596 * i + 21596) 258 (lv7 b cA cB i (nI ax) (nI ay)) []) : KN p l e s m below meth c b D k cA nA tA cB nB tB Z X X (c9 + 3493 * i + 1253) (s9 + 21596 * i + 7824) 181 (lv7 b cA cB i (nI ax) (nI ay)) [] := by
  obtain ⟨⟨hx, hb, hr, hml, hown, hts, hX9, hbl, hlocks, hgv⟩, hst, hK, hG, hC, hL⟩ := id C0
  intro H locs ls hLS hS hl
  have h6 := hX.up (show i + 1 ≤ 600 by omega)
  refine lv_iload hx hb dL_law_181 (lv_at hl 4 rfl) ?_
  refine lv_bipush (v := 13) hx hb dL_law_183 (by decide) ?_
  refine lv_irem hx hb dL_law_185 (by decide) ?_
  refine lv_bipush (v := 12) hx hb dL_law_186 (by decide) ?_
  refine lv_icmp_ne (tgt := 230) hx hb dL_law_188 (by decide) (fun _ => ?_) (fun _ => ?_)
  · refine W.widen (k := (c9 + 3493 * i + 2831)) (n := (s9 + 21596 * i + 17516)) (by omega) (by omega) ?_
    exact k_230 C0 hi ha hy h9 h8 hX (kk X hX) H locs ls hLS hS hl
  · obtain ⟨hv, hok⟩ := L_follows (c := i + 1) (by omega) hX hy
    have sv := L_save h6
    have okY : okX (i + 1) (x_n X, x_R X, (x_L X, x_C X), x_d X, fun s => if s = 1 then some (x_R X) else x_K X s) := by
      obtain ⟨q1, q2, q3, q4, q5, q6⟩ := hX
      refine ⟨q1, q2, q3, q4, q5, fun s r hr => ?_⟩
      have hr : (if s = 1 then some (x_R X) else x_K X s) = some r := hr
      split at hr
      · cases hr; exact q1
      · exact q6 s r hr
    have rs := L_rest h6 (okY.up (by omega))
    have h53 := h6.1.2.1
    refine lv_iload_n hx hb dL_law_191 rfl (lv_at hl 3 rfl) ?_
    refine lv_if_eq (tgt := 228) hx hb dL_law_192 (by decide) (fun q => absurd q (by decide)) (fun _ => ?_)
    refine lv_aload_n hx hb dL_law_195 rfl (lv_at hl 2 rfl) ?_
    refine lv_iload hx hb dL_law_196 (lv_at hl 6 rfl) ?_
    refine lo_follows_q C0 hLS hS hl.1 (Nat.le_of_ble_eq_true rfl) dL_law_198 hv (by omega) (by omega) (fun H locs hLS hS => ?_)
    refine W.eq (g2 := F0 m 201 ls [.int 1]) rfl ?_
    refine lv_if_eq (tgt := 228) hx hb dL_law_201 (by decide) (fun q => absurd q (by decide)) (fun _ => ?_)
    refine lv_aload_n hx hb dL_law_204 rfl (lv_at hl 1 rfl) ?_
    refine lv_iconst (v := 1) hx hb dL_law_205 (by decide) ?_
    refine lo_save_p C0 hLS hS hl.1 (Nat.le_of_ble_eq_true rfl) dL_law_206 sv (by omega) (by omega) (fun H locs hLS hS => ?_)
    refine W.eq (g2 := F0 m 209 ls [.long (lN (x_R X 53))]) rfl ?_
    refine lv_lconst (v := 0) hx hb dL_law_209 (by decide) ?_
    refine W.lcmp hx hb dL_law_210 ?_
    refine lv_if_lt (tgt := 228) hx hb dL_law_211 (by decide) (fun q => absurd q (p0 (by omega))) (fun _ => ?_)
    refine lv_aload_n hx hb dL_law_214 rfl (lv_at hl 1 rfl) ?_
    refine lv_iconst (v := 1) hx hb dL_law_215 (by decide) ?_
    refine lo_restore_p C0 hLS hS hl.1 (Nat.le_of_ble_eq_true rfl) dL_law_216 rs (by omega) (by omega) (fun H locs hLS hS => ?_)
    refine W.eq (g2 := F0 m 219 ls [.long (lN (x_R X 53))]) rfl ?_
    refine lv_lconst (v := 0) hx hb dL_law_219 (by decide) ?_
    refine W.lcmp hx hb dL_law_220 ?_
    refine lv_if_lt (tgt := 228) hx hb dL_law_221 (by decide) (fun q => absurd q (p0 (by omega))) (fun _ => ?_)
    refine lv_iconst (v := 1) hx hb dL_law_224 (by decide) ?_
    refine lv_goto (tgt := 229) hx hb dL_law_225 (by decide) ?_
    refine lv_istore_n (lv' := [(3, .int 1), (0, .ref b), (1, .ref (cA 0)), (2, .ref (cB 0)), (4, .int (nI i)), (5, .int (nI ax)), (6, .int (nI ay))]) hx hb dL_law_229 rfl hl (by decide) rfl (fun ls hl => ?_)
    have hl := lv_sub hl [1, 2, 3, 0, 4, 5, 6] rfl
    refine W.widen (k := (c9 + 3493 * i + 2831)) (n := (s9 + 21596 * i + 17516)) (by omega) (by omega) ?_
    exact k_230 C0 hi ha hy h9 h8 hok (kk _ hok) H locs ls hLS hS hl
theorem k_124 (C0 : LC p s m meth c l b L xs D k) {i ax ay c9 s9 : Nat} (hi : i < 26) (ha : ax < 2147483648) (hy : ay < 2147483648) (h9 : c9 + 3493 * 26 + 662 ≤ 656351) (h8 : s9 + 21596 * 26 + 4080 ≤ 7132416) {X : XV} (hX : okX i X) (kk : ∀ X : XV, okX (i + 1) X → KN p l e s m below meth c b D k cA nA tA cB nB tB Z X X (c9 + 3493 * i + 3493) (s9 + 21596 * i + 21596) 258 (lv7 b cA cB i (nI ax) (nI ay)) []) : KN p l e s m below meth c b D k cA nA tA cB nB tB Z X X (c9 + 3493 * i + 0) (s9 + 21596 * i + 0) 124 (lv7 b cA cB i (nI ax) (nI ay)) [] := by
  obtain ⟨⟨hx, hb, hr, hml, hown, hts, hX9, hbl, hlocks, hgv⟩, hst, hK, hG, hC, hL⟩ := id C0
  intro H locs ls hLS hS hl
  obtain ⟨v, Y, hv, hY⟩ := L_act hX (show i < 600 by omega) (nI ax) (nI ay)
  have k1 := k_181 C0 hi ha hy h9 h8 hY kk
  refine lv_aload_n hx hb dL_law_124 rfl (lv_at hl 1 rfl) ?_
  refine lv_iload hx hb dL_law_125 (lv_at hl 5 rfl) ?_
  refine lv_iload hx hb dL_law_127 (lv_at hl 6 rfl) ?_
  refine lo_act_p C0 hLS hS hl.1 (Nat.le_of_ble_eq_true rfl) dL_law_129 hv (by omega) (by omega) (fun H locs hLS hS => ?_)
  refine W.eq (g2 := F0 m 132 ls [.long v]) rfl ?_
  refine lv_aload_n hx hb dL_law_132 rfl (lv_at hl 2 rfl) ?_
  refine lv_iload hx hb dL_law_133 (lv_at hl 5 rfl) ?_
  refine lv_iload hx hb dL_law_135 (lv_at hl 6 rfl) ?_
  refine lo_act_q C0 hLS hS hl.1 (Nat.le_of_ble_eq_true rfl) dL_law_137 hv (by omega) (by omega) (fun H locs hLS hS => ?_)
  refine W.eq (g2 := F0 m 140 ls [.long v, .long v]) rfl ?_
  refine W.lcmp hx hb dL_law_140 ?_
  refine lv_if_ne (tgt := 148) hx hb dL_law_141 (by decide) (fun q => absurd lgz q) (fun _ => ?_)
  refine lv_iconst (v := 1) hx hb dL_law_144 (by decide) ?_
  refine lv_goto (tgt := 149) hx hb dL_law_145 (by decide) ?_
  refine lv_istore_n (lv' := [(3, .int 1), (0, .ref b), (1, .ref (cA 0)), (2, .ref (cB 0)), (4, .int (nI i)), (5, .int (nI ax)), (6, .int (nI ay))]) hx hb dL_law_149 rfl hl (by decide) rfl (fun ls hl => ?_)
  have hl := lv_sub hl [1, 2, 3, 0, 4, 5, 6] rfl
  refine lv_iload hx hb dL_law_150 (lv_at hl 4 rfl) ?_
  refine lv_iconst (v := 4) hx hb dL_law_152 (by decide) ?_
  refine lv_irem hx hb dL_law_153 (by decide) ?_
  refine lv_if_ne (tgt := 181) hx hb dL_law_154 (by decide) (fun _ => ?_) (fun _ => ?_)
  · refine W.widen (k := (c9 + 3493 * i + 1253)) (n := (s9 + 21596 * i + 7824)) (by omega) (by omega) ?_
    exact k1 H locs ls hLS hS hl
  · refine lv_iload_n hx hb dL_law_157 rfl (lv_at hl 3 rfl) ?_
    refine lv_if_eq (tgt := 179) hx hb dL_law_158 (by decide) (fun q => absurd q (by decide)) (fun _ => ?_)
    refine lv_aload_n hx hb dL_law_161 rfl (lv_at hl 2 rfl) ?_
    refine lo_errors_q C0 hLS hS hl.1 (Nat.le_of_ble_eq_true rfl) dL_law_162 (L_errors (hY.up (by omega))) (by omega) (by omega) (fun H locs hLS hS => ?_)
    refine W.eq (g2 := F0 m 165 ls [.int 1]) rfl ?_
    refine lv_if_eq (tgt := 179) hx hb dL_law_165 (by decide) (fun q => absurd q (by decide)) (fun _ => ?_)
    refine lv_aload_n hx hb dL_law_168 rfl (lv_at hl 2 rfl) ?_
    refine lo_built_q (X' := Y) C0 hLS hS hl.1 (Nat.le_of_ble_eq_true rfl) dL_law_169 (L_built (hY.up (by omega))) (by omega) (by omega) (fun H locs hLS hS => ?_)
    refine W.eq (g2 := F0 m 172 ls [.int 1]) rfl ?_
    refine lv_if_eq (tgt := 179) hx hb dL_law_172 (by decide) (fun q => absurd q (by decide)) (fun _ => ?_)
    refine lv_iconst (v := 1) hx hb dL_law_175 (by decide) ?_
    refine lv_goto (tgt := 180) hx hb dL_law_176 (by decide) ?_
    refine lv_istore_n (lv' := [(3, .int 1), (0, .ref b), (1, .ref (cA 0)), (2, .ref (cB 0)), (4, .int (nI i)), (5, .int (nI ax)), (6, .int (nI ay))]) hx hb dL_law_180 rfl hl (by decide) rfl (fun ls hl => ?_)
    have hl := lv_sub hl [1, 2, 3, 0, 4, 5, 6] rfl
    refine W.widen (k := (c9 + 3493 * i + 1253)) (n := (s9 + 21596 * i + 7824)) (by omega) (by omega) ?_
    exact k1 H locs ls hLS hS hl
theorem k_93 (C0 : LC p s m meth c l b L xs D k) {i ax ay c9 s9 : Nat} (hi : i < 26) (ha : ax < 2147483648) (hy : ay < 2147483648) (h9 : c9 + 3493 * 26 + 662 ≤ 656351) (h8 : s9 + 21596 * 26 + 4080 ≤ 7132416) {X : XV} (hX : okX i X) (kk : ∀ X : XV, okX (i + 1) X → KN p l e s m below meth c b D k cA nA tA cB nB tB Z X X (c9 + 3493 * i + 3493) (s9 + 21596 * i + 21596) 258 (lv7 b cA cB i (nI ax) (nI ay)) []) : KN p l e s m below meth c b D k cA nA tA cB nB tB Z X X (c9 + 3493 * i + 0) (s9 + 21596 * i + 0) 93 (lv7 b cA cB i (nI ax) (nI ay)) [] := by
  obtain ⟨⟨hx, hb, hr, hml, hown, hts, hX9, hbl, hlocks, hgv⟩, hst, hK, hG, hC, hL⟩ := id C0
  intro H locs ls hLS hS hl
  obtain ⟨Y, hv, hY⟩ := L_tells (show i ≤ 600 by omega) hX ha hy
  refine lv_aload_n hx hb dL_law_93 rfl (lv_at hl 1 rfl) ?_
  refine lv_iload hx hb dL_law_94 (lv_at hl 5 rfl) ?_
  refine lv_iload hx hb dL_law_96 (lv_at hl 6 rfl) ?_
  refine lo_tells_p C0 hLS hS hl.1 (Nat.le_of_ble_eq_true rfl) dL_law_98 hv (by omega) (by omega) (fun H locs hLS hS => ?_)
  refine W.eq (g2 := F0 m 101 ls [.int 1]) rfl ?_
  refine lv_if_eq (tgt := 119) hx hb dL_law_101 (by decide) (fun q => absurd q (by decide)) (fun _ => ?_)
  refine lv_aload_n hx hb dL_law_104 rfl (lv_at hl 2 rfl) ?_
  refine lv_iload hx hb dL_law_105 (lv_at hl 5 rfl) ?_
  refine lv_iload hx hb dL_law_107 (lv_at hl 6 rfl) ?_
  refine lo_tells_q C0 hLS hS hl.1 (Nat.le_of_ble_eq_true rfl) dL_law_109 hv (by omega) (by omega) (fun H locs hLS hS => ?_)
  refine W.eq (g2 := F0 m 112 ls [.int 1]) rfl ?_
  refine lv_if_eq (tgt := 119) hx hb dL_law_112 (by decide) (fun q => absurd q (by decide)) (fun _ => ?_)
  refine lv_iconst (v := 1) hx hb dL_law_115 (by decide) ?_
  refine lv_goto (tgt := 120) hx hb dL_law_116 (by decide) ?_
  refine lv_istore_n (lv' := [(3, .int 1), (0, .ref b), (1, .ref (cA 0)), (2, .ref (cB 0)), (4, .int (nI i)), (5, .int (nI ax)), (6, .int (nI ay))]) hx hb dL_law_120 rfl hl (by decide) rfl (fun ls hl => ?_)
  have hl := lv_sub hl [1, 2, 3, 0, 4, 5, 6] rfl
  refine lv_goto (tgt := 258) hx hb dL_law_121 (by decide) ?_
  refine W.widen (k := (c9 + 3493 * i + 3493)) (n := (s9 + 21596 * i + 21596)) (by omega) (by omega) ?_
  exact kk Y (hY.up (by omega)) H locs ls hLS hS hl
theorem law_loop (C0 : LC p s m meth c l b L xs D k) {c9 s9 : Nat} (h9 : c9 + 3493 * 26 + 662 ≤ 656351) (h8 : s9 + 21596 * 26 + 4080 ≤ 7132416)
    (end1 : ∀ (H : Heap) (locs : List Loc) (ls : Array Slot), va_S (fun q : Nat => s.heap.size ≤ q) s.heap H locs → W p l e room_1 s m #[.ref b] below meth c H locs 656351 7132416 Z (F0 m 283 ls [.int 1])) :
    ∀ (r i : Nat), i + r = 26 → ∀ (X : XV) (H : Heap) (locs : List Loc) (ls : Array Slot), okX i X → LTw D k s cA nA tA cB nB tB X X H → va_S (fun q : Nat => s.heap.size ≤ q) s.heap H locs → lv_has ls 7 [(0, .ref b), (1, .ref (cA 0)), (2, .ref (cB 0)), (3, .int 1), (4, .int (nI i))] → W p l e room_1 s m #[.ref b] below meth c H locs (c9 + 3493 * i) (s9 + 21596 * i) Z (F0 m 52 ls []) := by
  obtain ⟨⟨hx, hb, hr, hml, hown, hts, hX9, hbl, hlocks, hgv⟩, hst, hK, hG, hC, hL⟩ := id C0
  intro r
  induction r with
  | zero =>
    intro i hi X H locs ls hX hLS hS hl
    have hi : i = 26 := by omega
    subst hi
    refine lv_iload hx hb dL_law_52 (lv_at hl 4 rfl) ?_
    refine lv_bipush (v := 26) hx hb dL_law_54 (by decide) ?_
    refine lv_icmp_ge (tgt := 264) hx hb dL_law_56 (by decide) (fun _ => ?_) (fun c1 => absurd (Int32.le_refl 26) c1)
    refine lv_iload_n hx hb dL_law_264 rfl (lv_at hl 3 rfl) ?_
    refine lv_if_eq (tgt := 282) hx hb dL_law_265 (by decide) (fun q => absurd q (by decide)) (fun _ => ?_)
    refine lv_aload_n hx hb dL_law_268 rfl (lv_at hl 1 rfl) ?_
    refine lv_aload_n hx hb dL_law_269 rfl (lv_at hl 2 rfl) ?_
    refine lv_ldc (v := 48589) hx hb hown (hts (.constant RL 243 (48589)) (by decide +kernel)) dL_law_270 ?_
    refine lo_alike C0 hLS hS hl.1 (Nat.le_of_ble_eq_true rfl) dL_law_272 (L_alike (hX.up (by omega)) _) (by omega) (by omega) (fun H locs hLS hS => ?_)
    refine W.eq (g2 := F0 m 275 ls [.int 1]) rfl ?_
    refine lv_if_eq (tgt := 282) hx hb dL_law_275 (by decide) (fun q => absurd q (by decide)) (fun _ => ?_)
    refine lv_iconst (v := 1) hx hb dL_law_278 (by decide) ?_
    refine lv_goto (tgt := 283) hx hb dL_law_279 (by decide) ?_
    refine W.widen (k := 656351) (n := 7132416) (by omega) (by omega) ?_
    exact end1 H locs _ hS
  | succ r ih =>
    intro i hi X H locs ls hX hLS hS hl
    obtain ⟨ax, ha, ex⟩ := drV_n L xs (2 * i)
    obtain ⟨ay, hy, ey⟩ := drV_n L xs (2 * i + 1)
    have kk : ∀ X : XV, okX (i + 1) X → KN p l e s m below meth c b D k cA nA tA cB nB tB Z X X (c9 + 3493 * i + 3493) (s9 + 21596 * i + 21596) 258 (lv7 b cA cB i (nI ax) (nI ay)) [] := by
      intro X hX H locs ls hLS hS hl
      refine lv_iinc (v := nI (i + 1)) (lv' := [(4, .int (nI (i + 1))), (0, .ref b), (1, .ref (cA 0)), (2, .ref (cB 0)), (3, .int 1), (5, .int (nI ax)), (6, .int (nI ay))]) hx hb dL_law_258 hl (k := 4) rfl (by show nI i + nI 1 = nI (i + 1); exact nI_add _ _) (by decide) rfl (fun ls hl => ?_)
      refine lv_goto (tgt := 52) hx hb dL_law_261 (by decide) ?_
      refine W.widen (k := c9 + 3493 * (i + 1)) (n := s9 + 21596 * (i + 1)) (by omega) (by omega) ?_
      exact ih (i + 1) (by omega) X H locs ls hX hLS hS (lv_sub hl [1, 2, 3, 4, 0] rfl)
    have q2 : (2 : Int32) * nI i = nI (2 * i) := pk_mul 2 i
    have q13 : nI i - nI i / 13 * 13 = nI (i % 13) := nI_rm (d := 13) (by omega) (by omega) (by omega)
    refine lv_iload hx hb dL_law_52 (lv_at hl 4 rfl) ?_
    refine lv_bipush (v := 26) hx hb dL_law_54 (by decide) ?_
    refine lv_icmp_ge (tgt := 264) hx hb dL_law_56 (by decide) (fun c1 => ?_) (fun _ => ?_)
    · have c1 : nI 26 ≤ nI i := c1
      rw [nI_leF (by omega) (by omega)] at c1
      omega
    refine lv_iload_n hx hb dL_law_59 rfl (lv_at hl 3 rfl) ?_
    refine lv_if_eq (tgt := 264) hx hb dL_law_60 (by decide) (fun q => absurd q (by decide)) (fun _ => ?_)
    obtain ⟨w, u, hw, hu, hP, hD⟩ := hLS
    refine lv_aload_n hx hb dL_law_63 rfl (lv_at hl 0 rfl) ?_
    refine lv_iconst (v := 2) hx hb dL_law_64 (by decide) ?_
    refine lv_iload hx hb dL_law_65 (lv_at hl 4 rfl) ?_
    refine lv_imul hx hb dL_law_67 ?_
    rw [q2]
    refine lo_draw C0 (by omega) hP hD hS hl.1 (Nat.le_of_ble_eq_true rfl) dL_law_68 (by omega) (by omega) (fun H locs hP hD hS => ?_)
    rw [ex]
    refine W.eq (g2 := F0 m 71 ls [.int (nI ax)]) rfl ?_
    refine lv_istore (lv' := [(5, .int (nI ax)), (0, .ref b), (1, .ref (cA 0)), (2, .ref (cB 0)), (3, .int 1), (4, .int (nI i))]) hx hb dL_law_71 hl (by decide) rfl (fun ls hl => ?_)
    have hl := lv_sub hl [1, 2, 3, 4, 5, 0] rfl
    refine lv_aload_n hx hb dL_law_73 rfl (lv_at hl 0 rfl) ?_
    refine lv_iconst (v := 2) hx hb dL_law_74 (by decide) ?_
    refine lv_iload hx hb dL_law_75 (lv_at hl 4 rfl) ?_
    refine lv_imul hx hb dL_law_77 ?_
    refine lv_iconst (v := 1) hx hb dL_law_78 (by decide) ?_
    refine lv_iadd hx hb dL_law_79 ?_
    rw [q2, nI_s1]
    refine lo_draw C0 (by omega) hP hD hS hl.1 (Nat.le_of_ble_eq_true rfl) dL_law_80 (by omega) (by omega) (fun H locs hP hD hS => ?_)
    rw [ey]
    refine W.eq (g2 := F0 m 83 ls [.int (nI ay)]) rfl ?_
    refine lv_istore (lv' := [(6, .int (nI ay)), (0, .ref b), (1, .ref (cA 0)), (2, .ref (cB 0)), (3, .int 1), (4, .int (nI i)), (5, .int (nI ax))]) hx hb dL_law_83 hl (by decide) rfl (fun ls hl => ?_)
    have hl := lv_sub hl [1, 2, 3, 4, 5, 6, 0] rfl
    have hLS : LTw D k s cA nA tA cB nB tB X X H := ⟨w, u, hw, hu, hP, hD⟩
    refine lv_iload hx hb dL_law_85 (lv_at hl 4 rfl) ?_
    refine lv_bipush (v := 13) hx hb dL_law_87 (by decide) ?_
    refine lv_irem hx hb dL_law_89 (by decide) ?_
    refine lv_if_ne (tgt := 124) hx hb dL_law_90 (by decide) (fun _ => ?_) (fun _ => ?_)
    · exact k_124 C0 (show i < 26 by omega) ha hy h9 h8 hX kk H locs ls hLS hS hl
    · exact k_93 C0 (show i < 26 by omega) ha hy h9 h8 hX kk H locs ls hLS hS hl
end LP
