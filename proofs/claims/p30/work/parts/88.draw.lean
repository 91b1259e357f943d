/-! draws out of the script -/
def Pd (b L : Nat) (xs : Nat → Int32) (sz : Nat) (U : State) : Prop := U.heap.size = sz ∧ va_X b L xs U U.heap
def drV (L : Nat) (xs : Nat → Int32) (j : Nat) : Int32 := (if j < L then xs j else 15593063 * nI j + 10243) &&& 2147483647
theorem drV_n (L : Nat) (xs : Nat → Int32) (j : Nat) : ∃ a : Nat, a < 2147483648 ∧ drV L xs j = nI a := pk_andE _ (m := 2147483647) 31 (by decide)
theorem Pd_blind {av : List Value} {b L sz : Nat} {xs : Nat → Int32} : FrameBlind (va_Pc av (Pd b L xs sz)) := by
  intro a U g mk h
  obtain ⟨h1, h2, h3⟩ := h
  exact ⟨h1, h2, va_X.moved (u := U) (U := U.calling g mk a) (Vm.Alike.refl U.vm) h3⟩
abbrev Bd (L : Nat) (xs : Nat → Int32) (j : Nat) : Option Value → va_W → Prop := fun ov w => ov = some (.int (drV L xs j)) ∧ w = []
set_option maxHeartbeats 1000000 in
theorem d_draw (l : Launch) (D : va_G) (b L : Nat) (xs : Nat → Int32) (j : Nat) (hL : L ≤ 260) (hj : j < 2147483648) (sz : Nat) : vx_Met l yL_draw wsL_draw ({ frames := 0, cells := 0, slots := 0, locals := 0 } : Room) (va_Pc [.ref b, .int (nI j)] (Pd b L xs sz)) (Qx D (va_A [] sz) (.inr (Bd L xs j))) (Xx D (va_A [] sz) [] (.inr (Bd L xs j))) 0 0 (va_A [] sz) := by
  refine vx_ofW (cc := cL_draw) (maxL := 2) (ret := some .int) (by decide) rfl ?_
  intro p e s m args below meth c s₁ B hml htab hv
  obtain ⟨rfl, hsz, hX⟩ := hv
  subst hsz
  rw [lg_entry_eq]
  have hl := lv_entry ([.ref b, .int (nI j)] : List Value) (n := 2) (Nat.le_of_ble_eq_true rfl)
  generalize (lg_sl ([.ref b, .int (nI j)] : List Value) ++ List.replicate (2 - (lg_sl ([.ref b, .int (nI j)] : List Value)).length) Slot.unset).toArray = ls at hl ⊢
  have hl : lv_has ls 2 [(0, .ref b), (1, .int (nI j))] := hl
  have hx := B.exec
  have hb : c.code = cL_draw := B.bytes
  have hr : meth.sig.returnType = some .int := B.returns
  have hlocks := B.notSynchronized
  have hown : s.vm.findClass RL = some m.cls := findClass_of_methodNamed B.named
  have hts := atoms_spec (ws := wsL_draw) B.pre
  have w_0 := hts (.constant RL 7 (15593063)) (by decide +kernel)
  have w_1 := hts (.constant RL 8 (2147483647)) (by decide +kernel)
  have hS : va_S (va_A [] s.heap.size) s.heap s.heap [] := va_S.rf
  have hbl : b < s.heap.size := by
    obtain ⟨scr, h1, -⟩ := hX
    exact (Array.getElem?_eq_some_iff.mp h1).1
  have hbA : ¬ va_A [] s.heap.size b := by
    intro h
    rcases h with ⟨q, e9, h⟩ | h
    · simp at h
    · omega
  have hP : va_P D vwCl [] s.heap := fun k q h => by simp at h
  have hD : va_D (va_A [] s.heap.size) [] := ⟨fun i j p q h => by simp at h, fun k q h => by simp at h⟩
  have fin : ∀ v : Int32, v = (if j < L then xs j else 15593063 * nI j + 10243) → W p l e ({ frames := 0, cells := 0, slots := 0, locals := 0 } : Room) s m ([.ref b, .int (nI j)] : List Value).toArray below meth c s.heap [] 0 0 (vx_MQ below (Qx D (va_A [] s.heap.size) (.inr (Bd L xs j))) (Xx D (va_A [] s.heap.size) [] (.inr (Bd L xs j))) ([.ref b, .int (nI j)] : List Value).toArray s 0 0 (va_A [] s.heap.size)) (F0 m 20 ls [.int v]) := by
    intro v hv
    refine lv_ldc (v := 2147483647) hx hb hown w_1 dL_draw_20 ?_
    refine lv_iand hx hb dL_draw_22 ?_
    exact Cx_iret (B := Bd L xs j) rfl ⟨by rw [hv]; rfl, rfl⟩ (Nat.le_refl _) (Nat.le_refl _) hx hb hr hP hD hS dL_draw_23 hlocks
  refine lv_iload_n hx hb dL_draw_0 rfl (lv_at hl 1 rfl) ?_
  refine lv_aload_n hx hb dL_draw_1 rfl (lv_at hl 0 rfl) ?_
  refine va_slen hx hb hX hbl hbA hS dL_draw_2 ?_
  refine lv_icmp_ge (tgt := 12) hx hb dL_draw_3 (by decide) (fun c1 => ?_) (fun c1 => ?_)
  · have c1 : nI L ≤ nI j := c1
    rw [nI_leF (by omega) (by omega)] at c1
    refine lv_ldc (v := 15593063) hx hb hown w_0 dL_draw_12 ?_
    refine lv_iload_n hx hb dL_draw_14 rfl (lv_at hl 1 rfl) ?_
    refine lv_imul hx hb dL_draw_15 ?_
    refine lv_sipush (v := 10243) hx hb dL_draw_16 (by decide) ?_
    refine lv_iadd hx hb dL_draw_19 ?_
    exact fin _ (by rw [if_neg (by omega)])
  · have c1 : ¬ nI L ≤ nI j := c1
    rw [nI_leF (by omega) (by omega)] at c1
    refine lv_aload_n hx hb dL_draw_6 rfl (lv_at hl 0 rfl) ?_
    refine lv_iload_n hx hb dL_draw_7 rfl (lv_at hl 1 rfl) ?_
    refine va_sld hx hb hX hbl hbA hS (fun q => by
      rcases q with q | q
      · exact nI_pos (lt31 hj) q
      · rw [nI_cl hj] at q; omega) dL_draw_8 ?_
    refine lv_goto (tgt := 20) hx hb dL_draw_9 (by decide) ?_
    exact fin _ (by rw [if_pos (by omega), nI_cl hj])
/-- what the law's walk holds on to -/
def LC (p : Program) (s : State) (m : MethodId) (meth : Method) (c : Code) (l : Launch) (b L : Nat) (xs : Nat → Int32) (D : va_G) (k : Nat → ClassId) : Prop := lw_At p s m meth c b L xs ∧ l.stackTraces = false ∧ va_K D vwCl (tyK k) s ∧ gX (fun q : Nat => s.heap.size ≤ q) s ∧ gC s ∧ L ≤ 260
section LD
variable {p : Program} {l : Launch} {e : Env} {s : State} {m : MethodId} {below : List Frame} {meth : Method} {c : Code} {H : Heap} {locs : List Loc} {cells slots : Nat} {Z : State → Prop} {b L : Nat} {xs : Nat → Int32} {D : va_G} {k : Nat → ClassId}
theorem lo_draw {pc j : Nat} {ls : Array Slot} {rest : List Value} {w9 : va_W} (C0 : LC p s m meth c l b L xs D k) (hj : j < 2147483648) (hP : va_P D vwCl w9 H) (hD : va_D (fun q : Nat => s.heap.size ≤ q) w9) (hS : va_S (fun q : Nat => s.heap.size ≤ q) s.heap H locs) (hlz : ls.size = 7) (hW : (rest.map fun v => v.category).sum ≤ 8) (hdg : decode cL_law pc = .ok (.invokestatic 218, 3)) (hcl : cells ≤ 656351) (hsl : slots ≤ 7132416)
    (kk : ∀ (H : Heap) (locs : List Loc), va_P D vwCl w9 H → va_D (fun q : Nat => s.heap.size ≤ q) w9 → va_S (fun q : Nat => s.heap.size ≤ q) s.heap H locs → W p l e room_1 s m #[.ref b] below meth c H locs cells slots Z (F0 m (pc + 3) ls (.int (drV L xs j) :: rest))) : W p l e room_1 s m #[.ref b] below meth c H locs cells slots Z (F0 m pc ls (.int (nI j) :: .ref b :: rest)) := by
  obtain ⟨⟨hx, hb, hr, hml, hown, hts, hX, hbl, hlocks, hgv⟩, hst, hK, hG, hC, hL⟩ := id C0
  have htl : ∀ w ∈ wsL_law, w.before #[Value.ref b] s = true := fun w h => hts w (wsL_law_in w h)
  have hA : ∀ q : Nat, s.heap.size ≤ q → (fun q : Nat => s.heap.size ≤ q) q := fun _ h => h
  have hbA : ¬ (fun q : Nat => s.heap.size ≤ q) b := Nat.not_le.mpr hbl
  refine Cx_goF (wc := []) (wx := []) (wr := w9) (vx_runS (As := [.ref b, .int (nI j)]) (rest := rest) ⟨hx, hb, hml, hown, htl⟩ (d_draw l D b L xs j hL hj H.size) (va_cwS 2 htl gL_law_L_draw rfl rfl rfl (by decide +kernel) ⟨Nat.le_of_ble_eq_true rfl, Nat.le_of_ble_eq_true rfl⟩) ⟨Pd_blind, fun U hU hW9 => ⟨rfl, by rw [hU], by rw [hU]; exact va_X.moved hW9.alike (hX.kept (hS.2.1 b hbl hbA))⟩⟩ rfl rfl hlz rfl (by show 2 * 0 + _ ≤ 8; omega) hdg ⟨by show cells + 0 ≤ 656351; omega, by show slots + 0 ≤ 7132416; omega⟩) hP hD hS hA rfl (fun _ _ _ _ _ h1 => nomatch h1) ?_
  intro ov B w1 H1 locs1 h1 hB hP hD hS
  cases h1
  obtain ⟨rfl, rfl⟩ := hB
  exact kk H1 locs1 hP hD hS
end LD
