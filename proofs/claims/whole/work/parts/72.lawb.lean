/-! the law: what its cases stand on -/
abbrev LWl (k : Nat → ClassId) (cA nA tA bM : Nat → Nat) (oA dA : Nat) (T : TrV) (N V : StV) (M : MdV) (g : Nat → Int64) (gd : Nat → UInt64) (tl : va_W) : va_W := trW k cA nA tA T ++ stW k nA N ++ stW k tA V ++ mdW k bM M ++ ouW k oA g ++ duW k dA gd ++ tl
theorem pq_1 {X md ou du tl wr : va_W} (h : List.Perm (X ++ tl ++ ou) wr) : List.Perm (X ++ md ++ ou ++ du ++ tl) (wr ++ (md ++ du)) := by
  have h1 : List.Perm (X ++ md ++ ou ++ du ++ tl) ((X ++ tl ++ ou) ++ (md ++ du)) := by
    rw [List.append_assoc X md, List.append_assoc X (md ++ ou), List.append_assoc X (md ++ ou ++ du), List.append_assoc X tl ou, List.append_assoc X (tl ++ ou)]
    refine List.Perm.append_left X ?_
    refine List.perm_append_comm.trans ?_
    rw [List.append_assoc tl ou]
    refine List.Perm.append_left tl ?_
    rw [← List.append_assoc ou md du]
    exact List.perm_append_comm.append_right _
  exact h1.trans (h.append_right _)
theorem pq_2 {X md ou du tl wr : va_W} (h : List.Perm (X ++ tl ++ du) wr) : List.Perm (X ++ md ++ ou ++ du ++ tl) (wr ++ (md ++ ou)) := by
  have h1 : List.Perm (X ++ md ++ ou ++ du ++ tl) ((X ++ tl ++ du) ++ (md ++ ou)) := by
    rw [List.append_assoc X md, List.append_assoc X (md ++ ou), List.append_assoc X (md ++ ou ++ du), List.append_assoc X tl du, List.append_assoc X (tl ++ du)]
    refine List.Perm.append_left X ?_
    refine List.perm_append_comm.trans ?_
    rw [List.append_assoc tl du]
    exact List.Perm.append_left tl List.perm_append_comm
  exact h1.trans (h.append_right _)
theorem pq_0 {X md ou du tl wr : va_W} (h : List.Perm (X ++ tl) wr) : List.Perm (X ++ md ++ ou ++ du ++ tl) (wr ++ (md ++ (ou ++ du))) := by
  have h1 : List.Perm (X ++ md ++ ou ++ du ++ tl) ((X ++ tl) ++ (md ++ (ou ++ du))) := by
    rw [List.append_assoc X md, List.append_assoc X (md ++ ou), List.append_assoc X (md ++ ou ++ du), List.append_assoc X tl, List.append_assoc md ou du]
    exact List.Perm.append_left X List.perm_append_comm
  exact h1.trans (h.append_right _)
theorem md_hi {k : Nat → ClassId} {b : Nat → Nat} {M : MdV} : [0, 1, 2, 3, 4, 5, 6, 7, 8, 9].map (fun i => (mdW k b M)[i]?) = (mdW k b M).map some := rfl
theorem md_all {k : Nat → ClassId} {b : Nat → Nat} {M M' : MdV} : va_sets (mdW k b M) [0, 1, 2, 3, 4, 5, 6, 7, 8, 9] (mdW k b M') = mdW k b M' := rfl
theorem Pl_blind {D : va_G} {tys : List (ClassId × FieldType)} {av : List Value} {w1 : va_W} {sz : Nat} : FrameBlind (va_Pc av (Pl D tys w1 sz)) := by
  intro a U g mk h
  obtain ⟨h1, h2, h3⟩ := h
  have h4 := Px_blind (D := D) (tys := tys) (av := av) (w1 := w1) (sz := sz) a U g mk ⟨h1, h2⟩
  exact ⟨h4.1, h4.2, va_Nc.moved (u := U) (U := U.calling g mk a) (Vm.Alike.refl U.vm) h3.1, va_Nc.moved (u := U) (U := U.calling g mk a) (Vm.Alike.refl U.vm) h3.2.1, va_Nc.moved (u := U) (U := U.calling g mk a) (Vm.Alike.refl U.vm) h3.2.2⟩
theorem Pl_at {D : va_G} {s : State} {H : Heap} {locs : List Loc} {tys : List (ClassId × FieldType)} {av : List Value} {w0 wc : va_W} {A0 : Nat → Prop} (hK : va_K D vwCl tys s) (hG : gX A0 s) (hC : gC s) (hP : va_P D vwCl w0 H) (hD : va_D A0 w0) (hS : va_S A0 s.heap H locs) (hA : ∀ q : Nat, s.heap.size ≤ q → A0 q) (is : List Nat) (hi : is.map (fun i => w0[i]?) = wc.map some) (hn : va_nd is = true) : ∀ U : State, U.heap = H → s.WarmedH U.vm → va_Pc av (Pl D tys wc H.size) av.toArray U := by
  intro U hU hW
  have h4 := Px_at (av := av) hK hG hP hD hS hA is hi hn U hU hW
  exact ⟨h4.1, h4.2, va_Nc.moved hW.alike hC.1, va_Nc.moved hW.alike hC.2.1, va_Nc.moved hW.alike hC.2.2⟩
section DC
variable {p : Program} {l : Launch} {e : Env} {R : Room} {s : State} {m : MethodId} {args : Array Value} {below : List Frame} {meth : Method} {c : Code} {H : Heap} {locs : List Loc} {cells slots : Nat} {Q : State → Prop}
theorem lv_dcmp0 {cc : ByteArray} {pc : Nat} {ls : Array Slot} {rest : List Value} {op : CmpOp} (hexec : p.tables.exec = Jvm.exec) (hb : c.code = cc) {x y : UInt64} (hc : FP.dcmp x y = some .eq) (hdg : decode cc pc = .ok (.dcmp op, 1))
    (k : W p l e R s m args below meth c H locs cells slots Q (F0 m (pc + 1) ls (.int 0 :: rest))) : W p l e R s m args below meth c H locs cells slots Q (F0 m pc ls (.double y :: .double x :: rest)) := by
  intro T hT X
  obtain ⟨t, a, b⟩ := k T hT X
  refine ⟨t, ?_, b⟩
  jvm_step X.here [X.here.top, hexec, hb, hdg, Op.dcmp.sem, hc]
  exact a
end DC
/-- what the law's walk holds on to -/
def LC (p : Program) (s : State) (m : MethodId) (meth : Method) (c : Code) (l : Launch) (b L : Nat) (xs : Nat → Int32) (D : va_G) (k : Nat → ClassId) : Prop := lw_At p s m meth c b L xs ∧ l.stackTraces = false ∧ va_K D vwCl (tyK k) s ∧ gX (fun q : Nat => s.heap.size ≤ q) s ∧ gC s
/-- behind a case: the loop's end -/
def LK (p : Program) (l : Launch) (e : Env) (s : State) (m : MethodId) (below : List Frame) (meth : Method) (c : Code) (b : Nat) (D : va_G) (k : Nat → ClassId) (cA nA tA bM : Nat → Nat) (oA dA nc : Nat) (cells slots : Nat) (Z : State → Prop) : Prop :=
  ∀ (T : TrV) (N V : StV) (Q : PoV) (tl : va_W) (M : MdV) (g : Nat → Int64) (gd : Nat → UInt64) (H : Heap) (locs : List Loc) (ls : Array Slot), INV (nc + 1) T N Q M → PoIs k cA Q tl → va_P D vwCl (LWl k cA nA tA bM oA dA T N V M g gd tl) H → va_D (fun q : Nat => s.heap.size ≤ q) (LWl k cA nA tA bM oA dA T N V M g gd tl) → va_S (fun q : Nat => s.heap.size ≤ q) s.heap H locs →
    lv_has ls 10 [(0, .ref b), (1, .ref (cA 0)), (2, .ref (bM 0)), (3, .ref oA), (4, .ref dA), (5, .int (nI (4 * nc)))] → W p l e room_1 s m #[.ref b] below meth c H locs (cells + 40) (slots + 300) Z (F0 m 1867 ls [])
