/-! the class's own object: its values, its world -/
abbrev TrV : Type := Int32 × Int32 × Int32 × (Nat → Int32) × (Nat → Int32) × (Nat → Int32)
def tr_tln (S : TrV) : Int32 := S.1
def tr_nws (S : TrV) : Int32 := S.2.1
def tr_rcn (S : TrV) : Int32 := S.2.2.1
def tr_txt (S : TrV) : Nat → Int32 := S.2.2.2.1
def tr_tnm (S : TrV) : Nat → Int32 := S.2.2.2.2.1
def tr_fil (S : TrV) : Nat → Int32 := S.2.2.2.2.2
def tu_tln (S : TrV) (x : Int32) : TrV := (x, tr_nws S, tr_rcn S, tr_txt S, tr_tnm S, tr_fil S)
def tu_nws (S : TrV) (x : Int32) : TrV := (tr_tln S, x, tr_rcn S, tr_txt S, tr_tnm S, tr_fil S)
def tu_rcn (S : TrV) (x : Int32) : TrV := (tr_tln S, tr_nws S, x, tr_txt S, tr_tnm S, tr_fil S)
def tu_txt (S : TrV) (x : Nat → Int32) : TrV := (tr_tln S, tr_nws S, tr_rcn S, x, tr_tnm S, tr_fil S)
def tu_tnm (S : TrV) (x : Nat → Int32) : TrV := (tr_tln S, tr_nws S, tr_rcn S, tr_txt S, x, tr_fil S)
def tu_fil (S : TrV) (x : Nat → Int32) : TrV := (tr_tln S, tr_nws S, tr_rcn S, tr_txt S, tr_tnm S, x)
abbrev trW (k : Nat → ClassId) (cA nA tA : Nat → Nat) (T : TrV) : va_W := [(cA 0, .inr (1, [.ref (cA 1), .int (tr_tln T), .ref (cA 2), .ref (nA 0), .ref (tA 0), .ref (cA 3), .ref (cA 4), .int (tr_nws T), .int (tr_rcn T), .ref (cA 5), .ref (cA 6)])), (cA 1, .inl (k 1, 120, .inl (tr_txt T))), (cA 2, .inl (k 0, 42, .inl (tr_tnm T))), (cA 6, .inl (k 2, 2, .inl (tr_fil T)))]
theorem tr_set_tln (k : Nat → ClassId) (cA nA tA : Nat → Nat) (T : TrV) (x : Int32) : (trW k cA nA tA T).set 0 (cA 0, .inr (1, ([.ref (cA 1), .int (tr_tln T), .ref (cA 2), .ref (nA 0), .ref (tA 0), .ref (cA 3), .ref (cA 4), .int (tr_nws T), .int (tr_rcn T), .ref (cA 5), .ref (cA 6)] : List Value).set 1 (.int x))) = trW k cA nA tA (tu_tln T x) := rfl
theorem tr_set_nws (k : Nat → ClassId) (cA nA tA : Nat → Nat) (T : TrV) (x : Int32) : (trW k cA nA tA T).set 0 (cA 0, .inr (1, ([.ref (cA 1), .int (tr_tln T), .ref (cA 2), .ref (nA 0), .ref (tA 0), .ref (cA 3), .ref (cA 4), .int (tr_nws T), .int (tr_rcn T), .ref (cA 5), .ref (cA 6)] : List Value).set 7 (.int x))) = trW k cA nA tA (tu_nws T x) := rfl
theorem tr_set_rcn (k : Nat → ClassId) (cA nA tA : Nat → Nat) (T : TrV) (x : Int32) : (trW k cA nA tA T).set 0 (cA 0, .inr (1, ([.ref (cA 1), .int (tr_tln T), .ref (cA 2), .ref (nA 0), .ref (tA 0), .ref (cA 3), .ref (cA 4), .int (tr_nws T), .int (tr_rcn T), .ref (cA 5), .ref (cA 6)] : List Value).set 8 (.int x))) = trW k cA nA tA (tu_rcn T x) := rfl
theorem tr_set_txt (k : Nat → ClassId) (cA nA tA : Nat → Nat) (T : TrV) (x : Nat → Int32) : (trW k cA nA tA T).set 1 (cA 1, .inl (k 1, 120, .inl x)) = trW k cA nA tA (tu_txt T x) := rfl
theorem tr_set_tnm (k : Nat → ClassId) (cA nA tA : Nat → Nat) (T : TrV) (x : Nat → Int32) : (trW k cA nA tA T).set 2 (cA 2, .inl (k 0, 42, .inl x)) = trW k cA nA tA (tu_tnm T x) := rfl
theorem tr_set_fil (k : Nat → ClassId) (cA nA tA : Nat → Nat) (T : TrV) (x : Nat → Int32) : (trW k cA nA tA T).set 3 (cA 6, .inl (k 2, 2, .inl x)) = trW k cA nA tA (tu_fil T x) := rfl
theorem tr_tln_tu_tln (S : TrV) (x : Int32) : tr_tln (tu_tln S x) = x := rfl
theorem tr_nws_tu_tln (S : TrV) (x : Int32) : tr_nws (tu_tln S x) = tr_nws S := rfl
theorem tr_rcn_tu_tln (S : TrV) (x : Int32) : tr_rcn (tu_tln S x) = tr_rcn S := rfl
theorem tr_txt_tu_tln (S : TrV) (x : Int32) : tr_txt (tu_tln S x) = tr_txt S := rfl
theorem tr_tnm_tu_tln (S : TrV) (x : Int32) : tr_tnm (tu_tln S x) = tr_tnm S := rfl
theorem tr_fil_tu_tln (S : TrV) (x : Int32) : tr_fil (tu_tln S x) = tr_fil S := rfl
theorem tr_tln_tu_nws (S : TrV) (x : Int32) : tr_tln (tu_nws S x) = tr_tln S := rfl
theorem tr_nws_tu_nws (S : TrV) (x : Int32) : tr_nws (tu_nws S x) = x := rfl
theorem tr_rcn_tu_nws (S : TrV) (x : Int32) : tr_rcn (tu_nws S x) = tr_rcn S := rfl
theorem tr_txt_tu_nws (S : TrV) (x : Int32) : tr_txt (tu_nws S x) = tr_txt S := rfl
theorem tr_tnm_tu_nws (S : TrV) (x : Int32) : tr_tnm (tu_nws S x) = tr_tnm S := rfl
theorem tr_fil_tu_nws (S : TrV) (x : Int32) : tr_fil (tu_nws S x) = tr_fil S := rfl
theorem tr_tln_tu_rcn (S : TrV) (x : Int32) : tr_tln (tu_rcn S x) = tr_tln S := rfl
theorem tr_nws_tu_rcn (S : TrV) (x : Int32) : tr_nws (tu_rcn S x) = tr_nws S := rfl
theorem tr_rcn_tu_rcn (S : TrV) (x : Int32) : tr_rcn (tu_rcn S x) = x := rfl
theorem tr_txt_tu_rcn (S : TrV) (x : Int32) : tr_txt (tu_rcn S x) = tr_txt S := rfl
theorem tr_tnm_tu_rcn (S : TrV) (x : Int32) : tr_tnm (tu_rcn S x) = tr_tnm S := rfl
theorem tr_fil_tu_rcn (S : TrV) (x : Int32) : tr_fil (tu_rcn S x) = tr_fil S := rfl
theorem tr_tln_tu_txt (S : TrV) (x : Nat → Int32) : tr_tln (tu_txt S x) = tr_tln S := rfl
theorem tr_nws_tu_txt (S : TrV) (x : Nat → Int32) : tr_nws (tu_txt S x) = tr_nws S := rfl
theorem tr_rcn_tu_txt (S : TrV) (x : Nat → Int32) : tr_rcn (tu_txt S x) = tr_rcn S := rfl
theorem tr_txt_tu_txt (S : TrV) (x : Nat → Int32) : tr_txt (tu_txt S x) = x := rfl
theorem tr_tnm_tu_txt (S : TrV) (x : Nat → Int32) : tr_tnm (tu_txt S x) = tr_tnm S := rfl
theorem tr_fil_tu_txt (S : TrV) (x : Nat → Int32) : tr_fil (tu_txt S x) = tr_fil S := rfl
theorem tr_tln_tu_tnm (S : TrV) (x : Nat → Int32) : tr_tln (tu_tnm S x) = tr_tln S := rfl
theorem tr_nws_tu_tnm (S : TrV) (x : Nat → Int32) : tr_nws (tu_tnm S x) = tr_nws S := rfl
theorem tr_rcn_tu_tnm (S : TrV) (x : Nat → Int32) : tr_rcn (tu_tnm S x) = tr_rcn S := rfl
theorem tr_txt_tu_tnm (S : TrV) (x : Nat → Int32) : tr_txt (tu_tnm S x) = tr_txt S := rfl
theorem tr_tnm_tu_tnm (S : TrV) (x : Nat → Int32) : tr_tnm (tu_tnm S x) = x := rfl
theorem tr_fil_tu_tnm (S : TrV) (x : Nat → Int32) : tr_fil (tu_tnm S x) = tr_fil S := rfl
theorem tr_tln_tu_fil (S : TrV) (x : Nat → Int32) : tr_tln (tu_fil S x) = tr_tln S := rfl
theorem tr_nws_tu_fil (S : TrV) (x : Nat → Int32) : tr_nws (tu_fil S x) = tr_nws S := rfl
theorem tr_rcn_tu_fil (S : TrV) (x : Nat → Int32) : tr_rcn (tu_fil S x) = tr_rcn S := rfl
theorem tr_txt_tu_fil (S : TrV) (x : Nat → Int32) : tr_txt (tu_fil S x) = tr_txt S := rfl
theorem tr_tnm_tu_fil (S : TrV) (x : Nat → Int32) : tr_tnm (tu_fil S x) = tr_tnm S := rfl
theorem tr_fil_tu_fil (S : TrV) (x : Nat → Int32) : tr_fil (tu_fil S x) = x := rfl
def tD (j : Nat) : Int32 := ([1, 3, 3, 2, 2, 2, 1, 4, 4, 3, 2, 2] : List Int32).getD j 0
def tL (j : Nat) : Int32 := ([2, 0, 0, 0, 0, 1, 1, 0, 0, 0, 0, 0] : List Int32).getD j 0
def tG (j : Nat) : Int32 := ([6, 999, 999, 99, 99, 20, 9, 4000, 1000, 999, 90, 99] : List Int32).getD j 0
/-- the three tables of the class -/
def gS (A : Nat → Prop) (U : State) (H : Heap) : Prop := ∃ t1 t2 t3 : Nat, (va_Z "EffectTrain" "DIGITS" "[I" (.ref t1) A U H ∧ va_T .int t1 12 (fun j => .int (tD j)) A U H) ∧ (va_Z "EffectTrain" "LEAST" "[I" (.ref t2) A U H ∧ va_T .int t2 12 (fun j => .int (tL j)) A U H) ∧ va_Z "EffectTrain" "GREATEST" "[I" (.ref t3) A U H ∧ va_T .int t3 12 (fun j => .int (tG j)) A U H
def gTx : List (Nat × String) := [(57, "the text is full"), (66, "the text describes no train"), (147, "the effect works"), (149, "no state is remembered"), (181, "the script has another length"), (207, "nothing has been saved in the slot"), (209, "an argument is out of its range"), (213, "there is no such effect"), (216, "there is no such save slot"), (218, "the effect is washed")]
def gNf : List (Nat × String × String × String × String) := [(94, "EffectTrain$State", "n", "I", "EffectTrain"), (103, "EffectTrain$State", "settings", "[I", "EffectTrain"), (97, "EffectTrain$State", "clock", "I", "EffectTrain"), (106, "EffectTrain$State", "counts", "[I", "EffectTrain"), (126, "EffectTrain$State", "solids", "[I", "EffectTrain"), (135, "EffectTrain$State", "valve", "[I", "EffectTrain"), (138, "EffectTrain$State", "bleed", "[I", "EffectTrain"), (172, "EffectTrain$State", "scale", "[I", "EffectTrain"), (144, "EffectTrain$State", "left", "[I", "EffectTrain")]
def gNm : List (Nat × MethodName × String) := [(23, ⟨"EffectTrain$State", "<init>", "()V"⟩, "EffectTrain"), (155, ⟨"EffectTrain$State", "copyFrom", "(LEffectTrain$State;)V"⟩, "EffectTrain"), (100, ⟨"EffectTrain$State", "washedEffects", "()I"⟩, "EffectTrain"), (72, ⟨"EffectTrain$State", "allWater", "()I"⟩, "EffectTrain"), (75, ⟨"EffectTrain$State", "allSolids", "()I"⟩, "EffectTrain"), (113, ⟨"EffectTrain$State", "numberOf", "(II)I"⟩, "EffectTrain"), (123, ⟨"EffectTrain$State", "amount", "(I)I"⟩, "EffectTrain"), (116, ⟨"EffectTrain$State", "effectBehind", "(I)I"⟩, "EffectTrain"), (120, ⟨"EffectTrain$State", "effectBefore", "(I)I"⟩, "EffectTrain"), (132, ⟨"EffectTrain$State", "pass", "(I)I"⟩, "EffectTrain"), (194, ⟨"EffectTrain$State", "thickness", "(I)I"⟩, "EffectTrain"), (68, ⟨"EffectTrain$State", "takeNumbers", "([I)V"⟩, "EffectTrain")]
def gT (A : Nat → Prop) (U : State) (H : Heap) : Prop := vx_Zq Bundle.tN "UNASSIGNED_STACK" Bundle.steD A U H ∧ vx_Zq Bundle.tN "SUPPRESSED_SENTINEL" Bundle.listD A U H
def gEx : List String := ["java/lang/IllegalArgumentException", "java/lang/IllegalStateException", "java/lang/IndexOutOfBoundsException"]
def gDe : List String := ["java/lang/RuntimeException", "java/lang/Exception", "java/lang/Throwable"]
def gN (U : State) : Prop := (va_AO "EffectTrain$State" U ∧ ((∀ E ∈ gEx, va_Nw (.castable E E) U) ∧ ∀ E ∈ gDe, va_Nw (.declares (Bundle.initS E)) U)) ∧ (∀ q ∈ gTx, ∃ sa : Nat, vk_R "EffectTrain" q.1 q.2 sa U) ∧ (∀ q ∈ gNf, va_Nw (.fieldLinkNest "EffectTrain" q.1 q.2.1 q.2.2.1 q.2.2.2.1 q.2.2.2.2) U) ∧ ∀ q ∈ gNm, va_Nw (.methodLinkNest "EffectTrain" q.1 q.2.1 q.2.2) U
def gX (A : Nat → Prop) (U : State) : Prop := gS A U U.heap ∧ gT A U U.heap ∧ gN U
theorem gN.warm {s U : State} (hW : s.WarmedH U.vm) (h : gN s) : gN U := by
  refine ⟨⟨va_AO.moved hW.alike h.1.1, fun E hE => va_Nw.warmC hW (h.1.2.1 E hE), fun E hE => va_Nw.warmD hW (h.1.2.2 E hE)⟩, fun q hq => ?_, fun q hq => va_Nw.warmF hW (h.2.2.1 q hq), fun q hq => va_Nw.warmM hW (h.2.2.2 q hq)⟩
  obtain ⟨sa, h1⟩ := h.2.1 q hq
  exact ⟨sa, vk_R.warm hW h1⟩
theorem gX_at {A0 B : Nat → Prop} {s U : State} {H : Heap} {locs : List Loc} (h : gX A0 s) (hS : va_S A0 s.heap H locs) (hB : ∀ q, B q → A0 q) (hU : U.heap = H) (hW : s.WarmedH U.vm) : gX B U := by
  obtain ⟨⟨t1, t2, t3, ⟨a1, b1⟩, ⟨a2, b2⟩, a3, b3⟩, ⟨c1, c2⟩, hn⟩ := h
  have kz : ∀ {n d : String} {v : Value}, va_Z "EffectTrain" n d v A0 s s.heap → va_Z "EffectTrain" n d v B U U.heap := fun z => by rw [hU]; exact va_Z.moved hW.alike ((z.kept (fun a h1 h2 => hS.2.1 a h1 h2)).narrow hB)
  have kt : ∀ {t : Nat} {f : Nat → Value}, va_T .int t 12 f A0 s s.heap → va_T .int t 12 f B U U.heap := fun z => by rw [hU]; exact va_T.moved hW.alike ((z.kept (fun a h1 h2 => hS.2.1 a h1 h2)).narrow hB)
  have kq : ∀ {c n d : String}, vx_Zq c n d A0 s s.heap → vx_Zq c n d B U U.heap := fun z => by rw [hU]; exact vx_Zq.moved hW.alike ((z.kept (fun a h1 h2 => hS.2.1 a h1 h2)).narrow hB)
  exact ⟨⟨t1, t2, t3, ⟨kz a1, kt b1⟩, ⟨kz a2, kt b2⟩, kz a3, kt b3⟩, ⟨kq c1, kq c2⟩, hn.warm hW⟩
theorem gX_call {A : Nat → Prop} {U : State} {g : JFrame} {mk : MethodId} {a : Array Value} (h : gX A U) : gX A (U.calling g mk a) := by
  obtain ⟨⟨t1, t2, t3, ⟨a1, b1⟩, ⟨a2, b2⟩, a3, b3⟩, ⟨c1, c2⟩, hn0, hn1, hn2, hn3⟩ := h
  have e : (U.calling g mk a).vm = U.vm := rfl
  have al : U.vm.Alike (U.calling g mk a).vm := Vm.Alike.refl U.vm
  exact ⟨⟨t1, t2, t3, ⟨va_Z.moved al a1, va_T.moved al b1⟩, ⟨va_Z.moved al a2, va_T.moved al b2⟩, va_Z.moved al a3, va_T.moved al b3⟩, ⟨vx_Zq.moved al c1, vx_Zq.moved al c2⟩, ⟨va_AO.moved al hn0.1, fun E hE => va_Nw.same rfl e.symm (hn0.2.1 E hE), fun E hE => va_Nw.same rfl e.symm (hn0.2.2 E hE)⟩, fun q hq => by
      obtain ⟨sa, h1⟩ := hn1 q hq
      exact ⟨sa, vk_R.same e h1⟩, fun q hq => va_Nw.same rfl e.symm (hn2 q hq), fun q hq => va_Nw.same rfl e.symm (hn3 q hq)⟩
def bn {α β : Type} (x : Option (String ⊕ α)) (k : α → Option β) : Option β := match x with
  | some (.inr a) => k a
  | _ => none
theorem bn_l {α β : Type} {x : Option (String ⊕ α)} {k : α → Option β} {o : β} (h : bn x k = some o) : ∃ a, x = some (.inr a) ∧ k a = some o := by
  cases x with
  | none => cases h
  | some a =>
    cases a with
    | inl E => cases h
    | inr a => exact ⟨a, rfl, h⟩
/-! contracts: it throws, the world as it was; or it answers, with a world of a kind -/
abbrev Oc : Type := String ⊕ (Option Value → va_W → Prop)
def Qx (D : va_G) (A : Nat → Prop) (o : Oc) : Array Value → State → Outcome → State → Prop := fun _ st oc t => ∃ (ov : Option Value) (B : Option Value → va_W → Prop), o = .inr B ∧ oc = .returned ov ∧ (∃ w2, B ov w2 ∧ va_P D vwCl w2 t.heap ∧ va_D A w2) ∧ va_F A st t
def Xx (D : va_G) (A : Nat → Prop) (w1 : va_W) (o : Oc) : String → State → State → Prop := fun E st t => o = .inl E ∧ va_P D vwCl w1 t.heap ∧ va_F A st t
def Px (D : va_G) (tys : List (ClassId × FieldType)) (w1 : va_W) (sz : Nat) (U : State) : Prop := Pk D tys w1 sz U ∧ gX (va_A w1 sz) U
def Cx (l : Launch) (D : va_G) (tys : List (ClassId × FieldType)) (y : MethodName) (ws : List Cond) (rm : Room) (av : List Value) (w1 wx : va_W) (o : Oc) : Prop :=
  ∀ sz : Nat, vx_Met l y ws rm (va_Pc av (Px D tys w1 sz)) (Qx D (va_A w1 sz) o) (Xx D (va_A w1 sz) wx o) rm.cells rm.slots (va_A w1 sz)
theorem Cx_of {l : Launch} {D : va_G} {tys : List (ClassId × FieldType)} {y : MethodName} {ws ws' : List Cond} {rm : Room} {av : List Value} {w1 wx : va_W} {o : Oc} {cc : ByteArray} {maxL : Nat} {ret : Option FieldType}
    (hy : plainName y.cls = true) (hw : ws = Cond.code y cc maxL ret :: ws') (hlen : (lg_sl av).length ≤ maxL)
    (body : ∀ (p : Program) (e : Env) (s : State) (m : MethodId) (args : Array Value) (below : List Frame) (meth : Method) (c : Code) (A : Nat → Prop) (ls : Array Slot), p.tables.exec = Jvm.exec → c.code = cc → meth.sig.returnType = ret → c.maxLocals = maxL → (∀ w ∈ ws, w.before args s = true) → s.vm.findClass y.cls = some m.cls → meth.locks = false → meth.name = y.name → (∀ x ∈ c.exceptionTable.toList, False) → va_K D vwCl tys s → gX A s → (∀ q : Nat, s.heap.size ≤ q → A q) → va_P D vwCl w1 s.heap → va_D A w1 → va_S A s.heap s.heap [] → lv_has ls maxL (lv_args 0 av) →
      W p l e rm s m args below meth c s.heap [] 0 0 (vx_MQ below (Qx D A o) (Xx D A wx o) args s rm.cells rm.slots A) (F0 m 0 ls [])) : Cx l D tys y ws rm av w1 wx o := by
  intro sz
  refine vx_ofW (cc := cc) (maxL := maxL) (ret := ret) hy hw ?_
  intro p e s m args below meth c s₁ B hml htab hv
  obtain ⟨rfl, ⟨hsz, hP, hK, hD0⟩, hG⟩ := hv
  subst hsz
  rw [lg_entry_eq]
  exact body p e s m _ below meth c (va_A w1 s.heap.size) _ B.exec B.bytes B.returns hml (atoms_spec (ws := ws) B.pre) (findClass_of_methodNamed B.named) B.notSynchronized (name_of_methodNamed B.named B.method).1 htab hK hG (fun q h => Or.inr h) hP hD0.self va_S.rf (lv_entry av hlen)
section OWNX
variable {p : Program} {l : Launch} {e : Env} {R : Room} {s : State} {m : MethodId} {args : Array Value} {below : List Frame} {meth : Method} {c : Code} {H : Heap} {locs : List Loc} {cells slots mc ms : Nat} {Q : State → Prop}
variable {cc : ByteArray} {pc : Nat} {ls : Array Slot} {rest : List Value} {D : va_G} {A : Nat → Prop} {H0 : Heap} {w w1 w2 : va_W} {o : Oc} {B : Option Value → va_W → Prop}
theorem Cx_q {ov : Option Value} (ho : o = .inr B) (hB : B ov w) (hP : va_P D vwCl w H) (hD : va_D A w) (hS : va_S A s.heap H locs) : ∀ t : State, t.heap = H → s.WarmedH t.vm → Qx D A o args s (.returned ov) t := fun t ht _ => ⟨ov, B, ho, rfl, ⟨w, hB, by rw [ht]; exact hP, hD⟩, hS.F ht⟩
theorem Cx_iret {v : Int32} (ho : o = .inr B) (hB : B (some (.int v)) w) (hc : cells ≤ mc) (hs : slots ≤ ms) (hexec : p.tables.exec = Jvm.exec) (hb : c.code = cc) (hr : meth.sig.returnType = some .int) (hP : va_P D vwCl w H) (hD : va_D A w) (hS : va_S A s.heap H locs) (hdg : decode cc pc = .ok (.ireturn, 1)) (hlocks : meth.locks = false) :
    W p l e R s m args below meth c H locs cells slots (vx_MQ below (Qx D A o) (Xx D A w1 o) args s mc ms A) (F0 m pc ls [.int v]) :=
  W.widen hc hs (vx_ret (W.iret hexec hb hr (Cx_q ho hB hP hD hS) hS.2.2 hdg hlocks))
theorem Cx_zret {v : Int32} {ty : FieldType} (ho : o = .inr B) (hB : B (some (.int v)) w) (hc : cells ≤ mc) (hs : slots ≤ ms) (hexec : p.tables.exec = Jvm.exec) (hb : c.code = cc) (hr : meth.sig.returnType = some ty) (hn : narrow ty (.int v) = .int v) (hP : va_P D vwCl w H) (hD : va_D A w) (hS : va_S A s.heap H locs) (hdg : decode cc pc = .ok (.ireturn, 1)) (hlocks : meth.locks = false) :
    W p l e R s m args below meth c H locs cells slots (vx_MQ below (Qx D A o) (Xx D A w1 o) args s mc ms A) (F0 m pc ls [.int v]) :=
  W.widen hc hs (vx_ret (W.zret hexec hb hr hn (Cx_q ho hB hP hD hS) hS.2.2 hdg hlocks))
theorem Cx_fret {v : UInt32} (ho : o = .inr B) (hB : B (some (.float v)) w) (hc : cells ≤ mc) (hs : slots ≤ ms) (hexec : p.tables.exec = Jvm.exec) (hb : c.code = cc) (hr : meth.sig.returnType = some .float) (hP : va_P D vwCl w H) (hD : va_D A w) (hS : va_S A s.heap H locs) (hdg : decode cc pc = .ok (.freturn, 1)) (hlocks : meth.locks = false) :
    W p l e R s m args below meth c H locs cells slots (vx_MQ below (Qx D A o) (Xx D A w1 o) args s mc ms A) (F0 m pc ls [.float v]) :=
  W.widen hc hs (vx_ret (W.fret hexec hb hr (Cx_q ho hB hP hD hS) hS.2.2 hdg hlocks))
theorem Cx_lret {v : Int64} (ho : o = .inr B) (hB : B (some (.long v)) w) (hc : cells ≤ mc) (hs : slots ≤ ms) (hexec : p.tables.exec = Jvm.exec) (hb : c.code = cc) (hr : meth.sig.returnType = some .long) (hP : va_P D vwCl w H) (hD : va_D A w) (hS : va_S A s.heap H locs) (hdg : decode cc pc = .ok (.lreturn, 1)) (hlocks : meth.locks = false) :
    W p l e R s m args below meth c H locs cells slots (vx_MQ below (Qx D A o) (Xx D A w1 o) args s mc ms A) (F0 m pc ls [.long v]) :=
  W.widen hc hs (vx_ret (W.lret hexec hb hr (Cx_q ho hB hP hD hS) hS.2.2 hdg hlocks))
theorem Cx_vret (ho : o = .inr B) (hB : B (none) w) (hc : cells ≤ mc) (hs : slots ≤ ms) (hexec : p.tables.exec = Jvm.exec) (hb : c.code = cc) (hr : meth.sig.returnType = none) (hP : va_P D vwCl w H) (hD : va_D A w) (hS : va_S A s.heap H locs) (hdg : decode cc pc = .ok (.return_, 1)) (hlocks : meth.locks = false) :
    W p l e R s m args below meth c H locs cells slots (vx_MQ below (Qx D A o) (Xx D A w1 o) args s mc ms A) (F0 m pc ls []) :=
  W.widen hc hs (vx_ret (W.vret hexec hb hr (Cx_q ho hB hP hD hS) hS.2.2 hdg hlocks))
theorem Cx_aret {v : Value} {rt : FieldType} (ho : o = .inr B) (hB : B (some v) w) (hc : cells ≤ mc) (hs : slots ≤ ms) (hexec : p.tables.exec = Jvm.exec) (hb : c.code = cc) (hr : meth.sig.returnType = some rt) (hrt : (∃ n, rt = .object n) ∨ ∃ t, rt = .array t) (hv : v = .null ∨ ∃ a, v = .ref a) (hP : va_P D vwCl w H) (hD : va_D A w) (hS : va_S A s.heap H locs) (hdg : decode cc pc = .ok (.areturn, 1)) (hlocks : meth.locks = false) :
    W p l e R s m args below meth c H locs cells slots (vx_MQ below (Qx D A o) (Xx D A w1 o) args s mc ms A) (F0 m pc ls [v]) :=
  W.widen hc hs (vx_ret (W.aret hexec hb hr hrt hv (Cx_q ho hB hP hD hS) hS.2.2 hdg hlocks))
/-- 'throw new E(text)', the world as it was -/
theorem Cx_throw {own cls text : String} {names : List String} {ik is ic : Nat} (ho : o = .inl cls) (hexec : p.tables.exec = Jvm.exec) (hb : c.code = cc) (hl : l.stackTraces = false) (hown : s.vm.findClass own = some m.cls) (hcls : Bundle.fit cls = true) (hnames : ∀ n ∈ names, Bundle.fit n = true)
    (hk : (Cond.classLink own ik cls).before args s = true) (hini : (Cond.initialized cls).before args s = true) (hstr : ∃ sa : Nat, vk_R own is text sa s) (hat : ∀ w ∈ vx_atS own ic cls names, w.before args s = true)
    (hgood : ∀ w ∈ Cond.classLink own ik cls :: Cond.initialized cls :: vx_atS own ic cls names, vx_ot w = true)
    (hG : gX A s) (hP : va_P D vwCl w1 H) (hS : va_S A s.heap H locs) (hsize : ls.size = c.maxLocals)
    (d0 : decode cc pc = .ok (.new ik, 3)) (d3 : decode cc (pc + 3) = .ok (.dup, 1)) (d4 : decode cc (pc + 4) = .ok (.ldc is, 2)) (d6 : decode cc (pc + 6) = .ok (.invokespecial ic, 3)) (d9 : decode cc (pc + 9) = .ok (.athrow, 1))
    (htab : ∀ x ∈ c.exceptionTable.toList, False)
    (hRframes : names.length + 3 < R.frames) (hRlocals : (rest.map fun v => v.category).sum + (13 * (names.length + 1) + 43) ≤ R.locals) (hRcells : cells + 1 ≤ R.cells) (hRslots : slots + 6 ≤ R.slots) (hlocks : meth.locks = false)
    (hc : cells + 1 ≤ mc) (hs : slots + 6 ≤ ms) :
    W p l e R s m args below meth c H locs cells slots (vx_MQ below (Qx D A o) (Xx D A w1 o) args s mc ms A) (F0 m pc ls rest) := by
  obtain ⟨sa, hstr⟩ := hstr
  refine vx_throwS hexec hb hl hown hcls hnames hk hini hstr hat hgood hG.2.1.1 hG.2.1.2 hS hsize d0 d3 d4 d6 d9 (fun x hx => (htab x hx).elim) hRframes hRlocals hRcells hRslots hlocks ?_ hS.2.2 hc hs
  intro t _ h1 h2
  exact ⟨ho, hP.kept (fun k q hq => h2 q.1 (hP k q hq).lt), Nat.le_trans hS.1 h1, fun q h3 h4 => by rw [h2 q (Nat.lt_of_lt_of_le h3 hS.1)]; exact hS.2.1 q h3 h4⟩
theorem Px_blind {tys : List (ClassId × FieldType)} {av : List Value} {w1 : va_W} {sz : Nat} : FrameBlind (va_Pc av (Px D tys w1 sz)) := by
  intro a U g mk h
  obtain ⟨h1, ⟨h2, h3, h4, h5⟩, h6⟩ := h
  exact ⟨h1, ⟨h2, h3, va_K.moved (u := U) (U := U.calling g mk a) (Vm.Alike.refl U.vm) h4, h5⟩, gX_call h6⟩
theorem Px_at {tys : List (ClassId × FieldType)} {av : List Value} {w0 wc : va_W} {A0 : Nat → Prop} (hK : va_K D vwCl tys s) (hG : gX A0 s) (hP : va_P D vwCl w0 H) (hD : va_D A0 w0) (hS : va_S A0 s.heap H locs) (hA : ∀ q : Nat, s.heap.size ≤ q → A0 q) (is : List Nat) (hi : is.map (fun i => w0[i]?) = wc.map some) (hn : va_nd is = true) : ∀ U : State, U.heap = H → s.WarmedH U.vm → va_Pc av (Px D tys wc H.size) av.toArray U := by
  intro U hU hW
  exact ⟨rfl, (Pk_at (av := av) hK hP hD is hi hn U hU hW).2, gX_at hG hS (va_free hD hS hA is hi) hU hW⟩
/-- behind a call of a method that may throw -/
theorem Cx_go {A0 : Nat → Prop} {w0 wc : va_W} {st0 : List Value} {oc : Oc} {mc2 ms2 : Nat} {a : Array Value} (hr : vx_Run p l e R s m args below meth c H locs cells slots mc2 ms2 (F0 m pc ls st0) rest (Qx D (va_A wc H.size) oc a) (Xx D (va_A wc H.size) wc oc) (va_A wc H.size))
    (hP : va_P D vwCl w0 H) (hD : va_D A0 w0) (hS : va_S A0 H0 H locs) (hA : ∀ q : Nat, H0.size ≤ q → A0 q) (is : List Nat) (hi : is.map (fun i => w0[i]?) = wc.map some)
    (kx : ∀ (E : String) (ce : Cell) (q9 : Addr) (H1 : Heap) (locs1 : List Loc), oc = .inl E → va_P D vwCl w0 H1 → va_S A0 H0 H1 locs1 → H1[q9]? = some ce → ce.vm = .none → s.vm.findClass E = some ce.cls → vx_W p l e R s m args below meth c H1 locs1 (cells + mc2) (slots + ms2) Q (F0 m pc ls rest) q9)
    (kk : ∀ (ov : Option Value) (B : Option Value → va_W → Prop) (wc' : va_W) (H1 : Heap) (locs1 : List Loc), oc = .inr B → B ov wc' → va_P D vwCl wc' H1 → va_D (va_A wc H.size) wc' → (∀ q : Nat, q < H.size → ¬ va_A wc H.size q → H1[q]? = H[q]?) → (∀ q, va_A wc H.size q → A0 q) → va_S A0 H0 H1 locs1 → W p l e R s m args below meth c H1 locs1 (cells + mc2) (slots + ms2) Q (F0 m (pc + 3) ls (ov.toList ++ rest))) : W p l e R s m args below meth c H locs cells slots Q (F0 m pc ls st0) := by
  intro T hT X
  have hF := va_free hD hS hA is hi
  have key : ∀ {st₀ t T' : State} {L : List Loc}, st₀.heap = H → T'.heap = t.heap → (∀ q ∈ L, va_A wc H.size q.base) → va_F (va_A wc H.size) st₀ t → (∀ q : Nat, q < H.size → ¬ va_A wc H.size q → T'.heap[q]? = H[q]?) ∧ va_S A0 H0 T'.heap (locs ++ L) := by
    intro st₀ t T' L h0 e1 hL hf
    obtain ⟨hz, hk⟩ := hf
    rw [h0] at hz hk
    refine ⟨fun q h1 h2 => by rw [e1]; exact hk q h1 h2, Nat.le_trans hS.1 (by rw [e1]; exact hz), fun q h1 h2 => by rw [e1, hk q (Nat.lt_of_lt_of_le h1 hS.1) (fun z => h2 (hF q z))]; exact hS.2.1 q h1 h2, fun q hq => ?_⟩
    rcases List.mem_append.mp hq with h | h
    · exact hS.2.2 q h
    · exact hF _ (hL q h)
  rcases hr T hT X with ⟨v, st₀, t, T', L, h0, X', hL, e1, e2, ⟨ov, B, ho, hv, ⟨wc', hB, hP1, hD1⟩, hf⟩, st⟩ | ⟨q, st₀, t, T', L, E, ce, h0, X', hL, e1, e2, ⟨ho, hP1, hf⟩, hce, hcv, hcl, st⟩
  · cases hv
    obtain ⟨k1, k2⟩ := key h0 e1 hL hf
    obtain ⟨t2, a1, b1⟩ := kk v B wc' T'.heap (locs ++ L) ho hB (by rw [e1]; exact hP1) hD1 k1 hF k2 T' rfl X'
    exact ⟨t2, st t2 a1, b1⟩
  · obtain ⟨k1, k2⟩ := key h0 e1 hL hf
    have hP2 : va_P D vwCl w0 T'.heap := fun k q hq => by
      by_cases hm : ∃ j : Nat, is[j]? = some k
      · obtain ⟨j, hj⟩ := hm
        have h1 : (is.map (fun i => w0[i]?))[j]? = some (w0[k]?) := by rw [List.getElem?_map, hj]; rfl
        rw [hi, List.getElem?_map, hq] at h1
        cases hx : wc[j]? with
        | none => rw [hx] at h1; cases h1
        | some q0 =>
          rw [hx] at h1
          have h2 : q0 = q := Option.some.inj (Option.some.inj h1)
          rw [e1]
          exact h2 ▸ hP1 j q0 hx
      · refine (hP k q hq).kept (k1 q.1 (hP k q hq).lt fun h => ?_)
        rcases h with ⟨k2, e, h⟩ | h
        · have h1 : (is.map (fun i => w0[i]?))[k2]? = some (some (q.1, e)) := by rw [hi, List.getElem?_map, h]; rfl
          rw [List.getElem?_map] at h1
          cases hik : is[k2]? with
          | none => rw [hik] at h1; cases h1
          | some i =>
            rw [hik] at h1
            exact hm ⟨k2, (hD.1 k i q (q.1, e) hq (Option.some.inj h1) rfl) ▸ hik⟩
        · have := (hP k q hq).lt
          omega
    obtain ⟨t2, a1, b1⟩ := kx E ce q T'.heap (locs ++ L) ho hP2 k2 (by rw [e1]; exact hce) hcv hcl T' rfl X'
    exact ⟨t2, st.trans a1, b1⟩
/-- it throws, and so do we -/
theorem Cx_thru {w0 wc : va_W} {st0 : List Value} {oc : Oc} {mc2 ms2 : Nat} {E : String} {a : Array Value} (ho : o = .inl E) (hoc : oc = .inl E) (hr : vx_Run p l e R s m args below meth c H locs cells slots mc2 ms2 (F0 m pc ls st0) rest (Qx D (va_A wc H.size) oc a) (Xx D (va_A wc H.size) wc oc) (va_A wc H.size))
    (hP : va_P D vwCl w0 H) (hD : va_D A w0) (hS : va_S A s.heap H locs) (hA : ∀ q : Nat, s.heap.size ≤ q → A q) (is : List Nat) (hi : is.map (fun i => w0[i]?) = wc.map some) (htab : ∀ x ∈ c.exceptionTable.toList, False) (hlocks : meth.locks = false) (hc : cells + mc2 ≤ mc) (hs : slots + ms2 ≤ ms) : W p l e R s m args below meth c H locs cells slots (vx_MQ below (Qx D A o) (Xx D A w0 o) args s mc ms A) (F0 m pc ls st0) := by
  refine Cx_go hr hP hD hS hA is hi ?_ ?_
  · intro E2 ce q9 H1 locs1 h1 hP1 hS1 hce hcv hcl
    rw [hoc] at h1
    cases h1
    exact vx_out (fun x hx => (htab x hx).elim) hlocks hce hcv hcl (fun t ht _ => ⟨ho, by rw [ht]; exact hP1, hS1.F ht⟩) hS1.2.2 hc hs
  · intro ov B wc' H1 locs1 h1
    rw [hoc] at h1
    cases h1
/-- it answers, in place -/
theorem Cx_in {A0 : Nat → Prop} {w0 wc wc' w0' : va_W} {st0 : List Value} {oc : Oc} {ov : Option Value} {mc2 ms2 : Nat} {a : Array Value} (hoc : oc = .inr (fun ov2 w => ov2 = ov ∧ w = wc')) (hr : vx_Run p l e R s m args below meth c H locs cells slots mc2 ms2 (F0 m pc ls st0) rest (Qx D (va_A wc H.size) oc a) (Xx D (va_A wc H.size) wc oc) (va_A wc H.size))
    (hP : va_P D vwCl w0 H) (hD : va_D A0 w0) (hS : va_S A0 H0 H locs) (hA : ∀ q : Nat, H0.size ≤ q → A0 q) (is : List Nat) (hi : is.map (fun i => w0[i]?) = wc.map some) (ha : wc'.map Prod.fst = wc.map Prod.fst) (hs : va_sets w0 is wc' = w0')
    (kk : ∀ (H1 : Heap) (locs1 : List Loc), va_P D vwCl w0' H1 → va_D A0 w0' → va_S A0 H0 H1 locs1 → W p l e R s m args below meth c H1 locs1 (cells + mc2) (slots + ms2) Q (F0 m (pc + 3) ls (ov.toList ++ rest))) : W p l e R s m args below meth c H locs cells slots Q (F0 m pc ls st0) := by
  refine Cx_go hr hP hD hS hA is hi ?_ ?_
  · intro E2 ce q9 H1 locs1 h1
    rw [hoc] at h1
    cases h1
  · intro ov2 B wc2 H1 locs1 h1 hB hP1 hD1 hk hF hS1
    rw [hoc] at h1
    cases h1
    obtain ⟨e1, e2⟩ := hB
    subst e1
    subst e2
    obtain ⟨hP', hD'⟩ := va_inplace hP hD is hi ha hs hk hP1
    exact kk H1 locs1 hP' hD' hS1
end OWNX
theorem set_appR3 {A B : va_W} {q q' : Nat} {y : Nat × va_E} (h : q = A.length + q') : (A ++ B).set q y = A ++ B.set q' y := by
  rw [List.set_append_right _ _ (by omega), h, Nat.add_sub_cancel_left]
/-! a call's cells, group by group -/
theorem st_hi {k : Nat → ClassId} {a : Nat → Nat} {S : StV} : [0, 1, 2, 3, 4, 5, 6, 7, 8, 9, 10].map (fun i => (stW k a S)[i]?) = (stW k a S).map some := rfl
theorem st_all {k : Nat → ClassId} {a : Nat → Nat} {S S' : StV} : va_sets (stW k a S) [0, 1, 2, 3, 4, 5, 6, 7, 8, 9, 10] (stW k a S') = stW k a S' := rfl
theorem tr_hi {k : Nat → ClassId} {cA nA tA : Nat → Nat} {T : TrV} : [0, 1, 2, 3].map (fun i => (trW k cA nA tA T)[i]?) = (trW k cA nA tA T).map some := rfl
theorem tr_all {k : Nat → ClassId} {cA nA tA : Nat → Nat} {T T' : TrV} : va_sets (trW k cA nA tA T) [0, 1, 2, 3] (trW k cA nA tA T') = trW k cA nA tA T' := rfl
theorem hi_L {A B w : va_W} {is : List Nat} (hb : is.all (fun i => Nat.blt i A.length) = true) (h : is.map (fun i => A[i]?) = w.map some) : is.map (fun i => (A ++ B)[i]?) = w.map some := by
  rw [← h]
  apply List.map_congr_left
  intro i hi
  have := List.all_eq_true.mp hb i hi
  rw [List.getElem?_append_left (Nat.blt_eq.mp this)]
theorem hi_R {A B w : va_W} {is js : List Nat} (hj : js = is.map (A.length + ·)) (h : is.map (fun i => B[i]?) = w.map some) : js.map (fun i => (A ++ B)[i]?) = w.map some := by
  rw [hj, List.map_map, ← h]
  apply List.map_congr_left
  intro i _
  show (A ++ B)[A.length + i]? = B[i]?
  rw [List.getElem?_append_right (by omega), Nat.add_sub_cancel_left]
theorem hi_2 {w0 u v : va_W} {is js : List Nat} (h1 : is.map (fun i => w0[i]?) = u.map some) (h2 : js.map (fun i => w0[i]?) = v.map some) : (is ++ js).map (fun i => w0[i]?) = (u ++ v).map some := by
  rw [List.map_append, List.map_append, h1, h2]
theorem vs_L {B : va_W} : ∀ {is : List Nat} {A A' w : va_W}, is.all (fun i => Nat.blt i A.length) = true → va_sets A is w = A' → va_sets (A ++ B) is w = A' ++ B
  | [], A, A', w, _, h => by rw [va_sets_nil] at h ⊢; rw [h]
  | i :: is, A, A', [], _, h => by
    have : A = A' := h
    rw [← this]; rfl
  | i :: is, A, A', q :: qs, hb, h => by
    show va_sets ((A ++ B).set i q) is qs = A' ++ B
    simp only [List.all_cons, Bool.and_eq_true] at hb
    rw [List.set_append_left _ _ (Nat.blt_eq.mp hb.1)]
    exact vs_L (by rw [List.length_set]; exact hb.2) h
theorem vs_R0 {A : va_W} : ∀ {is : List Nat} {B B' w : va_W}, va_sets B is w = B' → va_sets (A ++ B) (is.map (A.length + ·)) w = A ++ B'
  | [], B, B', w, h => by rw [va_sets_nil] at h; rw [List.map_nil, va_sets_nil, h]
  | i :: is, B, B', [], h => by
    have : B = B' := h
    rw [← this]; rfl
  | i :: is, B, B', q :: qs, h => by
    show va_sets ((A ++ B).set (A.length + i) q) (is.map (A.length + ·)) qs = A ++ B'
    rw [List.set_append_right _ _ (by omega), Nat.add_sub_cancel_left]
    exact vs_R0 h
theorem vs_R {A B B' w : va_W} {is js : List Nat} (hj : js = is.map (A.length + ·)) (h : va_sets B is w = B') : va_sets (A ++ B) js w = A ++ B' := by rw [hj]; exact vs_R0 h
theorem vs_2 {v w2 : va_W} {js : List Nat} : ∀ {is : List Nat} {w u w1 : va_W}, is.length = u.length → va_sets w is u = w1 → va_sets w1 js v = w2 → va_sets w (is ++ js) (u ++ v) = w2
  | [], w, [], w1, _, h1, h2 => by
    have : w = w1 := h1
    rw [this]; exact h2
  | [], w, q :: u, w1, hl, _, _ => by simp at hl
  | i :: is, w, [], w1, hl, _, _ => by simp at hl
  | i :: is, w, q :: u, w1, hl, h1, h2 => vs_2 (is := is) (w := w.set i q) (by simpa using hl) h1 h2
/-- the world when it throws, the world when it answers -/
def sxW {α β γ : Type} (o : (String × α) ⊕ β) (f : String × α → γ) (g : γ) : γ := match o with
  | .inl q => f q
  | .inr _ => g
