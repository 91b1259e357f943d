/-! ===== END ===== -/
/-! ===== BEGIN a constructor that throws (launches without stack traces) ===== -/
section VXIA
variable {p : Program} {l : Launch} {e : Env} {R : Room} {s : State} {m : MethodId} {args : Array Value} {below : List Frame} {meth : Method} {c : Code} {T : State} {locs : List Loc} {cells slots : Nat}
theorem vx_callI (X : Stand p l e R s m args below meth c T locs cells slots) (hexec : p.tables.exec = Jvm.exec) {own : String} {index : Nat} {y : MethodName} {bytes : ByteArray} {maxL : Nat}
    (hown : s.vm.findClass own = some m.cls) (hy1 : y.name = "<init>") (hlink : (Cond.methodLink own index y).before args s = true) (hinst : (Cond.instanceMethod y).before args s = true)
    (hcode : (Cond.code y bytes maxL none).before args s = true) (hy : y.cls ≠ "java/lang/invoke/MethodHandle" ∧ y.cls ≠ "java/lang/invoke/VarHandle")
    {W9 : Nat} {Pre : Pt → Array Value → Prop} {Post : Pt → Array Value → Option Value → Pt → Prop} {PostX : Pt → Array Value → Addr → Pt → Prop} (hK : vx_Back l R p e below s args y 3 W9 Pre Post PostX)
    {g : JFrame} (hg : g.method = m) (hsize : g.locals.size = c.maxLocals) {a : Addr} {argsL rest : List Value} (hlen : ∀ sig, parseMethodDescriptor y.desc = some sig → argsL.length = sig.parameters.length)
    (hstack : g.stack = argsL.reverse ++ .ref a :: rest) (hW : 2 * g.monitorRoom + (rest.map fun v => v.category).sum ≤ W9) (hdg : decode c.code g.pc = .ok (.invokespecial index, 3))
    (hpre : ∀ vm₁, s.WarmedH vm₁ → Pre ⟨T.setVm vm₁, locs, cells, slots⟩ (Value.ref a :: argsL).toArray) :
    (∃ (v : Option Value) (vm₁ : Vm) (B : Pt), s.WarmedH vm₁ ∧ Stand p l e R s m args below meth c B.U B.locs B.cells B.slots ∧ Post ⟨T.setVm vm₁, locs, cells, slots⟩ (Value.ref a :: argsL).toArray v B ∧
      ∀ target, Steps p.tables e below (B.U.setTop { g with pc := g.pc + 3, stack := v.toList ++ rest }) target → Steps p.tables e below (T.setTop g) target) ∨
    (∃ (q : Addr) (vm₁ : Vm) (B : Pt), s.WarmedH vm₁ ∧ Stand p l e R s m args below meth c B.U B.locs B.cells B.slots ∧ PostX ⟨T.setVm vm₁, locs, cells, slots⟩ (Value.ref a :: argsL).toArray q B ∧
      Steps p.tables e below (T.setTop g) ((B.U.setTop { g with stack := rest }).pushFrame (.throwing q))) := by
  subst hg
  have hpl : e.platform.magicAccessors = ({} : Platform).magicAccessors := by rw [X.admits.platform]
  obtain ⟨mk, methM, cM, kP, vm₁, hnamed, hmethM, hcodeM, -, hlocalsM, -, hkP, -, hW₁, hstep₁⟩ := Steps.initColdArgs (e := e) X.here hexec X.warmed hpl hown hy1 hy hlink hinst hcode (f := g) rfl hlen hstack hdg
  have X₁ := X.noted hW₁
  rcases hK g.method meth c ⟨T.setVm vm₁, locs, cells, slots⟩ { g with stack := rest } (.invokespecial index) mk (Value.ref a :: argsL).toArray X₁ rfl hsize hdg hW (X₁.named hnamed) (hpre vm₁ X₁.warmed) with ⟨v, B, X', hpost, hsteps⟩ | ⟨q, B, X', hpost, hsteps⟩
  · exact Or.inl ⟨v, vm₁, B, X₁.warmed, X', hpost, fun target h => hstep₁ _ fun acts => by rw [doInvoke_state]; exact hsteps.trans h⟩
  · exact Or.inr ⟨q, vm₁, B, X₁.warmed, X', hpost, hstep₁ _ fun acts => by rw [doInvoke_state]; exact hsteps⟩
end VXIA
section VXIB
variable {p : Program} {l : Launch} {e : Env} {R : Room} {s : State} {m : MethodId} {args : Array Value} {below : List Frame} {meth : Method} {c : Code} {H : Heap} {locs : List Loc} {cells slots : Nat}
variable {y : MethodName} {bytes cc : ByteArray} {maxL nL mc ms n index : Nat} {ret : Option FieldType} {ws : List Cond} {rm : Room} {Pc : Array Value → State → Prop} {Qc : Array Value → State → Outcome → State → Prop} {XC : String → State → State → Prop} {free : Addr → Prop} {Ts : List Cond} {own C : String} {b : Addr} {As rest : List Value} {g : JFrame}
theorem vx_runI (S : CallFix p m c cc nL s args Ts own) (hM : vx_Met l y ws rm Pc Qc XC mc ms free) (cw : CallB R s args own index y bytes maxL none ws rm mc ms n ∧ y.name = "<init>" ∧ (Cond.instanceMethod y).before args s = true) (hp : PreS s H Pc (.ref b :: As))
    (hg : g.method = m) (hn : As.length = n) (hsize : g.locals.size = nL) (hstack : g.stack = As.reverse ++ .ref b :: rest) (hW : 2 * g.monitorRoom + (rest.map fun v => v.category).sum ≤ 8) (hdg : decode cc g.pc = .ok (.invokespecial index, 3)) (hf : cells + mc ≤ R.cells ∧ slots + ms ≤ R.slots) :
    vx_Run p l e R s m args below meth c H locs cells slots mc ms g rest (Qc (Value.ref b :: As).toArray) XC free := by
  have hK : vx_Back l R p e below s args y 3 8 (PreOf R mc ms Pc) (PostOf Qc mc ms free) (vx_Post XC mc ms free) := vx_callBack cw.1 hM hp.1
  obtain ⟨⟨-, -, -, -, -, -, hcode, -, hy, hlen, hl⟩, hy1, hin⟩ := cw
  obtain ⟨hx, hb, hml, ho, -⟩ := S
  have hPc := hp.2
  intro T hT X
  rcases vx_callI X hx (bytes := bytes) (maxL := maxL) ho hy1 hl hin hcode hy hK hg (hsize.trans hml.symm) (a := b) (argsL := As) (rest := rest) (fun sig h => hn.trans (hlen sig h)) hstack hW (by rw [hb]; exact hdg)
    (fun vm₁ hW₁ => ⟨hf.1, hf.2, hPc (T.setVm vm₁) hT hW₁⟩) with ⟨v, vm₁, ⟨U', l2, c2, s2⟩, hW₁, X', ⟨g', mk, t, L, e1, e2, hq, h1, hL, h2, h3⟩, st⟩ | ⟨q, vm₁, ⟨U', l2, c2, s2⟩, hW₁, X', ⟨g', mk, t, L, E, ce, e1, e2, hq, hce, hcv, hcl, h1, hL, h2, h3⟩, st⟩
  · dsimp only [Pt.U, Pt.locs, Pt.cells, Pt.slots] at X' e1 e2 h1 h2 h3 st
    subst h1; subst h2; subst h3
    exact Or.inl ⟨v, (T.setVm vm₁).calling g' mk (Value.ref b :: As).toArray, t, U', L, hT, X', hL, e1, e2, hq, st⟩
  · dsimp only [Pt.U, Pt.locs, Pt.cells, Pt.slots] at X' e1 e2 h1 h2 h3 st hcl
    subst h1; subst h2; subst h3
    exact Or.inr ⟨q, (T.setVm vm₁).calling g' mk (Value.ref b :: As).toArray, t, U', L, E, ce, hT, X', hL, e1, e2, hq, hce, hcv, vx_cls hW₁ hcl, st⟩
end VXIB
/-! ===== END ===== -/
/-! ===== BEGIN a private constructor of a nest mate that throws ===== -/
section VXIC
variable {p : Program} {l : Launch} {e : Env} {R : Room} {s : State} {m : MethodId} {args : Array Value} {below : List Frame} {meth : Method} {c : Code} {T : State} {locs : List Loc} {cells slots : Nat}
theorem vx_callIN (X : Stand p l e R s m args below meth c T locs cells slots) (hexec : p.tables.exec = Jvm.exec) {own : String} {index : Nat} {host : String} {y : MethodName} {bytes : ByteArray} {maxL : Nat}
    (hown : s.vm.findClass own = some m.cls) (hy1 : y.name = "<init>") (hlink : (Cond.methodLinkNest own index y host).before args s = true) (hinst : (Cond.instanceMethod y).before args s = true)
    (hcode : (Cond.code y bytes maxL none).before args s = true) (hy : y.cls ≠ "java/lang/invoke/MethodHandle" ∧ y.cls ≠ "java/lang/invoke/VarHandle")
    {W9 : Nat} {Pre : Pt → Array Value → Prop} {Post : Pt → Array Value → Option Value → Pt → Prop} {PostX : Pt → Array Value → Addr → Pt → Prop} (hK : vx_Back l R p e below s args y 3 W9 Pre Post PostX)
    {g : JFrame} (hg : g.method = m) (hsize : g.locals.size = c.maxLocals) {a : Addr} {argsL rest : List Value} (hlen : ∀ sig, parseMethodDescriptor y.desc = some sig → argsL.length = sig.parameters.length)
    (hstack : g.stack = argsL.reverse ++ .ref a :: rest) (hW : 2 * g.monitorRoom + (rest.map fun v => v.category).sum ≤ W9) (hdg : decode c.code g.pc = .ok (.invokespecial index, 3))
    (hpre : ∀ vm₁, s.WarmedH vm₁ → Pre ⟨T.setVm vm₁, locs, cells, slots⟩ (Value.ref a :: argsL).toArray) :
    (∃ (v : Option Value) (vm₁ : Vm) (B : Pt), s.WarmedH vm₁ ∧ Stand p l e R s m args below meth c B.U B.locs B.cells B.slots ∧ Post ⟨T.setVm vm₁, locs, cells, slots⟩ (Value.ref a :: argsL).toArray v B ∧
      ∀ target, Steps p.tables e below (B.U.setTop { g with pc := g.pc + 3, stack := v.toList ++ rest }) target → Steps p.tables e below (T.setTop g) target) ∨
    (∃ (q : Addr) (vm₁ : Vm) (B : Pt), s.WarmedH vm₁ ∧ Stand p l e R s m args below meth c B.U B.locs B.cells B.slots ∧ PostX ⟨T.setVm vm₁, locs, cells, slots⟩ (Value.ref a :: argsL).toArray q B ∧
      Steps p.tables e below (T.setTop g) ((B.U.setTop { g with stack := rest }).pushFrame (.throwing q))) := by
  subst hg
  have hpl : e.platform.magicAccessors = ({} : Platform).magicAccessors := by rw [X.admits.platform]
  obtain ⟨mk, methM, cM, kP, vm₁, hnamed, hmethM, hcodeM, -, hlocalsM, -, hkP, -, hW₁, hstep₁⟩ := Steps.initColdArgsNest (e := e) X.here hexec X.warmed hpl hown hy1 hy hlink hinst hcode (f := g) rfl hlen hstack hdg
  have X₁ := X.noted hW₁
  rcases hK g.method meth c ⟨T.setVm vm₁, locs, cells, slots⟩ { g with stack := rest } (.invokespecial index) mk (Value.ref a :: argsL).toArray X₁ rfl hsize hdg hW (X₁.named hnamed) (hpre vm₁ X₁.warmed) with ⟨v, B, X', hpost, hsteps⟩ | ⟨q, B, X', hpost, hsteps⟩
  · exact Or.inl ⟨v, vm₁, B, X₁.warmed, X', hpost, fun target h => hstep₁ _ fun acts => by rw [doInvoke_state]; exact hsteps.trans h⟩
  · exact Or.inr ⟨q, vm₁, B, X₁.warmed, X', hpost, hstep₁ _ fun acts => by rw [doInvoke_state]; exact hsteps⟩
end VXIC
section VXID
variable {p : Program} {l : Launch} {e : Env} {R : Room} {s : State} {m : MethodId} {args : Array Value} {below : List Frame} {meth : Method} {c : Code} {H : Heap} {locs : List Loc} {cells slots : Nat}
theorem vx_runIN {y : MethodName} {bytes cc : ByteArray} {maxL nL mc ms n index : Nat} {ws : List Cond} {rm : Room} {Pc : Array Value → State → Prop} {Qc : Array Value → State → Outcome → State → Prop} {XC : String → State → State → Prop} {free : Addr → Prop} {Ts : List Cond} {own host : String} {b : Addr} {As rest : List Value} {g : JFrame}
    (S : CallFix p m c cc nL s args Ts own) (hM : vx_Met l y ws rm Pc Qc XC mc ms free) (cw : va_CN R s args own index y host bytes maxL none ws rm mc ms n ∧ y.name = "<init>" ∧ (Cond.instanceMethod y).before args s = true) (hp : PreS s H Pc (.ref b :: As))
    (hg : g.method = m) (hn : As.length = n) (hsize : g.locals.size = nL) (hstack : g.stack = As.reverse ++ .ref b :: rest) (hW : 2 * g.monitorRoom + (rest.map fun v => v.category).sum ≤ 8) (hdg : decode cc g.pc = .ok (.invokespecial index, 3)) (hf : cells + mc ≤ R.cells ∧ slots + ms ≤ R.slots) :
    vx_Run p l e R s m args below meth c H locs cells slots mc ms g rest (Qc (Value.ref b :: As).toArray) XC free := by
  obtain ⟨⟨⟨hrc, hrs, hfr, hlo, hws, hcw⟩, hcode, hini, hy, hlen, hl⟩, hx1, hx2⟩ := cw
  have hK : vx_Back l R p e below s args y 3 8 (PreOf R mc ms Pc) (PostOf Qc mc ms free) (vx_Post XC mc ms free) := vx_back (bytes := bytes) (maxL := maxL) (ret := none) hM hp.1 hrc hrs hfr hlo hws hcw (fun a' U hW => word_at hW (Or.inl (by first | rfl | simp [Cond.onTables, Cond.keeps, Cond.steady])) hini)
  obtain ⟨hx, hb, hml, ho, -⟩ := S
  have hPc := hp.2
  intro T hT X
  rcases vx_callIN X hx (bytes := bytes) (maxL := maxL) ho hx1 hl hx2 hcode hy hK hg (hsize.trans hml.symm) (a := b) (argsL := As) (rest := rest) (fun sig h => hn.trans (hlen sig h)) hstack hW (by rw [hb]; exact hdg)
    (fun vm₁ hW₁ => ⟨hf.1, hf.2, hPc (T.setVm vm₁) hT hW₁⟩) with ⟨v, vm₁, ⟨U', l2, c2, s2⟩, hW₁, X', ⟨g', mk, t, L, e1, e2, hq, h1, hL, h2, h3⟩, st⟩ | ⟨q, vm₁, ⟨U', l2, c2, s2⟩, hW₁, X', ⟨g', mk, t, L, E, ce, e1, e2, hq, hce, hcv, hcl, h1, hL, h2, h3⟩, st⟩
  · dsimp only [Pt.U, Pt.locs, Pt.cells, Pt.slots] at X' e1 e2 h1 h2 h3 st
    subst h1; subst h2; subst h3
    exact Or.inl ⟨v, (T.setVm vm₁).calling g' mk (Value.ref b :: As).toArray, t, U', L, hT, X', hL, e1, e2, hq, st⟩
  · dsimp only [Pt.U, Pt.locs, Pt.cells, Pt.slots] at X' e1 e2 h1 h2 h3 st hcl
    subst h1; subst h2; subst h3
    exact Or.inr ⟨q, (T.setVm vm₁).calling g' mk (Value.ref b :: As).toArray, t, U', L, E, ce, hT, X', hL, e1, e2, hq, hce, hcv, vx_cls hW₁ hcl, st⟩
end VXID
/-! ===== END ===== -/
/-! a new state, a new object -/
def stI (g5 g50 : Nat → Int32) : StV := (2, 0, upd (upd (upd (upd (upd (fun _ => 0) 0 100) 1 90) 2 10) 3 0) 4 5, fun _ => 0, g5, fun _ => 0, fun _ => 0, g50, fun _ => 0, fun _ => 0, fun _ => 0, fun _ => 0)
def trI : TrV := (0, 0, 0, fun _ => 0, fun _ => 0, fun _ => 0)
/-- the rows of references to further states -/
abbrev poR (k : Nat → ClassId) (cA : Nat → Nat) (Q : Nat → Option ((Nat → Nat) × StV)) : va_W := [(cA 3, .inl (k 3, 3, .inr (.inr (.inr (.inr (fun j => (Q j).map fun e => e.1 0)))))), (cA 4, .inl (k 3, 14, .inr (.inr (.inr (.inr (fun j => (Q (3 + j)).map fun e => e.1 0)))))), (cA 5, .inl (k 3, 2, .inr (.inr (.inr (.inr (fun j => (Q (17 + j)).map fun e => e.1 0))))))]
theorem kcls_0 {D : va_G} {cl : List vw_C} {k : Nat → ClassId} {cA : ClassId} {s : State} (h : va_K D cl (tyK k) s) (h1 : va_K D cl (tyK k ++ [(cA, .int)]) s) : cA = k 0 := by
  have a : s.vm.findClass ("[" ++ FieldType.int.toString) = some (k 0) := (h.2 0 _ rfl).2
  have b : s.vm.findClass ("[" ++ FieldType.int.toString) = some cA := (h1.2 5 _ rfl).2
  exact Option.some.inj (b.symm.trans a)
theorem kcls_1 {D : va_G} {cl : List vw_C} {k : Nat → ClassId} {cA : ClassId} {s : State} (h : va_K D cl (tyK k) s) (h1 : va_K D cl (tyK k ++ [(cA, .char)]) s) : cA = k 1 := by
  have a : s.vm.findClass ("[" ++ FieldType.char.toString) = some (k 1) := (h.2 1 _ rfl).2
  have b : s.vm.findClass ("[" ++ FieldType.char.toString) = some cA := (h1.2 5 _ rfl).2
  exact Option.some.inj (b.symm.trans a)
theorem kcls_2 {D : va_G} {cl : List vw_C} {k : Nat → ClassId} {cA : ClassId} {s : State} (h : va_K D cl (tyK k) s) (h1 : va_K D cl (tyK k ++ [(cA, .boolean)]) s) : cA = k 2 := by
  have a : s.vm.findClass ("[" ++ FieldType.boolean.toString) = some (k 2) := (h.2 2 _ rfl).2
  have b : s.vm.findClass ("[" ++ FieldType.boolean.toString) = some cA := (h1.2 5 _ rfl).2
  exact Option.some.inj (b.symm.trans a)
theorem kcls_3 {D : va_G} {cl : List vw_C} {k : Nat → ClassId} {cA : ClassId} {s : State} (h : va_K D cl (tyK k) s) (h1 : va_K D cl (tyK k ++ [(cA, .object "EffectTrain$State")]) s) : cA = k 3 := by
  obtain ⟨_, _, _, _, _, a⟩ := (h.2 3 _ rfl).2
  obtain ⟨_, _, _, _, _, b⟩ := (h1.2 5 _ rfl).2
  exact Option.some.inj (b.symm.trans a)
set_option maxRecDepth 100000 in
set_option maxHeartbeats 4000000 in
theorem c_X0_init (l : Launch) (hst : l.stackTraces = false) (D : va_G) (k : Nat → ClassId) (h0 : Nat) (g5 g50 : Nat → Int32) (hg5 : f_J7_fill_53178 6 (fun _ => 0) 5 = some g5) (hg50 : f_J7_fill_53178 6 (fun _ => 0) 50 = some g50) : Cx l D (tyK k) yX0_init wsX0_init ({ frames := 1, cells := 10, slots := 63, locals := 23 } : Room) [.ref h0] [(h0, .inr (0, [.int 0, .null, .int 0, .null, .null, .null, .null, .null, .null, .null, .null, .null]))] [(h0, .inr (0, [.int 0, .null, .int 0, .null, .null, .null, .null, .null, .null, .null, .null, .null]))] (.inr (fun (ov : Option Value) (w : va_W) => ov = none ∧ ∃ a : Nat → Nat, a 0 = h0 ∧ w = stW k a (stI g5 g50))) := by
  obtain ⟨O, hO⟩ : ∃ O : Oc, O = .inr (fun (ov : Option Value) (w : va_W) => ov = none ∧ ∃ a : Nat → Nat, a 0 = h0 ∧ w = stW k a (stI g5 g50)) := ⟨_, rfl⟩
  rw [← hO]
  refine Cx_of (cc := cX0_init) (maxL := 1) (ret := none) (by decide) rfl (Nat.le_of_ble_eq_true rfl) ?_
  intro p e s m args below meth c A ls hx hb hr hml hts hown hlocks hnm htab hK hG hA hP hD hS hl
  have hl : lv_has ls 1 [(0, .ref h0)] := hl
  have w_0 := hts (.methodLink RX0 3 objectInit) (by decide +kernel)
  have w_1 := hts (.instanceMethod objectInit) (by decide +kernel)
  have w_2 := hts (.code objectInit ⟨#[0xb1]⟩ 1 none) (by decide +kernel)
  have w_3 := hts (.fieldLink RX0 9 "EffectTrain$State" "n" "I") (by decide +kernel)
  have w_4 : ∀ w ∈ wsX00, w ∈ wsX0_init := by decide +kernel
  have w_5 := hts (.arrayClass .int) (by decide +kernel)
  have w_6 := hts (.fieldLink RX0 15 "EffectTrain$State" "settings" "[I") (by decide +kernel)
  have w_7 := hts (.fieldLink RX0 19 "EffectTrain$State" "clock" "I") (by decide +kernel)
  have w_8 := hts (.fieldLink RX0 22 "EffectTrain$State" "counts" "[I") (by decide +kernel)
  have w_9 := hts (.fieldLink RX0 25 "EffectTrain$State" "area" "[I") (by decide +kernel)
  have w_10 := hts (.fieldLink RX0 28 "EffectTrain$State" "water" "[I") (by decide +kernel)
  have w_11 := hts (.fieldLink RX0 31 "EffectTrain$State" "solids" "[I") (by decide +kernel)
  have w_12 := hts (.fieldLink RX0 34 "EffectTrain$State" "valve" "[I") (by decide +kernel)
  have w_13 := hts (.fieldLink RX0 37 "EffectTrain$State" "bleed" "[I") (by decide +kernel)
  have w_14 := hts (.fieldLink RX0 40 "EffectTrain$State" "scale" "[I") (by decide +kernel)
  have w_15 := hts (.fieldLink RX0 43 "EffectTrain$State" "scaling" "[I") (by decide +kernel)
  have w_16 := hts (.fieldLink RX0 46 "EffectTrain$State" "left" "[I") (by decide +kernel)
  refine lv_aload_n hx hb dX0_init_0 rfl (lv_at hl 0 rfl) ?_
  refine W.objInit hx hb hown w_0 w_1 w_2 rfl (by rw [hml]; exact hl.1) rfl dX0_init_1 (Nat.le_of_ble_eq_true rfl) (Nat.le_of_ble_eq_true rfl) ?_
  refine W.eq (g2 := F0 m 4 ls []) rfl ?_
  refine lv_aload_n hx hb dX0_init_4 rfl (lv_at hl 0 rfl) ?_
  refine lv_iconst (v := 2) hx hb dX0_init_5 (by decide) ?_
  refine va_put (D := D) (ci := 0) (v := .int 2) (ty := .int) (C := RX0) (T := TX0) (N := 12) hx hb hts w_4 tyX0 tyX0_ok nmX0 hown hK hP hD hS 0 rfl rfl 0 (by decide) w_3 (fun _ h9 => h9) rfl (by decide +kernel) rfl rfl (Nat.le_of_ble_eq_true rfl) dX0_init_6 (fun H locs hP hD hS => ?_)
  have hP : va_P D vwCl ([(h0, .inr (0, [.int 2, .null, .int 0, .null, .null, .null, .null, .null, .null, .null, .null, .null]))]) H := hP
  have hD : va_D A ([(h0, .inr (0, [.int 2, .null, .int 0, .null, .null, .null, .null, .null, .null, .null, .null, .null]))]) := hD
  refine lv_aload_n hx hb dX0_init_9 rfl (lv_at hl 0 rfl) ?_
  refine lv_iconst (v := 5) hx hb dX0_init_10 (by decide) ?_
  refine va_newa (atype := .int) (ty := .int) (a0 := (5, .inl (fun _ => 0))) (N' := 5) hx hb w_5 rfl hK hP hD hS hA (fun _ => rfl) (by decide) (by decide) (Nat.le_of_ble_eq_true rfl) (Nat.le_of_ble_eq_true rfl) (Nat.le_of_ble_eq_true rfl) dX0_init_11 (fun q_1 cA_2 H hK1 hP hD hS => ?_)
  have ecA_2 : cA_2 = k 0 := kcls_0 hK hK1
  subst ecA_2; clear hK1
  have hP : va_P D vwCl ([(h0, .inr (0, [.int 2, .null, .int 0, .null, .null, .null, .null, .null, .null, .null, .null, .null])), (q_1, .inl (k 0, 5, .inl (fun _ => 0)))]) H := hP
  have hD : va_D A ([(h0, .inr (0, [.int 2, .null, .int 0, .null, .null, .null, .null, .null, .null, .null, .null, .null])), (q_1, .inl (k 0, 5, .inl (fun _ => 0)))]) := hD
  refine W.eq (g2 := F0 m 13 ls [.ref q_1, .ref h0]) rfl ?_
  refine lv_dup hx hb dX0_init_13 rfl ?_
  refine lv_iconst (v := 0) hx hb dX0_init_14 (by decide) ?_
  refine lv_bipush (v := 100) hx hb dX0_init_15 (by decide) ?_
  refine va_iast hx hb hK hP hD hS 1 0 rfl rfl (inb_vp (by decide)) dX0_init_17 (fun H locs hP hD hS => ?_)
  have hP : va_P D vwCl ([(h0, .inr (0, [.int 2, .null, .int 0, .null, .null, .null, .null, .null, .null, .null, .null, .null])), (q_1, .inl (k 0, 5, .inl (upd (fun _ => 0) 0 100)))]) H := hP
  have hD : va_D A ([(h0, .inr (0, [.int 2, .null, .int 0, .null, .null, .null, .null, .null, .null, .null, .null, .null])), (q_1, .inl (k 0, 5, .inl (upd (fun _ => 0) 0 100)))]) := hD
  refine W.eq (g2 := F0 m 18 ls [.ref q_1, .ref h0]) rfl ?_
  refine lv_dup hx hb dX0_init_18 rfl ?_
  refine lv_iconst (v := 1) hx hb dX0_init_19 (by decide) ?_
  refine lv_bipush (v := 90) hx hb dX0_init_20 (by decide) ?_
  refine va_iast hx hb hK hP hD hS 1 0 rfl rfl (inb_vp (by decide)) dX0_init_22 (fun H locs hP hD hS => ?_)
  have hP : va_P D vwCl ([(h0, .inr (0, [.int 2, .null, .int 0, .null, .null, .null, .null, .null, .null, .null, .null, .null])), (q_1, .inl (k 0, 5, .inl (upd (upd (fun _ => 0) 0 100) 1 90)))]) H := hP
  have hD : va_D A ([(h0, .inr (0, [.int 2, .null, .int 0, .null, .null, .null, .null, .null, .null, .null, .null, .null])), (q_1, .inl (k 0, 5, .inl (upd (upd (fun _ => 0) 0 100) 1 90)))]) := hD
  refine W.eq (g2 := F0 m 23 ls [.ref q_1, .ref h0]) rfl ?_
  refine lv_dup hx hb dX0_init_23 rfl ?_
  refine lv_iconst (v := 2) hx hb dX0_init_24 (by decide) ?_
  refine lv_bipush (v := 10) hx hb dX0_init_25 (by decide) ?_
  refine va_iast hx hb hK hP hD hS 1 0 rfl rfl (inb_vp (by decide)) dX0_init_27 (fun H locs hP hD hS => ?_)
  have hP : va_P D vwCl ([(h0, .inr (0, [.int 2, .null, .int 0, .null, .null, .null, .null, .null, .null, .null, .null, .null])), (q_1, .inl (k 0, 5, .inl (upd (upd (upd (fun _ => 0) 0 100) 1 90) 2 10)))]) H := hP
  have hD : va_D A ([(h0, .inr (0, [.int 2, .null, .int 0, .null, .null, .null, .null, .null, .null, .null, .null, .null])), (q_1, .inl (k 0, 5, .inl (upd (upd (upd (fun _ => 0) 0 100) 1 90) 2 10)))]) := hD
  refine W.eq (g2 := F0 m 28 ls [.ref q_1, .ref h0]) rfl ?_
  refine lv_dup hx hb dX0_init_28 rfl ?_
  refine lv_iconst (v := 3) hx hb dX0_init_29 (by decide) ?_
  refine lv_iconst (v := 0) hx hb dX0_init_30 (by decide) ?_
  refine va_iast hx hb hK hP hD hS 1 0 rfl rfl (inb_vp (by decide)) dX0_init_31 (fun H locs hP hD hS => ?_)
  have hP : va_P D vwCl ([(h0, .inr (0, [.int 2, .null, .int 0, .null, .null, .null, .null, .null, .null, .null, .null, .null])), (q_1, .inl (k 0, 5, .inl (upd (upd (upd (upd (fun _ => 0) 0 100) 1 90) 2 10) 3 0)))]) H := hP
  have hD : va_D A ([(h0, .inr (0, [.int 2, .null, .int 0, .null, .null, .null, .null, .null, .null, .null, .null, .null])), (q_1, .inl (k 0, 5, .inl (upd (upd (upd (upd (fun _ => 0) 0 100) 1 90) 2 10) 3 0)))]) := hD
  refine W.eq (g2 := F0 m 32 ls [.ref q_1, .ref h0]) rfl ?_
  refine lv_dup hx hb dX0_init_32 rfl ?_
  refine lv_iconst (v := 4) hx hb dX0_init_33 (by decide) ?_
  refine lv_iconst (v := 5) hx hb dX0_init_34 (by decide) ?_
  refine va_iast hx hb hK hP hD hS 1 0 rfl rfl (inb_vp (by decide)) dX0_init_35 (fun H locs hP hD hS => ?_)
  have hP : va_P D vwCl ([(h0, .inr (0, [.int 2, .null, .int 0, .null, .null, .null, .null, .null, .null, .null, .null, .null])), (q_1, .inl (k 0, 5, .inl (upd (upd (upd (upd (upd (fun _ => 0) 0 100) 1 90) 2 10) 3 0) 4 5)))]) H := hP
  have hD : va_D A ([(h0, .inr (0, [.int 2, .null, .int 0, .null, .null, .null, .null, .null, .null, .null, .null, .null])), (q_1, .inl (k 0, 5, .inl (upd (upd (upd (upd (upd (fun _ => 0) 0 100) 1 90) 2 10) 3 0) 4 5)))]) := hD
  refine W.eq (g2 := F0 m 36 ls [.ref q_1, .ref h0]) rfl ?_
  refine va_putF (D := D) (ci := 0) (v := .ref q_1) (ty := .array .int) (C := RX0) (T := TX0) (N := 12) hx hb hts w_4 tyX0 tyX0_ok nmX0 hown hK hP hD hS 0 rfl rfl 1 (by decide) w_6 (fun _ h9 => h9) rfl hnm rfl (by decide +kernel) rfl rfl (Nat.le_of_ble_eq_true rfl) dX0_init_36 (fun H locs hP hD hS => ?_)
  have hP : va_P D vwCl ([(h0, .inr (0, [.int 2, .ref q_1, .int 0, .null, .null, .null, .null, .null, .null, .null, .null, .null])), (q_1, .inl (k 0, 5, .inl (upd (upd (upd (upd (upd (fun _ => 0) 0 100) 1 90) 2 10) 3 0) 4 5)))]) H := hP
  have hD : va_D A ([(h0, .inr (0, [.int 2, .ref q_1, .int 0, .null, .null, .null, .null, .null, .null, .null, .null, .null])), (q_1, .inl (k 0, 5, .inl (upd (upd (upd (upd (upd (fun _ => 0) 0 100) 1 90) 2 10) 3 0) 4 5)))]) := hD
  refine lv_aload_n hx hb dX0_init_39 rfl (lv_at hl 0 rfl) ?_
  refine lv_iconst (v := 0) hx hb dX0_init_40 (by decide) ?_
  refine va_put (D := D) (ci := 0) (v := .int 0) (ty := .int) (C := RX0) (T := TX0) (N := 12) hx hb hts w_4 tyX0 tyX0_ok nmX0 hown hK hP hD hS 0 rfl rfl 2 (by decide) w_7 (fun _ h9 => h9) rfl (by decide +kernel) rfl rfl (Nat.le_of_ble_eq_true rfl) dX0_init_41 (fun H locs hP hD hS => ?_)
  have hP : va_P D vwCl ([(h0, .inr (0, [.int 2, .ref q_1, .int 0, .null, .null, .null, .null, .null, .null, .null, .null, .null])), (q_1, .inl (k 0, 5, .inl (upd (upd (upd (upd (upd (fun _ => 0) 0 100) 1 90) 2 10) 3 0) 4 5)))]) H := hP
  have hD : va_D A ([(h0, .inr (0, [.int 2, .ref q_1, .int 0, .null, .null, .null, .null, .null, .null, .null, .null, .null])), (q_1, .inl (k 0, 5, .inl (upd (upd (upd (upd (upd (fun _ => 0) 0 100) 1 90) 2 10) 3 0) 4 5)))]) := hD
  refine lv_aload_n hx hb dX0_init_44 rfl (lv_at hl 0 rfl) ?_
  refine lv_bipush (v := 10) hx hb dX0_init_45 (by decide) ?_
  refine va_newa (atype := .int) (ty := .int) (a0 := (10, .inl (fun _ => 0))) (N' := 10) hx hb w_5 rfl hK hP hD hS hA (fun _ => rfl) (by decide) (by decide) (Nat.le_of_ble_eq_true rfl) (Nat.le_of_ble_eq_true rfl) (Nat.le_of_ble_eq_true rfl) dX0_init_47 (fun q_3 cA_4 H hK1 hP hD hS => ?_)
  have ecA_4 : cA_4 = k 0 := kcls_0 hK hK1
  subst ecA_4; clear hK1
  have hP : va_P D vwCl ([(h0, .inr (0, [.int 2, .ref q_1, .int 0, .null, .null, .null, .null, .null, .null, .null, .null, .null])), (q_1, .inl (k 0, 5, .inl (upd (upd (upd (upd (upd (fun _ => 0) 0 100) 1 90) 2 10) 3 0) 4 5))), (q_3, .inl (k 0, 10, .inl (fun _ => 0)))]) H := hP
  have hD : va_D A ([(h0, .inr (0, [.int 2, .ref q_1, .int 0, .null, .null, .null, .null, .null, .null, .null, .null, .null])), (q_1, .inl (k 0, 5, .inl (upd (upd (upd (upd (upd (fun _ => 0) 0 100) 1 90) 2 10) 3 0) 4 5))), (q_3, .inl (k 0, 10, .inl (fun _ => 0)))]) := hD
  refine W.eq (g2 := F0 m 49 ls [.ref q_3, .ref h0]) rfl ?_
  refine va_putF (D := D) (ci := 0) (v := .ref q_3) (ty := .array .int) (C := RX0) (T := TX0) (N := 12) hx hb hts w_4 tyX0 tyX0_ok nmX0 hown hK hP hD hS 0 rfl rfl 3 (by decide) w_8 (fun _ h9 => h9) rfl hnm rfl (by decide +kernel) rfl rfl (Nat.le_of_ble_eq_true rfl) dX0_init_49 (fun H locs hP hD hS => ?_)
  have hP : va_P D vwCl ([(h0, .inr (0, [.int 2, .ref q_1, .int 0, .ref q_3, .null, .null, .null, .null, .null, .null, .null, .null])), (q_1, .inl (k 0, 5, .inl (upd (upd (upd (upd (upd (fun _ => 0) 0 100) 1 90) 2 10) 3 0) 4 5))), (q_3, .inl (k 0, 10, .inl (fun _ => 0)))]) H := hP
  have hD : va_D A ([(h0, .inr (0, [.int 2, .ref q_1, .int 0, .ref q_3, .null, .null, .null, .null, .null, .null, .null, .null])), (q_1, .inl (k 0, 5, .inl (upd (upd (upd (upd (upd (fun _ => 0) 0 100) 1 90) 2 10) 3 0) 4 5))), (q_3, .inl (k 0, 10, .inl (fun _ => 0)))]) := hD
  refine lv_aload_n hx hb dX0_init_52 rfl (lv_at hl 0 rfl) ?_
  refine lv_bipush (v := 6) hx hb dX0_init_53 (by decide) ?_
  refine va_newa (atype := .int) (ty := .int) (a0 := (6, .inl (fun _ => 0))) (N' := 6) hx hb w_5 rfl hK hP hD hS hA (fun _ => rfl) (by decide) (by decide) (Nat.le_of_ble_eq_true rfl) (Nat.le_of_ble_eq_true rfl) (Nat.le_of_ble_eq_true rfl) dX0_init_55 (fun q_5 cA_6 H hK1 hP hD hS => ?_)
  have ecA_6 : cA_6 = k 0 := kcls_0 hK hK1
  subst ecA_6; clear hK1
  have hP : va_P D vwCl ([(h0, .inr (0, [.int 2, .ref q_1, .int 0, .ref q_3, .null, .null, .null, .null, .null, .null, .null, .null])), (q_1, .inl (k 0, 5, .inl (upd (upd (upd (upd (upd (fun _ => 0) 0 100) 1 90) 2 10) 3 0) 4 5))), (q_3, .inl (k 0, 10, .inl (fun _ => 0))), (q_5, .inl (k 0, 6, .inl (fun _ => 0)))]) H := hP
  have hD : va_D A ([(h0, .inr (0, [.int 2, .ref q_1, .int 0, .ref q_3, .null, .null, .null, .null, .null, .null, .null, .null])), (q_1, .inl (k 0, 5, .inl (upd (upd (upd (upd (upd (fun _ => 0) 0 100) 1 90) 2 10) 3 0) 4 5))), (q_3, .inl (k 0, 10, .inl (fun _ => 0))), (q_5, .inl (k 0, 6, .inl (fun _ => 0)))]) := hD
  refine W.eq (g2 := F0 m 57 ls [.ref q_5, .ref h0]) rfl ?_
  refine va_putF (D := D) (ci := 0) (v := .ref q_5) (ty := .array .int) (C := RX0) (T := TX0) (N := 12) hx hb hts w_4 tyX0 tyX0_ok nmX0 hown hK hP hD hS 0 rfl rfl 4 (by decide) w_9 (fun _ h9 => h9) rfl hnm rfl (by decide +kernel) rfl rfl (Nat.le_of_ble_eq_true rfl) dX0_init_57 (fun H locs hP hD hS => ?_)
  have hP : va_P D vwCl ([(h0, .inr (0, [.int 2, .ref q_1, .int 0, .ref q_3, .ref q_5, .null, .null, .null, .null, .null, .null, .null])), (q_1, .inl (k 0, 5, .inl (upd (upd (upd (upd (upd (fun _ => 0) 0 100) 1 90) 2 10) 3 0) 4 5))), (q_3, .inl (k 0, 10, .inl (fun _ => 0))), (q_5, .inl (k 0, 6, .inl (fun _ => 0)))]) H := hP
  have hD : va_D A ([(h0, .inr (0, [.int 2, .ref q_1, .int 0, .ref q_3, .ref q_5, .null, .null, .null, .null, .null, .null, .null])), (q_1, .inl (k 0, 5, .inl (upd (upd (upd (upd (upd (fun _ => 0) 0 100) 1 90) 2 10) 3 0) 4 5))), (q_3, .inl (k 0, 10, .inl (fun _ => 0))), (q_5, .inl (k 0, 6, .inl (fun _ => 0)))]) := hD
  refine lv_aload_n hx hb dX0_init_60 rfl (lv_at hl 0 rfl) ?_
  refine lv_bipush (v := 6) hx hb dX0_init_61 (by decide) ?_
  refine va_newa (atype := .int) (ty := .int) (a0 := (6, .inl (fun _ => 0))) (N' := 6) hx hb w_5 rfl hK hP hD hS hA (fun _ => rfl) (by decide) (by decide) (Nat.le_of_ble_eq_true rfl) (Nat.le_of_ble_eq_true rfl) (Nat.le_of_ble_eq_true rfl) dX0_init_63 (fun q_7 cA_8 H hK1 hP hD hS => ?_)
  have ecA_8 : cA_8 = k 0 := kcls_0 hK hK1
  subst ecA_8; clear hK1
  have hP : va_P D vwCl ([(h0, .inr (0, [.int 2, .ref q_1, .int 0, .ref q_3, .ref q_5, .null, .null, .null, .null, .null, .null, .null])), (q_1, .inl (k 0, 5, .inl (upd (upd (upd (upd (upd (fun _ => 0) 0 100) 1 90) 2 10) 3 0) 4 5))), (q_3, .inl (k 0, 10, .inl (fun _ => 0))), (q_5, .inl (k 0, 6, .inl (fun _ => 0))), (q_7, .inl (k 0, 6, .inl (fun _ => 0)))]) H := hP
  have hD : va_D A ([(h0, .inr (0, [.int 2, .ref q_1, .int 0, .ref q_3, .ref q_5, .null, .null, .null, .null, .null, .null, .null])), (q_1, .inl (k 0, 5, .inl (upd (upd (upd (upd (upd (fun _ => 0) 0 100) 1 90) 2 10) 3 0) 4 5))), (q_3, .inl (k 0, 10, .inl (fun _ => 0))), (q_5, .inl (k 0, 6, .inl (fun _ => 0))), (q_7, .inl (k 0, 6, .inl (fun _ => 0)))]) := hD
  refine W.eq (g2 := F0 m 65 ls [.ref q_7, .ref h0]) rfl ?_
  refine va_putF (D := D) (ci := 0) (v := .ref q_7) (ty := .array .int) (C := RX0) (T := TX0) (N := 12) hx hb hts w_4 tyX0 tyX0_ok nmX0 hown hK hP hD hS 0 rfl rfl 5 (by decide) w_10 (fun _ h9 => h9) rfl hnm rfl (by decide +kernel) rfl rfl (Nat.le_of_ble_eq_true rfl) dX0_init_65 (fun H locs hP hD hS => ?_)
  have hP : va_P D vwCl ([(h0, .inr (0, [.int 2, .ref q_1, .int 0, .ref q_3, .ref q_5, .ref q_7, .null, .null, .null, .null, .null, .null])), (q_1, .inl (k 0, 5, .inl (upd (upd (upd (upd (upd (fun _ => 0) 0 100) 1 90) 2 10) 3 0) 4 5))), (q_3, .inl (k 0, 10, .inl (fun _ => 0))), (q_5, .inl (k 0, 6, .inl (fun _ => 0))), (q_7, .inl (k 0, 6, .inl (fun _ => 0)))]) H := hP
  have hD : va_D A ([(h0, .inr (0, [.int 2, .ref q_1, .int 0, .ref q_3, .ref q_5, .ref q_7, .null, .null, .null, .null, .null, .null])), (q_1, .inl (k 0, 5, .inl (upd (upd (upd (upd (upd (fun _ => 0) 0 100) 1 90) 2 10) 3 0) 4 5))), (q_3, .inl (k 0, 10, .inl (fun _ => 0))), (q_5, .inl (k 0, 6, .inl (fun _ => 0))), (q_7, .inl (k 0, 6, .inl (fun _ => 0)))]) := hD
  refine lv_aload_n hx hb dX0_init_68 rfl (lv_at hl 0 rfl) ?_
  refine lv_bipush (v := 6) hx hb dX0_init_69 (by decide) ?_
  refine va_newa (atype := .int) (ty := .int) (a0 := (6, .inl (fun _ => 0))) (N' := 6) hx hb w_5 rfl hK hP hD hS hA (fun _ => rfl) (by decide) (by decide) (Nat.le_of_ble_eq_true rfl) (Nat.le_of_ble_eq_true rfl) (Nat.le_of_ble_eq_true rfl) dX0_init_71 (fun q_9 cA_10 H hK1 hP hD hS => ?_)
  have ecA_10 : cA_10 = k 0 := kcls_0 hK hK1
  subst ecA_10; clear hK1
  have hP : va_P D vwCl ([(h0, .inr (0, [.int 2, .ref q_1, .int 0, .ref q_3, .ref q_5, .ref q_7, .null, .null, .null, .null, .null, .null])), (q_1, .inl (k 0, 5, .inl (upd (upd (upd (upd (upd (fun _ => 0) 0 100) 1 90) 2 10) 3 0) 4 5))), (q_3, .inl (k 0, 10, .inl (fun _ => 0))), (q_5, .inl (k 0, 6, .inl (fun _ => 0))), (q_7, .inl (k 0, 6, .inl (fun _ => 0))), (q_9, .inl (k 0, 6, .inl (fun _ => 0)))]) H := hP
  have hD : va_D A ([(h0, .inr (0, [.int 2, .ref q_1, .int 0, .ref q_3, .ref q_5, .ref q_7, .null, .null, .null, .null, .null, .null])), (q_1, .inl (k 0, 5, .inl (upd (upd (upd (upd (upd (fun _ => 0) 0 100) 1 90) 2 10) 3 0) 4 5))), (q_3, .inl (k 0, 10, .inl (fun _ => 0))), (q_5, .inl (k 0, 6, .inl (fun _ => 0))), (q_7, .inl (k 0, 6, .inl (fun _ => 0))), (q_9, .inl (k 0, 6, .inl (fun _ => 0)))]) := hD
  refine W.eq (g2 := F0 m 73 ls [.ref q_9, .ref h0]) rfl ?_
  refine va_putF (D := D) (ci := 0) (v := .ref q_9) (ty := .array .int) (C := RX0) (T := TX0) (N := 12) hx hb hts w_4 tyX0 tyX0_ok nmX0 hown hK hP hD hS 0 rfl rfl 6 (by decide) w_11 (fun _ h9 => h9) rfl hnm rfl (by decide +kernel) rfl rfl (Nat.le_of_ble_eq_true rfl) dX0_init_73 (fun H locs hP hD hS => ?_)
  have hP : va_P D vwCl ([(h0, .inr (0, [.int 2, .ref q_1, .int 0, .ref q_3, .ref q_5, .ref q_7, .ref q_9, .null, .null, .null, .null, .null])), (q_1, .inl (k 0, 5, .inl (upd (upd (upd (upd (upd (fun _ => 0) 0 100) 1 90) 2 10) 3 0) 4 5))), (q_3, .inl (k 0, 10, .inl (fun _ => 0))), (q_5, .inl (k 0, 6, .inl (fun _ => 0))), (q_7, .inl (k 0, 6, .inl (fun _ => 0))), (q_9, .inl (k 0, 6, .inl (fun _ => 0)))]) H := hP
  have hD : va_D A ([(h0, .inr (0, [.int 2, .ref q_1, .int 0, .ref q_3, .ref q_5, .ref q_7, .ref q_9, .null, .null, .null, .null, .null])), (q_1, .inl (k 0, 5, .inl (upd (upd (upd (upd (upd (fun _ => 0) 0 100) 1 90) 2 10) 3 0) 4 5))), (q_3, .inl (k 0, 10, .inl (fun _ => 0))), (q_5, .inl (k 0, 6, .inl (fun _ => 0))), (q_7, .inl (k 0, 6, .inl (fun _ => 0))), (q_9, .inl (k 0, 6, .inl (fun _ => 0)))]) := hD
  refine lv_aload_n hx hb dX0_init_76 rfl (lv_at hl 0 rfl) ?_
  refine lv_bipush (v := 6) hx hb dX0_init_77 (by decide) ?_
  refine va_newa (atype := .int) (ty := .int) (a0 := (6, .inl (fun _ => 0))) (N' := 6) hx hb w_5 rfl hK hP hD hS hA (fun _ => rfl) (by decide) (by decide) (Nat.le_of_ble_eq_true rfl) (Nat.le_of_ble_eq_true rfl) (Nat.le_of_ble_eq_true rfl) dX0_init_79 (fun q_11 cA_12 H hK1 hP hD hS => ?_)
  have ecA_12 : cA_12 = k 0 := kcls_0 hK hK1
  subst ecA_12; clear hK1
  have hP : va_P D vwCl ([(h0, .inr (0, [.int 2, .ref q_1, .int 0, .ref q_3, .ref q_5, .ref q_7, .ref q_9, .null, .null, .null, .null, .null])), (q_1, .inl (k 0, 5, .inl (upd (upd (upd (upd (upd (fun _ => 0) 0 100) 1 90) 2 10) 3 0) 4 5))), (q_3, .inl (k 0, 10, .inl (fun _ => 0))), (q_5, .inl (k 0, 6, .inl (fun _ => 0))), (q_7, .inl (k 0, 6, .inl (fun _ => 0))), (q_9, .inl (k 0, 6, .inl (fun _ => 0))), (q_11, .inl (k 0, 6, .inl (fun _ => 0)))]) H := hP
  have hD : va_D A ([(h0, .inr (0, [.int 2, .ref q_1, .int 0, .ref q_3, .ref q_5, .ref q_7, .ref q_9, .null, .null, .null, .null, .null])), (q_1, .inl (k 0, 5, .inl (upd (upd (upd (upd (upd (fun _ => 0) 0 100) 1 90) 2 10) 3 0) 4 5))), (q_3, .inl (k 0, 10, .inl (fun _ => 0))), (q_5, .inl (k 0, 6, .inl (fun _ => 0))), (q_7, .inl (k 0, 6, .inl (fun _ => 0))), (q_9, .inl (k 0, 6, .inl (fun _ => 0))), (q_11, .inl (k 0, 6, .inl (fun _ => 0)))]) := hD
  refine W.eq (g2 := F0 m 81 ls [.ref q_11, .ref h0]) rfl ?_
  refine va_putF (D := D) (ci := 0) (v := .ref q_11) (ty := .array .int) (C := RX0) (T := TX0) (N := 12) hx hb hts w_4 tyX0 tyX0_ok nmX0 hown hK hP hD hS 0 rfl rfl 7 (by decide) w_12 (fun _ h9 => h9) rfl hnm rfl (by decide +kernel) rfl rfl (Nat.le_of_ble_eq_true rfl) dX0_init_81 (fun H locs hP hD hS => ?_)
  have hP : va_P D vwCl ([(h0, .inr (0, [.int 2, .ref q_1, .int 0, .ref q_3, .ref q_5, .ref q_7, .ref q_9, .ref q_11, .null, .null, .null, .null])), (q_1, .inl (k 0, 5, .inl (upd (upd (upd (upd (upd (fun _ => 0) 0 100) 1 90) 2 10) 3 0) 4 5))), (q_3, .inl (k 0, 10, .inl (fun _ => 0))), (q_5, .inl (k 0, 6, .inl (fun _ => 0))), (q_7, .inl (k 0, 6, .inl (fun _ => 0))), (q_9, .inl (k 0, 6, .inl (fun _ => 0))), (q_11, .inl (k 0, 6, .inl (fun _ => 0)))]) H := hP
  have hD : va_D A ([(h0, .inr (0, [.int 2, .ref q_1, .int 0, .ref q_3, .ref q_5, .ref q_7, .ref q_9, .ref q_11, .null, .null, .null, .null])), (q_1, .inl (k 0, 5, .inl (upd (upd (upd (upd (upd (fun _ => 0) 0 100) 1 90) 2 10) 3 0) 4 5))), (q_3, .inl (k 0, 10, .inl (fun _ => 0))), (q_5, .inl (k 0, 6, .inl (fun _ => 0))), (q_7, .inl (k 0, 6, .inl (fun _ => 0))), (q_9, .inl (k 0, 6, .inl (fun _ => 0))), (q_11, .inl (k 0, 6, .inl (fun _ => 0)))]) := hD
  refine lv_aload_n hx hb dX0_init_84 rfl (lv_at hl 0 rfl) ?_
  refine lv_bipush (v := 6) hx hb dX0_init_85 (by decide) ?_
  refine va_newa (atype := .int) (ty := .int) (a0 := (6, .inl (fun _ => 0))) (N' := 6) hx hb w_5 rfl hK hP hD hS hA (fun _ => rfl) (by decide) (by decide) (Nat.le_of_ble_eq_true rfl) (Nat.le_of_ble_eq_true rfl) (Nat.le_of_ble_eq_true rfl) dX0_init_87 (fun q_13 cA_14 H hK1 hP hD hS => ?_)
  have ecA_14 : cA_14 = k 0 := kcls_0 hK hK1
  subst ecA_14; clear hK1
  have hP : va_P D vwCl ([(h0, .inr (0, [.int 2, .ref q_1, .int 0, .ref q_3, .ref q_5, .ref q_7, .ref q_9, .ref q_11, .null, .null, .null, .null])), (q_1, .inl (k 0, 5, .inl (upd (upd (upd (upd (upd (fun _ => 0) 0 100) 1 90) 2 10) 3 0) 4 5))), (q_3, .inl (k 0, 10, .inl (fun _ => 0))), (q_5, .inl (k 0, 6, .inl (fun _ => 0))), (q_7, .inl (k 0, 6, .inl (fun _ => 0))), (q_9, .inl (k 0, 6, .inl (fun _ => 0))), (q_11, .inl (k 0, 6, .inl (fun _ => 0))), (q_13, .inl (k 0, 6, .inl (fun _ => 0)))]) H := hP
  have hD : va_D A ([(h0, .inr (0, [.int 2, .ref q_1, .int 0, .ref q_3, .ref q_5, .ref q_7, .ref q_9, .ref q_11, .null, .null, .null, .null])), (q_1, .inl (k 0, 5, .inl (upd (upd (upd (upd (upd (fun _ => 0) 0 100) 1 90) 2 10) 3 0) 4 5))), (q_3, .inl (k 0, 10, .inl (fun _ => 0))), (q_5, .inl (k 0, 6, .inl (fun _ => 0))), (q_7, .inl (k 0, 6, .inl (fun _ => 0))), (q_9, .inl (k 0, 6, .inl (fun _ => 0))), (q_11, .inl (k 0, 6, .inl (fun _ => 0))), (q_13, .inl (k 0, 6, .inl (fun _ => 0)))]) := hD
  refine W.eq (g2 := F0 m 89 ls [.ref q_13, .ref h0]) rfl ?_
  refine va_putF (D := D) (ci := 0) (v := .ref q_13) (ty := .array .int) (C := RX0) (T := TX0) (N := 12) hx hb hts w_4 tyX0 tyX0_ok nmX0 hown hK hP hD hS 0 rfl rfl 8 (by decide) w_13 (fun _ h9 => h9) rfl hnm rfl (by decide +kernel) rfl rfl (Nat.le_of_ble_eq_true rfl) dX0_init_89 (fun H locs hP hD hS => ?_)
  have hP : va_P D vwCl ([(h0, .inr (0, [.int 2, .ref q_1, .int 0, .ref q_3, .ref q_5, .ref q_7, .ref q_9, .ref q_11, .ref q_13, .null, .null, .null])), (q_1, .inl (k 0, 5, .inl (upd (upd (upd (upd (upd (fun _ => 0) 0 100) 1 90) 2 10) 3 0) 4 5))), (q_3, .inl (k 0, 10, .inl (fun _ => 0))), (q_5, .inl (k 0, 6, .inl (fun _ => 0))), (q_7, .inl (k 0, 6, .inl (fun _ => 0))), (q_9, .inl (k 0, 6, .inl (fun _ => 0))), (q_11, .inl (k 0, 6, .inl (fun _ => 0))), (q_13, .inl (k 0, 6, .inl (fun _ => 0)))]) H := hP
  have hD : va_D A ([(h0, .inr (0, [.int 2, .ref q_1, .int 0, .ref q_3, .ref q_5, .ref q_7, .ref q_9, .ref q_11, .ref q_13, .null, .null, .null])), (q_1, .inl (k 0, 5, .inl (upd (upd (upd (upd (upd (fun _ => 0) 0 100) 1 90) 2 10) 3 0) 4 5))), (q_3, .inl (k 0, 10, .inl (fun _ => 0))), (q_5, .inl (k 0, 6, .inl (fun _ => 0))), (q_7, .inl (k 0, 6, .inl (fun _ => 0))), (q_9, .inl (k 0, 6, .inl (fun _ => 0))), (q_11, .inl (k 0, 6, .inl (fun _ => 0))), (q_13, .inl (k 0, 6, .inl (fun _ => 0)))]) := hD
  refine lv_aload_n hx hb dX0_init_92 rfl (lv_at hl 0 rfl) ?_
  refine lv_bipush (v := 6) hx hb dX0_init_93 (by decide) ?_
  refine va_newa (atype := .int) (ty := .int) (a0 := (6, .inl (fun _ => 0))) (N' := 6) hx hb w_5 rfl hK hP hD hS hA (fun _ => rfl) (by decide) (by decide) (Nat.le_of_ble_eq_true rfl) (Nat.le_of_ble_eq_true rfl) (Nat.le_of_ble_eq_true rfl) dX0_init_95 (fun q_15 cA_16 H hK1 hP hD hS => ?_)
  have ecA_16 : cA_16 = k 0 := kcls_0 hK hK1
  subst ecA_16; clear hK1
  have hP : va_P D vwCl ([(h0, .inr (0, [.int 2, .ref q_1, .int 0, .ref q_3, .ref q_5, .ref q_7, .ref q_9, .ref q_11, .ref q_13, .null, .null, .null])), (q_1, .inl (k 0, 5, .inl (upd (upd (upd (upd (upd (fun _ => 0) 0 100) 1 90) 2 10) 3 0) 4 5))), (q_3, .inl (k 0, 10, .inl (fun _ => 0))), (q_5, .inl (k 0, 6, .inl (fun _ => 0))), (q_7, .inl (k 0, 6, .inl (fun _ => 0))), (q_9, .inl (k 0, 6, .inl (fun _ => 0))), (q_11, .inl (k 0, 6, .inl (fun _ => 0))), (q_13, .inl (k 0, 6, .inl (fun _ => 0))), (q_15, .inl (k 0, 6, .inl (fun _ => 0)))]) H := hP
  have hD : va_D A ([(h0, .inr (0, [.int 2, .ref q_1, .int 0, .ref q_3, .ref q_5, .ref q_7, .ref q_9, .ref q_11, .ref q_13, .null, .null, .null])), (q_1, .inl (k 0, 5, .inl (upd (upd (upd (upd (upd (fun _ => 0) 0 100) 1 90) 2 10) 3 0) 4 5))), (q_3, .inl (k 0, 10, .inl (fun _ => 0))), (q_5, .inl (k 0, 6, .inl (fun _ => 0))), (q_7, .inl (k 0, 6, .inl (fun _ => 0))), (q_9, .inl (k 0, 6, .inl (fun _ => 0))), (q_11, .inl (k 0, 6, .inl (fun _ => 0))), (q_13, .inl (k 0, 6, .inl (fun _ => 0))), (q_15, .inl (k 0, 6, .inl (fun _ => 0)))]) := hD
  refine W.eq (g2 := F0 m 97 ls [.ref q_15, .ref h0]) rfl ?_
  refine va_putF (D := D) (ci := 0) (v := .ref q_15) (ty := .array .int) (C := RX0) (T := TX0) (N := 12) hx hb hts w_4 tyX0 tyX0_ok nmX0 hown hK hP hD hS 0 rfl rfl 9 (by decide) w_14 (fun _ h9 => h9) rfl hnm rfl (by decide +kernel) rfl rfl (Nat.le_of_ble_eq_true rfl) dX0_init_97 (fun H locs hP hD hS => ?_)
  have hP : va_P D vwCl ([(h0, .inr (0, [.int 2, .ref q_1, .int 0, .ref q_3, .ref q_5, .ref q_7, .ref q_9, .ref q_11, .ref q_13, .ref q_15, .null, .null])), (q_1, .inl (k 0, 5, .inl (upd (upd (upd (upd (upd (fun _ => 0) 0 100) 1 90) 2 10) 3 0) 4 5))), (q_3, .inl (k 0, 10, .inl (fun _ => 0))), (q_5, .inl (k 0, 6, .inl (fun _ => 0))), (q_7, .inl (k 0, 6, .inl (fun _ => 0))), (q_9, .inl (k 0, 6, .inl (fun _ => 0))), (q_11, .inl (k 0, 6, .inl (fun _ => 0))), (q_13, .inl (k 0, 6, .inl (fun _ => 0))), (q_15, .inl (k 0, 6, .inl (fun _ => 0)))]) H := hP
  have hD : va_D A ([(h0, .inr (0, [.int 2, .ref q_1, .int 0, .ref q_3, .ref q_5, .ref q_7, .ref q_9, .ref q_11, .ref q_13, .ref q_15, .null, .null])), (q_1, .inl (k 0, 5, .inl (upd (upd (upd (upd (upd (fun _ => 0) 0 100) 1 90) 2 10) 3 0) 4 5))), (q_3, .inl (k 0, 10, .inl (fun _ => 0))), (q_5, .inl (k 0, 6, .inl (fun _ => 0))), (q_7, .inl (k 0, 6, .inl (fun _ => 0))), (q_9, .inl (k 0, 6, .inl (fun _ => 0))), (q_11, .inl (k 0, 6, .inl (fun _ => 0))), (q_13, .inl (k 0, 6, .inl (fun _ => 0))), (q_15, .inl (k 0, 6, .inl (fun _ => 0)))]) := hD
  refine lv_aload_n hx hb dX0_init_100 rfl (lv_at hl 0 rfl) ?_
  refine lv_bipush (v := 6) hx hb dX0_init_101 (by decide) ?_
  refine va_newa (atype := .int) (ty := .int) (a0 := (6, .inl (fun _ => 0))) (N' := 6) hx hb w_5 rfl hK hP hD hS hA (fun _ => rfl) (by decide) (by decide) (Nat.le_of_ble_eq_true rfl) (Nat.le_of_ble_eq_true rfl) (Nat.le_of_ble_eq_true rfl) dX0_init_103 (fun q_17 cA_18 H hK1 hP hD hS => ?_)
  have ecA_18 : cA_18 = k 0 := kcls_0 hK hK1
  subst ecA_18; clear hK1
  have hP : va_P D vwCl ([(h0, .inr (0, [.int 2, .ref q_1, .int 0, .ref q_3, .ref q_5, .ref q_7, .ref q_9, .ref q_11, .ref q_13, .ref q_15, .null, .null])), (q_1, .inl (k 0, 5, .inl (upd (upd (upd (upd (upd (fun _ => 0) 0 100) 1 90) 2 10) 3 0) 4 5))), (q_3, .inl (k 0, 10, .inl (fun _ => 0))), (q_5, .inl (k 0, 6, .inl (fun _ => 0))), (q_7, .inl (k 0, 6, .inl (fun _ => 0))), (q_9, .inl (k 0, 6, .inl (fun _ => 0))), (q_11, .inl (k 0, 6, .inl (fun _ => 0))), (q_13, .inl (k 0, 6, .inl (fun _ => 0))), (q_15, .inl (k 0, 6, .inl (fun _ => 0))), (q_17, .inl (k 0, 6, .inl (fun _ => 0)))]) H := hP
  have hD : va_D A ([(h0, .inr (0, [.int 2, .ref q_1, .int 0, .ref q_3, .ref q_5, .ref q_7, .ref q_9, .ref q_11, .ref q_13, .ref q_15, .null, .null])), (q_1, .inl (k 0, 5, .inl (upd (upd (upd (upd (upd (fun _ => 0) 0 100) 1 90) 2 10) 3 0) 4 5))), (q_3, .inl (k 0, 10, .inl (fun _ => 0))), (q_5, .inl (k 0, 6, .inl (fun _ => 0))), (q_7, .inl (k 0, 6, .inl (fun _ => 0))), (q_9, .inl (k 0, 6, .inl (fun _ => 0))), (q_11, .inl (k 0, 6, .inl (fun _ => 0))), (q_13, .inl (k 0, 6, .inl (fun _ => 0))), (q_15, .inl (k 0, 6, .inl (fun _ => 0))), (q_17, .inl (k 0, 6, .inl (fun _ => 0)))]) := hD
  refine W.eq (g2 := F0 m 105 ls [.ref q_17, .ref h0]) rfl ?_
  refine va_putF (D := D) (ci := 0) (v := .ref q_17) (ty := .array .int) (C := RX0) (T := TX0) (N := 12) hx hb hts w_4 tyX0 tyX0_ok nmX0 hown hK hP hD hS 0 rfl rfl 10 (by decide) w_15 (fun _ h9 => h9) rfl hnm rfl (by decide +kernel) rfl rfl (Nat.le_of_ble_eq_true rfl) dX0_init_105 (fun H locs hP hD hS => ?_)
  have hP : va_P D vwCl ([(h0, .inr (0, [.int 2, .ref q_1, .int 0, .ref q_3, .ref q_5, .ref q_7, .ref q_9, .ref q_11, .ref q_13, .ref q_15, .ref q_17, .null])), (q_1, .inl (k 0, 5, .inl (upd (upd (upd (upd (upd (fun _ => 0) 0 100) 1 90) 2 10) 3 0) 4 5))), (q_3, .inl (k 0, 10, .inl (fun _ => 0))), (q_5, .inl (k 0, 6, .inl (fun _ => 0))), (q_7, .inl (k 0, 6, .inl (fun _ => 0))), (q_9, .inl (k 0, 6, .inl (fun _ => 0))), (q_11, .inl (k 0, 6, .inl (fun _ => 0))), (q_13, .inl (k 0, 6, .inl (fun _ => 0))), (q_15, .inl (k 0, 6, .inl (fun _ => 0))), (q_17, .inl (k 0, 6, .inl (fun _ => 0)))]) H := hP
  have hD : va_D A ([(h0, .inr (0, [.int 2, .ref q_1, .int 0, .ref q_3, .ref q_5, .ref q_7, .ref q_9, .ref q_11, .ref q_13, .ref q_15, .ref q_17, .null])), (q_1, .inl (k 0, 5, .inl (upd (upd (upd (upd (upd (fun _ => 0) 0 100) 1 90) 2 10) 3 0) 4 5))), (q_3, .inl (k 0, 10, .inl (fun _ => 0))), (q_5, .inl (k 0, 6, .inl (fun _ => 0))), (q_7, .inl (k 0, 6, .inl (fun _ => 0))), (q_9, .inl (k 0, 6, .inl (fun _ => 0))), (q_11, .inl (k 0, 6, .inl (fun _ => 0))), (q_13, .inl (k 0, 6, .inl (fun _ => 0))), (q_15, .inl (k 0, 6, .inl (fun _ => 0))), (q_17, .inl (k 0, 6, .inl (fun _ => 0)))]) := hD
  refine lv_aload_n hx hb dX0_init_108 rfl (lv_at hl 0 rfl) ?_
  refine lv_bipush (v := 6) hx hb dX0_init_109 (by decide) ?_
  refine va_newa (atype := .int) (ty := .int) (a0 := (6, .inl (fun _ => 0))) (N' := 6) hx hb w_5 rfl hK hP hD hS hA (fun _ => rfl) (by decide) (by decide) (Nat.le_of_ble_eq_true rfl) (Nat.le_of_ble_eq_true rfl) (Nat.le_of_ble_eq_true rfl) dX0_init_111 (fun q_19 cA_20 H hK1 hP hD hS => ?_)
  have ecA_20 : cA_20 = k 0 := kcls_0 hK hK1
  subst ecA_20; clear hK1
  have hP : va_P D vwCl ([(h0, .inr (0, [.int 2, .ref q_1, .int 0, .ref q_3, .ref q_5, .ref q_7, .ref q_9, .ref q_11, .ref q_13, .ref q_15, .ref q_17, .null])), (q_1, .inl (k 0, 5, .inl (upd (upd (upd (upd (upd (fun _ => 0) 0 100) 1 90) 2 10) 3 0) 4 5))), (q_3, .inl (k 0, 10, .inl (fun _ => 0))), (q_5, .inl (k 0, 6, .inl (fun _ => 0))), (q_7, .inl (k 0, 6, .inl (fun _ => 0))), (q_9, .inl (k 0, 6, .inl (fun _ => 0))), (q_11, .inl (k 0, 6, .inl (fun _ => 0))), (q_13, .inl (k 0, 6, .inl (fun _ => 0))), (q_15, .inl (k 0, 6, .inl (fun _ => 0))), (q_17, .inl (k 0, 6, .inl (fun _ => 0))), (q_19, .inl (k 0, 6, .inl (fun _ => 0)))]) H := hP
  have hD : va_D A ([(h0, .inr (0, [.int 2, .ref q_1, .int 0, .ref q_3, .ref q_5, .ref q_7, .ref q_9, .ref q_11, .ref q_13, .ref q_15, .ref q_17, .null])), (q_1, .inl (k 0, 5, .inl (upd (upd (upd (upd (upd (fun _ => 0) 0 100) 1 90) 2 10) 3 0) 4 5))), (q_3, .inl (k 0, 10, .inl (fun _ => 0))), (q_5, .inl (k 0, 6, .inl (fun _ => 0))), (q_7, .inl (k 0, 6, .inl (fun _ => 0))), (q_9, .inl (k 0, 6, .inl (fun _ => 0))), (q_11, .inl (k 0, 6, .inl (fun _ => 0))), (q_13, .inl (k 0, 6, .inl (fun _ => 0))), (q_15, .inl (k 0, 6, .inl (fun _ => 0))), (q_17, .inl (k 0, 6, .inl (fun _ => 0))), (q_19, .inl (k 0, 6, .inl (fun _ => 0)))]) := hD
  refine W.eq (g2 := F0 m 113 ls [.ref q_19, .ref h0]) rfl ?_
  refine va_putF (D := D) (ci := 0) (v := .ref q_19) (ty := .array .int) (C := RX0) (T := TX0) (N := 12) hx hb hts w_4 tyX0 tyX0_ok nmX0 hown hK hP hD hS 0 rfl rfl 11 (by decide) w_16 (fun _ h9 => h9) rfl hnm rfl (by decide +kernel) rfl rfl (Nat.le_of_ble_eq_true rfl) dX0_init_113 (fun H locs hP hD hS => ?_)
  have hP : va_P D vwCl ([(h0, .inr (0, [.int 2, .ref q_1, .int 0, .ref q_3, .ref q_5, .ref q_7, .ref q_9, .ref q_11, .ref q_13, .ref q_15, .ref q_17, .ref q_19])), (q_1, .inl (k 0, 5, .inl (upd (upd (upd (upd (upd (fun _ => 0) 0 100) 1 90) 2 10) 3 0) 4 5))), (q_3, .inl (k 0, 10, .inl (fun _ => 0))), (q_5, .inl (k 0, 6, .inl (fun _ => 0))), (q_7, .inl (k 0, 6, .inl (fun _ => 0))), (q_9, .inl (k 0, 6, .inl (fun _ => 0))), (q_11, .inl (k 0, 6, .inl (fun _ => 0))), (q_13, .inl (k 0, 6, .inl (fun _ => 0))), (q_15, .inl (k 0, 6, .inl (fun _ => 0))), (q_17, .inl (k 0, 6, .inl (fun _ => 0))), (q_19, .inl (k 0, 6, .inl (fun _ => 0)))]) H := hP
  have hD : va_D A ([(h0, .inr (0, [.int 2, .ref q_1, .int 0, .ref q_3, .ref q_5, .ref q_7, .ref q_9, .ref q_11, .ref q_13, .ref q_15, .ref q_17, .ref q_19])), (q_1, .inl (k 0, 5, .inl (upd (upd (upd (upd (upd (fun _ => 0) 0 100) 1 90) 2 10) 3 0) 4 5))), (q_3, .inl (k 0, 10, .inl (fun _ => 0))), (q_5, .inl (k 0, 6, .inl (fun _ => 0))), (q_7, .inl (k 0, 6, .inl (fun _ => 0))), (q_9, .inl (k 0, 6, .inl (fun _ => 0))), (q_11, .inl (k 0, 6, .inl (fun _ => 0))), (q_13, .inl (k 0, 6, .inl (fun _ => 0))), (q_15, .inl (k 0, 6, .inl (fun _ => 0))), (q_17, .inl (k 0, 6, .inl (fun _ => 0))), (q_19, .inl (k 0, 6, .inl (fun _ => 0)))]) := hD
  refine lv_aload_n hx hb dX0_init_116 rfl (lv_at hl 0 rfl) ?_
  refine va_get (D := D) (ci := 0) (v := .ref q_5) (C := RX0) (T := TX0) (N := 12) hx hb hts w_4 hown hK hP 0 rfl rfl 4 (by decide) w_9 (fun _ h9 => h9) rfl dX0_init_117 ?_
  refine lv_iconst (v := 5) hx hb dX0_init_120 (by decide) ?_
  refine Ck_S (As := [.ref q_5, .int 5]) (rest := []) (wc := [(q_5, .inl (k 0, 6, .inl (fun _ => 0)))]) (wc' := [(q_5, .inl (k 0, 6, .inl g5))]) (w0' := [(h0, .inr (0, [.int 2, .ref q_1, .int 0, .ref q_3, .ref q_5, .ref q_7, .ref q_9, .ref q_11, .ref q_13, .ref q_15, .ref q_17, .ref q_19])), (q_1, .inl (k 0, 5, .inl (upd (upd (upd (upd (upd (fun _ => 0) 0 100) 1 90) 2 10) 3 0) 4 5))), (q_3, .inl (k 0, 10, .inl (fun _ => 0))), (q_5, .inl (k 0, 6, .inl g5)), (q_7, .inl (k 0, 6, .inl (fun _ => 0))), (q_9, .inl (k 0, 6, .inl (fun _ => 0))), (q_11, .inl (k 0, 6, .inl (fun _ => 0))), (q_13, .inl (k 0, 6, .inl (fun _ => 0))), (q_15, .inl (k 0, 6, .inl (fun _ => 0))), (q_17, .inl (k 0, 6, .inl (fun _ => 0))), (q_19, .inl (k 0, 6, .inl (fun _ => 0)))]) ⟨hx, hb, hml, hown, hts⟩ (c_J7_fill_53178 l D k q_5 6 (fun _ => 0) 5 g5 hg5) (va_cwS 2 hts gX0_init_J7_fill_53178 rfl rfl rfl (by decide +kernel) ⟨(Nat.le_of_ble_eq_true rfl), (Nat.le_of_ble_eq_true rfl)⟩) hK hP hD hS hA [3] rfl (by decide) rfl rfl rfl hl.1 rfl (Nat.le_of_ble_eq_true rfl) dX0_init_121 ⟨(Nat.le_of_ble_eq_true rfl), (Nat.le_of_ble_eq_true rfl)⟩ (fun H locs hP hD hS => ?_)
  refine W.eq (g2 := F0 m 124 ls []) rfl ?_
  refine lv_aload_n hx hb dX0_init_124 rfl (lv_at hl 0 rfl) ?_
  refine va_get (D := D) (ci := 0) (v := .ref q_11) (C := RX0) (T := TX0) (N := 12) hx hb hts w_4 hown hK hP 0 rfl rfl 7 (by decide) w_12 (fun _ h9 => h9) rfl dX0_init_125 ?_
  refine lv_bipush (v := 50) hx hb dX0_init_128 (by decide) ?_
  refine Ck_S (As := [.ref q_11, .int 50]) (rest := []) (wc := [(q_11, .inl (k 0, 6, .inl (fun _ => 0)))]) (wc' := [(q_11, .inl (k 0, 6, .inl g50))]) (w0' := [(h0, .inr (0, [.int 2, .ref q_1, .int 0, .ref q_3, .ref q_5, .ref q_7, .ref q_9, .ref q_11, .ref q_13, .ref q_15, .ref q_17, .ref q_19])), (q_1, .inl (k 0, 5, .inl (upd (upd (upd (upd (upd (fun _ => 0) 0 100) 1 90) 2 10) 3 0) 4 5))), (q_3, .inl (k 0, 10, .inl (fun _ => 0))), (q_5, .inl (k 0, 6, .inl g5)), (q_7, .inl (k 0, 6, .inl (fun _ => 0))), (q_9, .inl (k 0, 6, .inl (fun _ => 0))), (q_11, .inl (k 0, 6, .inl g50)), (q_13, .inl (k 0, 6, .inl (fun _ => 0))), (q_15, .inl (k 0, 6, .inl (fun _ => 0))), (q_17, .inl (k 0, 6, .inl (fun _ => 0))), (q_19, .inl (k 0, 6, .inl (fun _ => 0)))]) ⟨hx, hb, hml, hown, hts⟩ (c_J7_fill_53178 l D k q_11 6 (fun _ => 0) 50 g50 hg50) (va_cwS 2 hts gX0_init_J7_fill_53178 rfl rfl rfl (by decide +kernel) ⟨(Nat.le_of_ble_eq_true rfl), (Nat.le_of_ble_eq_true rfl)⟩) hK hP hD hS hA [6] rfl (by decide) rfl rfl rfl hl.1 rfl (Nat.le_of_ble_eq_true rfl) dX0_init_130 ⟨(Nat.le_of_ble_eq_true rfl), (Nat.le_of_ble_eq_true rfl)⟩ (fun H locs hP hD hS => ?_)
  refine W.eq (g2 := F0 m 133 ls []) rfl ?_
  exact Cx_vret hO (⟨rfl, fun j => [h0, q_1, q_3, q_5, q_7, q_9, q_11, q_13, q_15, q_17, q_19].getD j 0, rfl, rfl⟩) (Nat.le_of_ble_eq_true rfl) (Nat.le_of_ble_eq_true rfl) hx hb hr hP hD hS dX0_init_133 hlocks
set_option maxRecDepth 100000 in
set_option maxHeartbeats 4000000 in
theorem c_X1_init (l : Launch) (hst : l.stackTraces = false) (D : va_G) (k : Nat → ClassId) (h0 : Nat) (g5 g50 : Nat → Int32) (hg5 : f_J7_fill_53178 6 (fun _ => 0) 5 = some g5) (hg50 : f_J7_fill_53178 6 (fun _ => 0) 50 = some g50) : Cx l D (tyK k) yX1_init wsX1_init ({ frames := 2, cells := 28, slots := 333, locals := 43 } : Room) [.ref h0] [(h0, .inr (1, [.null, .int 0, .null, .null, .null, .null, .null, .int 0, .int 0, .null, .null]))] [(h0, .inr (1, [.null, .int 0, .null, .null, .null, .null, .null, .int 0, .int 0, .null, .null]))] (.inr (fun (ov : Option Value) (w : va_W) => ov = none ∧ ∃ cA nA tA : Nat → Nat, cA 0 = h0 ∧ w = trW k cA nA tA trI ++ stW k nA (stI g5 g50) ++ stW k tA (stI g5 g50) ++ poR k cA (fun _ => none))) := by
  obtain ⟨O, hO⟩ : ∃ O : Oc, O = .inr (fun (ov : Option Value) (w : va_W) => ov = none ∧ ∃ cA nA tA : Nat → Nat, cA 0 = h0 ∧ w = trW k cA nA tA trI ++ stW k nA (stI g5 g50) ++ stW k tA (stI g5 g50) ++ poR k cA (fun _ => none)) := ⟨_, rfl⟩
  rw [← hO]
  refine Cx_of (cc := cX1_init) (maxL := 1) (ret := none) (by decide) rfl (Nat.le_of_ble_eq_true rfl) ?_
  intro p e s m args below meth c A ls hx hb hr hml hts hown hlocks hnm htab hK hG hA hP hD hS hl
  have hl : lv_has ls 1 [(0, .ref h0)] := hl
  have w_0 := hts (.methodLink RX1 3 objectInit) (by decide +kernel)
  have w_1 := hts (.instanceMethod objectInit) (by decide +kernel)
  have w_2 := hts (.code objectInit ⟨#[0xb1]⟩ 1 none) (by decide +kernel)
  have w_3 := hts (.arrayClass .char) (by decide +kernel)
  have w_4 := hts (.fieldLink RX1 9 "EffectTrain" "text" "[C") (by decide +kernel)
  have w_5 : ∀ w ∈ wsX10, w ∈ wsX1_init := by decide +kernel
  have w_6 := hts (.fieldLink RX1 13 "EffectTrain" "textLength" "I") (by decide +kernel)
  have w_7 := hts (.arrayClass .int) (by decide +kernel)
  have w_8 := hts (.fieldLink RX1 17 "EffectTrain" "textNumbers" "[I") (by decide +kernel)
  have w_9 := hts (.classLink RX1 21 RX0) (by decide +kernel)
  have w_10 := hts (.instantiable RX0 12) (by decide +kernel)
  have w_11 := hts (.initialized RX0) (by decide +kernel)
  have w_12 : ∀ w ∈ wsX00, w ∈ wsX1_init := by decide +kernel
  have w_13 : va_Nw (.methodLinkNest RX1 23 yX0_init "EffectTrain") s := hG.2.2.2.2.2 (23, yX0_init, "EffectTrain") (by decide +kernel)
  have w_14 := hts (.instanceMethod yX0_init) (by decide +kernel)
  have w_15 := hts (.fieldLink RX1 24 "EffectTrain" "now" "LEffectTrain$State;") (by decide +kernel)
  have w_16 := hts (.fieldLink RX1 28 "EffectTrain" "trial" "LEffectTrain$State;") (by decide +kernel)
  have w_17 := hts (.fieldLink RX1 31 "EffectTrain" "turnStates" "[LEffectTrain$State;") (by decide +kernel)
  have w_18 := hts (.fieldLink RX1 35 "EffectTrain" "remembered" "[LEffectTrain$State;") (by decide +kernel)
  have w_19 := hts (.fieldLink RX1 38 "EffectTrain" "newest" "I") (by decide +kernel)
  have w_20 := hts (.fieldLink RX1 41 "EffectTrain" "rememberedCount" "I") (by decide +kernel)
  have w_21 := hts (.fieldLink RX1 44 "EffectTrain" "slots" "[LEffectTrain$State;") (by decide +kernel)
  have w_22 := hts (.arrayClass .boolean) (by decide +kernel)
  have w_23 := hts (.fieldLink RX1 47 "EffectTrain" "slotFilled" "[Z") (by decide +kernel)
  refine lv_aload_n hx hb dX1_init_0 rfl (lv_at hl 0 rfl) ?_
  refine W.objInit hx hb hown w_0 w_1 w_2 rfl (by rw [hml]; exact hl.1) rfl dX1_init_1 (Nat.le_of_ble_eq_true rfl) (Nat.le_of_ble_eq_true rfl) ?_
  refine W.eq (g2 := F0 m 4 ls []) rfl ?_
  refine lv_aload_n hx hb dX1_init_4 rfl (lv_at hl 0 rfl) ?_
  refine lv_bipush (v := 120) hx hb dX1_init_5 (by decide) ?_
  refine va_newa (atype := .char) (ty := .char) (a0 := (120, .inl (fun _ => 0))) (N' := 120) hx hb w_3 rfl hK hP hD hS hA (fun _ => rfl) (by decide) (by decide) (Nat.le_of_ble_eq_true rfl) (Nat.le_of_ble_eq_true rfl) (Nat.le_of_ble_eq_true rfl) dX1_init_7 (fun q_1 cA_2 H hK1 hP hD hS => ?_)
  have ecA_2 : cA_2 = k 1 := kcls_1 hK hK1
  subst ecA_2; clear hK1
  have hP : va_P D vwCl ([(h0, .inr (1, [.null, .int 0, .null, .null, .null, .null, .null, .int 0, .int 0, .null, .null])), (q_1, .inl (k 1, 120, .inl (fun _ => 0)))]) H := hP
  have hD : va_D A ([(h0, .inr (1, [.null, .int 0, .null, .null, .null, .null, .null, .int 0, .int 0, .null, .null])), (q_1, .inl (k 1, 120, .inl (fun _ => 0)))]) := hD
  refine W.eq (g2 := F0 m 9 ls [.ref q_1, .ref h0]) rfl ?_
  refine va_putF (D := D) (ci := 1) (v := .ref q_1) (ty := .array .char) (C := RX1) (T := TX1) (N := 11) hx hb hts w_5 tyX1 tyX1_ok nmX1 hown hK hP hD hS 0 rfl rfl 0 (by decide) w_4 (fun _ h9 => h9) rfl hnm rfl (by decide +kernel) rfl rfl (Nat.le_of_ble_eq_true rfl) dX1_init_9 (fun H locs hP hD hS => ?_)
  have hP : va_P D vwCl ([(h0, .inr (1, [.ref q_1, .int 0, .null, .null, .null, .null, .null, .int 0, .int 0, .null, .null])), (q_1, .inl (k 1, 120, .inl (fun _ => 0)))]) H := hP
  have hD : va_D A ([(h0, .inr (1, [.ref q_1, .int 0, .null, .null, .null, .null, .null, .int 0, .int 0, .null, .null])), (q_1, .inl (k 1, 120, .inl (fun _ => 0)))]) := hD
  refine lv_aload_n hx hb dX1_init_12 rfl (lv_at hl 0 rfl) ?_
  refine lv_iconst (v := 0) hx hb dX1_init_13 (by decide) ?_
  refine va_put (D := D) (ci := 1) (v := .int 0) (ty := .int) (C := RX1) (T := TX1) (N := 11) hx hb hts w_5 tyX1 tyX1_ok nmX1 hown hK hP hD hS 0 rfl rfl 1 (by decide) w_6 (fun _ h9 => h9) rfl (by decide +kernel) rfl rfl (Nat.le_of_ble_eq_true rfl) dX1_init_14 (fun H locs hP hD hS => ?_)
  have hP : va_P D vwCl ([(h0, .inr (1, [.ref q_1, .int 0, .null, .null, .null, .null, .null, .int 0, .int 0, .null, .null])), (q_1, .inl (k 1, 120, .inl (fun _ => 0)))]) H := hP
  have hD : va_D A ([(h0, .inr (1, [.ref q_1, .int 0, .null, .null, .null, .null, .null, .int 0, .int 0, .null, .null])), (q_1, .inl (k 1, 120, .inl (fun _ => 0)))]) := hD
  refine lv_aload_n hx hb dX1_init_17 rfl (lv_at hl 0 rfl) ?_
  refine lv_bipush (v := 42) hx hb dX1_init_18 (by decide) ?_
  refine va_newa (atype := .int) (ty := .int) (a0 := (42, .inl (fun _ => 0))) (N' := 42) hx hb w_7 rfl hK hP hD hS hA (fun _ => rfl) (by decide) (by decide) (Nat.le_of_ble_eq_true rfl) (Nat.le_of_ble_eq_true rfl) (Nat.le_of_ble_eq_true rfl) dX1_init_20 (fun q_3 cA_4 H hK1 hP hD hS => ?_)
  have ecA_4 : cA_4 = k 0 := kcls_0 hK hK1
  subst ecA_4; clear hK1
  have hP : va_P D vwCl ([(h0, .inr (1, [.ref q_1, .int 0, .null, .null, .null, .null, .null, .int 0, .int 0, .null, .null])), (q_1, .inl (k 1, 120, .inl (fun _ => 0))), (q_3, .inl (k 0, 42, .inl (fun _ => 0)))]) H := hP
  have hD : va_D A ([(h0, .inr (1, [.ref q_1, .int 0, .null, .null, .null, .null, .null, .int 0, .int 0, .null, .null])), (q_1, .inl (k 1, 120, .inl (fun _ => 0))), (q_3, .inl (k 0, 42, .inl (fun _ => 0)))]) := hD
  refine W.eq (g2 := F0 m 22 ls [.ref q_3, .ref h0]) rfl ?_
  refine va_putF (D := D) (ci := 1) (v := .ref q_3) (ty := .array .int) (C := RX1) (T := TX1) (N := 11) hx hb hts w_5 tyX1 tyX1_ok nmX1 hown hK hP hD hS 0 rfl rfl 2 (by decide) w_8 (fun _ h9 => h9) rfl hnm rfl (by decide +kernel) rfl rfl (Nat.le_of_ble_eq_true rfl) dX1_init_22 (fun H locs hP hD hS => ?_)
  have hP : va_P D vwCl ([(h0, .inr (1, [.ref q_1, .int 0, .ref q_3, .null, .null, .null, .null, .int 0, .int 0, .null, .null])), (q_1, .inl (k 1, 120, .inl (fun _ => 0))), (q_3, .inl (k 0, 42, .inl (fun _ => 0)))]) H := hP
  have hD : va_D A ([(h0, .inr (1, [.ref q_1, .int 0, .ref q_3, .null, .null, .null, .null, .int 0, .int 0, .null, .null])), (q_1, .inl (k 1, 120, .inl (fun _ => 0))), (q_3, .inl (k 0, 42, .inl (fun _ => 0)))]) := hD
  refine lv_aload_n hx hb dX1_init_25 rfl (lv_at hl 0 rfl) ?_
  refine va_new (ci := 0) (fs := [.int 0, .null, .int 0, .null, .null, .null, .null, .null, .null, .null, .null, .null]) (C := RX0) (T := TX0) (N := 12) hx hb hts w_12 tyX0 tyX0_ok hown w_9 w_10 w_11 hK hP hD hS hA rfl (fun j hj => by rcases (show j = 0 ∨ j = 1 ∨ j = 2 ∨ j = 3 ∨ j = 4 ∨ j = 5 ∨ j = 6 ∨ j = 7 ∨ j = 8 ∨ j = 9 ∨ j = 10 ∨ j = 11 by omega) with rfl | rfl | rfl | rfl | rfl | rfl | rfl | rfl | rfl | rfl | rfl | rfl <;> rfl) (Nat.le_of_ble_eq_true rfl) (Nat.le_of_ble_eq_true rfl) dX1_init_26 (fun q_5 H hP hD hS => ?_)
  have hP : va_P D vwCl ([(h0, .inr (1, [.ref q_1, .int 0, .ref q_3, .null, .null, .null, .null, .int 0, .int 0, .null, .null])), (q_1, .inl (k 1, 120, .inl (fun _ => 0))), (q_3, .inl (k 0, 42, .inl (fun _ => 0))), (q_5, .inr (0, [.int 0, .null, .int 0, .null, .null, .null, .null, .null, .null, .null, .null, .null]))]) H := hP
  have hD : va_D A ([(h0, .inr (1, [.ref q_1, .int 0, .ref q_3, .null, .null, .null, .null, .int 0, .int 0, .null, .null])), (q_1, .inl (k 1, 120, .inl (fun _ => 0))), (q_3, .inl (k 0, 42, .inl (fun _ => 0))), (q_5, .inr (0, [.int 0, .null, .int 0, .null, .null, .null, .null, .null, .null, .null, .null, .null]))]) := hD
  refine W.eq (g2 := F0 m 29 ls [.ref q_5, .ref h0]) rfl ?_
  refine lv_dup hx hb dX1_init_29 rfl ?_
  refine Cx_go (vx_runIN (As := []) (rest := [.ref q_5, .ref h0]) ⟨hx, hb, hml, hown, hts⟩ (c_X0_init l hst D k q_5 g5 g50 hg5 hg50 H.size) ⟨va_cnB 0 hts gX1_init_X0_init_n23 rfl rfl rfl w_13 w_11 (by decide +kernel) ⟨(Nat.le_of_ble_eq_true rfl), (Nat.le_of_ble_eq_true rfl)⟩, rfl, w_14⟩ ⟨Px_blind, Px_at (wc := [(q_5, .inr (0, [.int 0, .null, .int 0, .null, .null, .null, .null, .null, .null, .null, .null, .null]))]) hK hG hP hD hS hA [3] rfl (by decide)⟩ rfl rfl hl.1 rfl (Nat.le_of_ble_eq_true rfl) dX1_init_30 ⟨(Nat.le_of_ble_eq_true rfl), (Nat.le_of_ble_eq_true rfl)⟩) hP hD hS hA [3] rfl (fun _ _ _ _ _ h1 => nomatch h1) ?_
  intro ov B wc1 H1 locs1 h1 hB hP1 hD1 hk1 hF1 hS1
  cases h1
  obtain ⟨rfl, aS_6, eaS_6, rfl⟩ := hB
  subst eaS_6
  obtain ⟨hP, hD⟩ := va_join (wr := [(h0, .inr (1, [.ref q_1, .int 0, .ref q_3, .null, .null, .null, .null, .int 0, .int 0, .null, .null])), (q_1, .inl (k 1, 120, .inl (fun _ => 0))), (q_3, .inl (k 0, 42, .inl (fun _ => 0)))]) hP hD [3] [0, 1, 2] rfl rfl (by decide) (by decide) hk1 hF1 hP1 hD1
  clear hP1 hD1 hk1 hF1 hS
  generalize H1 = H at hP hS1 ⊢
  have hS := hS1; clear hS1
  generalize locs1 = locs at hS ⊢
  have hP : va_P D vwCl ([(h0, .inr (1, [.ref q_1, .int 0, .ref q_3, .null, .null, .null, .null, .int 0, .int 0, .null, .null])), (q_1, .inl (k 1, 120, .inl (fun _ => 0))), (q_3, .inl (k 0, 42, .inl (fun _ => 0)))] ++ stW k aS_6 (stI g5 g50)) H := hP
  have hD : va_D A ([(h0, .inr (1, [.ref q_1, .int 0, .ref q_3, .null, .null, .null, .null, .int 0, .int 0, .null, .null])), (q_1, .inl (k 1, 120, .inl (fun _ => 0))), (q_3, .inl (k 0, 42, .inl (fun _ => 0)))] ++ stW k aS_6 (stI g5 g50)) := hD
  refine W.eq (g2 := F0 m 33 ls [.ref (aS_6 0), .ref h0]) rfl ?_
  refine va_putF (D := D) (ci := 1) (v := .ref (aS_6 0)) (ty := .object "EffectTrain$State") (C := RX1) (T := TX1) (N := 11) hx hb hts w_5 tyX1 tyX1_ok nmX1 hown hK hP hD hS 0 rfl rfl 3 (by decide) w_15 (fun _ h9 => h9) rfl hnm rfl (by decide +kernel) rfl rfl (Nat.le_of_ble_eq_true rfl) dX1_init_33 (fun H locs hP hD hS => ?_)
  have hP : va_P D vwCl ([(h0, .inr (1, [.ref q_1, .int 0, .ref q_3, .ref (aS_6 0), .null, .null, .null, .int 0, .int 0, .null, .null])), (q_1, .inl (k 1, 120, .inl (fun _ => 0))), (q_3, .inl (k 0, 42, .inl (fun _ => 0)))] ++ stW k aS_6 (stI g5 g50)) H := hP
  have hD : va_D A ([(h0, .inr (1, [.ref q_1, .int 0, .ref q_3, .ref (aS_6 0), .null, .null, .null, .int 0, .int 0, .null, .null])), (q_1, .inl (k 1, 120, .inl (fun _ => 0))), (q_3, .inl (k 0, 42, .inl (fun _ => 0)))] ++ stW k aS_6 (stI g5 g50)) := hD
  refine lv_aload_n hx hb dX1_init_36 rfl (lv_at hl 0 rfl) ?_
  refine va_new (ci := 0) (fs := [.int 0, .null, .int 0, .null, .null, .null, .null, .null, .null, .null, .null, .null]) (C := RX0) (T := TX0) (N := 12) hx hb hts w_12 tyX0 tyX0_ok hown w_9 w_10 w_11 hK hP hD hS hA rfl (fun j hj => by rcases (show j = 0 ∨ j = 1 ∨ j = 2 ∨ j = 3 ∨ j = 4 ∨ j = 5 ∨ j = 6 ∨ j = 7 ∨ j = 8 ∨ j = 9 ∨ j = 10 ∨ j = 11 by omega) with rfl | rfl | rfl | rfl | rfl | rfl | rfl | rfl | rfl | rfl | rfl | rfl <;> rfl) (Nat.le_of_ble_eq_true rfl) (Nat.le_of_ble_eq_true rfl) dX1_init_37 (fun q_7 H hP hD hS => ?_)
  have hP : va_P D vwCl ([(h0, .inr (1, [.ref q_1, .int 0, .ref q_3, .ref (aS_6 0), .null, .null, .null, .int 0, .int 0, .null, .null])), (q_1, .inl (k 1, 120, .inl (fun _ => 0))), (q_3, .inl (k 0, 42, .inl (fun _ => 0)))] ++ stW k aS_6 (stI g5 g50) ++ [(q_7, .inr (0, [.int 0, .null, .int 0, .null, .null, .null, .null, .null, .null, .null, .null, .null]))]) H := hP
  have hD : va_D A ([(h0, .inr (1, [.ref q_1, .int 0, .ref q_3, .ref (aS_6 0), .null, .null, .null, .int 0, .int 0, .null, .null])), (q_1, .inl (k 1, 120, .inl (fun _ => 0))), (q_3, .inl (k 0, 42, .inl (fun _ => 0)))] ++ stW k aS_6 (stI g5 g50) ++ [(q_7, .inr (0, [.int 0, .null, .int 0, .null, .null, .null, .null, .null, .null, .null, .null, .null]))]) := hD
  refine W.eq (g2 := F0 m 40 ls [.ref q_7, .ref h0]) rfl ?_
  refine lv_dup hx hb dX1_init_40 rfl ?_
  refine Cx_go (vx_runIN (As := []) (rest := [.ref q_7, .ref h0]) ⟨hx, hb, hml, hown, hts⟩ (c_X0_init l hst D k q_7 g5 g50 hg5 hg50 H.size) ⟨va_cnB 0 hts gX1_init_X0_init_n23 rfl rfl rfl w_13 w_11 (by decide +kernel) ⟨(Nat.le_of_ble_eq_true rfl), (Nat.le_of_ble_eq_true rfl)⟩, rfl, w_14⟩ ⟨Px_blind, Px_at (wc := [(q_7, .inr (0, [.int 0, .null, .int 0, .null, .null, .null, .null, .null, .null, .null, .null, .null]))]) hK hG hP hD hS hA [14] rfl (by decide)⟩ rfl rfl hl.1 rfl (Nat.le_of_ble_eq_true rfl) dX1_init_41 ⟨(Nat.le_of_ble_eq_true rfl), (Nat.le_of_ble_eq_true rfl)⟩) hP hD hS hA [14] rfl (fun _ _ _ _ _ h1 => nomatch h1) ?_
  intro ov B wc1 H1 locs1 h1 hB hP1 hD1 hk1 hF1 hS1
  cases h1
  obtain ⟨rfl, aS_8, eaS_8, rfl⟩ := hB
  subst eaS_8
  obtain ⟨hP, hD⟩ := va_join (wr := [(h0, .inr (1, [.ref q_1, .int 0, .ref q_3, .ref (aS_6 0), .null, .null, .null, .int 0, .int 0, .null, .null])), (q_1, .inl (k 1, 120, .inl (fun _ => 0))), (q_3, .inl (k 0, 42, .inl (fun _ => 0)))] ++ stW k aS_6 (stI g5 g50)) hP hD [14] [0, 1, 2, 3, 4, 5, 6, 7, 8, 9, 10, 11, 12, 13] rfl rfl (by decide) (by decide) hk1 hF1 hP1 hD1
  clear hP1 hD1 hk1 hF1 hS
  generalize H1 = H at hP hS1 ⊢
  have hS := hS1; clear hS1
  generalize locs1 = locs at hS ⊢
  have hP : va_P D vwCl ([(h0, .inr (1, [.ref q_1, .int 0, .ref q_3, .ref (aS_6 0), .null, .null, .null, .int 0, .int 0, .null, .null])), (q_1, .inl (k 1, 120, .inl (fun _ => 0))), (q_3, .inl (k 0, 42, .inl (fun _ => 0)))] ++ stW k aS_6 (stI g5 g50) ++ stW k aS_8 (stI g5 g50)) H := hP
  have hD : va_D A ([(h0, .inr (1, [.ref q_1, .int 0, .ref q_3, .ref (aS_6 0), .null, .null, .null, .int 0, .int 0, .null, .null])), (q_1, .inl (k 1, 120, .inl (fun _ => 0))), (q_3, .inl (k 0, 42, .inl (fun _ => 0)))] ++ stW k aS_6 (stI g5 g50) ++ stW k aS_8 (stI g5 g50)) := hD
  refine W.eq (g2 := F0 m 44 ls [.ref (aS_8 0), .ref h0]) rfl ?_
  refine va_putF (D := D) (ci := 1) (v := .ref (aS_8 0)) (ty := .object "EffectTrain$State") (C := RX1) (T := TX1) (N := 11) hx hb hts w_5 tyX1 tyX1_ok nmX1 hown hK hP hD hS 0 rfl rfl 4 (by decide) w_16 (fun _ h9 => h9) rfl hnm rfl (by decide +kernel) rfl rfl (Nat.le_of_ble_eq_true rfl) dX1_init_44 (fun H locs hP hD hS => ?_)
  have hP : va_P D vwCl ([(h0, .inr (1, [.ref q_1, .int 0, .ref q_3, .ref (aS_6 0), .ref (aS_8 0), .null, .null, .int 0, .int 0, .null, .null])), (q_1, .inl (k 1, 120, .inl (fun _ => 0))), (q_3, .inl (k 0, 42, .inl (fun _ => 0)))] ++ stW k aS_6 (stI g5 g50) ++ stW k aS_8 (stI g5 g50)) H := hP
  have hD : va_D A ([(h0, .inr (1, [.ref q_1, .int 0, .ref q_3, .ref (aS_6 0), .ref (aS_8 0), .null, .null, .int 0, .int 0, .null, .null])), (q_1, .inl (k 1, 120, .inl (fun _ => 0))), (q_3, .inl (k 0, 42, .inl (fun _ => 0)))] ++ stW k aS_6 (stI g5 g50) ++ stW k aS_8 (stI g5 g50)) := hD
  refine lv_aload_n hx hb dX1_init_47 rfl (lv_at hl 0 rfl) ?_
  refine lv_iconst (v := 3) hx hb dX1_init_48 (by decide) ?_
  refine va_newq hx hb hown w_9 hG.2.2.1.1 hK hP hD hS hA (n := 3) (N' := 3) (by decide) (by decide) (Nat.le_of_ble_eq_true rfl) (Nat.le_of_ble_eq_true rfl) (Nat.le_of_ble_eq_true rfl) dX1_init_49 (fun q_9 cA_10 H hK1 hP hD hS => ?_)
  have ecA_10 : cA_10 = k 3 := kcls_3 hK hK1
  subst ecA_10; clear hK1
  have hP : va_P D vwCl ([(h0, .inr (1, [.ref q_1, .int 0, .ref q_3, .ref (aS_6 0), .ref (aS_8 0), .null, .null, .int 0, .int 0, .null, .null])), (q_1, .inl (k 1, 120, .inl (fun _ => 0))), (q_3, .inl (k 0, 42, .inl (fun _ => 0)))] ++ stW k aS_6 (stI g5 g50) ++ stW k aS_8 (stI g5 g50) ++ [(q_9, .inl (k 3, 3, .inr (.inr (.inr (.inr (fun _ => none))))))]) H := hP
  have hD : va_D A ([(h0, .inr (1, [.ref q_1, .int 0, .ref q_3, .ref (aS_6 0), .ref (aS_8 0), .null, .null, .int 0, .int 0, .null, .null])), (q_1, .inl (k 1, 120, .inl (fun _ => 0))), (q_3, .inl (k 0, 42, .inl (fun _ => 0)))] ++ stW k aS_6 (stI g5 g50) ++ stW k aS_8 (stI g5 g50) ++ [(q_9, .inl (k 3, 3, .inr (.inr (.inr (.inr (fun _ => none))))))]) := hD
  refine W.eq (g2 := F0 m 52 ls [.ref q_9, .ref h0]) rfl ?_
  refine va_putF (D := D) (ci := 1) (v := .ref q_9) (ty := .array (.object "EffectTrain$State")) (C := RX1) (T := TX1) (N := 11) hx hb hts w_5 tyX1 tyX1_ok nmX1 hown hK hP hD hS 0 rfl rfl 5 (by decide) w_17 (fun _ h9 => h9) rfl hnm rfl (by decide +kernel) rfl rfl (Nat.le_of_ble_eq_true rfl) dX1_init_52 (fun H locs hP hD hS => ?_)
  have hP : va_P D vwCl ([(h0, .inr (1, [.ref q_1, .int 0, .ref q_3, .ref (aS_6 0), .ref (aS_8 0), .ref q_9, .null, .int 0, .int 0, .null, .null])), (q_1, .inl (k 1, 120, .inl (fun _ => 0))), (q_3, .inl (k 0, 42, .inl (fun _ => 0)))] ++ stW k aS_6 (stI g5 g50) ++ stW k aS_8 (stI g5 g50) ++ [(q_9, .inl (k 3, 3, .inr (.inr (.inr (.inr (fun _ => none))))))]) H := hP
  have hD : va_D A ([(h0, .inr (1, [.ref q_1, .int 0, .ref q_3, .ref (aS_6 0), .ref (aS_8 0), .ref q_9, .null, .int 0, .int 0, .null, .null])), (q_1, .inl (k 1, 120, .inl (fun _ => 0))), (q_3, .inl (k 0, 42, .inl (fun _ => 0)))] ++ stW k aS_6 (stI g5 g50) ++ stW k aS_8 (stI g5 g50) ++ [(q_9, .inl (k 3, 3, .inr (.inr (.inr (.inr (fun _ => none))))))]) := hD
  refine lv_aload_n hx hb dX1_init_55 rfl (lv_at hl 0 rfl) ?_
  refine lv_bipush (v := 14) hx hb dX1_init_56 (by decide) ?_
  refine va_newq hx hb hown w_9 hG.2.2.1.1 hK hP hD hS hA (n := 14) (N' := 14) (by decide) (by decide) (Nat.le_of_ble_eq_true rfl) (Nat.le_of_ble_eq_true rfl) (Nat.le_of_ble_eq_true rfl) dX1_init_58 (fun q_11 cA_12 H hK1 hP hD hS => ?_)
  have ecA_12 : cA_12 = k 3 := kcls_3 hK hK1
  subst ecA_12; clear hK1
  have hP : va_P D vwCl ([(h0, .inr (1, [.ref q_1, .int 0, .ref q_3, .ref (aS_6 0), .ref (aS_8 0), .ref q_9, .null, .int 0, .int 0, .null, .null])), (q_1, .inl (k 1, 120, .inl (fun _ => 0))), (q_3, .inl (k 0, 42, .inl (fun _ => 0)))] ++ stW k aS_6 (stI g5 g50) ++ stW k aS_8 (stI g5 g50) ++ [(q_9, .inl (k 3, 3, .inr (.inr (.inr (.inr (fun _ => none)))))), (q_11, .inl (k 3, 14, .inr (.inr (.inr (.inr (fun _ => none))))))]) H := hP
  have hD : va_D A ([(h0, .inr (1, [.ref q_1, .int 0, .ref q_3, .ref (aS_6 0), .ref (aS_8 0), .ref q_9, .null, .int 0, .int 0, .null, .null])), (q_1, .inl (k 1, 120, .inl (fun _ => 0))), (q_3, .inl (k 0, 42, .inl (fun _ => 0)))] ++ stW k aS_6 (stI g5 g50) ++ stW k aS_8 (stI g5 g50) ++ [(q_9, .inl (k 3, 3, .inr (.inr (.inr (.inr (fun _ => none)))))), (q_11, .inl (k 3, 14, .inr (.inr (.inr (.inr (fun _ => none))))))]) := hD
  refine W.eq (g2 := F0 m 61 ls [.ref q_11, .ref h0]) rfl ?_
  refine va_putF (D := D) (ci := 1) (v := .ref q_11) (ty := .array (.object "EffectTrain$State")) (C := RX1) (T := TX1) (N := 11) hx hb hts w_5 tyX1 tyX1_ok nmX1 hown hK hP hD hS 0 rfl rfl 6 (by decide) w_18 (fun _ h9 => h9) rfl hnm rfl (by decide +kernel) rfl rfl (Nat.le_of_ble_eq_true rfl) dX1_init_61 (fun H locs hP hD hS => ?_)
  have hP : va_P D vwCl ([(h0, .inr (1, [.ref q_1, .int 0, .ref q_3, .ref (aS_6 0), .ref (aS_8 0), .ref q_9, .ref q_11, .int 0, .int 0, .null, .null])), (q_1, .inl (k 1, 120, .inl (fun _ => 0))), (q_3, .inl (k 0, 42, .inl (fun _ => 0)))] ++ stW k aS_6 (stI g5 g50) ++ stW k aS_8 (stI g5 g50) ++ [(q_9, .inl (k 3, 3, .inr (.inr (.inr (.inr (fun _ => none)))))), (q_11, .inl (k 3, 14, .inr (.inr (.inr (.inr (fun _ => none))))))]) H := hP
  have hD : va_D A ([(h0, .inr (1, [.ref q_1, .int 0, .ref q_3, .ref (aS_6 0), .ref (aS_8 0), .ref q_9, .ref q_11, .int 0, .int 0, .null, .null])), (q_1, .inl (k 1, 120, .inl (fun _ => 0))), (q_3, .inl (k 0, 42, .inl (fun _ => 0)))] ++ stW k aS_6 (stI g5 g50) ++ stW k aS_8 (stI g5 g50) ++ [(q_9, .inl (k 3, 3, .inr (.inr (.inr (.inr (fun _ => none)))))), (q_11, .inl (k 3, 14, .inr (.inr (.inr (.inr (fun _ => none))))))]) := hD
  refine lv_aload_n hx hb dX1_init_64 rfl (lv_at hl 0 rfl) ?_
  refine lv_iconst (v := 0) hx hb dX1_init_65 (by decide) ?_
  refine va_put (D := D) (ci := 1) (v := .int 0) (ty := .int) (C := RX1) (T := TX1) (N := 11) hx hb hts w_5 tyX1 tyX1_ok nmX1 hown hK hP hD hS 0 rfl rfl 7 (by decide) w_19 (fun _ h9 => h9) rfl (by decide +kernel) rfl rfl (Nat.le_of_ble_eq_true rfl) dX1_init_66 (fun H locs hP hD hS => ?_)
  have hP : va_P D vwCl ([(h0, .inr (1, [.ref q_1, .int 0, .ref q_3, .ref (aS_6 0), .ref (aS_8 0), .ref q_9, .ref q_11, .int 0, .int 0, .null, .null])), (q_1, .inl (k 1, 120, .inl (fun _ => 0))), (q_3, .inl (k 0, 42, .inl (fun _ => 0)))] ++ stW k aS_6 (stI g5 g50) ++ stW k aS_8 (stI g5 g50) ++ [(q_9, .inl (k 3, 3, .inr (.inr (.inr (.inr (fun _ => none)))))), (q_11, .inl (k 3, 14, .inr (.inr (.inr (.inr (fun _ => none))))))]) H := hP
  have hD : va_D A ([(h0, .inr (1, [.ref q_1, .int 0, .ref q_3, .ref (aS_6 0), .ref (aS_8 0), .ref q_9, .ref q_11, .int 0, .int 0, .null, .null])), (q_1, .inl (k 1, 120, .inl (fun _ => 0))), (q_3, .inl (k 0, 42, .inl (fun _ => 0)))] ++ stW k aS_6 (stI g5 g50) ++ stW k aS_8 (stI g5 g50) ++ [(q_9, .inl (k 3, 3, .inr (.inr (.inr (.inr (fun _ => none)))))), (q_11, .inl (k 3, 14, .inr (.inr (.inr (.inr (fun _ => none))))))]) := hD
  refine lv_aload_n hx hb dX1_init_69 rfl (lv_at hl 0 rfl) ?_
  refine lv_iconst (v := 0) hx hb dX1_init_70 (by decide) ?_
  refine va_put (D := D) (ci := 1) (v := .int 0) (ty := .int) (C := RX1) (T := TX1) (N := 11) hx hb hts w_5 tyX1 tyX1_ok nmX1 hown hK hP hD hS 0 rfl rfl 8 (by decide) w_20 (fun _ h9 => h9) rfl (by decide +kernel) rfl rfl (Nat.le_of_ble_eq_true rfl) dX1_init_71 (fun H locs hP hD hS => ?_)
  have hP : va_P D vwCl ([(h0, .inr (1, [.ref q_1, .int 0, .ref q_3, .ref (aS_6 0), .ref (aS_8 0), .ref q_9, .ref q_11, .int 0, .int 0, .null, .null])), (q_1, .inl (k 1, 120, .inl (fun _ => 0))), (q_3, .inl (k 0, 42, .inl (fun _ => 0)))] ++ stW k aS_6 (stI g5 g50) ++ stW k aS_8 (stI g5 g50) ++ [(q_9, .inl (k 3, 3, .inr (.inr (.inr (.inr (fun _ => none)))))), (q_11, .inl (k 3, 14, .inr (.inr (.inr (.inr (fun _ => none))))))]) H := hP
  have hD : va_D A ([(h0, .inr (1, [.ref q_1, .int 0, .ref q_3, .ref (aS_6 0), .ref (aS_8 0), .ref q_9, .ref q_11, .int 0, .int 0, .null, .null])), (q_1, .inl (k 1, 120, .inl (fun _ => 0))), (q_3, .inl (k 0, 42, .inl (fun _ => 0)))] ++ stW k aS_6 (stI g5 g50) ++ stW k aS_8 (stI g5 g50) ++ [(q_9, .inl (k 3, 3, .inr (.inr (.inr (.inr (fun _ => none)))))), (q_11, .inl (k 3, 14, .inr (.inr (.inr (.inr (fun _ => none))))))]) := hD
  refine lv_aload_n hx hb dX1_init_74 rfl (lv_at hl 0 rfl) ?_
  refine lv_iconst (v := 2) hx hb dX1_init_75 (by decide) ?_
  refine va_newq hx hb hown w_9 hG.2.2.1.1 hK hP hD hS hA (n := 2) (N' := 2) (by decide) (by decide) (Nat.le_of_ble_eq_true rfl) (Nat.le_of_ble_eq_true rfl) (Nat.le_of_ble_eq_true rfl) dX1_init_76 (fun q_13 cA_14 H hK1 hP hD hS => ?_)
  have ecA_14 : cA_14 = k 3 := kcls_3 hK hK1
  subst ecA_14; clear hK1
  have hP : va_P D vwCl ([(h0, .inr (1, [.ref q_1, .int 0, .ref q_3, .ref (aS_6 0), .ref (aS_8 0), .ref q_9, .ref q_11, .int 0, .int 0, .null, .null])), (q_1, .inl (k 1, 120, .inl (fun _ => 0))), (q_3, .inl (k 0, 42, .inl (fun _ => 0)))] ++ stW k aS_6 (stI g5 g50) ++ stW k aS_8 (stI g5 g50) ++ [(q_9, .inl (k 3, 3, .inr (.inr (.inr (.inr (fun _ => none)))))), (q_11, .inl (k 3, 14, .inr (.inr (.inr (.inr (fun _ => none)))))), (q_13, .inl (k 3, 2, .inr (.inr (.inr (.inr (fun _ => none))))))]) H := hP
  have hD : va_D A ([(h0, .inr (1, [.ref q_1, .int 0, .ref q_3, .ref (aS_6 0), .ref (aS_8 0), .ref q_9, .ref q_11, .int 0, .int 0, .null, .null])), (q_1, .inl (k 1, 120, .inl (fun _ => 0))), (q_3, .inl (k 0, 42, .inl (fun _ => 0)))] ++ stW k aS_6 (stI g5 g50) ++ stW k aS_8 (stI g5 g50) ++ [(q_9, .inl (k 3, 3, .inr (.inr (.inr (.inr (fun _ => none)))))), (q_11, .inl (k 3, 14, .inr (.inr (.inr (.inr (fun _ => none)))))), (q_13, .inl (k 3, 2, .inr (.inr (.inr (.inr (fun _ => none))))))]) := hD
  refine W.eq (g2 := F0 m 79 ls [.ref q_13, .ref h0]) rfl ?_
  refine va_putF (D := D) (ci := 1) (v := .ref q_13) (ty := .array (.object "EffectTrain$State")) (C := RX1) (T := TX1) (N := 11) hx hb hts w_5 tyX1 tyX1_ok nmX1 hown hK hP hD hS 0 rfl rfl 9 (by decide) w_21 (fun _ h9 => h9) rfl hnm rfl (by decide +kernel) rfl rfl (Nat.le_of_ble_eq_true rfl) dX1_init_79 (fun H locs hP hD hS => ?_)
  have hP : va_P D vwCl ([(h0, .inr (1, [.ref q_1, .int 0, .ref q_3, .ref (aS_6 0), .ref (aS_8 0), .ref q_9, .ref q_11, .int 0, .int 0, .ref q_13, .null])), (q_1, .inl (k 1, 120, .inl (fun _ => 0))), (q_3, .inl (k 0, 42, .inl (fun _ => 0)))] ++ stW k aS_6 (stI g5 g50) ++ stW k aS_8 (stI g5 g50) ++ [(q_9, .inl (k 3, 3, .inr (.inr (.inr (.inr (fun _ => none)))))), (q_11, .inl (k 3, 14, .inr (.inr (.inr (.inr (fun _ => none)))))), (q_13, .inl (k 3, 2, .inr (.inr (.inr (.inr (fun _ => none))))))]) H := hP
  have hD : va_D A ([(h0, .inr (1, [.ref q_1, .int 0, .ref q_3, .ref (aS_6 0), .ref (aS_8 0), .ref q_9, .ref q_11, .int 0, .int 0, .ref q_13, .null])), (q_1, .inl (k 1, 120, .inl (fun _ => 0))), (q_3, .inl (k 0, 42, .inl (fun _ => 0)))] ++ stW k aS_6 (stI g5 g50) ++ stW k aS_8 (stI g5 g50) ++ [(q_9, .inl (k 3, 3, .inr (.inr (.inr (.inr (fun _ => none)))))), (q_11, .inl (k 3, 14, .inr (.inr (.inr (.inr (fun _ => none)))))), (q_13, .inl (k 3, 2, .inr (.inr (.inr (.inr (fun _ => none))))))]) := hD
  refine lv_aload_n hx hb dX1_init_82 rfl (lv_at hl 0 rfl) ?_
  refine lv_iconst (v := 2) hx hb dX1_init_83 (by decide) ?_
  refine va_newa (atype := .boolean) (ty := .boolean) (a0 := (2, .inl (fun _ => 0))) (N' := 2) hx hb w_22 rfl hK hP hD hS hA (fun _ => rfl) (by decide) (by decide) (Nat.le_of_ble_eq_true rfl) (Nat.le_of_ble_eq_true rfl) (Nat.le_of_ble_eq_true rfl) dX1_init_84 (fun q_15 cA_16 H hK1 hP hD hS => ?_)
  have ecA_16 : cA_16 = k 2 := kcls_2 hK hK1
  subst ecA_16; clear hK1
  have hP : va_P D vwCl ([(h0, .inr (1, [.ref q_1, .int 0, .ref q_3, .ref (aS_6 0), .ref (aS_8 0), .ref q_9, .ref q_11, .int 0, .int 0, .ref q_13, .null])), (q_1, .inl (k 1, 120, .inl (fun _ => 0))), (q_3, .inl (k 0, 42, .inl (fun _ => 0)))] ++ stW k aS_6 (stI g5 g50) ++ stW k aS_8 (stI g5 g50) ++ [(q_9, .inl (k 3, 3, .inr (.inr (.inr (.inr (fun _ => none)))))), (q_11, .inl (k 3, 14, .inr (.inr (.inr (.inr (fun _ => none)))))), (q_13, .inl (k 3, 2, .inr (.inr (.inr (.inr (fun _ => none)))))), (q_15, .inl (k 2, 2, .inl (fun _ => 0)))]) H := hP
  have hD : va_D A ([(h0, .inr (1, [.ref q_1, .int 0, .ref q_3, .ref (aS_6 0), .ref (aS_8 0), .ref q_9, .ref q_11, .int 0, .int 0, .ref q_13, .null])), (q_1, .inl (k 1, 120, .inl (fun _ => 0))), (q_3, .inl (k 0, 42, .inl (fun _ => 0)))] ++ stW k aS_6 (stI g5 g50) ++ stW k aS_8 (stI g5 g50) ++ [(q_9, .inl (k 3, 3, .inr (.inr (.inr (.inr (fun _ => none)))))), (q_11, .inl (k 3, 14, .inr (.inr (.inr (.inr (fun _ => none)))))), (q_13, .inl (k 3, 2, .inr (.inr (.inr (.inr (fun _ => none)))))), (q_15, .inl (k 2, 2, .inl (fun _ => 0)))]) := hD
  refine W.eq (g2 := F0 m 86 ls [.ref q_15, .ref h0]) rfl ?_
  refine va_putF (D := D) (ci := 1) (v := .ref q_15) (ty := .array .boolean) (C := RX1) (T := TX1) (N := 11) hx hb hts w_5 tyX1 tyX1_ok nmX1 hown hK hP hD hS 0 rfl rfl 10 (by decide) w_23 (fun _ h9 => h9) rfl hnm rfl (by decide +kernel) rfl rfl (Nat.le_of_ble_eq_true rfl) dX1_init_86 (fun H locs hP hD hS => ?_)
  have hP : va_P D vwCl ([(h0, .inr (1, [.ref q_1, .int 0, .ref q_3, .ref (aS_6 0), .ref (aS_8 0), .ref q_9, .ref q_11, .int 0, .int 0, .ref q_13, .ref q_15])), (q_1, .inl (k 1, 120, .inl (fun _ => 0))), (q_3, .inl (k 0, 42, .inl (fun _ => 0)))] ++ stW k aS_6 (stI g5 g50) ++ stW k aS_8 (stI g5 g50) ++ [(q_9, .inl (k 3, 3, .inr (.inr (.inr (.inr (fun _ => none)))))), (q_11, .inl (k 3, 14, .inr (.inr (.inr (.inr (fun _ => none)))))), (q_13, .inl (k 3, 2, .inr (.inr (.inr (.inr (fun _ => none)))))), (q_15, .inl (k 2, 2, .inl (fun _ => 0)))]) H := hP
  have hD : va_D A ([(h0, .inr (1, [.ref q_1, .int 0, .ref q_3, .ref (aS_6 0), .ref (aS_8 0), .ref q_9, .ref q_11, .int 0, .int 0, .ref q_13, .ref q_15])), (q_1, .inl (k 1, 120, .inl (fun _ => 0))), (q_3, .inl (k 0, 42, .inl (fun _ => 0)))] ++ stW k aS_6 (stI g5 g50) ++ stW k aS_8 (stI g5 g50) ++ [(q_9, .inl (k 3, 3, .inr (.inr (.inr (.inr (fun _ => none)))))), (q_11, .inl (k 3, 14, .inr (.inr (.inr (.inr (fun _ => none)))))), (q_13, .inl (k 3, 2, .inr (.inr (.inr (.inr (fun _ => none)))))), (q_15, .inl (k 2, 2, .inl (fun _ => 0)))]) := hD
  have hP9 := hP.sub (ws' := trW k (fun j => [h0, q_1, q_3, q_9, q_11, q_13, q_15].getD j 0) aS_6 aS_8 trI ++ stW k aS_6 (stI g5 g50) ++ stW k aS_8 (stI g5 g50) ++ poR k (fun j => [h0, q_1, q_3, q_9, q_11, q_13, q_15].getD j 0) (fun _ => none)) [0, 1, 2, 28, 3, 4, 5, 6, 7, 8, 9, 10, 11, 12, 13, 14, 15, 16, 17, 18, 19, 20, 21, 22, 23, 24, 25, 26, 27] rfl
  have hD9 := hD.sub (ws' := trW k (fun j => [h0, q_1, q_3, q_9, q_11, q_13, q_15].getD j 0) aS_6 aS_8 trI ++ stW k aS_6 (stI g5 g50) ++ stW k aS_8 (stI g5 g50) ++ poR k (fun j => [h0, q_1, q_3, q_9, q_11, q_13, q_15].getD j 0) (fun _ => none)) [0, 1, 2, 28, 3, 4, 5, 6, 7, 8, 9, 10, 11, 12, 13, 14, 15, 16, 17, 18, 19, 20, 21, 22, 23, 24, 25, 26, 27] (by decide) rfl
  exact Cx_vret hO (⟨rfl, _, aS_6, aS_8, rfl, rfl⟩) (Nat.le_of_ble_eq_true rfl) (Nat.le_of_ble_eq_true rfl) hx hb hr hP9 hD9 hS dX1_init_89 hlocks
