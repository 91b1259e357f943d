/-! the law's wrappers: what they stand on -/
def gC (U : State) : Prop := va_Nc xR xB U ∧ va_Nc xS xB U ∧ va_Nc xS xR U
def Pl (D : va_G) (tys : List (ClassId × FieldType)) (w1 : va_W) (sz : Nat) (U : State) : Prop := Px D tys w1 sz U ∧ gC U
def Cl (l : Launch) (D : va_G) (tys : List (ClassId × FieldType)) (y : MethodName) (ws : List Cond) (rm : Room) (av : List Value) (w1 : va_W) (o : Oc) : Prop :=
  ∀ sz : Nat, vx_Met l y ws rm (va_Pc av (Pl D tys w1 sz)) (Qx D (va_A w1 sz) o) (Xx D (va_A w1 sz) w1 o) rm.cells rm.slots (va_A w1 sz)
theorem Cl_of {l : Launch} {D : va_G} {tys : List (ClassId × FieldType)} {y : MethodName} {ws ws' : List Cond} {rm : Room} {av : List Value} {w1 : va_W} {o : Oc} {cc : ByteArray} {maxL : Nat} {ret : Option FieldType} {hh : List (Nat × Nat × Nat × Nat)}
    (hy : plainName y.cls = true) (hw : ws = Cond.codeWith y cc maxL ret hh :: ws') (hlen : (lg_sl av).length ≤ maxL)
    (body : ∀ (p : Program) (e : Env) (s : State) (m : MethodId) (args : Array Value) (below : List Frame) (meth : Method) (c : Code) (A : Nat → Prop) (ls : Array Slot), p.tables.exec = Jvm.exec → c.code = cc → meth.sig.returnType = ret → c.maxLocals = maxL → (∀ w ∈ ws, w.before args s = true) → s.vm.findClass y.cls = some m.cls → meth.locks = false → c.exceptionTable.toList = tableOf hh → va_K D vwCl tys s → gX A s → gC s → (∀ q : Nat, s.heap.size ≤ q → A q) → va_P D vwCl w1 s.heap → va_D A w1 → va_S A s.heap s.heap [] → lv_has ls maxL (lv_args 0 av) →
      W p l e rm s m args below meth c s.heap [] 0 0 (vx_MQ below (Qx D A o) (Xx D A w1 o) args s rm.cells rm.slots A) (F0 m 0 ls [])) : Cl l D tys y ws rm av w1 o := by
  intro sz
  refine vx_ofWH (cc := cc) (maxL := maxL) (ret := ret) hy hw ?_
  intro p e s m args below meth c s₁ B hml hv
  obtain ⟨rfl, ⟨⟨hsz, hP, hK, hD0⟩, hG⟩, hC⟩ := hv
  subst hsz
  have htab : c.exceptionTable.toList = tableOf hh := vx_table (x := y) B (atoms_spec (ws := ws) B.pre _ (by rw [hw]; exact List.mem_cons_self))
  rw [lg_entry_eq]
  exact body p e s m _ below meth c (va_A w1 s.heap.size) _ B.exec B.bytes B.returns hml (atoms_spec (ws := ws) B.pre) (findClass_of_methodNamed B.named) B.notSynchronized htab hK hG hC (fun q h => Or.inr h) hP hD0.self va_S.rf (lv_entry av hlen)
section OWNL
variable {p : Program} {l : Launch} {e : Env} {R : Room} {s : State} {m : MethodId} {args : Array Value} {below : List Frame} {meth : Method} {c : Code} {H : Heap} {locs : List Loc} {cells slots mc ms : Nat} {Q : State → Prop}
variable {cc : ByteArray} {pc : Nat} {ls : Array Slot} {rest : List Value} {D : va_G} {A : Nat → Prop} {H0 : Heap} {w w1 w2 : va_W} {o : Oc} {B : Option Value → va_W → Prop}
/-- behind a call that had the world's first part and may throw -/
theorem Cx_goF {A0 : Nat → Prop} {wc wx wr : va_W} {st0 : List Value} {oc : Oc} {mc2 ms2 : Nat} {a : Array Value} (hr : vx_Run p l e R s m args below meth c H locs cells slots mc2 ms2 (F0 m pc ls st0) rest (Qx D (va_A wc H.size) oc a) (Xx D (va_A wc H.size) wx oc) (va_A wc H.size))
    (hP : va_P D vwCl (wc ++ wr) H) (hD : va_D A0 (wc ++ wr)) (hS : va_S A0 H0 H locs) (hA : ∀ q : Nat, H0.size ≤ q → A0 q) (hf : wx.map Prod.fst = wc.map Prod.fst)
    (kx : ∀ (E : String) (ce : Cell) (q9 : Addr) (H1 : Heap) (locs1 : List Loc), oc = .inl E → va_P D vwCl (wx ++ wr) H1 → va_D A0 (wx ++ wr) → va_S A0 H0 H1 locs1 → H1[q9]? = some ce → ce.vm = .none → s.vm.findClass E = some ce.cls → vx_W p l e R s m args below meth c H1 locs1 (cells + mc2) (slots + ms2) Q (F0 m pc ls rest) q9)
    (kk : ∀ (ov : Option Value) (B : Option Value → va_W → Prop) (w1 : va_W) (H1 : Heap) (locs1 : List Loc), oc = .inr B → B ov w1 → va_P D vwCl (w1 ++ wr) H1 → va_D A0 (w1 ++ wr) → va_S A0 H0 H1 locs1 → W p l e R s m args below meth c H1 locs1 (cells + mc2) (slots + ms2) Q (F0 m (pc + 3) ls (ov.toList ++ rest))) : W p l e R s m args below meth c H locs cells slots Q (F0 m pc ls st0) := by
  intro T hT X
  have hF := va_free hD hS hA (List.range wc.length) (rg_hi wc wr)
  have key : ∀ {st₀ t T' : State} {L : List Loc}, st₀.heap = H → T'.heap = t.heap → (∀ q ∈ L, va_A wc H.size q.base) → va_F (va_A wc H.size) st₀ t → (∀ q : Nat, q < H.size → ¬ va_A wc H.size q → T'.heap[q]? = H[q]?) ∧ va_S A0 H0 T'.heap (locs ++ L) := by
    intro st₀ t T' L h0 e1 hL hf
    obtain ⟨hz, hk⟩ := hf
    rw [h0] at hz hk
    refine ⟨fun q h1 h2 => by rw [e1]; exact hk q h1 h2, Nat.le_trans hS.1 (by rw [e1]; exact hz), fun q h1 h2 => by rw [e1, hk q (Nat.lt_of_lt_of_le h1 hS.1) (fun z => h2 (hF q z))]; exact hS.2.1 q h1 h2, fun q hq => ?_⟩
    rcases List.mem_append.mp hq with h | h
    · exact hS.2.2 q h
    · exact hF _ (hL q h)
  have hDc : va_D (va_A wc H.size) wc := (hD.sub (List.range wc.length) (rg_nd _) (rg_hi wc wr)).self
  rcases hr T hT X with ⟨v, st₀, t, T', L, h0, X', hL, e1, e2, ⟨ov, B, ho, hv, ⟨w1, hB, hP1, hD1⟩, hf1⟩, st⟩ | ⟨q, st₀, t, T', L, E, ce, h0, X', hL, e1, e2, ⟨ho, hP1, hf1⟩, hce, hcv, hcl, st⟩
  · cases hv
    obtain ⟨k1, k2⟩ := key h0 e1 hL hf1
    obtain ⟨g1, g2⟩ := jn_front hP hD k1 hF (by rw [e1]; exact hP1) hD1
    obtain ⟨t2, a1, b1⟩ := kk v B w1 T'.heap (locs ++ L) ho hB g1 g2 k2 T' rfl X'
    exact ⟨t2, st t2 a1, b1⟩
  · obtain ⟨k1, k2⟩ := key h0 e1 hL hf1
    obtain ⟨g1, g2⟩ := jn_front hP hD k1 hF (by rw [e1]; exact hP1) (va_D_fst hf hDc)
    obtain ⟨t2, a1, b1⟩ := kx E ce q T'.heap (locs ++ L) ho g1 g2 k2 (by rw [e1]; exact hce) hcv hcl T' rfl X'
    exact ⟨t2, st.trans a1, b1⟩
end OWNL
theorem Pl_blind {D : va_G} {tys : List (ClassId × FieldType)} {av : List Value} {w1 : va_W} {sz : Nat} : FrameBlind (va_Pc av (Pl D tys w1 sz)) := by
  intro a U g mk h
  obtain ⟨h1, h2, h3⟩ := h
  have h4 := Px_blind (D := D) (tys := tys) (av := av) (w1 := w1) (sz := sz) a U g mk ⟨h1, h2⟩
  exact ⟨h4.1, h4.2, va_Nc.moved (u := U) (U := U.calling g mk a) (Vm.Alike.refl U.vm) h3.1, va_Nc.moved (u := U) (U := U.calling g mk a) (Vm.Alike.refl U.vm) h3.2.1, va_Nc.moved (u := U) (U := U.calling g mk a) (Vm.Alike.refl U.vm) h3.2.2⟩
theorem Pl_at {D : va_G} {s : State} {H : Heap} {locs : List Loc} {tys : List (ClassId × FieldType)} {av : List Value} {w0 wc : va_W} {A0 : Nat → Prop} (hK : va_K D vwCl tys s) (hG : gX A0 s) (hC : gC s) (hP : va_P D vwCl w0 H) (hD : va_D A0 w0) (hS : va_S A0 s.heap H locs) (hA : ∀ q : Nat, s.heap.size ≤ q → A0 q) (is : List Nat) (hi : is.map (fun i => w0[i]?) = wc.map some) (hn : va_nd is = true) : ∀ U : State, U.heap = H → s.WarmedH U.vm → va_Pc av (Pl D tys wc H.size) av.toArray U := by
  intro U hU hW
  have h4 := Px_at (av := av) hK hG hP hD hS hA is hi hn U hU hW
  exact ⟨h4.1, h4.2, va_Nc.moved hW.alike hC.1, va_Nc.moved hW.alike hC.2.1, va_Nc.moved hW.alike hC.2.2⟩

/-! a method without a table of its own -/
theorem Cl_of0 {l : Launch} {D : va_G} {tys : List (ClassId × FieldType)} {y : MethodName} {ws ws' : List Cond} {rm : Room} {av : List Value} {w1 : va_W} {o : Oc} {cc : ByteArray} {maxL : Nat} {ret : Option FieldType}
    (hy : plainName y.cls = true) (hw : ws = Cond.code y cc maxL ret :: ws') (hlen : (lg_sl av).length ≤ maxL)
    (body : ∀ (p : Program) (e : Env) (s : State) (m : MethodId) (args : Array Value) (below : List Frame) (meth : Method) (c : Code) (A : Nat → Prop) (ls : Array Slot), p.tables.exec = Jvm.exec → c.code = cc → meth.sig.returnType = ret → c.maxLocals = maxL → (∀ w ∈ ws, w.before args s = true) → s.vm.findClass y.cls = some m.cls → meth.locks = false → va_K D vwCl tys s → gX A s → gC s → (∀ q : Nat, s.heap.size ≤ q → A q) → va_P D vwCl w1 s.heap → va_D A w1 → va_S A s.heap s.heap [] → lv_has ls maxL (lv_args 0 av) →
      W p l e rm s m args below meth c s.heap [] 0 0 (vx_MQ below (Qx D A o) (Xx D A w1 o) args s rm.cells rm.slots A) (F0 m 0 ls [])) : Cl l D tys y ws rm av w1 o := by
  intro sz
  refine vx_ofW (cc := cc) (maxL := maxL) (ret := ret) hy hw ?_
  intro p e s m args below meth c s₁ B hml htab hv
  obtain ⟨rfl, ⟨⟨hsz, hP, hK, hD0⟩, hG⟩, hC⟩ := hv
  subst hsz
  rw [lg_entry_eq]
  exact body p e s m _ below meth c (va_A w1 s.heap.size) _ B.exec B.bytes B.returns hml (atoms_spec (ws := ws) B.pre) (findClass_of_methodNamed B.named) B.notSynchronized hK hG hC (fun q h => Or.inr h) hP hD0.self va_S.rf (lv_entry av hlen)
/-- a contract over a world in any order, with what it leaves -/
def CO (l : Launch) (D : va_G) (k : Nat → ClassId) (y : MethodName) (ws : List Cond) (rm : Room) (av : List Value) (w : va_W) (Qv : Option Value → va_W → Prop) : Prop :=
  ∃ (w0 : va_W) (P : Option Value → va_W → Prop), List.Perm w w0 ∧ Cl l D (tyK k) y ws rm av w0 (.inr P) ∧ ∀ ov w', P ov w' → Qv ov w'
/-- the same of a method of the class that throws nothing -/
def COx (l : Launch) (D : va_G) (k : Nat → ClassId) (y : MethodName) (ws : List Cond) (rm : Room) (x : Nat) (av : List Value) (w : va_W) (Qv : Option Value → va_W → Prop) : Prop :=
  ∃ (w0 w1 : va_W) (P : Option Value → va_W → Prop) (fs : List Value), List.Perm w (w0 ++ w1) ∧ w0[0]? = some (x, .inr (1, fs)) ∧ Cx l D (tyK k) y ws rm (.ref x :: av) w0 w0 (.inr P) ∧ ∀ ov w', P ov w' → Qv ov (w' ++ w1)
theorem COx_of {l : Launch} {D : va_G} {k : Nat → ClassId} {y : MethodName} {ws : List Cond} {rm : Room} {x : Nat} {av : List Value} {w w9 w0 w1 : va_W} {P Qv : Option Value → va_W → Prop} {fs : List Value} (hp : List.Perm w w9) (pm : List.Perm w9 (w0 ++ w1)) (he : w0[0]? = some (x, .inr (1, fs))) (hC : Cx l D (tyK k) y ws rm (.ref x :: av) w0 w0 (.inr P)) (hq : ∀ ov w', P ov w' → Qv ov (w' ++ w1)) : COx l D k y ws rm x av w Qv :=
  ⟨w0, w1, P, fs, hp.trans pm, he, hC, hq⟩
theorem CO.of {l : Launch} {D : va_G} {k : Nat → ClassId} {y : MethodName} {ws : List Cond} {rm : Room} {av : List Value} {w : va_W} {P Qv : Option Value → va_W → Prop} (h : Cl l D (tyK k) y ws rm av w (.inr P)) (hq : ∀ ov w', P ov w' → Qv ov w') : CO l D k y ws rm av w Qv :=
  ⟨w, P, List.Perm.refl _, h, hq⟩
theorem P_l {D : va_G} {cl : List vw_C} {a b : va_W} {H : Heap} (h : va_P D cl (a ++ b) H) : va_P D cl a H := fun k q hk => h k q (by rw [List.getElem?_append_left (List.getElem?_eq_some_iff.mp hk).1]; exact hk)
theorem D_l {A : Nat → Prop} {a b : va_W} (h : va_D A (a ++ b)) : va_D A a :=
  ⟨fun i j x y hi hj e => h.1 i j x y (by rw [List.getElem?_append_left (List.getElem?_eq_some_iff.mp hi).1]; exact hi) (by rw [List.getElem?_append_left (List.getElem?_eq_some_iff.mp hj).1]; exact hj) e,
   fun k q hk => h.2 k q (by rw [List.getElem?_append_left (List.getElem?_eq_some_iff.mp hk).1]; exact hk)⟩
theorem P_n {D : va_G} {cl : List vw_C} {a : va_W} {H : Heap} (h : va_P D cl a H) : va_P D cl (a ++ []) H := by rw [List.append_nil]; exact h
theorem D_n {A : Nat → Prop} {a : va_W} (h : va_D A a) : va_D A (a ++ []) := by rw [List.append_nil]; exact h
section LOW
variable {p : Program} {l : Launch} {e : Env} {R : Room} {s : State} {m : MethodId} {args : Array Value} {below : List Frame} {meth : Method} {c : Code} {H : Heap} {locs : List Loc} {cells slots : Nat} {Q : State → Prop}
variable {cc : ByteArray} {pc : Nat} {ls : Array Slot} {rest : List Value} {D : va_G} {A0 : Nat → Prop} {k : Nat → ClassId}
/-- a static call of a method with a table -/
theorem Lo_T {w9 wA wr : va_W} {nL maxL index n : Nat} {own : String} {Ts ws : List Cond} {bytes : ByteArray} {ret : Option FieldType} {hh : List (Nat × Nat × Nat × Nat)} {y : MethodName} {rm : Room} {As st0 : List Value} {Qv : Option Value → va_W → Prop} (mc ms c2 s2 RC RS : Nat)
    (hC0 : CO l D k y ws rm As wA Qv) (S : CallFix p m c cc nL s args Ts own) (cw : vx_CSW R s args own index y bytes maxL ret hh ws rm rm.cells rm.slots n)
    (hK : va_K D vwCl (tyK k) s) (hG : gX A0 s) (hC : gC s) (hP : va_P D vwCl w9 H) (hD : va_D A0 w9) (hS : va_S A0 s.heap H locs) (hA : ∀ q : Nat, s.heap.size ≤ q → A0 q) (hpm : List.Perm w9 (wA ++ wr))
    (hn : As.length = n) (hsize : ls.size = nL) (hst0 : st0 = As.reverse ++ rest) (hW : (rest.map fun v => v.category).sum ≤ 8) (hdg : decode cc pc = .ok (.invokestatic index, 3))
    (hm : rm.cells = mc ∧ rm.slots = ms) (hR : R.cells = RC ∧ R.slots = RS) (h1 : cells + mc ≤ c2 ∧ c2 ≤ RC) (h2 : slots + ms ≤ s2 ∧ s2 ≤ RS)
    (kk : ∀ (ov : Option Value) (w' : va_W) (H1 : Heap) (locs1 : List Loc), Qv ov w' → va_P D vwCl (w' ++ wr) H1 → va_D A0 (w' ++ wr) → va_S A0 s.heap H1 locs1 → W p l e R s m args below meth c H1 locs1 c2 s2 Q (F0 m (pc + 3) ls (ov.toList ++ rest))) : W p l e R s m args below meth c H locs cells slots Q (F0 m pc ls st0) := by
  obtain ⟨w0, P, hp0, hCl, hPQ⟩ := hC0
  obtain ⟨hm1, hm2⟩ := hm
  obtain ⟨hR1, hR2⟩ := hR
  have hq := hpm.trans (hp0.append_right wr)
  refine Cx_goF (wc := w0) (wx := w0) (wr := wr) (vx_runSX (As := As) (rest := rest) S (hCl _) cw ⟨Pl_blind, Pl_at (wc := w0) hK hG hC (P_perm hq hP) (D_perm hq hD) hS hA (List.range w0.length) (rg_hi _ _) (rg_nd _)⟩ rfl hn hsize hst0 (by show 2 * 0 + _ ≤ 8; omega) hdg ⟨by omega, by omega⟩) (P_perm hq hP) (D_perm hq hD) hS hA rfl (fun _ _ _ _ _ h1 => nomatch h1) ?_
  intro ov B w1 H1 locs1 h1 hB hP1 hD1 hS1
  cases h1
  refine W.widen (k := c2) (n := s2) (by omega) (by omega) ?_
  exact kk ov w1 H1 locs1 (hPQ _ _ hB) hP1 hD1 hS1
/-- a static call of a method without one -/
theorem Lo_S {w9 wA wr : va_W} {nL maxL index n : Nat} {own : String} {Ts ws : List Cond} {bytes : ByteArray} {ret : Option FieldType} {y : MethodName} {rm : Room} {As st0 : List Value} {Qv : Option Value → va_W → Prop} (mc ms c2 s2 RC RS : Nat)
    (hC0 : CO l D k y ws rm As wA Qv) (S : CallFix p m c cc nL s args Ts own) (cw : CallB R s args own index y bytes maxL ret ws rm rm.cells rm.slots n ∧ (Cond.static y).before args s = true)
    (hK : va_K D vwCl (tyK k) s) (hG : gX A0 s) (hC : gC s) (hP : va_P D vwCl w9 H) (hD : va_D A0 w9) (hS : va_S A0 s.heap H locs) (hA : ∀ q : Nat, s.heap.size ≤ q → A0 q) (hpm : List.Perm w9 (wA ++ wr))
    (hn : As.length = n) (hsize : ls.size = nL) (hst0 : st0 = As.reverse ++ rest) (hW : (rest.map fun v => v.category).sum ≤ 8) (hdg : decode cc pc = .ok (.invokestatic index, 3))
    (hm : rm.cells = mc ∧ rm.slots = ms) (hR : R.cells = RC ∧ R.slots = RS) (h1 : cells + mc ≤ c2 ∧ c2 ≤ RC) (h2 : slots + ms ≤ s2 ∧ s2 ≤ RS)
    (kk : ∀ (ov : Option Value) (w' : va_W) (H1 : Heap) (locs1 : List Loc), Qv ov w' → va_P D vwCl (w' ++ wr) H1 → va_D A0 (w' ++ wr) → va_S A0 s.heap H1 locs1 → W p l e R s m args below meth c H1 locs1 c2 s2 Q (F0 m (pc + 3) ls (ov.toList ++ rest))) : W p l e R s m args below meth c H locs cells slots Q (F0 m pc ls st0) := by
  obtain ⟨w0, P, hp0, hCl, hPQ⟩ := hC0
  obtain ⟨hm1, hm2⟩ := hm
  obtain ⟨hR1, hR2⟩ := hR
  have hq := hpm.trans (hp0.append_right wr)
  refine Cx_goF (wc := w0) (wx := w0) (wr := wr) (vx_runS (As := As) (rest := rest) S (hCl _) cw ⟨Pl_blind, Pl_at (wc := w0) hK hG hC (P_perm hq hP) (D_perm hq hD) hS hA (List.range w0.length) (rg_hi _ _) (rg_nd _)⟩ rfl hn hsize hst0 (by show 2 * 0 + _ ≤ 8; omega) hdg ⟨by omega, by omega⟩) (P_perm hq hP) (D_perm hq hD) hS hA rfl (fun _ _ _ _ _ h1 => nomatch h1) ?_
  intro ov B w1 H1 locs1 h1 hB hP1 hD1 hS1
  cases h1
  refine W.widen (k := c2) (n := s2) (by omega) (by omega) ?_
  exact kk ov w1 H1 locs1 (hPQ _ _ hB) hP1 hD1 hS1
/-- a call of a method of the class itself -/
theorem Lo_V {w9 wA wr : va_W} {x nL maxL index n : Nat} {own : String} {Ts ws : List Cond} {bytes : ByteArray} {ret : Option FieldType} {y : MethodName} {rm : Room} {As st0 : List Value} {Qv : Option Value → va_W → Prop} (mc ms c2 s2 RC RS : Nat)
    (hC0 : COx l D k y ws rm x As wA Qv) (S : CallFix p m c cc nL s args Ts own) (cw : CallW R s args own RX1 index y bytes maxL ret ws rm rm.cells rm.slots n)
    (hK : va_K D vwCl (tyK k) s) (hG : gX A0 s) (hP : va_P D vwCl w9 H) (hD : va_D A0 w9) (hS : va_S A0 s.heap H locs) (hA : ∀ q : Nat, s.heap.size ≤ q → A0 q) (hpm : List.Perm w9 (wA ++ wr))
    (hn : As.length = n) (hsize : ls.size = nL) (hst0 : st0 = As.reverse ++ .ref x :: rest) (hW : (rest.map fun v => v.category).sum ≤ 8) (hdg : decode cc pc = .ok (.invokevirtual index, 3))
    (hm : rm.cells = mc ∧ rm.slots = ms) (hR : R.cells = RC ∧ R.slots = RS) (h1 : cells + mc ≤ c2 ∧ c2 ≤ RC) (h2 : slots + ms ≤ s2 ∧ s2 ≤ RS)
    (kk : ∀ (ov : Option Value) (w' : va_W) (H1 : Heap) (locs1 : List Loc), Qv ov w' → va_P D vwCl (w' ++ wr) H1 → va_D A0 (w' ++ wr) → va_S A0 s.heap H1 locs1 → W p l e R s m args below meth c H1 locs1 c2 s2 Q (F0 m (pc + 3) ls (ov.toList ++ rest))) : W p l e R s m args below meth c H locs cells slots Q (F0 m pc ls st0) := by
  obtain ⟨w0, w1, P, fs, hp0, he, hCx, hPQ⟩ := hC0
  obtain ⟨hm1, hm2⟩ := hm
  obtain ⟨hR1, hR2⟩ := hR
  have hq := hpm.trans (hp0.append_right wr)
  rw [List.append_assoc] at hq
  refine Cx_goF (wc := w0) (wx := w0) (wr := w1 ++ wr) (vx_runV (As := As) (rest := rest) S (hCx _) cw ⟨Px_blind, va_recv (q0 := 0) (ci := 1) hK (P_perm hq hP) rfl (by rw [List.getElem?_append_left (List.getElem?_eq_some_iff.mp he).1]; exact he), Px_at (wc := w0) hK hG (P_perm hq hP) (D_perm hq hD) hS hA (List.range w0.length) (rg_hi _ _) (rg_nd _)⟩ rfl hn hsize hst0 (by show 2 * 0 + _ ≤ 8; omega) hdg ⟨by omega, by omega⟩) (P_perm hq hP) (D_perm hq hD) hS hA rfl (fun _ _ _ _ _ h1 => nomatch h1) ?_
  intro ov B w2 H1 locs1 h1 hB hP1 hD1 hS1
  cases h1
  rw [← List.append_assoc] at hP1 hD1
  refine W.widen (k := c2) (n := s2) (by omega) (by omega) ?_
  exact kk ov (w2 ++ w1) H1 locs1 (hPQ _ _ hB) hP1 hD1 hS1
end LOW
