/-! the law's wrappers: what they stand on -/
def gC (U : State) : Prop := va_Nc xR xB U ∧ va_Nc xS xB U ∧ va_Nc xS xR U
def Pl (D : va_G) (tys : List (ClassId × FieldType)) (w1 : va_W) (sz : Nat) (U : State) : Prop := Px D tys w1 sz U ∧ gC U
def Cl (l : Launch) (D : va_G) (tys : List (ClassId × FieldType)) (y : MethodName) (ws : List Cond) (rm : Room) (av : List Value) (w1 : va_W) (o : Oc) : Prop :=
  ∀ sz : Nat, vx_Met l y ws rm (va_Pc av (Pl D tys w1 sz)) (Qx D (va_A w1 sz) o) (Xx D (va_A w1 sz) w1 o) rm.cells rm.slots (va_A w1 sz)
theorem Cl_of {l : Launch} {D : va_G} {tys : List (ClassId × FieldType)} {y : MethodName} {ws ws' : List Cond} {rm : Room} {av : List Value} {w1 : va_W} {o : Oc} {cc : ByteArray} {maxL : Nat} {ret : Option FieldType} {hh : List (Nat × Nat × Nat × Nat)}
    (hy : plainName y.cls = true) (hw : ws = Cond.codeWith y cc maxL ret hh :: ws') (hlen : (lg_sl av).length ≤ maxL)
    (body : ∀ (p : Program) (e : Env) (s : State) (m : MethodId) (args : Array Value) (below : List Frame) (meth : Method) (c : Code) (A : Nat → Prop) (ls : Array Slot), p.tables.exec = Jvm.exec → c.code = cc → meth.sig.returnType = ret → c.maxLocals = maxL → (∀ w ∈ ws, w.before args s = true) → s.vm.findClass y.cls = some m.cls → meth.locks = false → c.exceptionTable.toList = tableOf hh → va_K D vwCl tys s → gX A s → gC s → (∀ q : Nat, s.heap.size ≤ q → A q) → va_P D vwCl w1 s.heap → va_D A w1 → va_S A s.heap s.heap [] → lv_has ls maxL (lv_args 0 av) →
      W p l e rm s m args below meth c s.heap [] 0 0 (vx_MQ below (Qx D A o) (Xx D A w1 o) args s rm.cells rm.slots A) (F0 m 0 ls [])) : Cl l D tys y ws rm av w1 o := by
  intro sz
  refine vx_ofWH (cc := cc) (maxL := maxL) (ret := ret) hy hw ?_
  intro p e s m args below meth c s₁ B hml hv
  obtain ⟨rfl, ⟨⟨hsz, hP, hK, hD0⟩, hG⟩, hC⟩ := hv
  subst hsz
  have htab : c.exceptionTable.toList = tableOf hh := vx_table (x := y) B (atoms_spec (ws := ws) B.pre _ (by rw [hw]; exact List.mem_cons_self))
  rw [lg_entry_eq]
  exact body p e s m _ below meth c (va_A w1 s.heap.size) _ B.exec B.bytes B.returns hml (atoms_spec (ws := ws) B.pre) (findClass_of_methodNamed B.named) B.notSynchronized htab hK hG hC (fun q h => Or.inr h) hP hD0.self va_S.rf (lv_entry av hlen)
section OWNL
variable {p : Program} {l : Launch} {e : Env} {R : Room} {s : State} {m : MethodId} {args : Array Value} {below : List Frame} {meth : Method} {c : Code} {H : Heap} {locs : List Loc} {cells slots mc ms : Nat} {Q : State → Prop}
variable {cc : ByteArray} {pc : Nat} {ls : Array Slot} {rest : List Value} {D : va_G} {A : Nat → Prop} {H0 : Heap} {w w1 w2 : va_W} {o : Oc} {B : Option Value → va_W → Prop}
/-- behind a call that had the world's first part and may throw -/
theorem Cx_goF {A0 : Nat → Prop} {wc wx wr : va_W} {st0 : List Value} {oc : Oc} {mc2 ms2 : Nat} {a : Array Value} (hr : vx_Run p l e R s m args below meth c H locs cells slots mc2 ms2 (F0 m pc ls st0) rest (Qx D (va_A wc H.size) oc a) (Xx D (va_A wc H.size) wx oc) (va_A wc H.size))
    (hP : va_P D vwCl (wc ++ wr) H) (hD : va_D A0 (wc ++ wr)) (hS : va_S A0 H0 H locs) (hA : ∀ q : Nat, H0.size ≤ q → A0 q) (hf : wx.map Prod.fst = wc.map Prod.fst)
    (kx : ∀ (E : String) (ce : Cell) (q9 : Addr) (H1 : Heap) (locs1 : List Loc), oc = .inl E → va_P D vwCl (wx ++ wr) H1 → va_D A0 (wx ++ wr) → va_S A0 H0 H1 locs1 → H1[q9]? = some ce → ce.vm = .none → s.vm.findClass E = some ce.cls → vx_W p l e R s m args below meth c H1 locs1 (cells + mc2) (slots + ms2) Q (F0 m pc ls rest) q9)
    (kk : ∀ (ov : Option Value) (B : Option Value → va_W → Prop) (w1 : va_W) (H1 : Heap) (locs1 : List Loc), oc = .inr B → B ov w1 → va_P D vwCl (w1 ++ wr) H1 → va_D A0 (w1 ++ wr) → va_S A0 H0 H1 locs1 → W p l e R s m args below meth c H1 locs1 (cells + mc2) (slots + ms2) Q (F0 m (pc + 3) ls (ov.toList ++ rest))) : W p l e R s m args below meth c H locs cells slots Q (F0 m pc ls st0) := by
  intro T hT X
  have hF := va_free hD hS hA (List.range wc.length) (rg_hi wc wr)
  have key : ∀ {st₀ t T' : State} {L : List Loc}, st₀.heap = H → T'.heap = t.heap → (∀ q ∈ L, va_A wc H.size q.base) → va_F (va_A wc H.size) st₀ t → (∀ q : Nat, q < H.size → ¬ va_A wc H.size q → T'.heap[q]? = H[q]?) ∧ va_S A0 H0 T'.heap (locs ++ L) := by
    intro st₀ t T' L h0 e1 hL hf
    obtain ⟨hz, hk⟩ := hf
    rw [h0] at hz hk
    refine ⟨fun q h1 h2 => by rw [e1]; exact hk q h1 h2, Nat.le_trans hS.1 (by rw [e1]; exact hz), fun q h1 h2 => by rw [e1, hk q (Nat.lt_of_lt_of_le h1 hS.1) (fun z => h2 (hF q z))]; exact hS.2.1 q h1 h2, fun q hq => ?_⟩
    rcases List.mem_append.mp hq with h | h
    · exact hS.2.2 q h
    · exact hF _ (hL q h)
  have hDc : va_D (va_A wc H.size) wc := (hD.sub (List.range wc.length) (rg_nd _) (rg_hi wc wr)).self
  rcases hr T hT X with ⟨v, st₀, t, T', L, h0, X', hL, e1, e2, ⟨ov, B, ho, hv, ⟨w1, hB, hP1, hD1⟩, hf1⟩, st⟩ | ⟨q, st₀, t, T', L, E, ce, h0, X', hL, e1, e2, ⟨ho, hP1, hf1⟩, hce, hcv, hcl, st⟩
  · cases hv
    obtain ⟨k1, k2⟩ := key h0 e1 hL hf1
    obtain ⟨g1, g2⟩ := jn_front hP hD k1 hF (by rw [e1]; exact hP1) hD1
    obtain ⟨t2, a1, b1⟩ := kk v B w1 T'.heap (locs ++ L) ho hB g1 g2 k2 T' rfl X'
    exact ⟨t2, st t2 a1, b1⟩
  · obtain ⟨k1, k2⟩ := key h0 e1 hL hf1
    obtain ⟨g1, g2⟩ := jn_front hP hD k1 hF (by rw [e1]; exact hP1) (va_D_fst hf hDc)
    obtain ⟨t2, a1, b1⟩ := kx E ce q T'.heap (locs ++ L) ho g1 g2 k2 (by rw [e1]; exact hce) hcv hcl T' rfl X'
    exact ⟨t2, st.trans a1, b1⟩
end OWNL
abbrev rmL : Room := { frames := 14, cells := 40, slots := 300, locals := 800 }
def fitL (rm : Room) : Prop := rm.frames ≤ 13 ∧ rm.cells ≤ 40 ∧ rm.slots ≤ 300 ∧ rm.locals ≤ 760
abbrev ouW (k : Nat → ClassId) (a : Nat) (g : Nat → Int64) : va_W := [(a, .inl (k 4, 1, .inr (.inl g)))]
abbrev duW (k : Nat → ClassId) (a : Nat) (g : Nat → UInt64) : va_W := [(a, .inl (k 5, 1, .inr (.inr (.inr (.inl g)))))]
