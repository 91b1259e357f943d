/-! own words: partial functions that a walk follows, contracts of one fixed outcome, calls in place -/
/-- a guard -/
def gb {α : Type} (b : Bool) (k : Option α) : Option α := match b with
  | true => k
  | false => none
theorem gb_l {α : Type} {b : Bool} {k : Option α} {o : α} (h : gb b k = some o) : b = true := by
  cases b with
  | true => rfl
  | false => cases h
theorem gb_r {α : Type} {b : Bool} {k : Option α} {o : α} (h : gb b k = some o) : k = some o := by
  cases b with
  | true => exact h
  | false => cases h
theorem gb_t {α : Type} {b : Bool} {k : Option α} (h : b = true) : gb b k = k := by subst h; rfl
def bd {α β : Type} (x : Option α) (k : α → Option β) : Option β := match x with
  | none => none
  | some a => k a
theorem bd_l {α β : Type} {x : Option α} {k : α → Option β} {o : β} (h : bd x k = some o) : ∃ a, x = some a ∧ k a = some o := by
  cases x with
  | none => cases h
  | some a => exact ⟨a, rfl, h⟩
theorem bd_t {α β : Type} {x : Option α} {k : α → Option β} {a : α} (h : x = some a) : bd x k = k a := by subst h; rfl
/-- a name for what was computed -/
def nm {α β : Type} (x : α) (k : α → Option β) : Option β := k x
theorem nm_l {α β : Type} {x y : α} {k : α → Option β} {o : β} (h : nm x k = some o) (e : y = x) : k y = some o := by subst e; exact h
theorem it_l {c : Prop} [Decidable c] {α : Type} {a b : Option α} {o : α} (hc : c) (h : (if c then a else b) = some o) : a = some o := by rwa [if_pos hc] at h
theorem it_r {c : Prop} [Decidable c] {α : Type} {a b : Option α} {o : α} (hc : ¬ c) (h : (if c then a else b) = some o) : b = some o := by rwa [if_neg hc] at h
/-- a callee that throws or answers -/
def bx {α β : Type} (x : Option (String ⊕ α)) (k : α → Option (String ⊕ β)) : Option (String ⊕ β) := match x with
  | none => none
  | some (.inl E) => some (.inl E)
  | some (.inr a) => k a
theorem bx_l {α β : Type} {x : Option (String ⊕ α)} {k : α → Option (String ⊕ β)} {o : String ⊕ β} (h : bx x k = some o) : (∃ E, x = some (.inl E) ∧ o = .inl E) ∨ ∃ a, x = some (.inr a) ∧ k a = some o := by
  cases x with
  | none => cases h
  | some a =>
    cases a with
    | inl E => exact Or.inl ⟨E, rfl, (Option.some.inj h).symm⟩
    | inr a => exact Or.inr ⟨a, rfl, h⟩
def inb (i : Int32) (n : Nat) : Bool := !(decide (i < 0)) && decide (i.toNatClampNeg < n)
theorem inb_vp {i : Int32} {n : Nat} (h : inb i n = true) : vp_in i n := by
  unfold inb at h
  simp only [Bool.and_eq_true, Bool.not_eq_true', decide_eq_false_iff_not, decide_eq_true_eq] at h
  intro q
  rcases q with q | q
  · exact h.1 q
  · omega
theorem vp_inb {i : Int32} {n : Nat} (h : vp_in i n) : inb i n = true := by
  unfold inb
  simp only [Bool.and_eq_true, Bool.not_eq_true', decide_eq_false_iff_not, decide_eq_true_eq]
  exact ⟨fun q => h (Or.inl q), Nat.not_le.mp fun q => h (Or.inr q)⟩
def nz (y : Int32) : Bool := !decide (y = 0)
theorem nz_l {y : Int32} (h : nz y = true) : ¬ y = 0 := by
  unfold nz at h
  simpa using h
theorem nz_t {y : Int32} (h : ¬ y = 0) : nz y = true := by
  unfold nz
  simpa using h
def nzl (y : Int64) : Bool := !decide (y = 0)
theorem nzl_l {y : Int64} (h : nzl y = true) : ¬ y = 0 := by
  unfold nzl at h
  simpa using h
theorem nzl_t {y : Int64} (h : ¬ y = 0) : nzl y = true := by
  unfold nzl
  simpa using h
def nn32 (r : UInt32) : Bool := decide (r &&& 0x7fffffff ≤ 0x7f800000)
theorem nn32_l {r : UInt32} (h : nn32 r = true) : vf_n32 r := by
  unfold nn32 at h
  unfold vf_n32
  exact of_decide_eq_true h
def isb (v : Int32) : Bool := decide (v = 0) || decide (v = 1)
theorem isb_l {v : Int32} (h : isb v = true) : narrow .boolean (.int v) = .int v := by
  unfold isb at h
  simp only [Bool.or_eq_true, decide_eq_true_eq] at h
  rcases h with rfl | rfl <;> decide
/-! a world changed in place -/
def va_sets : va_W → List Nat → va_W → va_W
  | w, i :: is, q :: qs => va_sets (w.set i q) is qs
  | w, _, _ => w
theorem va_sets_nil (w : va_W) (qs : va_W) : va_sets w [] qs = w := by cases qs <;> rfl
theorem va_sets_P {D : va_G} {cl : List vw_C} {H1 : Heap} : ∀ (is : List Nat) (w w' : va_W), is.length = w'.length → va_P D cl w' H1 → (∀ (k : Nat) (q : Nat × va_E), w[k]? = some q → va_at D cl q H1 ∨ k ∈ is) → va_P D cl (va_sets w is w') H1
  | [], w, w', _, _, h => by
    rw [va_sets_nil]
    intro k q hk
    rcases h k q hk with h | h
    · exact h
    · cases h
  | i :: is, w, [], hl, _, _ => by simp at hl
  | i :: is, w, q0 :: qs, hl, hP, h => by
    show va_P D cl (va_sets (w.set i q0) is qs) H1
    refine va_sets_P is (w.set i q0) qs (by simpa using hl) (fun k q hk => hP (k + 1) q (by simpa using hk)) fun k q hk => ?_
    by_cases hki : k = i
    · subst hki
      have hlt : k < (w.set k q0).length := (List.getElem?_eq_some_iff.mp hk).1
      rw [List.getElem?_set_self (by simpa using hlt)] at hk
      cases hk
      exact Or.inl (hP 0 q0 rfl)
    · rw [List.getElem?_set_ne (Ne.symm hki)] at hk
      rcases h k q hk with h | h
      · exact Or.inl h
      · rcases List.mem_cons.mp h with h | h
        · exact absurd h hki
        · exact Or.inr h
theorem va_sets_fst : ∀ (is : List Nat) (w w' : va_W), is.map (fun i => (w[i]?).map Prod.fst) = w'.map (fun q => some q.1) → (va_sets w is w').map Prod.fst = w.map Prod.fst
  | [], w, w', _ => by rw [va_sets_nil]
  | i :: is, w, [], _ => rfl
  | i :: is, w, q0 :: qs, h => by
    show (va_sets (w.set i q0) is qs).map Prod.fst = w.map Prod.fst
    simp only [List.map_cons, List.cons.injEq] at h
    obtain ⟨h1, h2⟩ := h
    have e : (w.set i q0).map Prod.fst = w.map Prod.fst := by
      rw [List.map_set]
      apply List.ext_getElem?
      intro k
      by_cases hki : i = k
      · subst hki
        by_cases hlt : i < (w.map Prod.fst).length
        · rw [List.getElem?_set_self hlt]
          rw [List.getElem?_map, h1]
        · rw [List.getElem?_eq_none (by simpa using hlt), List.getElem?_eq_none (by simpa using hlt)]
      · rw [List.getElem?_set_ne hki]
    rw [va_sets_fst is (w.set i q0) qs ?_, e]
    rw [← h2]
    apply List.map_congr_left
    intro k _
    rw [← List.getElem?_map, ← List.getElem?_map, e]
theorem va_D_fst {A : Nat → Prop} {w w' : va_W} (e : w'.map Prod.fst = w.map Prod.fst) (h : va_D A w) : va_D A w' := by
  have key : ∀ (k : Nat) (q : Nat × va_E), w'[k]? = some q → ∃ q0, w[k]? = some q0 ∧ q0.1 = q.1 := by
    intro k q hk
    have h1 : (w'.map Prod.fst)[k]? = some q.1 := by rw [List.getElem?_map, hk]; rfl
    rw [e, List.getElem?_map] at h1
    cases hw : w[k]? with
    | none => rw [hw] at h1; cases h1
    | some q0 => rw [hw] at h1; exact ⟨q0, rfl, Option.some.inj h1⟩
  refine ⟨fun i j x y hi hj hxy => ?_, fun k q hk => ?_⟩
  · obtain ⟨x0, h1, h2⟩ := key i x hi
    obtain ⟨y0, h3, h4⟩ := key j y hj
    exact h.1 i j x0 y0 h1 h3 (h2.trans (hxy.trans h4.symm))
  · obtain ⟨q0, h1, h2⟩ := key k q hk
    rw [← h2]
    exact h.2 k q0 h1
theorem va_inplace {A0 : Nat → Prop} {D : va_G} {cl : List vw_C} {w0 wc wc' w0' : va_W} {H H1 : Heap} (hP : va_P D cl w0 H) (hD : va_D A0 w0) (is : List Nat) (hi : is.map (fun i => w0[i]?) = wc.map some) (ha : wc'.map Prod.fst = wc.map Prod.fst) (hs : va_sets w0 is wc' = w0')
    (hk : ∀ q : Nat, q < H.size → ¬ va_A wc H.size q → H1[q]? = H[q]?) (hP1 : va_P D cl wc' H1) : va_P D cl w0' H1 ∧ va_D A0 w0' := by
  subst hs
  have hlen : is.length = wc'.length := by
    have h1 : wc'.length = wc.length := by simpa using congrArg List.length ha
    have h2 : is.length = wc.length := by simpa using congrArg List.length hi
    omega
  refine ⟨va_sets_P is w0 wc' hlen hP1 fun k q hq => ?_, va_D_fst (va_sets_fst is w0 wc' ?_) hD⟩
  · by_cases hm : k ∈ is
    · exact Or.inr hm
    · refine Or.inl ((hP k q hq).kept (hk q.1 (hP k q hq).lt fun h => ?_))
      rcases h with ⟨k2, e, h⟩ | h
      · have h1 : (is.map (fun i => w0[i]?))[k2]? = some (some (q.1, e)) := by rw [hi, List.getElem?_map, h]; rfl
        rw [List.getElem?_map] at h1
        cases hik : is[k2]? with
        | none => rw [hik] at h1; cases h1
        | some i =>
          rw [hik] at h1
          have h2 := Option.some.inj h1
          have h3 := hD.1 k i q (q.1, e) hq h2 rfl
          exact hm (h3 ▸ List.mem_of_getElem? hik)
      · have := (hP k q hq).lt
        omega
  · have h1 : is.map (fun i => (w0[i]?).map Prod.fst) = (is.map (fun i => w0[i]?)).map (Option.map Prod.fst) := by rw [List.map_map]; rfl
    rw [h1, hi, List.map_map]
    have h2 : wc'.map (fun q => some q.1) = (wc'.map Prod.fst).map some := by rw [List.map_map]; rfl
    rw [h2, ha, List.map_map]
    rfl
/-! contracts of one outcome -/
def Qk (D : va_G) (A : Nat → Prop) (ov : Option Value) (w2 : va_W) : Array Value → State → Outcome → State → Prop := fun _ st oc t => oc = .returned ov ∧ (va_P D vwCl w2 t.heap ∧ va_D A w2) ∧ va_F A st t
def Pk (D : va_G) (tys : List (ClassId × FieldType)) (w1 : va_W) (sz : Nat) (U : State) : Prop := U.heap.size = sz ∧ va_P D vwCl w1 U.heap ∧ va_K D vwCl tys U ∧ va_D (fun _ => True) w1
def Ck (l : Launch) (D : va_G) (tys : List (ClassId × FieldType)) (y : MethodName) (ws : List Cond) (rm : Room) (av : List Value) (w1 : va_W) (ov : Option Value) (w2 : va_W) : Prop :=
  ∀ sz : Nat, Met l y ws rm (va_Pc av (Pk D tys w1 sz)) (Qk D (va_A w1 sz) ov w2) rm.cells rm.slots (va_A w1 sz)
theorem Ck_of {l : Launch} {D : va_G} {tys : List (ClassId × FieldType)} {y : MethodName} {ws ws' : List Cond} {rm : Room} {av : List Value} {w1 : va_W} {ov : Option Value} {w2 : va_W} {cc : ByteArray} {maxL : Nat} {ret : Option FieldType}
    (hy : plainName y.cls = true) (hw : ws = Cond.code y cc maxL ret :: ws') (hlen : (lg_sl av).length ≤ maxL)
    (body : ∀ (p : Program) (e : Env) (s : State) (m : MethodId) (args : Array Value) (below : List Frame) (meth : Method) (c : Code) (A : Nat → Prop) (ls : Array Slot), p.tables.exec = Jvm.exec → c.code = cc → meth.sig.returnType = ret → c.maxLocals = maxL → (∀ w ∈ ws, w.before args s = true) → s.vm.findClass y.cls = some m.cls → meth.locks = false → va_K D vwCl tys s → (∀ q : Nat, s.heap.size ≤ q → A q) → va_P D vwCl w1 s.heap → va_D A w1 → va_S A s.heap s.heap [] → lv_has ls maxL (lv_args 0 av) →
      W p l e rm s m args below meth c s.heap [] 0 0 (MQ below (Qk D A ov w2) args s rm.cells rm.slots A) (F0 m 0 ls [])) : Ck l D tys y ws rm av w1 ov w2 := by
  intro sz
  refine Met.ofW (cc := cc) (maxL := maxL) (ret := ret) hy hw ?_
  intro p e s m args below meth c s₁ B hml hv
  obtain ⟨rfl, hsz, hP, hK, hD0⟩ := hv
  subst hsz
  rw [lg_entry_eq]
  exact body p e s m _ below meth c (va_A w1 s.heap.size) _ B.exec B.bytes B.returns hml (atoms_spec (ws := ws) B.pre) (findClass_of_methodNamed B.named) B.notSynchronized hK (fun q h => Or.inr h) hP hD0.self va_S.rf (lv_entry av hlen)
section OWN
variable {p : Program} {l : Launch} {e : Env} {R : Room} {s : State} {m : MethodId} {args : Array Value} {below : List Frame} {meth : Method} {c : Code} {H : Heap} {locs : List Loc} {cells slots : Nat} {Q : State → Prop}
variable {cc : ByteArray} {pc : Nat} {ls : Array Slot} {rest : List Value} {D : va_G} {A : Nat → Prop} {H0 : Heap} {w w2 : va_W}
theorem Ck_iret {v : Int32} (hexec : p.tables.exec = Jvm.exec) (hb : c.code = cc) (hr : meth.sig.returnType = some .int) (hP : va_P D vwCl w H) (hD : va_D A w) (hS : va_S A s.heap H locs) (hdg : decode cc pc = .ok (.ireturn, 1)) (hlocks : meth.locks = false) :
    W p l e R s m args below meth c H locs cells slots (MQ below (Qk D A (some (.int v)) w) args s cells slots A) (F0 m pc ls [.int v]) :=
  W.iret hexec hb hr (fun t ht _ => ⟨rfl, ⟨by rw [ht]; exact hP, hD⟩, hS.F ht⟩) hS.2.2 hdg hlocks
theorem Ck_zret {v : Int32} {ty : FieldType} (hexec : p.tables.exec = Jvm.exec) (hb : c.code = cc) (hr : meth.sig.returnType = some ty) (hn : narrow ty (.int v) = .int v) (hP : va_P D vwCl w H) (hD : va_D A w) (hS : va_S A s.heap H locs) (hdg : decode cc pc = .ok (.ireturn, 1)) (hlocks : meth.locks = false) :
    W p l e R s m args below meth c H locs cells slots (MQ below (Qk D A (some (.int v)) w) args s cells slots A) (F0 m pc ls [.int v]) :=
  W.zret hexec hb hr hn (fun t ht _ => ⟨rfl, ⟨by rw [ht]; exact hP, hD⟩, hS.F ht⟩) hS.2.2 hdg hlocks
theorem Ck_vret (hexec : p.tables.exec = Jvm.exec) (hb : c.code = cc) (hr : meth.sig.returnType = none) (hP : va_P D vwCl w H) (hD : va_D A w) (hS : va_S A s.heap H locs) (hdg : decode cc pc = .ok (.return_, 1)) (hlocks : meth.locks = false) :
    W p l e R s m args below meth c H locs cells slots (MQ below (Qk D A none w) args s cells slots A) (F0 m pc ls []) :=
  W.vret hexec hb hr (fun t ht _ => ⟨rfl, ⟨by rw [ht]; exact hP, hD⟩, hS.F ht⟩) hS.2.2 hdg hlocks
theorem Ck_fret {v : UInt32} (hexec : p.tables.exec = Jvm.exec) (hb : c.code = cc) (hr : meth.sig.returnType = some .float) (hP : va_P D vwCl w H) (hD : va_D A w) (hS : va_S A s.heap H locs) (hdg : decode cc pc = .ok (.freturn, 1)) (hlocks : meth.locks = false) :
    W p l e R s m args below meth c H locs cells slots (MQ below (Qk D A (some (.float v)) w) args s cells slots A) (F0 m pc ls [.float v]) :=
  W.fret hexec hb hr (fun t ht _ => ⟨rfl, ⟨by rw [ht]; exact hP, hD⟩, hS.F ht⟩) hS.2.2 hdg hlocks
theorem Ck_lret {v : Int64} (hexec : p.tables.exec = Jvm.exec) (hb : c.code = cc) (hr : meth.sig.returnType = some .long) (hP : va_P D vwCl w H) (hD : va_D A w) (hS : va_S A s.heap H locs) (hdg : decode cc pc = .ok (.lreturn, 1)) (hlocks : meth.locks = false) :
    W p l e R s m args below meth c H locs cells slots (MQ below (Qk D A (some (.long v)) w) args s cells slots A) (F0 m pc ls [.long v]) :=
  W.lret hexec hb hr (fun t ht _ => ⟨rfl, ⟨by rw [ht]; exact hP, hD⟩, hS.F ht⟩) hS.2.2 hdg hlocks
theorem Pk_blind {tys : List (ClassId × FieldType)} {av : List Value} {w1 : va_W} {sz : Nat} : FrameBlind (va_Pc av (Pk D tys w1 sz)) := by
  intro a U g mk h
  obtain ⟨h1, h2, h3, h4, h5⟩ := h
  exact ⟨h1, h2, h3, va_K.moved (u := U) (U := U.calling g mk a) (Vm.Alike.refl U.vm) h4, h5⟩
theorem Pk_at {tys : List (ClassId × FieldType)} {av : List Value} {w0 wc : va_W} {A0 : Nat → Prop} (hK : va_K D vwCl tys s) (hP : va_P D vwCl w0 H) (hD : va_D A0 w0) (is : List Nat) (hi : is.map (fun i => w0[i]?) = wc.map some) (hn : va_nd is = true) : ∀ U : State, U.heap = H → s.WarmedH U.vm → va_Pc av (Pk D tys wc H.size) av.toArray U := by
  intro U hU hW
  refine ⟨rfl, by rw [hU], ?_, va_K.moved hW.alike hK, (hD.sub is hn hi).weaken (fun _ _ _ _ => trivial)⟩
  rw [hU]
  intro k q hk
  have h1 : (is.map (fun i => w0[i]?))[k]? = some (some q) := by rw [hi, List.getElem?_map, hk]; rfl
  rw [List.getElem?_map] at h1
  cases hx : is[k]? with
  | none => rw [hx] at h1; cases h1
  | some i => rw [hx] at h1; exact hP i q (Option.some.inj h1)
/-- behind a call, in place -/
theorem Ck_go {A0 : Nat → Prop} {w0 wc wc' w0' : va_W} {mc ms : Nat} {st0 : List Value} {ov : Option Value} {a : Array Value} (hr : va_Run p l e R s m args below meth c H locs cells slots mc ms (F0 m pc ls st0) rest (Qk D (va_A wc H.size) ov wc' a) (va_A wc H.size))
    (hP : va_P D vwCl w0 H) (hD : va_D A0 w0) (hS : va_S A0 H0 H locs) (hA : ∀ q : Nat, H0.size ≤ q → A0 q) (is : List Nat) (hi : is.map (fun i => w0[i]?) = wc.map some) (ha : wc'.map Prod.fst = wc.map Prod.fst) (hs : va_sets w0 is wc' = w0')
    (kk : ∀ (H1 : Heap) (locs1 : List Loc), va_P D vwCl w0' H1 → va_D A0 w0' → va_S A0 H0 H1 locs1 → W p l e R s m args below meth c H1 locs1 (cells + mc) (slots + ms) Q (F0 m (pc + 3) ls (ov.toList ++ rest))) : W p l e R s m args below meth c H locs cells slots Q (F0 m pc ls st0) := by
  intro T hT X
  obtain ⟨v, st₀, t, T', L, h0, X', hL, e1, e2, ⟨hv, ⟨hP1, -⟩, hz, hk⟩, st⟩ := hr T hT X
  cases hv
  rw [h0] at hz hk
  have hF := va_free hD hS hA is hi
  obtain ⟨hP', hD'⟩ := va_inplace (H1 := T'.heap) hP hD is hi ha hs (fun q h1 h2 => by rw [e1]; exact hk q h1 h2) (by rw [e1]; exact hP1)
  obtain ⟨t2, a1, b1⟩ := kk T'.heap (locs ++ L) hP' hD'
    ⟨Nat.le_trans hS.1 (by rw [e1]; exact hz), fun q h1 h2 => by rw [e1, hk q (Nat.lt_of_lt_of_le h1 hS.1) (fun z => h2 (hF q z))]; exact hS.2.1 q h1 h2, fun q hq => by
      rcases List.mem_append.mp hq with h | h
      · exact hS.2.2 q h
      · exact hF _ (hL q h)⟩ T' rfl X'
  exact ⟨t2, st t2 a1, b1⟩
theorem Ck_V {A0 : Nat → Prop} {w0 wc wc' w0' : va_W} {nL maxL index n q0 ci N : Nat} {own C : String} {T : u_T} {fs : List Value} {Ts ws : List Cond} {bytes : ByteArray} {ret : Option FieldType} {y : MethodName} {rm : Room} {b : Nat} {As st0 : List Value} {ov : Option Value} {tys : List (ClassId × FieldType)}
    (S : CallFix p m c cc nL s args Ts own) (hC : Ck l D tys y ws rm (.ref b :: As) wc ov wc') (cw : CallW R s args own C index y bytes maxL ret ws rm rm.cells rm.slots n)
    (hK : va_K D vwCl tys s) (hP : va_P D vwCl w0 H) (hD : va_D A0 w0) (hS : va_S A0 H0 H locs) (hA : ∀ q : Nat, H0.size ≤ q → A0 q) (he : w0[q0]? = some (b, .inr (ci, fs))) (hc : vwCl[ci]? = some (C, T, N))
    (is : List Nat) (hi : is.map (fun i => w0[i]?) = wc.map some) (hn : va_nd is = true) (ha : wc'.map Prod.fst = wc.map Prod.fst) (hs : va_sets w0 is wc' = w0')
    (hAs : As.length = n) (hsize : ls.size = nL) (hstack : st0 = As.reverse ++ .ref b :: rest) (hW : (rest.map fun v => v.category).sum ≤ 8) (hdg : decode cc pc = .ok (.invokevirtual index, 3)) (hf : cells + rm.cells ≤ R.cells ∧ slots + rm.slots ≤ R.slots)
    (kk : ∀ (H1 : Heap) (locs1 : List Loc), va_P D vwCl w0' H1 → va_D A0 w0' → va_S A0 H0 H1 locs1 → W p l e R s m args below meth c H1 locs1 (cells + rm.cells) (slots + rm.slots) Q (F0 m (pc + 3) ls (ov.toList ++ rest))) : W p l e R s m args below meth c H locs cells slots Q (F0 m pc ls st0) :=
  Ck_go (va_runV (As := As) (rest := rest) S (hC H.size) cw ⟨Pk_blind, va_recv hK hP hc he, Pk_at hK hP hD is hi hn⟩ rfl hAs hsize hstack (by show 2 * 0 + _ ≤ 8; omega) hdg hf) hP hD hS hA is hi ha hs kk
theorem Ck_S {A0 : Nat → Prop} {w0 wc wc' w0' : va_W} {nL maxL index n : Nat} {own : String} {Ts ws : List Cond} {bytes : ByteArray} {ret : Option FieldType} {y : MethodName} {rm : Room} {As st0 : List Value} {ov : Option Value} {tys : List (ClassId × FieldType)}
    (S : CallFix p m c cc nL s args Ts own) (hC : Ck l D tys y ws rm As wc ov wc') (cw : CallB R s args own index y bytes maxL ret ws rm rm.cells rm.slots n ∧ (Cond.static y).before args s = true)
    (hK : va_K D vwCl tys s) (hP : va_P D vwCl w0 H) (hD : va_D A0 w0) (hS : va_S A0 H0 H locs) (hA : ∀ q : Nat, H0.size ≤ q → A0 q)
    (is : List Nat) (hi : is.map (fun i => w0[i]?) = wc.map some) (hn : va_nd is = true) (ha : wc'.map Prod.fst = wc.map Prod.fst) (hs : va_sets w0 is wc' = w0')
    (hAs : As.length = n) (hsize : ls.size = nL) (hstack : st0 = As.reverse ++ rest) (hW : (rest.map fun v => v.category).sum ≤ 8) (hdg : decode cc pc = .ok (.invokestatic index, 3)) (hf : cells + rm.cells ≤ R.cells ∧ slots + rm.slots ≤ R.slots)
    (kk : ∀ (H1 : Heap) (locs1 : List Loc), va_P D vwCl w0' H1 → va_D A0 w0' → va_S A0 H0 H1 locs1 → W p l e R s m args below meth c H1 locs1 (cells + rm.cells) (slots + rm.slots) Q (F0 m (pc + 3) ls (ov.toList ++ rest))) : W p l e R s m args below meth c H locs cells slots Q (F0 m pc ls st0) :=
  Ck_go (va_runS (As := As) (rest := rest) S (hC H.size) cw ⟨Pk_blind, Pk_at hK hP hD is hi hn⟩ rfl hAs hsize hstack (by show 2 * 0 + _ ≤ 8; omega) hdg hf) hP hD hS hA is hi ha hs kk
theorem Ck_VN {A0 : Nat → Prop} {w0 wc wc' w0' : va_W} {nL maxL index n q0 ci N : Nat} {own C host : String} {T : u_T} {fs : List Value} {Ts ws : List Cond} {bytes : ByteArray} {ret : Option FieldType} {y : MethodName} {rm : Room} {b : Nat} {As st0 : List Value} {ov : Option Value} {tys : List (ClassId × FieldType)}
    (S : CallFix p m c cc nL s args Ts own) (hC : Ck l D tys y ws rm (.ref b :: As) wc ov wc') (cw : va_CN R s args own index y host bytes maxL ret ws rm rm.cells rm.slots n ∧ (Cond.instanceMethod y).before args s = true ∧ (Cond.selects C y y).before args s = true)
    (hK : va_K D vwCl tys s) (hP : va_P D vwCl w0 H) (hD : va_D A0 w0) (hS : va_S A0 H0 H locs) (hA : ∀ q : Nat, H0.size ≤ q → A0 q) (he : w0[q0]? = some (b, .inr (ci, fs))) (hc : vwCl[ci]? = some (C, T, N))
    (is : List Nat) (hi : is.map (fun i => w0[i]?) = wc.map some) (hn : va_nd is = true) (ha : wc'.map Prod.fst = wc.map Prod.fst) (hs : va_sets w0 is wc' = w0')
    (hAs : As.length = n) (hsize : ls.size = nL) (hstack : st0 = As.reverse ++ .ref b :: rest) (hW : (rest.map fun v => v.category).sum ≤ 8) (hdg : decode cc pc = .ok (.invokevirtual index, 3)) (hf : cells + rm.cells ≤ R.cells ∧ slots + rm.slots ≤ R.slots)
    (kk : ∀ (H1 : Heap) (locs1 : List Loc), va_P D vwCl w0' H1 → va_D A0 w0' → va_S A0 H0 H1 locs1 → W p l e R s m args below meth c H1 locs1 (cells + rm.cells) (slots + rm.slots) Q (F0 m (pc + 3) ls (ov.toList ++ rest))) : W p l e R s m args below meth c H locs cells slots Q (F0 m pc ls st0) :=
  Ck_go (va_runVN (As := As) (rest := rest) S (hC H.size) cw ⟨Pk_blind, va_recv hK hP hc he, Pk_at hK hP hD is hi hn⟩ rfl hAs hsize hstack (by show 2 * 0 + _ ≤ 8; omega) hdg hf) hP hD hS hA is hi ha hs kk
end OWN
theorem no_l {α : Type} {o : α} (h : (none : Option α) = some o) : False := by cases h
theorem set_appL1 {A B : va_W} {q : Nat} {y : Nat × va_E} (h : q < A.length) : (A ++ B).set q y = A.set q y ++ B := List.set_append_left _ _ h
theorem set_appR1 {A B : va_W} {q : Nat} {y : Nat × va_E} (h : A.length ≤ q) : (A ++ B).set q y = A ++ B.set (q - A.length) y := List.set_append_right _ _ h
