/-! the further states of the class: three arrays of references, a state for each that was made -/
theorem va_P_mem {D : va_G} {cl : List vw_C} {w : va_W} {H : Heap} : va_P D cl w H ↔ ∀ q ∈ w, va_at D cl q H :=
  ⟨fun h q hq => by
    obtain ⟨k, hk⟩ := List.getElem?_of_mem hq
    exact h k q hk, fun h k q hk => h q (List.mem_of_getElem? hk)⟩
theorem P_perm {D : va_G} {cl : List vw_C} {w w' : va_W} {H : Heap} (h : List.Perm w w') (hP : va_P D cl w H) : va_P D cl w' H :=
  va_P_mem.2 fun q hq => va_P_mem.1 hP q (h.mem_iff.2 hq)
def dsj : va_W → Prop
  | [] => True
  | q :: w => (∀ x ∈ w, x.1 ≠ q.1) ∧ dsj w
theorem dsj_perm {w w' : va_W} (h : List.Perm w w') : dsj w → dsj w' := by
  induction h with
  | nil => exact id
  | cons x h ih => exact fun g => ⟨fun y hy => g.1 y (h.mem_iff.2 hy), ih g.2⟩
  | swap x y l =>
    intro g
    exact ⟨fun z hz => by
      rcases List.mem_cons.mp hz with rfl | hz
      · exact fun e => g.1 x (List.mem_cons_self ..) e.symm
      · exact g.2.1 z hz, fun z hz => g.1 z (List.mem_cons_of_mem _ hz), g.2.2⟩
  | trans h1 h2 ih1 ih2 => exact fun g => ih2 (ih1 g)
theorem dsj_ix : ∀ {w : va_W}, dsj w → ∀ (i j : Nat) (p q : Nat × va_E), w[i]? = some p → w[j]? = some q → p.1 = q.1 → i = j
  | [], _, i, j, p, q, h, _, _ => by simp at h
  | x :: w, g, i, j, p, q, h1, h2, e => by
    cases i with
    | zero =>
      cases j with
      | zero => rfl
      | succ j =>
        rw [List.getElem?_cons_zero] at h1
        rw [List.getElem?_cons_succ] at h2
        cases h1
        exact absurd e.symm (g.1 q (List.mem_of_getElem? h2))
    | succ i =>
      rw [List.getElem?_cons_succ] at h1
      cases j with
      | zero =>
        rw [List.getElem?_cons_zero] at h2
        cases h2
        exact absurd e (g.1 p (List.mem_of_getElem? h1))
      | succ j =>
        rw [List.getElem?_cons_succ] at h2
        rw [dsj_ix g.2 i j p q h1 h2 e]
theorem ix_dsj : ∀ {w : va_W}, (∀ (i j : Nat) (p q : Nat × va_E), w[i]? = some p → w[j]? = some q → p.1 = q.1 → i = j) → dsj w
  | [], _ => trivial
  | x :: w, h => by
    refine ⟨fun y hy e => ?_, ix_dsj fun i j p q h1 h2 e => ?_⟩
    · obtain ⟨k, hk⟩ := List.getElem?_of_mem hy
      have := h (k + 1) 0 y x (by rw [List.getElem?_cons_succ]; exact hk) (by rw [List.getElem?_cons_zero]) e
      omega
    · have := h (i + 1) (j + 1) p q (by rw [List.getElem?_cons_succ]; exact h1) (by rw [List.getElem?_cons_succ]; exact h2) e
      omega
theorem D_perm {A : Nat → Prop} {w w' : va_W} (h : List.Perm w w') (hD : va_D A w) : va_D A w' :=
  ⟨dsj_ix (dsj_perm h (ix_dsj hD.1)), fun k q hk => by
    obtain ⟨j, hj⟩ := List.getElem?_of_mem (h.mem_iff.2 (List.mem_of_getElem? hk))
    exact hD.2 j q hj⟩
theorem rg_hi (w w2 : va_W) : (List.range w.length).map (fun i => (w ++ w2)[i]?) = w.map some := by
  apply List.ext_getElem?
  intro i
  rw [List.getElem?_map, List.getElem?_map]
  by_cases h : i < w.length
  · rw [List.getElem?_range h]
    show some ((w ++ w2)[i]?) = _
    rw [List.getElem?_append_left h]
    obtain ⟨x, hx⟩ : ∃ x, w[i]? = some x := ⟨w[i], List.getElem?_eq_getElem h⟩
    rw [hx]
    rfl
  · rw [List.getElem?_eq_none (by simpa using h), List.getElem?_eq_none (by simpa using h)]
    rfl
theorem rg_hi0 (w : va_W) : (List.range w.length).map (fun i => w[i]?) = w.map some := by
  have := rg_hi w []
  rwa [List.append_nil] at this
theorem nd_of : ∀ {l : List Nat}, l.Nodup → va_nd l = true
  | [], _ => rfl
  | a :: l, h => by
    have h' := List.nodup_cons.mp h
    simp only [va_nd, Bool.and_eq_true, decide_eq_true_eq]
    exact ⟨h'.1, nd_of h'.2⟩
theorem rg_nd (n : Nat) : va_nd (List.range n) = true := nd_of List.nodup_range
/-- behind a call that had the world's first part -/
theorem jn_front {A0 : Nat → Prop} {D : va_G} {cl : List vw_C} {wc wr w1 : va_W} {H H1 : Heap} (hP : va_P D cl (wc ++ wr) H) (hD : va_D A0 (wc ++ wr)) (hk : ∀ q : Nat, q < H.size → ¬ va_A wc H.size q → H1[q]? = H[q]?) (hF : ∀ q, va_A wc H.size q → A0 q) (hP1 : va_P D cl w1 H1) (hD1 : va_D (va_A wc H.size) w1) : va_P D cl (w1 ++ wr) H1 ∧ va_D A0 (w1 ++ wr) := by
  have ap : ∀ (i : Nat) (q : Nat × va_E), wr[i]? = some q → (wc ++ wr)[wc.length + i]? = some q := fun i q h => by
    rw [List.getElem?_append_right (by omega), Nat.add_sub_cancel_left]
    exact h
  have out : ∀ (i : Nat) (q : Nat × va_E), wr[i]? = some q → ¬ va_A wc H.size q.1 := fun i q h z => by
    rcases z with ⟨j, e, z⟩ | z
    · have hj : j < wc.length := (List.getElem?_eq_some_iff.mp z).1
      have := hD.1 j (wc.length + i) (q.1, e) q (by rw [List.getElem?_append_left hj]; exact z) (ap i q h) rfl
      omega
    · have := (hP _ q (ap i q h)).lt
      omega
  refine ⟨hP1.app fun i q h => (hP _ q (ap i q h)).kept (hk q.1 (hP _ q (ap i q h)).lt (out i q h)), va_D.app (hD1.weaken fun _ q _ h => hF q.1 h) (hD.by (fun i => wc.length + i) ap fun i j _ _ e => by omega) fun i j x y hx hy e => ?_⟩
  exact out j y hy (e ▸ hD1.2 i x hx)
abbrev PoV : Type := Nat → Option StV
def uq (V : PoV) (i : Nat) (S : StV) : PoV := fun j => if j = i then some S else V j
def nq (V : PoV) (i : Nat) : PoV := fun j => if j = i then none else V j
abbrev AdV : Type := Nat → Option (Nat → Nat)
def ua (A : AdV) (i : Nat) (b : Nat → Nat) : AdV := fun j => if j = i then some b else A j
abbrev qAr (k : Nat → ClassId) (n : Nat) (f : Nat → Option Nat) : va_E := .inl (k 3, n, .inr (.inr (.inr (.inr f))))
def qf (n o : Nat) (A : AdV) : Nat → Option Nat := fun j => if j < n then (A (o + j)).map (fun a => a 0) else none
theorem qf_up {n o i : Nat} {A : AdV} {b : Nat → Nat} (h : i < n) : va_up (qf n o A) i (some (b 0)) = qf n o (ua A (o + i) b) := by
  funext j
  unfold va_up qf ua
  by_cases hj : j = i
  · subst hj
    simp [h]
  · have : ¬ o + j = o + i := by omega
    simp [hj, this]
theorem qf_ne {n o i : Nat} {A : AdV} {b : Nat → Nat} (h : i < o ∨ o + n ≤ i) : qf n o (ua A i b) = qf n o A := by
  funext j
  unfold qf ua
  by_cases hj : j < n
  · have : ¬ o + j = i := by omega
    simp [this]
  · simp [hj]
abbrev poA (k : Nat → ClassId) (cA : Nat → Nat) (A : AdV) : va_W := [(cA 3, qAr k 3 (qf 3 0 A)), (cA 4, qAr k 14 (qf 14 3 A)), (cA 5, qAr k 2 (qf 2 17 A))]
def plB (k : Nat → ClassId) (a : Option (Nat → Nat)) (v : Option StV) : va_W := match a, v with
  | some a, some S => stW k a S
  | _, _ => []
def plW (k : Nat → ClassId) (A : AdV) (V : PoV) : Nat → va_W
  | 0 => []
  | m + 1 => plW k A V m ++ plB k (A m) (V m)
theorem plB_none {k : Nat → ClassId} {v : Option StV} : plB k none v = [] := by cases v <;> rfl
theorem plB_nonev {k : Nat → ClassId} {a : Option (Nat → Nat)} : plB k a none = [] := by cases a <;> rfl
theorem plW_cg {k : Nat → ClassId} {A A' : AdV} {V V' : PoV} : ∀ m : Nat, (∀ j, j < m → plB k (A j) (V j) = plB k (A' j) (V' j)) → plW k A V m = plW k A' V' m
  | 0, _ => rfl
  | m + 1, h => by
    show plW k A V m ++ plB k (A m) (V m) = plW k A' V' m ++ plB k (A' m) (V' m)
    rw [plW_cg m fun j hj => h j (by omega), h m (by omega)]
theorem plW_out {k : Nat → ClassId} {A : AdV} {V : PoV} {i : Nat} : ∀ m : Nat, i < m → List.Perm (plW k A V m) (plB k (A i) (V i) ++ plW k A (nq V i) m)
  | 0, h => by omega
  | m + 1, h => by
    show List.Perm (plW k A V m ++ plB k (A m) (V m)) (plB k (A i) (V i) ++ (plW k A (nq V i) m ++ plB k (A m) (nq V i m)))
    by_cases hm : i = m
    · subst hm
      have e1 : nq V i i = none := by simp [nq]
      have e2 : plW k A (nq V i) i = plW k A V i := plW_cg i fun j hj => by
        have : ¬ j = i := by omega
        simp [nq, this]
      rw [e1, plB_nonev, List.append_nil, e2]
      exact List.perm_append_comm
    · have e1 : nq V i m = V m := by
        have : ¬ m = i := by omega
        simp [nq, this]
      rw [e1, ← List.append_assoc]
      exact (plW_out m (by omega)).append_right _
/-- the rest of a world: the arrays, and the states that are there -/
def PoA (k : Nat → ClassId) (cA : Nat → Nat) (A : AdV) (V : PoV) (tl : va_W) : Prop := List.Perm tl (poA k cA A ++ plW k A V 19)
theorem PoA.put {k : Nat → ClassId} {cA : Nat → Nat} {A : AdV} {V : PoV} {tl : va_W} {i : Nat} {b : Nat → Nat} (h : PoA k cA A (nq V i) tl) (hi : i < 19) (ha : A i = some b) (S : StV) : PoA k cA A (uq V i S) (stW k b S ++ tl) := by
  unfold PoA at *
  have e1 : nq (uq V i S) i = nq V i := by
    funext j
    unfold nq uq
    by_cases hj : j = i <;> simp [hj]
  have e2 : uq V i S i = some S := by simp [uq]
  have h1 := plW_out (k := k) (A := A) (V := uq V i S) 19 hi
  rw [e1, e2, ha] at h1
  have h2 : List.Perm (stW k b S ++ tl) (stW k b S ++ (poA k cA A ++ plW k A (nq V i) 19)) := h.append_left _
  refine h2.trans ?_
  rw [← List.append_assoc]
  have h3 : List.Perm ((stW k b S ++ poA k cA A) ++ plW k A (nq V i) 19) ((poA k cA A ++ stW k b S) ++ plW k A (nq V i) 19) := List.perm_append_comm.append_right _
  refine h3.trans ?_
  rw [List.append_assoc]
  exact (h1.append_left _).symm
theorem PoA.out {k : Nat → ClassId} {cA : Nat → Nat} {A : AdV} {V : PoV} {tl : va_W} {i : Nat} {b : Nat → Nat} {S : StV} (h : PoA k cA A V tl) (hi : i < 19) (ha : A i = some b) (hv : V i = some S) : List.Perm tl (stW k b S ++ (poA k cA A ++ plW k A (nq V i) 19)) := by
  unfold PoA at h
  have h1 := plW_out (k := k) (A := A) (V := V) 19 hi
  rw [ha, hv] at h1
  refine h.trans ((h1.append_left _).trans ?_)
  show List.Perm (poA k cA A ++ (stW k b S ++ plW k A (nq V i) 19)) _
  rw [← List.append_assoc, ← List.append_assoc]
  exact List.perm_append_comm.append_right _
/-- no state is out -/
def PoIs (k : Nat → ClassId) (cA : Nat → Nat) (V : PoV) (tl : va_W) : Prop := ∃ A, PoA k cA A V tl ∧ ∀ i, i < 19 → (A i = none ↔ V i = none)
/-- one state is out -/
def PoH (k : Nat → ClassId) (cA : Nat → Nat) (V : PoV) (i : Nat) (b : Nat → Nat) (tl : va_W) : Prop := ∀ S : StV, PoIs k cA (uq V i S) (stW k b S ++ tl)
