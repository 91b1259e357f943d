/-! the law's entry: what the given words say of the start -/
theorem eq_ev {args : Array Value} {s : State} {tm : Term} {z : Int32} (h : (Cond.eq tm (.int z)).before args s = true) : tm.eval args s none [] s = some (.int z) := by
  cases hv : tm.eval args s none [] s with
  | none => simp [Cond.before, Cond.holds, Cond.value, hv] at h
  | some w =>
    have hz : (Term.int z).eval args s none [] s = some (.int z) := rfl
    simp only [Cond.before, Cond.holds, Cond.value, hv, hz] at h
    cases w <;> simp_all
abbrev gvC : List Cond := flatC (Jvm.Cond.and given_1 narrow_1)
theorem gv_D : ∀ j, j < 12 → Cond.eq (.elem (.static "EffectTrain" "DIGITS" "[I") (.int (Int32.ofNat j))) (.int (tD j)) ∈ gvC := by decide +kernel
theorem gv_L : ∀ j, j < 12 → Cond.eq (.elem (.static "EffectTrain" "LEAST" "[I") (.int (Int32.ofNat j))) (.int (tL j)) ∈ gvC := by decide +kernel
theorem gv_G : ∀ j, j < 12 → Cond.eq (.elem (.static "EffectTrain" "GREATEST" "[I") (.int (Int32.ofNat j))) (.int (tG j)) ∈ gvC := by decide +kernel
theorem gv_Tx : ∀ q ∈ gTx, Cond.exactly (.string "EffectTrain" q.1) "java/lang/String" ∈ gvC := by decide +kernel
theorem tb_Tx : ∀ q ∈ gTx, Cond.stringRef "EffectTrain" q.1 q.2 ∈ lw_tbl := by decide +kernel
theorem tb_Nf : ∀ q ∈ gNf, Cond.fieldLinkNest "EffectTrain" q.1 q.2.1 q.2.2.1 q.2.2.2.1 q.2.2.2.2 ∈ lw_tbl := by decide +kernel
theorem tb_Nm : ∀ q ∈ gNm, Cond.methodLinkNest "EffectTrain" q.1 q.2.1 q.2.2 ∈ lw_tbl := by decide +kernel
theorem tb_Ex : ∀ E ∈ gEx, Cond.castable E E ∈ lw_tbl := by decide +kernel
theorem tb_De : ∀ E ∈ gDe, Cond.declares (Bundle.initS E) ∈ lw_tbl := by decide +kernel
section ST
variable {s : State} {b : Nat}
theorem gS_0 (hts : ∀ w ∈ lw_tbl, w.before #[Value.ref b] s = true) (hgv : (Jvm.Cond.and given_1 narrow_1).before #[Value.ref b] s = true) : gS (fun q : Nat => s.heap.size ≤ q) s s.heap := by
  have hs : ∀ w ∈ gvC, w.before #[Value.ref b] s = true := flat_of_before _ hgv
  have hA : ∀ a : Nat, a < s.heap.size → ¬ (fun q : Nat => s.heap.size ≤ q) a := fun a h => Nat.not_le.mpr h
  have hi : (Cond.initialized "EffectTrain").before #[Value.ref b] s = true := hts _ (by decide +kernel)
  have key : ∀ (n : String) (f : Nat → Int32), (Cond.laysStatic "EffectTrain" n "[I").before #[Value.ref b] s = true → (Cond.arrayOf (.static "EffectTrain" n "[I") .int).before #[Value.ref b] s = true → (Cond.eq (.length (.static "EffectTrain" n "[I")) (.int 12)).before #[Value.ref b] s = true → (∀ j, j < 12 → (Cond.eq (.elem (.static "EffectTrain" n "[I") (.int (Int32.ofNat j))) (.int (f j))).before #[Value.ref b] s = true) → ∃ t, va_Z "EffectTrain" n "[I" (.ref t) (fun q : Nat => s.heap.size ≤ q) s s.heap ∧ va_T .int t 12 (fun j => .int (f j)) (fun q : Nat => s.heap.size ≤ q) s s.heap := by
    intro n f h1 h2 h3 h4
    obtain ⟨t, e1, e2⟩ := va_Tof (N := 12) (f := fun j => .int (f j)) (A := fun q : Nat => s.heap.size ≤ q) (by decide) h2 (eq_ev h3) (fun j hj => eq_ev (h4 j hj)) hA
    exact ⟨t, va_Zof h1 hi e1 hA, e2⟩
  obtain ⟨t1, h1⟩ := key "DIGITS" tD (hts _ (by decide +kernel)) (hs _ (by decide +kernel)) (hs _ (by decide +kernel)) (fun j hj => hs _ (gv_D j hj))
  obtain ⟨t2, h2⟩ := key "LEAST" tL (hts _ (by decide +kernel)) (hs _ (by decide +kernel)) (hs _ (by decide +kernel)) (fun j hj => hs _ (gv_L j hj))
  obtain ⟨t3, h3⟩ := key "GREATEST" tG (hts _ (by decide +kernel)) (hs _ (by decide +kernel)) (hs _ (by decide +kernel)) (fun j hj => hs _ (gv_G j hj))
  exact ⟨t1, t2, t3, h1, h2, h3⟩
theorem gT_0 (hts : ∀ w ∈ lw_tbl, w.before #[Value.ref b] s = true) (hgv : (Jvm.Cond.and given_1 narrow_1).before #[Value.ref b] s = true) : gT (fun q : Nat => s.heap.size ≤ q) s s.heap := by
  have hs : ∀ w ∈ gvC, w.before #[Value.ref b] s = true := flat_of_before _ hgv
  have hA : ∀ a : Nat, a < s.heap.size → ¬ (fun q : Nat => s.heap.size ≤ q) a := fun a h => Nat.not_le.mpr h
  have hi : (Cond.initialized Bundle.tN).before #[Value.ref b] s = true := hts _ (by decide +kernel)
  exact ⟨vx_Zqof (hts _ (by decide +kernel)) hi (hs _ (by decide +kernel)) hA, vx_Zqof (hts _ (by decide +kernel)) hi (hs _ (by decide +kernel)) hA⟩
theorem gN_0 (hts : ∀ w ∈ lw_tbl, w.before #[Value.ref b] s = true) (hgv : (Jvm.Cond.and given_1 narrow_1).before #[Value.ref b] s = true) : gN s := by
  have hs : ∀ w ∈ gvC, w.before #[Value.ref b] s = true := flat_of_before _ hgv
  refine ⟨⟨va_AO.of (A := #[Value.ref b]) (hts _ (by decide +kernel)), fun E hE => va_Nw.of rfl (hts _ (tb_Ex E hE)), fun E hE => va_Nw.of rfl (hts _ (tb_De E hE))⟩, fun q hq => ?_, fun q hq => va_Nw.of rfl (hts _ (tb_Nf q hq)), fun q hq => va_Nw.of rfl (hts _ (tb_Nm q hq))⟩
  obtain ⟨a, c, cA, kA, q1, -⟩ := Cond.exactly_spec (args := #[Value.ref b]) (first := s) (o := none) (s := s) (idx := []) (t := .string "EffectTrain" q.1) (cls := "java/lang/String") (hs _ (gv_Tx q hq))
  exact ⟨a, vk_R.of (A := #[Value.ref b]) (hts _ (tb_Tx q hq)) q1⟩
theorem gC_0 (hgv : (Jvm.Cond.and given_1 narrow_1).before #[Value.ref b] s = true) : gC s := by
  have hs : ∀ w ∈ gvC, w.before #[Value.ref b] s = true := flat_of_before _ hgv
  exact ⟨va_Nc.of (hs (Cond.not (.castable xR xB)) (by decide +kernel)), va_Nc.of (hs (Cond.not (.castable xS xB)) (by decide +kernel)), va_Nc.of (hs (Cond.not (.castable xS xR)) (by decide +kernel))⟩
theorem ar_1 {ty : FieldType} (h : (Cond.arrayClass ty).before #[Value.ref b] s = true) : ∃ cA : ClassId, ArrOfT s cA ty ∧ s.vm.findClass ("[" ++ ty.toString) = some cA := by
  obtain ⟨c, kc, comp, h1, h2, h3⟩ := Cond.arrayClass_spec h
  exact ⟨c, fun n z => ⟨fun k h => (by cases h), kc, h2, comp, h3⟩, h1⟩
theorem gK_0 (hts : ∀ w ∈ lw_tbl, w.before #[Value.ref b] s = true) : ∃ (D : va_G) (k : Nat → ClassId), va_K D vwCl (tyK k) s := by
  obtain ⟨c0, i0, h0⟩ := u_known (C := RX0) (T := TX0) (N := 12) (n := 12) hts inX0 (hts _ (by decide +kernel))
  obtain ⟨c1, i1, h1⟩ := u_known (C := RX1) (T := TX1) (N := 11) (n := 11) hts inX1 (hts _ (by decide +kernel))
  obtain ⟨k0, a0, b0⟩ := ar_1 (ty := .int) (hts _ (by decide +kernel))
  obtain ⟨k1, a1, b1⟩ := ar_1 (ty := .char) (hts _ (by decide +kernel))
  obtain ⟨k2, a2, b2⟩ := ar_1 (ty := .boolean) (hts _ (by decide +kernel))
  obtain ⟨k4, a4, b4⟩ := ar_1 (ty := .long) (hts _ (by decide +kernel))
  have ho : (Cond.arrayOver (.object "EffectTrain$State")).before #[Value.ref b] s = true := hts _ (by decide +kernel)
  obtain ⟨comp, k3, kc, e1, e2, e3, e4, e5⟩ := Cond.arrayOver_spec ho
  refine ⟨(fun c => match c with | 0 => c0 | _ => c1, fun c => match c with | 0 => i0 | _ => i1), (fun i => match i with | 0 => k0 | 1 => k1 | 2 => k2 | 3 => k3 | _ => k4), ?_, ?_⟩
  · intro c q hq
    match c, hq with
    | 0, hq => cases hq; exact h0
    | 1, hq => cases hq; exact h1
    | c + 2, hq => cases hq
  · intro c q hq
    match c, hq with
    | 0, hq => cases hq; exact ⟨a0, b0⟩
    | 1, hq => cases hq; exact ⟨a1, b1⟩
    | 2, hq => cases hq; exact ⟨a2, b2⟩
    | 3, hq => cases hq; exact ⟨fun n z => ⟨fun k h => (by cases h), kc, e3, comp, e4⟩, kc, comp, e3, e4, e1, e5⟩
    | 4, hq => cases hq; exact ⟨a4, b4⟩
    | c + 5, hq => cases hq
end ST
/-! the invariant at the start -/
def RI (j : Nat) : Nat := if j = 0 ∨ j = 1 ∨ j = 52 then 5 else if j = 18 ∨ j = 19 then 50 else if j = 48 then 100 else if j = 49 then 90 else if j = 50 then 10 else 0
theorem agI_0 : ∀ j, j < 10 → s_cou (stI gI5 gI50) j = nI (RI (54 + j)) := by decide +kernel
theorem agI : AgS 2 0 (stI gI5 gI50) RI := by
  refine ⟨rfl, by decide +kernel, by decide +kernel, by decide +kernel, fun j _ hj => agI_0 j hj, by decide +kernel⟩
def XI : XV := (2, RI, (0, fun _ => 0), [], fun _ => none)
theorem okI : okX 0 XI := by
  refine ⟨⟨⟨by decide +kernel, ?_, by decide +kernel⟩, by decide +kernel, by decide +kernel, by unfold okH; decide +kernel⟩, Nat.zero_le _, fun k hk => absurd hk (Nat.not_lt_zero _), Nat.zero_le _, fun r hr => (by cases hr), fun s r hr => (by cases hr)⟩
  unfold GE
  decide +kernel
theorem ixI : IX XI trI (stI gI5 gI50) (fun _ => none) :=
  ⟨agI, ⟨rfl, fun k hk => absurd hk (Nat.not_lt_zero _)⟩, ⟨rfl, 0, by decide, rfl, fun j r hj => (by cases j <;> cases hj)⟩, fun s _ => Or.inl ⟨rfl, rfl⟩⟩
theorem plW_0 {k : Nat → ClassId} {V : PoV} : ∀ m : Nat, plW k (fun _ => none) V m = []
  | 0 => rfl
  | m + 1 => by
    show plW k (fun _ => none) V m ++ plB k none (V m) = []
    rw [plW_0 m, plB_none]
    rfl
theorem poI (k : Nat → ClassId) (cA : Nat → Nat) : PoIs k cA (fun _ => none) (poR k cA (fun _ => none)) := by
  have e : ∀ n o : Nat, qf n o (fun _ => none) = fun _ => none := by
    intro n o
    funext j
    unfold qf
    split <;> rfl
  have e2 : plW k (fun _ => none) (fun _ => none) 19 = [] := plW_0 19
  refine ⟨fun _ => none, ?_, fun i _ => ⟨fun _ => rfl, fun _ => rfl⟩⟩
  unfold PoA
  rw [e2, List.append_nil]
  unfold poA
  rw [e 3 0, e 14 3, e 2 17]
  exact List.Perm.refl _
theorem obI (k : Nat → ClassId) (cA nA tA : Nat → Nat) : Ob k cA nA tA XI (trW k cA nA tA trI ++ stW k nA (stI gI5 gI50) ++ stW k tA (stI gI5 gI50) ++ poR k cA (fun _ => none)) :=
  ⟨trI, stI gI5 gI50, stI gI5 gI50, fun _ => none, poR k cA (fun _ => none), List.Perm.refl _, poI k cA, ixI⟩
