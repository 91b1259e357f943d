/-! each call through its wrapper -/
/-- the wrapper of a call: its world, what it leaves; z: what stands in out for an answer -/
def KL {β γ : Type} (ou : (Nat → ClassId) → Nat → (Nat → γ) → va_W) (G : β → Prop) (z : β → γ) (l : Launch) (D : va_G) (k : Nat → ClassId) (cA nA tA : Nat → Nat) (c : Nat) (T : TrV) (N V : StV) (Q : PoV) (tl : va_W) (oA : Nat) (g : Nat → γ) (y : MethodName) (ws : List Cond) (args : List Value) (y2 : Option (β × MdV)) : Prop :=
  ∃ (w0 : va_W) (P : Option Value → va_W → Prop) (b : β) (M' : MdV), y2 = some (b, M') ∧ List.Perm (CW k cA nA tA T N V tl ++ ou k oA g) w0 ∧ Cl l D (tyK k) y ws rmL (.ref (cA 0) :: args ++ [.ref oA]) w0 (.inr P) ∧
    ∀ ov w, P ov w → ∃ (kc : Int32) (T' : TrV) (N' V' : StV) (Q' : PoV) (tl' : va_W) (g' : Nat → γ), ov = some (.int kc) ∧ m_ref M' = kc ∧ (kc = 0 → G b ∧ g' 0 = z b) ∧ List.Perm w (CW k cA nA tA T' N' V' tl' ++ ou k oA g') ∧ PoIs k cA Q' tl' ∧ INV (c + 1) T' N' Q' M'
theorem pmW {X wc wr C : va_W} (h : List.Perm X (wc ++ wr)) : List.Perm (X ++ C) (wc ++ (wr ++ C)) := by
  rw [← List.append_assoc]
  exact h.append_right _
section KW
variable {l : Launch} {D : va_G} {k : Nat → ClassId} {cA nA tA : Nat → Nat} {c : Nat} {T : TrV} {N V : StV} {Q : PoV} {tl : va_W} {M : MdV}

theorem w_append (hst : l.stackTraces = false) (h : INV c T N Q M) (hc : c ≤ 600) (hT : PoIs k cA Q tl) (oA : Nat) (g : Nat → Int64) (p1 : Int32) : KL ouW tt0 Int32.toInt64 l D k cA nA tA c T N V Q tl oA g yL_append wsL_append [.int p1] (f_X2_append M p1) := by
  obtain ⟨rm, wc, wr, wx, oc, b, M', hfit, hp, ⟨fs, he⟩, hf, hCx, hy, hE, hB⟩ := k_append (V := V) (nA := nA) (tA := tA) (D := D) hst h hc hT p1
  refine ⟨wc ++ (wr ++ ouW k oA g), _, b, M', hy, pmW hp, c_L_append l D k (cA 0) oA p1 g wc wx wr oc fs rm hfit he hf (fun E hE9 => by
    obtain ⟨cd, hm, -⟩ := hE E hE9
    simp only [List.mem_cons, Prod.mk.injEq, List.not_mem_nil, or_false] at hm
    rcases hm with ⟨hm, -⟩ | ⟨hm, -⟩
    · exact Or.inl hm
    · exact Or.inr (hm)) (fun B ov w h1 h2 => ⟨b, ((hB B h1).2.2 ov w h2).1⟩) hCx, fun ov w hP => ?_⟩
  rcases hP with ⟨h1, rfl, rfl⟩ | ⟨h1, rfl, rfl⟩ | ⟨B, v, w2, h1, h2, rfl, rfl⟩
  · obtain ⟨cd, hm, hr, T', hp2, hi⟩ := hE _ h1
    have hcd : cd = 1 := by
      simp only [List.mem_cons, Prod.mk.injEq, List.not_mem_nil, or_false] at hm
      rcases hm with ⟨hs, hm⟩ | ⟨hs, hm⟩
      · exact hm
      · exact absurd hs (by decide)
    exact ⟨1, T', N, V, Q, tl, g, rfl, hr.trans hcd, fun h0 => absurd h0 (by decide), (pmW hp2.symm).symm, hT, hi⟩
  · obtain ⟨cd, hm, hr, T', hp2, hi⟩ := hE _ h1
    have hcd : cd = 2 := by
      simp only [List.mem_cons, Prod.mk.injEq, List.not_mem_nil, or_false] at hm
      rcases hm with ⟨hs, hm⟩ | ⟨hs, hm⟩
      · exact absurd hs (by decide)
      · exact hm
    exact ⟨2, T', N, V, Q, tl, g, rfl, hr.trans hcd, fun h0 => absurd h0 (by decide), (pmW hp2.symm).symm, hT, hi⟩
  · obtain ⟨hG, hr, hb⟩ := hB B h1
    obtain ⟨e1, T', N', V', Q', tl', hp2, hT2, hi⟩ := hb _ _ h2
    have hv : v = b := by cases e1; rfl
    subst hv
    exact ⟨0, T', N', V', Q', tl', _, rfl, hr, fun _ => ⟨hG, rfl⟩, (pmW hp2.symm).symm, hT2, hi⟩
theorem w_load (hst : l.stackTraces = false) (h : INV c T N Q M) (hc : c ≤ 600) (hT : PoIs k cA Q tl) (oA : Nat) (g : Nat → Int64) : KL ouW tt0 Int32.toInt64 l D k cA nA tA c T N V Q tl oA g yL_load wsL_load [] (f_X2_load M) := by
  obtain ⟨rm, wc, wr, wx, oc, b, M', hfit, hp, ⟨fs, he⟩, hf, hCx, hy, hE, hB⟩ := k_load (V := V) (nA := nA) (tA := tA) (D := D) hst h hc hT
  refine ⟨wc ++ (wr ++ ouW k oA g), _, b, M', hy, pmW hp, c_L_load l D k (cA 0) oA  g wc wx wr oc fs rm hfit he hf (fun E hE9 => by
    obtain ⟨cd, hm, -⟩ := hE E hE9
    simp only [List.mem_cons, Prod.mk.injEq, List.not_mem_nil, or_false] at hm
    rcases hm with ⟨hm, -⟩
    · exact hm) (fun B ov w h1 h2 => ⟨b, ((hB B h1).2.2 ov w h2).1⟩) hCx, fun ov w hP => ?_⟩
  rcases hP with ⟨h1, rfl, rfl⟩ | ⟨B, v, w2, h1, h2, rfl, rfl⟩
  · obtain ⟨cd, hm, hr, T', hp2, hi⟩ := hE _ h1
    have hcd : cd = 1 := by
      simp only [List.mem_cons, Prod.mk.injEq, List.not_mem_nil, or_false] at hm
      rcases hm with ⟨hs, hm⟩
      · exact hm
    exact ⟨1, T', N, V, Q, tl, g, rfl, hr.trans hcd, fun h0 => absurd h0 (by decide), (pmW hp2.symm).symm, hT, hi⟩
  · obtain ⟨hG, hr, hb⟩ := hB B h1
    obtain ⟨e1, T', N', V', Q', tl', hp2, hT2, hi⟩ := hb _ _ h2
    have hv : v = b := by cases e1; rfl
    subst hv
    exact ⟨0, T', N', V', Q', tl', _, rfl, hr, fun _ => ⟨hG, rfl⟩, (pmW hp2.symm).symm, hT2, hi⟩
theorem w_about (hst : l.stackTraces = false) (h : INV c T N Q M) (hc : c ≤ 600) (hT : PoIs k cA Q tl) (oA : Nat) (g : Nat → Int64) (p1 : Int32) : KL ouW tt0 Int32.toInt64 l D k cA nA tA c T N V Q tl oA g yL_about wsL_about [.int p1] (f_X2_about M p1) := by
  obtain ⟨rm, wc, wr, wx, oc, b, M', hfit, hp, ⟨fs, he⟩, hf, hCx, hy, hE, hB⟩ := k_about (V := V) (nA := nA) (tA := tA) (D := D) hst h hc hT p1
  refine ⟨wc ++ (wr ++ ouW k oA g), _, b, M', hy, pmW hp, c_L_about l D k (cA 0) oA p1 g wc wx wr oc fs rm hfit he hf (fun E hE9 => by
    obtain ⟨cd, hm, -⟩ := hE E hE9
    simp only [List.mem_cons, Prod.mk.injEq, List.not_mem_nil, or_false] at hm
    rcases hm with ⟨hm, -⟩
    · exact hm) (fun B ov w h1 h2 => ⟨b, ((hB B h1).2.2 ov w h2).1⟩) hCx, fun ov w hP => ?_⟩
  rcases hP with ⟨h1, rfl, rfl⟩ | ⟨B, v, w2, h1, h2, rfl, rfl⟩
  · obtain ⟨cd, hm, hr, T', hp2, hi⟩ := hE _ h1
    have hcd : cd = 1 := by
      simp only [List.mem_cons, Prod.mk.injEq, List.not_mem_nil, or_false] at hm
      rcases hm with ⟨hs, hm⟩
      · exact hm
    exact ⟨1, T', N, V, Q, tl, g, rfl, hr.trans hcd, fun h0 => absurd h0 (by decide), (pmW hp2.symm).symm, hT, hi⟩
  · obtain ⟨hG, hr, hb⟩ := hB B h1
    obtain ⟨e1, T', N', V', Q', tl', hp2, hT2, hi⟩ := hb _ _ h2
    have hv : v = b := by cases e1; rfl
    subst hv
    exact ⟨0, T', N', V', Q', tl', _, rfl, hr, fun _ => ⟨hG, rfl⟩, (pmW hp2.symm).symm, hT2, hi⟩
theorem w_total (hst : l.stackTraces = false) (h : INV c T N Q M) (hc : c ≤ 600) (hT : PoIs k cA Q tl) (oA : Nat) (g : Nat → Int64) (p1 : Int32) : KL ouW tt0 Int32.toInt64 l D k cA nA tA c T N V Q tl oA g yL_total wsL_total [.int p1] (f_X2_total M p1) := by
  obtain ⟨rm, wc, wr, wx, oc, b, M', hfit, hp, ⟨fs, he⟩, hf, hCx, hy, hE, hB⟩ := k_total (V := V) (nA := nA) (tA := tA) (D := D) hst h hc hT p1
  refine ⟨wc ++ (wr ++ ouW k oA g), _, b, M', hy, pmW hp, c_L_total l D k (cA 0) oA p1 g wc wx wr oc fs rm hfit he hf (fun E hE9 => by
    obtain ⟨cd, hm, -⟩ := hE E hE9
    simp only [List.mem_cons, Prod.mk.injEq, List.not_mem_nil, or_false] at hm
    rcases hm with ⟨hm, -⟩
    · exact hm) (fun B ov w h1 h2 => ⟨b, ((hB B h1).2.2 ov w h2).1⟩) hCx, fun ov w hP => ?_⟩
  rcases hP with ⟨h1, rfl, rfl⟩ | ⟨B, v, w2, h1, h2, rfl, rfl⟩
  · obtain ⟨cd, hm, hr, T', hp2, hi⟩ := hE _ h1
    have hcd : cd = 1 := by
      simp only [List.mem_cons, Prod.mk.injEq, List.not_mem_nil, or_false] at hm
      rcases hm with ⟨hs, hm⟩
      · exact hm
    exact ⟨1, T', N, V, Q, tl, g, rfl, hr.trans hcd, fun h0 => absurd h0 (by decide), (pmW hp2.symm).symm, hT, hi⟩
  · obtain ⟨hG, hr, hb⟩ := hB B h1
    obtain ⟨e1, T', N', V', Q', tl', hp2, hT2, hi⟩ := hb _ _ h2
    have hv : v = b := by cases e1; rfl
    subst hv
    exact ⟨0, T', N', V', Q', tl', _, rfl, hr, fun _ => ⟨hG, rfl⟩, (pmW hp2.symm).symm, hT2, hi⟩
theorem w_effect (hst : l.stackTraces = false) (h : INV c T N Q M) (hc : c ≤ 600) (hT : PoIs k cA Q tl) (oA : Nat) (g : Nat → Int64) (p1 : Int32) (p2 : Int32) : KL ouW tt0 Int32.toInt64 l D k cA nA tA c T N V Q tl oA g yL_effect wsL_effect [.int p1, .int p2] (f_X2_effect M p1 p2) := by
  obtain ⟨rm, wc, wr, wx, oc, b, M', hfit, hp, ⟨fs, he⟩, hf, hCx, hy, hE, hB⟩ := k_effect (V := V) (nA := nA) (tA := tA) (D := D) hst h hc hT p1 p2
  refine ⟨wc ++ (wr ++ ouW k oA g), _, b, M', hy, pmW hp, c_L_effect l D k (cA 0) oA p1 p2 g wc wx wr oc fs rm hfit he hf (fun E hE9 => by
    obtain ⟨cd, hm, -⟩ := hE E hE9
    simp only [List.mem_cons, Prod.mk.injEq, List.not_mem_nil, or_false] at hm
    rcases hm with ⟨hm, -⟩ | ⟨hm, -⟩
    · exact Or.inl hm
    · exact Or.inr (hm)) (fun B ov w h1 h2 => ⟨b, ((hB B h1).2.2 ov w h2).1⟩) hCx, fun ov w hP => ?_⟩
  rcases hP with ⟨h1, rfl, rfl⟩ | ⟨h1, rfl, rfl⟩ | ⟨B, v, w2, h1, h2, rfl, rfl⟩
  · obtain ⟨cd, hm, hr, T', hp2, hi⟩ := hE _ h1
    have hcd : cd = 1 := by
      simp only [List.mem_cons, Prod.mk.injEq, List.not_mem_nil, or_false] at hm
      rcases hm with ⟨hs, hm⟩ | ⟨hs, hm⟩
      · exact hm
      · exact absurd hs (by decide)
    exact ⟨1, T', N, V, Q, tl, g, rfl, hr.trans hcd, fun h0 => absurd h0 (by decide), (pmW hp2.symm).symm, hT, hi⟩
  · obtain ⟨cd, hm, hr, T', hp2, hi⟩ := hE _ h1
    have hcd : cd = 2 := by
      simp only [List.mem_cons, Prod.mk.injEq, List.not_mem_nil, or_false] at hm
      rcases hm with ⟨hs, hm⟩ | ⟨hs, hm⟩
      · exact absurd hs (by decide)
      · exact hm
    exact ⟨2, T', N, V, Q, tl, g, rfl, hr.trans hcd, fun h0 => absurd h0 (by decide), (pmW hp2.symm).symm, hT, hi⟩
  · obtain ⟨hG, hr, hb⟩ := hB B h1
    obtain ⟨e1, T', N', V', Q', tl', hp2, hT2, hi⟩ := hb _ _ h2
    have hv : v = b := by cases e1; rfl
    subst hv
    exact ⟨0, T', N', V', Q', tl', _, rfl, hr, fun _ => ⟨hG, rfl⟩, (pmW hp2.symm).symm, hT2, hi⟩
theorem w_neighbor (hst : l.stackTraces = false) (h : INV c T N Q M) (hc : c ≤ 600) (hT : PoIs k cA Q tl) (oA : Nat) (g : Nat → Int64) (p1 : Int32) (p2 : Int32) : KL ouW tt0 Int32.toInt64 l D k cA nA tA c T N V Q tl oA g yL_neighbor wsL_neighbor [.int p1, .int p2] (f_X2_neighbor M p1 p2) := by
  obtain ⟨rm, wc, wr, wx, oc, b, M', hfit, hp, ⟨fs, he⟩, hf, hCx, hy, hE, hB⟩ := k_neighbor (V := V) (nA := nA) (tA := tA) (D := D) hst h hc hT p1 p2
  refine ⟨wc ++ (wr ++ ouW k oA g), _, b, M', hy, pmW hp, c_L_neighbor l D k (cA 0) oA p1 p2 g wc wx wr oc fs rm hfit he hf (fun E hE9 => by
    obtain ⟨cd, hm, -⟩ := hE E hE9
    simp only [List.mem_cons, Prod.mk.injEq, List.not_mem_nil, or_false] at hm
    rcases hm with ⟨hm, -⟩
    · exact hm) (fun B ov w h1 h2 => ⟨b, ((hB B h1).2.2 ov w h2).1⟩) hCx, fun ov w hP => ?_⟩
  rcases hP with ⟨h1, rfl, rfl⟩ | ⟨B, v, w2, h1, h2, rfl, rfl⟩
  · obtain ⟨cd, hm, hr, T', hp2, hi⟩ := hE _ h1
    have hcd : cd = 1 := by
      simp only [List.mem_cons, Prod.mk.injEq, List.not_mem_nil, or_false] at hm
      rcases hm with ⟨hs, hm⟩
      · exact hm
    exact ⟨1, T', N, V, Q, tl, g, rfl, hr.trans hcd, fun h0 => absurd h0 (by decide), (pmW hp2.symm).symm, hT, hi⟩
  · obtain ⟨hG, hr, hb⟩ := hB B h1
    obtain ⟨e1, T', N', V', Q', tl', hp2, hT2, hi⟩ := hb _ _ h2
    have hv : v = b := by cases e1; rfl
    subst hv
    exact ⟨0, T', N', V', Q', tl', _, rfl, hr, fun _ => ⟨hG, rfl⟩, (pmW hp2.symm).symm, hT2, hi⟩
theorem w_share (hst : l.stackTraces = false) (hF : NaNok) (hz : okF FP.fconst0) (h : INV c T N Q M) (hc : c ≤ 600) (hT : PoIs k cA Q tl) (oA : Nat) (g : Nat → UInt64) (p1 : Int32) : KL duW okF FP.f2d l D k cA nA tA c T N V Q tl oA g yL_share wsL_share [.int p1] (f_X2_share M p1) := by
  obtain ⟨rm, wc, wr, wx, oc, b, M', hfit, hp, ⟨fs, he⟩, hf, hCx, hy, hE, hB⟩ := k_share (V := V) (nA := nA) (tA := tA) (D := D) hst h hc hT hF hz p1
  refine ⟨wc ++ (wr ++ duW k oA g), _, b, M', hy, pmW hp, c_L_share l D k (cA 0) oA p1 g wc wx wr oc fs rm hfit he hf (fun E hE9 => by
    obtain ⟨cd, hm, -⟩ := hE E hE9
    simp only [List.mem_cons, Prod.mk.injEq, List.not_mem_nil, or_false] at hm
    rcases hm with ⟨hm, -⟩
    · exact hm) (fun B ov w h1 h2 => ⟨b, ((hB B h1).2.2 ov w h2).1, (hB B h1).1.1⟩) hCx, fun ov w hP => ?_⟩
  rcases hP with ⟨h1, rfl, rfl⟩ | ⟨B, v, w2, h1, h2, rfl, rfl⟩
  · obtain ⟨cd, hm, hr, T', hp2, hi⟩ := hE _ h1
    have hcd : cd = 1 := by
      simp only [List.mem_cons, Prod.mk.injEq, List.not_mem_nil, or_false] at hm
      rcases hm with ⟨hs, hm⟩
      · exact hm
    exact ⟨1, T', N, V, Q, tl, g, rfl, hr.trans hcd, fun h0 => absurd h0 (by decide), (pmW hp2.symm).symm, hT, hi⟩
  · obtain ⟨hG, hr, hb⟩ := hB B h1
    obtain ⟨e1, T', N', V', Q', tl', hp2, hT2, hi⟩ := hb _ _ h2
    have hv : v = b := by cases e1; rfl
    subst hv
    exact ⟨0, T', N', V', Q', tl', _, rfl, hr, fun _ => ⟨hG, rfl⟩, (pmW hp2.symm).symm, hT2, hi⟩
theorem w_tick (hst : l.stackTraces = false) (h : INV c T N Q M) (hc : c ≤ 600) (hT : PoIs k cA Q tl) (oA : Nat) (g : Nat → Int64) (p1 : Int32) : KL ouW tt0 Int32.toInt64 l D k cA nA tA c T N V Q tl oA g yL_tick wsL_tick [.int p1] (f_X2_tick M p1) := by
  obtain ⟨rm, wc, wr, wx, oc, b, M', hfit, hp, ⟨fs, he⟩, hf, hCx, hy, hE, hB⟩ := k_tick (V := V) (nA := nA) (tA := tA) (D := D) hst h hc hT p1
  refine ⟨wc ++ (wr ++ ouW k oA g), _, b, M', hy, pmW hp, c_L_tick l D k (cA 0) oA p1 g wc wx wr oc fs rm hfit he hf (fun E hE9 => by
    obtain ⟨cd, hm, -⟩ := hE E hE9
    simp only [List.mem_cons, Prod.mk.injEq, List.not_mem_nil, or_false] at hm
    rcases hm with ⟨hm, -⟩
    · exact hm) (fun B ov w h1 h2 => ⟨b, ((hB B h1).2.2 ov w h2).1⟩) hCx, fun ov w hP => ?_⟩
  rcases hP with ⟨h1, rfl, rfl⟩ | ⟨B, v, w2, h1, h2, rfl, rfl⟩
  · obtain ⟨cd, hm, hr, T', hp2, hi⟩ := hE _ h1
    have hcd : cd = 1 := by
      simp only [List.mem_cons, Prod.mk.injEq, List.not_mem_nil, or_false] at hm
      rcases hm with ⟨hs, hm⟩
      · exact hm
    exact ⟨1, T', N, V, Q, tl, g, rfl, hr.trans hcd, fun h0 => absurd h0 (by decide), (pmW hp2.symm).symm, hT, hi⟩
  · obtain ⟨hG, hr, hb⟩ := hB B h1
    obtain ⟨e1, T', N', V', Q', tl', hp2, hT2, hi⟩ := hb _ _ h2
    have hv : v = b := by cases e1; rfl
    subst hv
    exact ⟨0, T', N', V', Q', tl', _, rfl, hr, fun _ => ⟨hG, rfl⟩, (pmW hp2.symm).symm, hT2, hi⟩
theorem w_set (hst : l.stackTraces = false) (h : INV c T N Q M) (hc : c ≤ 600) (hT : PoIs k cA Q tl) (oA : Nat) (g : Nat → Int64) (p1 : Int32) (p2 : Int32) : KL ouW tt0 Int32.toInt64 l D k cA nA tA c T N V Q tl oA g yL_set wsL_set [.int p1, .int p2] (f_X2_set M p1 p2) := by
  obtain ⟨rm, wc, wr, wx, oc, b, M', hfit, hp, ⟨fs, he⟩, hf, hCx, hy, hE, hB⟩ := k_set (V := V) (nA := nA) (tA := tA) (D := D) hst h hc hT p1 p2
  refine ⟨wc ++ (wr ++ ouW k oA g), _, b, M', hy, pmW hp, c_L_set l D k (cA 0) oA p1 p2 g wc wx wr oc fs rm hfit he hf (fun E hE9 => by
    obtain ⟨cd, hm, -⟩ := hE E hE9
    simp only [List.mem_cons, Prod.mk.injEq, List.not_mem_nil, or_false] at hm
    rcases hm with ⟨hm, -⟩
    · exact hm) (fun B ov w h1 h2 => ⟨b, ((hB B h1).2.2 ov w h2).1⟩) hCx, fun ov w hP => ?_⟩
  rcases hP with ⟨h1, rfl, rfl⟩ | ⟨B, v, w2, h1, h2, rfl, rfl⟩
  · obtain ⟨cd, hm, hr, T', hp2, hi⟩ := hE _ h1
    have hcd : cd = 1 := by
      simp only [List.mem_cons, Prod.mk.injEq, List.not_mem_nil, or_false] at hm
      rcases hm with ⟨hs, hm⟩
      · exact hm
    exact ⟨1, T', N, V, Q, tl, g, rfl, hr.trans hcd, fun h0 => absurd h0 (by decide), (pmW hp2.symm).symm, hT, hi⟩
  · obtain ⟨hG, hr, hb⟩ := hB B h1
    obtain ⟨e1, T', N', V', Q', tl', hp2, hT2, hi⟩ := hb _ _ h2
    have hv : v = b := by cases e1; rfl
    subst hv
    exact ⟨0, T', N', V', Q', tl', _, rfl, hr, fun _ => ⟨hG, rfl⟩, (pmW hp2.symm).symm, hT2, hi⟩
theorem w_setValve (hst : l.stackTraces = false) (h : INV c T N Q M) (hc : c ≤ 600) (hT : PoIs k cA Q tl) (oA : Nat) (g : Nat → Int64) (p1 : Int32) (p2 : Int32) : KL ouW tt0 Int32.toInt64 l D k cA nA tA c T N V Q tl oA g yL_setValve wsL_setValve [.int p1, .int p2] (f_X2_setValve M p1 p2) := by
  obtain ⟨rm, wc, wr, wx, oc, b, M', hfit, hp, ⟨fs, he⟩, hf, hCx, hy, hE, hB⟩ := k_setValve (V := V) (nA := nA) (tA := tA) (D := D) hst h hc hT p1 p2
  refine ⟨wc ++ (wr ++ ouW k oA g), _, b, M', hy, pmW hp, c_L_setValve l D k (cA 0) oA p1 p2 g wc wx wr oc fs rm hfit he hf (fun E hE9 => by
    obtain ⟨cd, hm, -⟩ := hE E hE9
    simp only [List.mem_cons, Prod.mk.injEq, List.not_mem_nil, or_false] at hm
    rcases hm with ⟨hm, -⟩ | ⟨hm, -⟩
    · exact Or.inl hm
    · exact Or.inr (hm)) (fun B ov w h1 h2 => ⟨b, ((hB B h1).2.2 ov w h2).1⟩) hCx, fun ov w hP => ?_⟩
  rcases hP with ⟨h1, rfl, rfl⟩ | ⟨h1, rfl, rfl⟩ | ⟨B, v, w2, h1, h2, rfl, rfl⟩
  · obtain ⟨cd, hm, hr, T', hp2, hi⟩ := hE _ h1
    have hcd : cd = 1 := by
      simp only [List.mem_cons, Prod.mk.injEq, List.not_mem_nil, or_false] at hm
      rcases hm with ⟨hs, hm⟩ | ⟨hs, hm⟩
      · exact hm
      · exact absurd hs (by decide)
    exact ⟨1, T', N, V, Q, tl, g, rfl, hr.trans hcd, fun h0 => absurd h0 (by decide), (pmW hp2.symm).symm, hT, hi⟩
  · obtain ⟨cd, hm, hr, T', hp2, hi⟩ := hE _ h1
    have hcd : cd = 2 := by
      simp only [List.mem_cons, Prod.mk.injEq, List.not_mem_nil, or_false] at hm
      rcases hm with ⟨hs, hm⟩ | ⟨hs, hm⟩
      · exact absurd hs (by decide)
      · exact hm
    exact ⟨2, T', N, V, Q, tl, g, rfl, hr.trans hcd, fun h0 => absurd h0 (by decide), (pmW hp2.symm).symm, hT, hi⟩
  · obtain ⟨hG, hr, hb⟩ := hB B h1
    obtain ⟨e1, T', N', V', Q', tl', hp2, hT2, hi⟩ := hb _ _ h2
    have hv : v = b := by cases e1; rfl
    subst hv
    exact ⟨0, T', N', V', Q', tl', _, rfl, hr, fun _ => ⟨hG, rfl⟩, (pmW hp2.symm).symm, hT2, hi⟩
theorem w_setBleed (hst : l.stackTraces = false) (h : INV c T N Q M) (hc : c ≤ 600) (hT : PoIs k cA Q tl) (oA : Nat) (g : Nat → Int64) (p1 : Int32) (p2 : Int32) : KL ouW tt0 Int32.toInt64 l D k cA nA tA c T N V Q tl oA g yL_setBleed wsL_setBleed [.int p1, .int p2] (f_X2_setBleed M p1 p2) := by
  obtain ⟨rm, wc, wr, wx, oc, b, M', hfit, hp, ⟨fs, he⟩, hf, hCx, hy, hE, hB⟩ := k_setBleed (V := V) (nA := nA) (tA := tA) (D := D) hst h hc hT p1 p2
  refine ⟨wc ++ (wr ++ ouW k oA g), _, b, M', hy, pmW hp, c_L_setBleed l D k (cA 0) oA p1 p2 g wc wx wr oc fs rm hfit he hf (fun E hE9 => by
    obtain ⟨cd, hm, -⟩ := hE E hE9
    simp only [List.mem_cons, Prod.mk.injEq, List.not_mem_nil, or_false] at hm
    rcases hm with ⟨hm, -⟩ | ⟨hm, -⟩
    · exact Or.inl hm
    · exact Or.inr (hm)) (fun B ov w h1 h2 => ⟨b, ((hB B h1).2.2 ov w h2).1⟩) hCx, fun ov w hP => ?_⟩
  rcases hP with ⟨h1, rfl, rfl⟩ | ⟨h1, rfl, rfl⟩ | ⟨B, v, w2, h1, h2, rfl, rfl⟩
  · obtain ⟨cd, hm, hr, T', hp2, hi⟩ := hE _ h1
    have hcd : cd = 1 := by
      simp only [List.mem_cons, Prod.mk.injEq, List.not_mem_nil, or_false] at hm
      rcases hm with ⟨hs, hm⟩ | ⟨hs, hm⟩
      · exact hm
      · exact absurd hs (by decide)
    exact ⟨1, T', N, V, Q, tl, g, rfl, hr.trans hcd, fun h0 => absurd h0 (by decide), (pmW hp2.symm).symm, hT, hi⟩
  · obtain ⟨cd, hm, hr, T', hp2, hi⟩ := hE _ h1
    have hcd : cd = 2 := by
      simp only [List.mem_cons, Prod.mk.injEq, List.not_mem_nil, or_false] at hm
      rcases hm with ⟨hs, hm⟩ | ⟨hs, hm⟩
      · exact absurd hs (by decide)
      · exact hm
    exact ⟨2, T', N, V, Q, tl, g, rfl, hr.trans hcd, fun h0 => absurd h0 (by decide), (pmW hp2.symm).symm, hT, hi⟩
  · obtain ⟨hG, hr, hb⟩ := hB B h1
    obtain ⟨e1, T', N', V', Q', tl', hp2, hT2, hi⟩ := hb _ _ h2
    have hv : v = b := by cases e1; rfl
    subst hv
    exact ⟨0, T', N', V', Q', tl', _, rfl, hr, fun _ => ⟨hG, rfl⟩, (pmW hp2.symm).symm, hT2, hi⟩
theorem w_wash (hst : l.stackTraces = false) (h : INV c T N Q M) (hc : c ≤ 600) (hT : PoIs k cA Q tl) (oA : Nat) (g : Nat → Int64) (p1 : Int32) (p2 : Int32) : KL ouW tt0 Int32.toInt64 l D k cA nA tA c T N V Q tl oA g yL_wash wsL_wash [.int p1, .int p2] (f_X2_wash M p1 p2) := by
  obtain ⟨rm, wc, wr, wx, oc, b, M', hfit, hp, ⟨fs, he⟩, hf, hCx, hy, hE, hB⟩ := k_wash (V := V) (nA := nA) (tA := tA) (D := D) hst h hc hT p1 p2
  refine ⟨wc ++ (wr ++ ouW k oA g), _, b, M', hy, pmW hp, c_L_wash l D k (cA 0) oA p1 p2 g wc wx wr oc fs rm hfit he hf (fun E hE9 => by
    obtain ⟨cd, hm, -⟩ := hE E hE9
    simp only [List.mem_cons, Prod.mk.injEq, List.not_mem_nil, or_false] at hm
    rcases hm with ⟨hm, -⟩ | ⟨hm, -⟩ | ⟨hm, -⟩
    · exact Or.inl hm
    · exact Or.inr (Or.inl hm)
    · exact Or.inr (Or.inr (hm))) (fun B ov w h1 h2 => ⟨b, ((hB B h1).2.2 ov w h2).1⟩) hCx, fun ov w hP => ?_⟩
  rcases hP with ⟨h1, rfl, rfl⟩ | ⟨h1, rfl, rfl⟩ | ⟨h1, rfl, rfl⟩ | ⟨B, v, w2, h1, h2, rfl, rfl⟩
  · obtain ⟨cd, hm, hr, T', hp2, hi⟩ := hE _ h1
    have hcd : cd = 1 := by
      simp only [List.mem_cons, Prod.mk.injEq, List.not_mem_nil, or_false] at hm
      rcases hm with ⟨hs, hm⟩ | ⟨hs, hm⟩ | ⟨hs, hm⟩
      · exact hm
      · exact absurd hs (by decide)
      · exact absurd hs (by decide)
    exact ⟨1, T', N, V, Q, tl, g, rfl, hr.trans hcd, fun h0 => absurd h0 (by decide), (pmW hp2.symm).symm, hT, hi⟩
  · obtain ⟨cd, hm, hr, T', hp2, hi⟩ := hE _ h1
    have hcd : cd = 2 := by
      simp only [List.mem_cons, Prod.mk.injEq, List.not_mem_nil, or_false] at hm
      rcases hm with ⟨hs, hm⟩ | ⟨hs, hm⟩ | ⟨hs, hm⟩
      · exact absurd hs (by decide)
      · exact hm
      · exact absurd hs (by decide)
    exact ⟨2, T', N, V, Q, tl, g, rfl, hr.trans hcd, fun h0 => absurd h0 (by decide), (pmW hp2.symm).symm, hT, hi⟩
  · obtain ⟨cd, hm, hr, T', hp2, hi⟩ := hE _ h1
    have hcd : cd = 3 := by
      simp only [List.mem_cons, Prod.mk.injEq, List.not_mem_nil, or_false] at hm
      rcases hm with ⟨hs, hm⟩ | ⟨hs, hm⟩ | ⟨hs, hm⟩
      · exact absurd hs (by decide)
      · exact absurd hs (by decide)
      · exact hm
    exact ⟨3, T', N, V, Q, tl, g, rfl, hr.trans hcd, fun h0 => absurd h0 (by decide), (pmW hp2.symm).symm, hT, hi⟩
  · obtain ⟨hG, hr, hb⟩ := hB B h1
    obtain ⟨e1, T', N', V', Q', tl', hp2, hT2, hi⟩ := hb _ _ h2
    have hv : v = b := by cases e1; rfl
    subst hv
    exact ⟨0, T', N', V', Q', tl', _, rfl, hr, fun _ => ⟨hG, rfl⟩, (pmW hp2.symm).symm, hT2, hi⟩
theorem w_endWash (hst : l.stackTraces = false) (h : INV c T N Q M) (hc : c ≤ 600) (hT : PoIs k cA Q tl) (oA : Nat) (g : Nat → Int64) (p1 : Int32) : KL ouW tt0 Int32.toInt64 l D k cA nA tA c T N V Q tl oA g yL_endWash wsL_endWash [.int p1] (f_X2_endWash M p1) := by
  obtain ⟨rm, wc, wr, wx, oc, b, M', hfit, hp, ⟨fs, he⟩, hf, hCx, hy, hE, hB⟩ := k_endWash (V := V) (nA := nA) (tA := tA) (D := D) hst h hc hT p1
  refine ⟨wc ++ (wr ++ ouW k oA g), _, b, M', hy, pmW hp, c_L_endWash l D k (cA 0) oA p1 g wc wx wr oc fs rm hfit he hf (fun E hE9 => by
    obtain ⟨cd, hm, -⟩ := hE E hE9
    simp only [List.mem_cons, Prod.mk.injEq, List.not_mem_nil, or_false] at hm
    rcases hm with ⟨hm, -⟩ | ⟨hm, -⟩
    · exact Or.inl hm
    · exact Or.inr (hm)) (fun B ov w h1 h2 => ⟨b, ((hB B h1).2.2 ov w h2).1⟩) hCx, fun ov w hP => ?_⟩
  rcases hP with ⟨h1, rfl, rfl⟩ | ⟨h1, rfl, rfl⟩ | ⟨B, v, w2, h1, h2, rfl, rfl⟩
  · obtain ⟨cd, hm, hr, T', hp2, hi⟩ := hE _ h1
    have hcd : cd = 1 := by
      simp only [List.mem_cons, Prod.mk.injEq, List.not_mem_nil, or_false] at hm
      rcases hm with ⟨hs, hm⟩ | ⟨hs, hm⟩
      · exact hm
      · exact absurd hs (by decide)
    exact ⟨1, T', N, V, Q, tl, g, rfl, hr.trans hcd, fun h0 => absurd h0 (by decide), (pmW hp2.symm).symm, hT, hi⟩
  · obtain ⟨cd, hm, hr, T', hp2, hi⟩ := hE _ h1
    have hcd : cd = 2 := by
      simp only [List.mem_cons, Prod.mk.injEq, List.not_mem_nil, or_false] at hm
      rcases hm with ⟨hs, hm⟩ | ⟨hs, hm⟩
      · exact absurd hs (by decide)
      · exact hm
    exact ⟨2, T', N, V, Q, tl, g, rfl, hr.trans hcd, fun h0 => absurd h0 (by decide), (pmW hp2.symm).symm, hT, hi⟩
  · obtain ⟨hG, hr, hb⟩ := hB B h1
    obtain ⟨e1, T', N', V', Q', tl', hp2, hT2, hi⟩ := hb _ _ h2
    have hv : v = b := by cases e1; rfl
    subst hv
    exact ⟨0, T', N', V', Q', tl', _, rfl, hr, fun _ => ⟨hG, rfl⟩, (pmW hp2.symm).symm, hT2, hi⟩
theorem w_undo (hst : l.stackTraces = false) (h : INV c T N Q M) (hc : c ≤ 600) (hT : PoIs k cA Q tl) (oA : Nat) (g : Nat → Int64) : KL ouW tt0 Int32.toInt64 l D k cA nA tA c T N V Q tl oA g yL_undo wsL_undo [] (f_X2_undo M) := by
  obtain ⟨rm, wc, wr, wx, oc, b, M', hfit, hp, ⟨fs, he⟩, hf, hCx, hy, hE, hB⟩ := k_undo (V := V) (nA := nA) (tA := tA) (D := D) hst h hc hT
  refine ⟨wc ++ (wr ++ ouW k oA g), _, b, M', hy, pmW hp, c_L_undo l D k (cA 0) oA  g wc wx wr oc fs rm hfit he hf (fun E hE9 => by
    obtain ⟨cd, hm, -⟩ := hE E hE9
    simp only [List.mem_cons, Prod.mk.injEq, List.not_mem_nil, or_false] at hm
    rcases hm with ⟨hm, -⟩
    · exact hm) (fun B ov w h1 h2 => ⟨b, ((hB B h1).2.2 ov w h2).1⟩) hCx, fun ov w hP => ?_⟩
  rcases hP with ⟨h1, rfl, rfl⟩ | ⟨B, v, w2, h1, h2, rfl, rfl⟩
  · obtain ⟨cd, hm, hr, T', hp2, hi⟩ := hE _ h1
    have hcd : cd = 1 := by
      simp only [List.mem_cons, Prod.mk.injEq, List.not_mem_nil, or_false] at hm
      rcases hm with ⟨hs, hm⟩
      · exact hm
    exact ⟨1, T', N, V, Q, tl, g, rfl, hr.trans hcd, fun h0 => absurd h0 (by decide), (pmW hp2.symm).symm, hT, hi⟩
  · obtain ⟨hG, hr, hb⟩ := hB B h1
    obtain ⟨e1, T', N', V', Q', tl', hp2, hT2, hi⟩ := hb _ _ h2
    have hv : v = b := by cases e1; rfl
    subst hv
    exact ⟨0, T', N', V', Q', tl', _, rfl, hr, fun _ => ⟨hG, rfl⟩, (pmW hp2.symm).symm, hT2, hi⟩
theorem w_ahead (hst : l.stackTraces = false) (h : INV c T N Q M) (hc : c ≤ 600) (hT : PoIs k cA Q tl) (oA : Nat) (g : Nat → Int64) (p1 : Int32) (p2 : Int32) (p3 : Int32) : KL ouW tt0 Int32.toInt64 l D k cA nA tA c T N V Q tl oA g yL_ahead wsL_ahead [.int p1, .int p2, .int p3] (f_X2_ahead M p1 p2 p3) := by
  obtain ⟨rm, wc, wr, wx, oc, b, M', hfit, hp, ⟨fs, he⟩, hf, hCx, hy, hE, hB⟩ := k_ahead (V := V) (nA := nA) (tA := tA) (D := D) hst h hc hT p1 p2 p3
  refine ⟨wc ++ (wr ++ ouW k oA g), _, b, M', hy, pmW hp, c_L_ahead l D k (cA 0) oA p1 p2 p3 g wc wx wr oc fs rm hfit he hf (fun E hE9 => by
    obtain ⟨cd, hm, -⟩ := hE E hE9
    simp only [List.mem_cons, Prod.mk.injEq, List.not_mem_nil, or_false] at hm
    rcases hm with ⟨hm, -⟩ | ⟨hm, -⟩
    · exact Or.inl hm
    · exact Or.inr (hm)) (fun B ov w h1 h2 => ⟨b, ((hB B h1).2.2 ov w h2).1⟩) hCx, fun ov w hP => ?_⟩
  rcases hP with ⟨h1, rfl, rfl⟩ | ⟨h1, rfl, rfl⟩ | ⟨B, v, w2, h1, h2, rfl, rfl⟩
  · obtain ⟨cd, hm, hr, T', hp2, hi⟩ := hE _ h1
    have hcd : cd = 1 := by
      simp only [List.mem_cons, Prod.mk.injEq, List.not_mem_nil, or_false] at hm
      rcases hm with ⟨hs, hm⟩ | ⟨hs, hm⟩
      · exact hm
      · exact absurd hs (by decide)
    exact ⟨1, T', N, V, Q, tl, g, rfl, hr.trans hcd, fun h0 => absurd h0 (by decide), (pmW hp2.symm).symm, hT, hi⟩
  · obtain ⟨cd, hm, hr, T', hp2, hi⟩ := hE _ h1
    have hcd : cd = 2 := by
      simp only [List.mem_cons, Prod.mk.injEq, List.not_mem_nil, or_false] at hm
      rcases hm with ⟨hs, hm⟩ | ⟨hs, hm⟩
      · exact absurd hs (by decide)
      · exact hm
    exact ⟨2, T', N, V, Q, tl, g, rfl, hr.trans hcd, fun h0 => absurd h0 (by decide), (pmW hp2.symm).symm, hT, hi⟩
  · obtain ⟨hG, hr, hb⟩ := hB B h1
    obtain ⟨e1, T', N', V', Q', tl', hp2, hT2, hi⟩ := hb _ _ h2
    have hv : v = b := by cases e1; rfl
    subst hv
    exact ⟨0, T', N', V', Q', tl', _, rfl, hr, fun _ => ⟨hG, rfl⟩, (pmW hp2.symm).symm, hT2, hi⟩
theorem w_growth (hst : l.stackTraces = false) (h : INV c T N Q M) (hc : c ≤ 600) (hT : PoIs k cA Q tl) (oA : Nat) (g : Nat → Int64) (p1 : Int32) (p2 : Int32) : KL ouW tt0 Int32.toInt64 l D k cA nA tA c T N V Q tl oA g yL_growth wsL_growth [.int p1, .int p2] (f_X2_growth M p1 p2) := by
  obtain ⟨rm, wc, wr, wx, oc, b, M', hfit, hp, ⟨fs, he⟩, hf, hCx, hy, hE, hB⟩ := k_growth (V := V) (nA := nA) (tA := tA) (D := D) hst h hc hT p1 p2
  refine ⟨wc ++ (wr ++ ouW k oA g), _, b, M', hy, pmW hp, c_L_growth l D k (cA 0) oA p1 p2 g wc wx wr oc fs rm hfit he hf (fun E hE9 => by
    obtain ⟨cd, hm, -⟩ := hE E hE9
    simp only [List.mem_cons, Prod.mk.injEq, List.not_mem_nil, or_false] at hm
    rcases hm with ⟨hm, -⟩
    · exact hm) (fun B ov w h1 h2 => ⟨b, ((hB B h1).2.2 ov w h2).1⟩) hCx, fun ov w hP => ?_⟩
  rcases hP with ⟨h1, rfl, rfl⟩ | ⟨B, v, w2, h1, h2, rfl, rfl⟩
  · obtain ⟨cd, hm, hr, T', hp2, hi⟩ := hE _ h1
    have hcd : cd = 1 := by
      simp only [List.mem_cons, Prod.mk.injEq, List.not_mem_nil, or_false] at hm
      rcases hm with ⟨hs, hm⟩
      · exact hm
    exact ⟨1, T', N, V, Q, tl, g, rfl, hr.trans hcd, fun h0 => absurd h0 (by decide), (pmW hp2.symm).symm, hT, hi⟩
  · obtain ⟨hG, hr, hb⟩ := hB B h1
    obtain ⟨e1, T', N', V', Q', tl', hp2, hT2, hi⟩ := hb _ _ h2
    have hv : v = b := by cases e1; rfl
    subst hv
    exact ⟨0, T', N', V', Q', tl', _, rfl, hr, fun _ => ⟨hG, rfl⟩, (pmW hp2.symm).symm, hT2, hi⟩
theorem w_washGain (hst : l.stackTraces = false) (h : INV c T N Q M) (hc : c ≤ 600) (hT : PoIs k cA Q tl) (oA : Nat) (g : Nat → Int64) (p1 : Int32) (p2 : Int32) (p3 : Int32) : KL ouW tt0 Int32.toInt64 l D k cA nA tA c T N V Q tl oA g yL_washGain wsL_washGain [.int p1, .int p2, .int p3] (f_X2_washGain M p1 p2 p3) := by
  obtain ⟨rm, wc, wr, wx, oc, b, M', hfit, hp, ⟨fs, he⟩, hf, hCx, hy, hE, hB⟩ := k_washGain (V := V) (nA := nA) (tA := tA) (D := D) hst h hc hT p1 p2 p3
  refine ⟨wc ++ (wr ++ ouW k oA g), _, b, M', hy, pmW hp, c_L_washGain l D k (cA 0) oA p1 p2 p3 g wc wx wr oc fs rm hfit he hf (fun E hE9 => by
    obtain ⟨cd, hm, -⟩ := hE E hE9
    simp only [List.mem_cons, Prod.mk.injEq, List.not_mem_nil, or_false] at hm
    rcases hm with ⟨hm, -⟩ | ⟨hm, -⟩ | ⟨hm, -⟩
    · exact Or.inl hm
    · exact Or.inr (Or.inl hm)
    · exact Or.inr (Or.inr (hm))) (fun B ov w h1 h2 => ⟨b, ((hB B h1).2.2 ov w h2).1⟩) hCx, fun ov w hP => ?_⟩
  rcases hP with ⟨h1, rfl, rfl⟩ | ⟨h1, rfl, rfl⟩ | ⟨h1, rfl, rfl⟩ | ⟨B, v, w2, h1, h2, rfl, rfl⟩
  · obtain ⟨cd, hm, hr, T', hp2, hi⟩ := hE _ h1
    have hcd : cd = 1 := by
      simp only [List.mem_cons, Prod.mk.injEq, List.not_mem_nil, or_false] at hm
      rcases hm with ⟨hs, hm⟩ | ⟨hs, hm⟩ | ⟨hs, hm⟩
      · exact hm
      · exact absurd hs (by decide)
      · exact absurd hs (by decide)
    exact ⟨1, T', N, V, Q, tl, g, rfl, hr.trans hcd, fun h0 => absurd h0 (by decide), (pmW hp2.symm).symm, hT, hi⟩
  · obtain ⟨cd, hm, hr, T', hp2, hi⟩ := hE _ h1
    have hcd : cd = 2 := by
      simp only [List.mem_cons, Prod.mk.injEq, List.not_mem_nil, or_false] at hm
      rcases hm with ⟨hs, hm⟩ | ⟨hs, hm⟩ | ⟨hs, hm⟩
      · exact absurd hs (by decide)
      · exact hm
      · exact absurd hs (by decide)
    exact ⟨2, T', N, V, Q, tl, g, rfl, hr.trans hcd, fun h0 => absurd h0 (by decide), (pmW hp2.symm).symm, hT, hi⟩
  · obtain ⟨cd, hm, hr, T', hp2, hi⟩ := hE _ h1
    have hcd : cd = 3 := by
      simp only [List.mem_cons, Prod.mk.injEq, List.not_mem_nil, or_false] at hm
      rcases hm with ⟨hs, hm⟩ | ⟨hs, hm⟩ | ⟨hs, hm⟩
      · exact absurd hs (by decide)
      · exact absurd hs (by decide)
      · exact hm
    exact ⟨3, T', N, V, Q, tl, g, rfl, hr.trans hcd, fun h0 => absurd h0 (by decide), (pmW hp2.symm).symm, hT, hi⟩
  · obtain ⟨hG, hr, hb⟩ := hB B h1
    obtain ⟨e1, T', N', V', Q', tl', hp2, hT2, hi⟩ := hb _ _ h2
    have hv : v = b := by cases e1; rfl
    subst hv
    exact ⟨0, T', N', V', Q', tl', _, rfl, hr, fun _ => ⟨hG, rfl⟩, (pmW hp2.symm).symm, hT2, hi⟩
theorem w_bestTurns (hst : l.stackTraces = false) (h : INV c T N Q M) (hc : c ≤ 600) (hT : PoIs k cA Q tl) (oA : Nat) (g : Nat → Int64) (p1 : Int32) (p2 : Int32) : KL ouW tt0 Int32.toInt64 l D k cA nA tA c T N V Q tl oA g yL_bestTurns wsL_bestTurns [.int p1, .int p2] (f_X2_bestTurns M p1 p2) := by
  obtain ⟨rm, wc, wr, wx, oc, b, M', hfit, hp, ⟨fs, he⟩, hf, hCx, hy, hE, hB⟩ := k_bestTurns (V := V) (nA := nA) (tA := tA) (D := D) hst h hc hT p1 p2
  refine ⟨wc ++ (wr ++ ouW k oA g), _, b, M', hy, pmW hp, c_L_bestTurns l D k (cA 0) oA p1 p2 g wc wx wr oc fs rm hfit he hf (fun E hE9 => by
    obtain ⟨cd, hm, -⟩ := hE E hE9
    simp only [List.mem_cons, Prod.mk.injEq, List.not_mem_nil, or_false] at hm
    rcases hm with ⟨hm, -⟩
    · exact hm) (fun B ov w h1 h2 => ⟨b, ((hB B h1).2.2 ov w h2).1⟩) hCx, fun ov w hP => ?_⟩
  rcases hP with ⟨h1, rfl, rfl⟩ | ⟨B, v, w2, h1, h2, rfl, rfl⟩
  · obtain ⟨cd, hm, hr, T', hp2, hi⟩ := hE _ h1
    have hcd : cd = 1 := by
      simp only [List.mem_cons, Prod.mk.injEq, List.not_mem_nil, or_false] at hm
      rcases hm with ⟨hs, hm⟩
      · exact hm
    exact ⟨1, T', N, V, Q, tl, g, rfl, hr.trans hcd, fun h0 => absurd h0 (by decide), (pmW hp2.symm).symm, hT, hi⟩
  · obtain ⟨hG, hr, hb⟩ := hB B h1
    obtain ⟨e1, T', N', V', Q', tl', hp2, hT2, hi⟩ := hb _ _ h2
    have hv : v = b := by cases e1; rfl
    subst hv
    exact ⟨0, T', N', V', Q', tl', _, rfl, hr, fun _ => ⟨hG, rfl⟩, (pmW hp2.symm).symm, hT2, hi⟩
theorem w_scaledAfter (hst : l.stackTraces = false) (h : INV c T N Q M) (hc : c ≤ 600) (hT : PoIs k cA Q tl) (oA : Nat) (g : Nat → Int64) (p1 : Int32) (p2 : Int32) : KL ouW tt0 Int32.toInt64 l D k cA nA tA c T N V Q tl oA g yL_scaledAfter wsL_scaledAfter [.int p1, .int p2] (f_X2_scaledAfter M p1 p2) := by
  obtain ⟨rm, wc, wr, wx, oc, b, M', hfit, hp, ⟨fs, he⟩, hf, hCx, hy, hE, hB⟩ := k_scaledAfter (V := V) (nA := nA) (tA := tA) (D := D) hst h hc hT p1 p2
  refine ⟨wc ++ (wr ++ ouW k oA g), _, b, M', hy, pmW hp, c_L_scaledAfter l D k (cA 0) oA p1 p2 g wc wx wr oc fs rm hfit he hf (fun E hE9 => by
    obtain ⟨cd, hm, -⟩ := hE E hE9
    simp only [List.mem_cons, Prod.mk.injEq, List.not_mem_nil, or_false] at hm
    rcases hm with ⟨hm, -⟩ | ⟨hm, -⟩
    · exact Or.inl hm
    · exact Or.inr (hm)) (fun B ov w h1 h2 => ⟨b, ((hB B h1).2.2 ov w h2).1⟩) hCx, fun ov w hP => ?_⟩
  rcases hP with ⟨h1, rfl, rfl⟩ | ⟨h1, rfl, rfl⟩ | ⟨B, v, w2, h1, h2, rfl, rfl⟩
  · obtain ⟨cd, hm, hr, T', hp2, hi⟩ := hE _ h1
    have hcd : cd = 1 := by
      simp only [List.mem_cons, Prod.mk.injEq, List.not_mem_nil, or_false] at hm
      rcases hm with ⟨hs, hm⟩ | ⟨hs, hm⟩
      · exact hm
      · exact absurd hs (by decide)
    exact ⟨1, T', N, V, Q, tl, g, rfl, hr.trans hcd, fun h0 => absurd h0 (by decide), (pmW hp2.symm).symm, hT, hi⟩
  · obtain ⟨cd, hm, hr, T', hp2, hi⟩ := hE _ h1
    have hcd : cd = 2 := by
      simp only [List.mem_cons, Prod.mk.injEq, List.not_mem_nil, or_false] at hm
      rcases hm with ⟨hs, hm⟩ | ⟨hs, hm⟩
      · exact absurd hs (by decide)
      · exact hm
    exact ⟨2, T', N, V, Q, tl, g, rfl, hr.trans hcd, fun h0 => absurd h0 (by decide), (pmW hp2.symm).symm, hT, hi⟩
  · obtain ⟨hG, hr, hb⟩ := hB B h1
    obtain ⟨e1, T', N', V', Q', tl', hp2, hT2, hi⟩ := hb _ _ h2
    have hv : v = b := by cases e1; rfl
    subst hv
    exact ⟨0, T', N', V', Q', tl', _, rfl, hr, fun _ => ⟨hG, rfl⟩, (pmW hp2.symm).symm, hT2, hi⟩
theorem w_steamFor (hst : l.stackTraces = false) (h : INV c T N Q M) (hc : c ≤ 600) (hT : PoIs k cA Q tl) (oA : Nat) (g : Nat → Int64) (p1 : Int32) (p2 : Int32) : KL ouW tt0 Int32.toInt64 l D k cA nA tA c T N V Q tl oA g yL_steamFor wsL_steamFor [.int p1, .int p2] (f_X2_steamFor M p1 p2) := by
  obtain ⟨rm, wc, wr, wx, oc, b, M', hfit, hp, ⟨fs, he⟩, hf, hCx, hy, hE, hB⟩ := k_steamFor (V := V) (nA := nA) (tA := tA) (D := D) hst h hc hT p1 p2
  refine ⟨wc ++ (wr ++ ouW k oA g), _, b, M', hy, pmW hp, c_L_steamFor l D k (cA 0) oA p1 p2 g wc wx wr oc fs rm hfit he hf (fun E hE9 => by
    obtain ⟨cd, hm, -⟩ := hE E hE9
    simp only [List.mem_cons, Prod.mk.injEq, List.not_mem_nil, or_false] at hm
    rcases hm with ⟨hm, -⟩
    · exact hm) (fun B ov w h1 h2 => ⟨b, ((hB B h1).2.2 ov w h2).1⟩) hCx, fun ov w hP => ?_⟩
  rcases hP with ⟨h1, rfl, rfl⟩ | ⟨B, v, w2, h1, h2, rfl, rfl⟩
  · obtain ⟨cd, hm, hr, T', hp2, hi⟩ := hE _ h1
    have hcd : cd = 1 := by
      simp only [List.mem_cons, Prod.mk.injEq, List.not_mem_nil, or_false] at hm
      rcases hm with ⟨hs, hm⟩
      · exact hm
    exact ⟨1, T', N, V, Q, tl, g, rfl, hr.trans hcd, fun h0 => absurd h0 (by decide), (pmW hp2.symm).symm, hT, hi⟩
  · obtain ⟨hG, hr, hb⟩ := hB B h1
    obtain ⟨e1, T', N', V', Q', tl', hp2, hT2, hi⟩ := hb _ _ h2
    have hv : v = b := by cases e1; rfl
    subst hv
    exact ⟨0, T', N', V', Q', tl', _, rfl, hr, fun _ => ⟨hG, rfl⟩, (pmW hp2.symm).symm, hT2, hi⟩
theorem w_runScript (hst : l.stackTraces = false) (h : INV c T N Q M) (hc : c ≤ 600) (hT : PoIs k cA Q tl) (oA : Nat) (g : Nat → Int64) (p1 : Int32) (p2 : Int64) : KL ouW tt0 Int32.toInt64 l D k cA nA tA c T N V Q tl oA g yL_runScript wsL_runScript [.int p1, .long p2] (f_X2_runScript M p1 p2) := by
  obtain ⟨rm, wc, wr, wx, oc, b, M', hfit, hp, ⟨fs, he⟩, hf, hCx, hy, hE, hB⟩ := k_runScript (V := V) (nA := nA) (tA := tA) (D := D) hst h hc hT p1 p2
  refine ⟨wc ++ (wr ++ ouW k oA g), _, b, M', hy, pmW hp, c_L_runScript l D k (cA 0) oA p1 p2 g wc wx wr oc fs rm hfit he hf (fun E hE9 => by
    obtain ⟨cd, hm, -⟩ := hE E hE9
    simp only [List.mem_cons, Prod.mk.injEq, List.not_mem_nil, or_false] at hm
    rcases hm with ⟨hm, -⟩
    · exact hm) (fun B ov w h1 h2 => ⟨b, ((hB B h1).2.2 ov w h2).1⟩) hCx, fun ov w hP => ?_⟩
  rcases hP with ⟨h1, rfl, rfl⟩ | ⟨B, v, w2, h1, h2, rfl, rfl⟩
  · obtain ⟨cd, hm, hr, T', hp2, hi⟩ := hE _ h1
    have hcd : cd = 1 := by
      simp only [List.mem_cons, Prod.mk.injEq, List.not_mem_nil, or_false] at hm
      rcases hm with ⟨hs, hm⟩
      · exact hm
    exact ⟨1, T', N, V, Q, tl, g, rfl, hr.trans hcd, fun h0 => absurd h0 (by decide), (pmW hp2.symm).symm, hT, hi⟩
  · obtain ⟨hG, hr, hb⟩ := hB B h1
    obtain ⟨e1, T', N', V', Q', tl', hp2, hT2, hi⟩ := hb _ _ h2
    have hv : v = b := by cases e1; rfl
    subst hv
    exact ⟨0, T', N', V', Q', tl', _, rfl, hr, fun _ => ⟨hG, rfl⟩, (pmW hp2.symm).symm, hT2, hi⟩
theorem w_simulate (hst : l.stackTraces = false) (h : INV c T N Q M) (hc : c ≤ 600) (hT : PoIs k cA Q tl) (oA : Nat) (g : Nat → Int64) (p1 : Int64) (p2 : Int32) : KL ouW tt0 Int32.toInt64 l D k cA nA tA c T N V Q tl oA g yL_simulate wsL_simulate [.long p1, .int p2] (f_X2_simulate M p1 p2) := by
  obtain ⟨rm, wc, wr, wx, oc, b, M', hfit, hp, ⟨fs, he⟩, hf, hCx, hy, hE, hB⟩ := k_simulate (V := V) (nA := nA) (tA := tA) (D := D) hst h hc hT p1 p2
  refine ⟨wc ++ (wr ++ ouW k oA g), _, b, M', hy, pmW hp, c_L_simulate l D k (cA 0) oA p1 p2 g wc wx wr oc fs rm hfit he hf (fun E hE9 => by
    obtain ⟨cd, hm, -⟩ := hE E hE9
    simp only [List.mem_cons, Prod.mk.injEq, List.not_mem_nil, or_false] at hm
    rcases hm with ⟨hm, -⟩
    · exact hm) (fun B ov w h1 h2 => ⟨b, ((hB B h1).2.2 ov w h2).1⟩) hCx, fun ov w hP => ?_⟩
  rcases hP with ⟨h1, rfl, rfl⟩ | ⟨B, v, w2, h1, h2, rfl, rfl⟩
  · obtain ⟨cd, hm, hr, T', hp2, hi⟩ := hE _ h1
    have hcd : cd = 1 := by
      simp only [List.mem_cons, Prod.mk.injEq, List.not_mem_nil, or_false] at hm
      rcases hm with ⟨hs, hm⟩
      · exact hm
    exact ⟨1, T', N, V, Q, tl, g, rfl, hr.trans hcd, fun h0 => absurd h0 (by decide), (pmW hp2.symm).symm, hT, hi⟩
  · obtain ⟨hG, hr, hb⟩ := hB B h1
    obtain ⟨e1, T', N', V', Q', tl', hp2, hT2, hi⟩ := hb _ _ h2
    have hv : v = b := by cases e1; rfl
    subst hv
    exact ⟨0, T', N', V', Q', tl', _, rfl, hr, fun _ => ⟨hG, rfl⟩, (pmW hp2.symm).symm, hT2, hi⟩
theorem w_save (hst : l.stackTraces = false) (h : INV c T N Q M) (hc : c ≤ 600) (hT : PoIs k cA Q tl) (oA : Nat) (g : Nat → Int64) (p1 : Int32) : KL ouW tt0 Int32.toInt64 l D k cA nA tA c T N V Q tl oA g yL_save wsL_save [.int p1] (f_X2_save M p1) := by
  obtain ⟨rm, wc, wr, wx, oc, b, M', hfit, hp, ⟨fs, he⟩, hf, hCx, hy, hE, hB⟩ := k_save (V := V) (nA := nA) (tA := tA) (D := D) hst h hc hT p1
  refine ⟨wc ++ (wr ++ ouW k oA g), _, b, M', hy, pmW hp, c_L_save l D k (cA 0) oA p1 g wc wx wr oc fs rm hfit he hf (fun E hE9 => by
    obtain ⟨cd, hm, -⟩ := hE E hE9
    simp only [List.mem_cons, Prod.mk.injEq, List.not_mem_nil, or_false] at hm
    rcases hm with ⟨hm, -⟩
    · exact hm) (fun B ov w h1 h2 => ⟨b, ((hB B h1).2.2 ov w h2).1⟩) hCx, fun ov w hP => ?_⟩
  rcases hP with ⟨h1, rfl, rfl⟩ | ⟨B, v, w2, h1, h2, rfl, rfl⟩
  · obtain ⟨cd, hm, hr, T', hp2, hi⟩ := hE _ h1
    have hcd : cd = 1 := by
      simp only [List.mem_cons, Prod.mk.injEq, List.not_mem_nil, or_false] at hm
      rcases hm with ⟨hs, hm⟩
      · exact hm
    exact ⟨1, T', N, V, Q, tl, g, rfl, hr.trans hcd, fun h0 => absurd h0 (by decide), (pmW hp2.symm).symm, hT, hi⟩
  · obtain ⟨hG, hr, hb⟩ := hB B h1
    obtain ⟨e1, T', N', V', Q', tl', hp2, hT2, hi⟩ := hb _ _ h2
    have hv : v = b := by cases e1; rfl
    subst hv
    exact ⟨0, T', N', V', Q', tl', _, rfl, hr, fun _ => ⟨hG, rfl⟩, (pmW hp2.symm).symm, hT2, hi⟩
theorem w_restore (hst : l.stackTraces = false) (h : INV c T N Q M) (hc : c ≤ 600) (hT : PoIs k cA Q tl) (oA : Nat) (g : Nat → Int64) (p1 : Int32) : KL ouW tt0 Int32.toInt64 l D k cA nA tA c T N V Q tl oA g yL_restore wsL_restore [.int p1] (f_X2_restore M p1) := by
  obtain ⟨rm, wc, wr, wx, oc, b, M', hfit, hp, ⟨fs, he⟩, hf, hCx, hy, hE, hB⟩ := k_restore (V := V) (nA := nA) (tA := tA) (D := D) hst h hc hT p1
  refine ⟨wc ++ (wr ++ ouW k oA g), _, b, M', hy, pmW hp, c_L_restore l D k (cA 0) oA p1 g wc wx wr oc fs rm hfit he hf (fun E hE9 => by
    obtain ⟨cd, hm, -⟩ := hE E hE9
    simp only [List.mem_cons, Prod.mk.injEq, List.not_mem_nil, or_false] at hm
    rcases hm with ⟨hm, -⟩ | ⟨hm, -⟩
    · exact Or.inl hm
    · exact Or.inr (hm)) (fun B ov w h1 h2 => ⟨b, ((hB B h1).2.2 ov w h2).1⟩) hCx, fun ov w hP => ?_⟩
  rcases hP with ⟨h1, rfl, rfl⟩ | ⟨h1, rfl, rfl⟩ | ⟨B, v, w2, h1, h2, rfl, rfl⟩
  · obtain ⟨cd, hm, hr, T', hp2, hi⟩ := hE _ h1
    have hcd : cd = 1 := by
      simp only [List.mem_cons, Prod.mk.injEq, List.not_mem_nil, or_false] at hm
      rcases hm with ⟨hs, hm⟩ | ⟨hs, hm⟩
      · exact hm
      · exact absurd hs (by decide)
    exact ⟨1, T', N, V, Q, tl, g, rfl, hr.trans hcd, fun h0 => absurd h0 (by decide), (pmW hp2.symm).symm, hT, hi⟩
  · obtain ⟨cd, hm, hr, T', hp2, hi⟩ := hE _ h1
    have hcd : cd = 2 := by
      simp only [List.mem_cons, Prod.mk.injEq, List.not_mem_nil, or_false] at hm
      rcases hm with ⟨hs, hm⟩ | ⟨hs, hm⟩
      · exact absurd hs (by decide)
      · exact hm
    exact ⟨2, T', N, V, Q, tl, g, rfl, hr.trans hcd, fun h0 => absurd h0 (by decide), (pmW hp2.symm).symm, hT, hi⟩
  · obtain ⟨hG, hr, hb⟩ := hB B h1
    obtain ⟨e1, T', N', V', Q', tl', hp2, hT2, hi⟩ := hb _ _ h2
    have hv : v = b := by cases e1; rfl
    subst hv
    exact ⟨0, T', N', V', Q', tl', _, rfl, hr, fun _ => ⟨hG, rfl⟩, (pmW hp2.symm).symm, hT2, hi⟩
end KW
