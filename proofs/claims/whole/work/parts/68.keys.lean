/-! each call: class and reference -/
def CW (k : Nat → ClassId) (cA nA tA : Nat → Nat) (T : TrV) (N V : StV) (tl : va_W) : va_W := trW k cA nA tA T ++ stW k nA N ++ stW k tA V ++ tl
theorem pmA {k : Nat → ClassId} {cA nA tA : Nat → Nat} {T : TrV} {N V : StV} {tl : va_W} : List.Perm (CW k cA nA tA T N V tl) (trW k cA nA tA T ++ (stW k nA N ++ (stW k tA V ++ tl))) := by
  unfold CW
  rw [List.append_assoc, List.append_assoc]
theorem pmB {k : Nat → ClassId} {cA nA tA : Nat → Nat} {T : TrV} {N V : StV} {tl : va_W} : List.Perm (CW k cA nA tA T N V tl) ((trW k cA nA tA T ++ stW k nA N) ++ (stW k tA V ++ tl)) := by
  unfold CW
  rw [List.append_assoc (trW k cA nA tA T ++ stW k nA N)]
theorem pmC {k : Nat → ClassId} {cA nA tA : Nat → Nat} {T : TrV} {N V : StV} {tl : va_W} : List.Perm (CW k cA nA tA T N V tl) ((trW k cA nA tA T ++ stW k nA N ++ stW k tA V) ++ tl) := List.Perm.refl _
theorem pmD {k : Nat → ClassId} {cA nA tA : Nat → Nat} {T : TrV} {N V : StV} {tl : va_W} : List.Perm (CW k cA nA tA T N V tl) ((trW k cA nA tA T ++ stW k nA N ++ tl) ++ stW k tA V) := by
  unfold CW
  rw [List.append_assoc (trW k cA nA tA T ++ stW k nA N) (stW k tA V) tl, List.append_assoc (trW k cA nA tA T ++ stW k nA N) tl (stW k tA V)]
  exact List.perm_append_comm.append_left _
def KG (vt : Int32 ⊕ UInt32 → Prop) : Prop := ∃ x, vt x
/-- what a call of the law needs: the class's method with its outcome, the reference's answer, and that both agree; F: the kind of the answer -/
def KY {β : Type} (F : β → Value) (G : β → Prop) (l : Launch) (D : va_G) (k : Nat → ClassId) (cA nA tA : Nat → Nat) (c : Nat) (T : TrV) (N V : StV) (Q : PoV) (tl : va_W) (y : MethodName) (ws : List Cond) (args : List Value) (cs : List (String × Int32)) (y2 : Option (β × MdV)) : Prop :=
  ∃ (rm : Room) (wc wr wx : va_W) (oc : Oc) (b : β) (M' : MdV), fitL rm ∧ List.Perm (CW k cA nA tA T N V tl) (wc ++ wr) ∧ (∃ fs, wc[0]? = some (cA 0, .inr (1, fs))) ∧ wx.map Prod.fst = wc.map Prod.fst ∧ Cx l D (tyK k) y ws rm (.ref (cA 0) :: args) wc wx oc ∧ y2 = some (b, M') ∧
    (∀ E, oc = .inl E → ∃ cd, (E, cd) ∈ cs ∧ m_ref M' = cd ∧ ∃ T', List.Perm (wx ++ wr) (CW k cA nA tA T' N V tl) ∧ INV (c + 1) T' N Q M') ∧
    ∀ B, oc = .inr B → G b ∧ m_ref M' = 0 ∧ ∀ ov w2, B ov w2 → ov = some (F b) ∧ ∃ T' N' V' Q' tl', List.Perm (w2 ++ wr) (CW k cA nA tA T' N' V' tl') ∧ PoIs k cA Q' tl' ∧ INV (c + 1) T' N' Q' M'
section KYS
variable {β : Type} {F : β → Value} {G : β → Prop} {l : Launch} {D : va_G} {k : Nat → ClassId} {cA nA tA : Nat → Nat} {c : Nat} {T : TrV} {N V : StV} {Q : PoV} {tl : va_W} {y : MethodName} {ws : List Cond} {args : List Value} {cs : List (String × Int32)} {y2 : Option (β × MdV)}
theorem KY_x {rm : Room} {wc wr wx : va_W} {E : String} {cd : Int32} {b : β} {M' : MdV} {T' : TrV} {fs : List Value} (hCx : Cx l D (tyK k) y ws rm (.ref (cA 0) :: args) wc wx (.inl E)) (hfit : fitL rm) (hp : List.Perm (CW k cA nA tA T N V tl) (wc ++ wr)) (he : wc[0]? = some (cA 0, .inr (1, fs))) (hf : wx.map Prod.fst = wc.map Prod.fst) (hy : y2 = some (b, M')) (hm : (E, cd) ∈ cs) (hr : m_ref M' = cd) (hp2 : List.Perm (wx ++ wr) (CW k cA nA tA T' N V tl)) (hi : INV (c + 1) T' N Q M') : KY F G l D k cA nA tA c T N V Q tl y ws args cs y2 :=
  ⟨rm, wc, wr, wx, _, b, M', hfit, hp, ⟨fs, he⟩, hf, hCx, hy, fun E9 h9 => by
    cases h9
    exact ⟨cd, hm, hr, T', hp2, hi⟩, fun B h9 => (by cases h9)⟩
theorem KY_r {rm : Room} {wc wr wx : va_W} {B : Option Value → va_W → Prop} {b : β} {M' : MdV} {fs : List Value} (hCx : Cx l D (tyK k) y ws rm (.ref (cA 0) :: args) wc wx (.inr B)) (hfit : fitL rm) (hp : List.Perm (CW k cA nA tA T N V tl) (wc ++ wr)) (he : wc[0]? = some (cA 0, .inr (1, fs))) (hf : wx.map Prod.fst = wc.map Prod.fst) (hy : y2 = some (b, M')) (hG : G b) (hr : m_ref M' = 0) (hB : ∀ ov w2, B ov w2 → ov = some (F b) ∧ ∃ T' N' V' Q' tl', List.Perm (w2 ++ wr) (CW k cA nA tA T' N' V' tl') ∧ PoIs k cA Q' tl' ∧ INV (c + 1) T' N' Q' M') : KY F G l D k cA nA tA c T N V Q tl y ws args cs y2 :=
  ⟨rm, wc, wr, wx, _, b, M', hfit, hp, ⟨fs, he⟩, hf, hCx, hy, fun E9 h9 => (by cases h9), fun B9 h9 => by
    cases h9
    exact ⟨hG, hr, hB⟩⟩
end KYS
theorem inv_tri {c : Nat} {T : TrV} {N : StV} {Q : PoV} {t f s : Nat → Int32} (M : MdV) (h : INV c T N Q M) : INV c T N Q (mu_sal (mu_flo (mu_tri M t) f) s) := by
  obtain ⟨a1, a2, a3, a4, a5, a6, a7, a8, a9, a10, a11, a12, a13, a14, a15⟩ := M
  exact h
theorem ref_tri {t f s : Nat → Int32} (M : MdV) : m_ref (mu_sal (mu_flo (mu_tri M t) f) s) = m_ref M := by
  obtain ⟨a1, a2, a3, a4, a5, a6, a7, a8, a9, a10, a11, a12, a13, a14, a15⟩ := M
  rfl
abbrev tt0 : Int32 → Prop := fun _ => True
section KK
variable {l : Launch} {D : va_G} {k : Nat → ClassId} {cA nA tA : Nat → Nat} {c : Nat} {T : TrV} {N V : StV} {Q : PoV} {tl : va_W} {M : MdV}
theorem k_about (hst : l.stackTraces = false) (h : INV c T N Q M) (hc : c ≤ 600) (hT : PoIs k cA Q tl) (p1 : Int32) : KY .int tt0 l D k cA nA tA c T N V Q tl yX1_about wsX1_about [.int p1] [(xR, 1)] (f_X2_about M p1) := by
  obtain ⟨n, R, hR, -⟩ := h.rel hc
  rcases q_about (T := T) hR (p := p1) with ⟨v, e1, e2⟩ | ⟨E, cd, hm, e1, e2⟩
  · exact KY_r (c_X1_about l hst D k cA nA tA T N p1 (.inr v) e1) ⟨Nat.le_of_ble_eq_true rfl, Nat.le_of_ble_eq_true rfl, Nat.le_of_ble_eq_true rfl, Nat.le_of_ble_eq_true rfl⟩ pmB rfl rfl e2 trivial rfl (fun ov w2 hB => ⟨hB.1, T, N, V, Q, tl, by rw [hB.2]; exact pmB.symm, hT, (inv_ref (x := 0) M h).up (by omega)⟩)
  · exact KY_x (c_X1_about l hst D k cA nA tA T N p1 (.inl E) e1) ⟨Nat.le_of_ble_eq_true rfl, Nat.le_of_ble_eq_true rfl, Nat.le_of_ble_eq_true rfl, Nat.le_of_ble_eq_true rfl⟩ pmB rfl rfl e2 hm rfl pmB.symm ((inv_ref (x := cd) M h).up (by omega))
theorem k_total (hst : l.stackTraces = false) (h : INV c T N Q M) (hc : c ≤ 600) (hT : PoIs k cA Q tl) (p1 : Int32) : KY .int tt0 l D k cA nA tA c T N V Q tl yX1_total wsX1_total [.int p1] [(xR, 1)] (f_X2_total M p1) := by
  obtain ⟨n, R, hR, -⟩ := h.rel hc
  rcases q_total (T := T) hR (p := p1) with ⟨v, e1, e2⟩ | ⟨E, cd, hm, e1, e2⟩
  · exact KY_r (c_X1_total l hst D k cA nA tA T N p1 (.inr v) e1) ⟨Nat.le_of_ble_eq_true rfl, Nat.le_of_ble_eq_true rfl, Nat.le_of_ble_eq_true rfl, Nat.le_of_ble_eq_true rfl⟩ pmB rfl rfl e2 trivial rfl (fun ov w2 hB => ⟨hB.1, T, N, V, Q, tl, by rw [hB.2]; exact pmB.symm, hT, (inv_ref (x := 0) M h).up (by omega)⟩)
  · exact KY_x (c_X1_total l hst D k cA nA tA T N p1 (.inl E) e1) ⟨Nat.le_of_ble_eq_true rfl, Nat.le_of_ble_eq_true rfl, Nat.le_of_ble_eq_true rfl, Nat.le_of_ble_eq_true rfl⟩ pmB rfl rfl e2 hm rfl pmB.symm ((inv_ref (x := cd) M h).up (by omega))
theorem k_effect (hst : l.stackTraces = false) (h : INV c T N Q M) (hc : c ≤ 600) (hT : PoIs k cA Q tl) (p1 : Int32) (p2 : Int32) : KY .int tt0 l D k cA nA tA c T N V Q tl yX1_effect wsX1_effect [.int p1, .int p2] [(xB, 1), (xR, 2)] (f_X2_effect M p1 p2) := by
  obtain ⟨n, R, hR, -⟩ := h.rel hc
  rcases q_effect (T := T) hR (p := p1) (w := p2) with ⟨v, e1, e2⟩ | ⟨E, cd, hm, e1, e2⟩
  · exact KY_r (c_X1_effect l hst D k cA nA tA T N p1 p2 (.inr v) e1) ⟨Nat.le_of_ble_eq_true rfl, Nat.le_of_ble_eq_true rfl, Nat.le_of_ble_eq_true rfl, Nat.le_of_ble_eq_true rfl⟩ pmB rfl rfl e2 trivial rfl (fun ov w2 hB => ⟨hB.1, T, N, V, Q, tl, by rw [hB.2]; exact pmB.symm, hT, (inv_ref (x := 0) M h).up (by omega)⟩)
  · exact KY_x (c_X1_effect l hst D k cA nA tA T N p1 p2 (.inl E) e1) ⟨Nat.le_of_ble_eq_true rfl, Nat.le_of_ble_eq_true rfl, Nat.le_of_ble_eq_true rfl, Nat.le_of_ble_eq_true rfl⟩ pmB rfl rfl e2 hm rfl pmB.symm ((inv_ref (x := cd) M h).up (by omega))
theorem k_neighbor (hst : l.stackTraces = false) (h : INV c T N Q M) (hc : c ≤ 600) (hT : PoIs k cA Q tl) (p1 : Int32) (p2 : Int32) : KY .int tt0 l D k cA nA tA c T N V Q tl yX1_neighbor wsX1_neighbor [.int p1, .int p2] [(xB, 1)] (f_X2_neighbor M p1 p2) := by
  obtain ⟨n, R, hR, -⟩ := h.rel hc
  rcases q_neighbor (T := T) hR (p := p1) (w := p2) with ⟨v, e1, e2⟩ | ⟨E, cd, hm, e1, e2⟩
  · exact KY_r (c_X1_neighbor l hst D k cA nA tA T N p1 p2 (.inr v) e1) ⟨Nat.le_of_ble_eq_true rfl, Nat.le_of_ble_eq_true rfl, Nat.le_of_ble_eq_true rfl, Nat.le_of_ble_eq_true rfl⟩ pmB rfl rfl e2 trivial rfl (fun ov w2 hB => ⟨hB.1, T, N, V, Q, tl, by rw [hB.2]; exact pmB.symm, hT, (inv_ref (x := 0) M h).up (by omega)⟩)
  · exact KY_x (c_X1_neighbor l hst D k cA nA tA T N p1 p2 (.inl E) e1) ⟨Nat.le_of_ble_eq_true rfl, Nat.le_of_ble_eq_true rfl, Nat.le_of_ble_eq_true rfl, Nat.le_of_ble_eq_true rfl⟩ pmB rfl rfl e2 hm rfl pmB.symm ((inv_ref (x := cd) M h).up (by omega))
/-- what share answers is no NaN, as a double too -/
theorem share_nn (hF : NaNok) {T : TrV} {N : StV} {p : Int32} {v : UInt32} (h0 : okF FP.fconst0) (h : f_X1_share T N p = some (.inr v)) : okF v := by
  unfold f_X1_share at h
  rcases bx_l h with ⟨E, -, h⟩ | ⟨_, -, h⟩
  · cases h
  · obtain ⟨a, -, h⟩ := bd_l h
    split at h
    · cases h
      exact h0
    · rename_i hne
      have h := gb_r h
      have h := gb_r h
      cases h
      exact (hF _ _ (fun z => hne (by rw [z]; decide))).2
theorem k_share (hst : l.stackTraces = false) (h : INV c T N Q M) (hc : c ≤ 600) (hT : PoIs k cA Q tl) (hF : NaNok) (hz : okF FP.fconst0) (p1 : Int32) : KY .float okF l D k cA nA tA c T N V Q tl yX1_share wsX1_share [.int p1] [(xB, 1)] (f_X2_share M p1) := by
  rcases q_share (T := T) hF h (p := p1) with ⟨v, e1, e2⟩ | ⟨E, cd, hm, e1, e2⟩
  · exact KY_r (c_X1_share l hst D k cA nA tA T N p1 (.inr v) e1) ⟨Nat.le_of_ble_eq_true rfl, Nat.le_of_ble_eq_true rfl, Nat.le_of_ble_eq_true rfl, Nat.le_of_ble_eq_true rfl⟩ pmB rfl rfl e2 (share_nn hF hz e1) rfl (fun ov w2 hB => ⟨hB.1, T, N, V, Q, tl, by rw [hB.2]; exact pmB.symm, hT, (inv_ref (x := 0) M h).up (by omega)⟩)
  · exact KY_x (c_X1_share l hst D k cA nA tA T N p1 (.inl E) e1) ⟨Nat.le_of_ble_eq_true rfl, Nat.le_of_ble_eq_true rfl, Nat.le_of_ble_eq_true rfl, Nat.le_of_ble_eq_true rfl⟩ pmB rfl rfl e2 hm rfl pmB.symm ((inv_ref (x := cd) M h).up (by omega))
theorem k_ahead (hst : l.stackTraces = false) (h : INV c T N Q M) (hc : c ≤ 600) (hT : PoIs k cA Q tl) (p1 : Int32) (p2 : Int32) (p3 : Int32) : KY .int tt0 l D k cA nA tA c T N V Q tl yX1_ahead wsX1_ahead [.int p1, .int p2, .int p3] [(xB, 1), (xR, 2)] (f_X2_ahead M p1 p2 p3) := by
  obtain ⟨n, R, hR, -⟩ := h.rel hc
  have hq : qT M [(xB, 1), (xR, 2)] (f_X1_ahead T N V p1 p2 p3) (f_X2_ahead M p1 p2 p3) := q_ahead hR
  rcases hq with ⟨v, V', t, f, s, e1, e2⟩ | ⟨E, cd, hm, e1, e2⟩
  · exact KY_r (c_X1_ahead l hst D k cA nA tA T N V p1 p2 p3 (.inr (v, V')) e1) ⟨Nat.le_of_ble_eq_true rfl, Nat.le_of_ble_eq_true rfl, Nat.le_of_ble_eq_true rfl, Nat.le_of_ble_eq_true rfl⟩ pmC rfl rfl e2 trivial (ref_tri (mu_ref M 0)) (fun ov w2 hB => ⟨hB.1, T, N, V', Q, tl, by rw [hB.2]; exact pmC.symm, hT, (inv_tri (mu_ref M 0) (inv_ref (x := 0) M h)).up (by omega)⟩)
  · exact KY_x (c_X1_ahead l hst D k cA nA tA T N V p1 p2 p3 (.inl E) e1) ⟨Nat.le_of_ble_eq_true rfl, Nat.le_of_ble_eq_true rfl, Nat.le_of_ble_eq_true rfl, Nat.le_of_ble_eq_true rfl⟩ pmC rfl rfl e2 hm rfl pmC.symm ((inv_ref (x := cd) M h).up (by omega))
theorem k_growth (hst : l.stackTraces = false) (h : INV c T N Q M) (hc : c ≤ 600) (hT : PoIs k cA Q tl) (p1 : Int32) (p2 : Int32) : KY .int tt0 l D k cA nA tA c T N V Q tl yX1_growth wsX1_growth [.int p1, .int p2] [(xR, 1)] (f_X2_growth M p1 p2) := by
  obtain ⟨n, R, hR, -⟩ := h.rel hc
  have hq : qT M [(xR, 1)] (f_X1_growth T N V p1 p2) (f_X2_growth M p1 p2) := q_growth hR
  rcases hq with ⟨v, V', t, f, s, e1, e2⟩ | ⟨E, cd, hm, e1, e2⟩
  · exact KY_r (c_X1_growth l hst D k cA nA tA T N V p1 p2 (.inr (v, V')) e1) ⟨Nat.le_of_ble_eq_true rfl, Nat.le_of_ble_eq_true rfl, Nat.le_of_ble_eq_true rfl, Nat.le_of_ble_eq_true rfl⟩ pmC rfl rfl e2 trivial (ref_tri (mu_ref M 0)) (fun ov w2 hB => ⟨hB.1, T, N, V', Q, tl, by rw [hB.2]; exact pmC.symm, hT, (inv_tri (mu_ref M 0) (inv_ref (x := 0) M h)).up (by omega)⟩)
  · exact KY_x (c_X1_growth l hst D k cA nA tA T N V p1 p2 (.inl E) e1) ⟨Nat.le_of_ble_eq_true rfl, Nat.le_of_ble_eq_true rfl, Nat.le_of_ble_eq_true rfl, Nat.le_of_ble_eq_true rfl⟩ pmC rfl rfl e2 hm rfl pmC.symm ((inv_ref (x := cd) M h).up (by omega))
theorem k_washGain (hst : l.stackTraces = false) (h : INV c T N Q M) (hc : c ≤ 600) (hT : PoIs k cA Q tl) (p1 : Int32) (p2 : Int32) (p3 : Int32) : KY .int tt0 l D k cA nA tA c T N V Q tl yX1_washGain wsX1_washGain [.int p1, .int p2, .int p3] [(xB, 1), (xR, 2), (xS, 3)] (f_X2_washGain M p1 p2 p3) := by
  obtain ⟨n, R, hR, -⟩ := h.rel hc
  have hq : qT M [(xB, 1), (xR, 2), (xS, 3)] (f_X1_washGain T N V p1 p2 p3) (f_X2_washGain M p1 p2 p3) := q_washGain hR
  rcases hq with ⟨v, V', t, f, s, e1, e2⟩ | ⟨E, cd, hm, e1, e2⟩
  · exact KY_r (c_X1_washGain l hst D k cA nA tA T N V p1 p2 p3 (.inr (v, V')) e1) ⟨Nat.le_of_ble_eq_true rfl, Nat.le_of_ble_eq_true rfl, Nat.le_of_ble_eq_true rfl, Nat.le_of_ble_eq_true rfl⟩ pmC rfl rfl e2 trivial (ref_tri (mu_ref M 0)) (fun ov w2 hB => ⟨hB.1, T, N, V', Q, tl, by rw [hB.2]; exact pmC.symm, hT, (inv_tri (mu_ref M 0) (inv_ref (x := 0) M h)).up (by omega)⟩)
  · exact KY_x (c_X1_washGain l hst D k cA nA tA T N V p1 p2 p3 (.inl E) e1) ⟨Nat.le_of_ble_eq_true rfl, Nat.le_of_ble_eq_true rfl, Nat.le_of_ble_eq_true rfl, Nat.le_of_ble_eq_true rfl⟩ pmC rfl rfl e2 hm rfl pmC.symm ((inv_ref (x := cd) M h).up (by omega))
theorem k_scaledAfter (hst : l.stackTraces = false) (h : INV c T N Q M) (hc : c ≤ 600) (hT : PoIs k cA Q tl) (p1 : Int32) (p2 : Int32) : KY .int tt0 l D k cA nA tA c T N V Q tl yX1_scaledAfter wsX1_scaledAfter [.int p1, .int p2] [(xB, 1), (xR, 2)] (f_X2_scaledAfter M p1 p2) := by
  obtain ⟨n, R, hR, -⟩ := h.rel hc
  have hq : qT M [(xB, 1), (xR, 2)] (f_X1_scaledAfter T N V p1 p2) (f_X2_scaledAfter M p1 p2) := q_scaledAfter hR
  rcases hq with ⟨v, V', t, f, s, e1, e2⟩ | ⟨E, cd, hm, e1, e2⟩
  · exact KY_r (c_X1_scaledAfter l hst D k cA nA tA T N V p1 p2 (.inr (v, V')) e1) ⟨Nat.le_of_ble_eq_true rfl, Nat.le_of_ble_eq_true rfl, Nat.le_of_ble_eq_true rfl, Nat.le_of_ble_eq_true rfl⟩ pmC rfl rfl e2 trivial (ref_tri (mu_ref M 0)) (fun ov w2 hB => ⟨hB.1, T, N, V', Q, tl, by rw [hB.2]; exact pmC.symm, hT, (inv_tri (mu_ref M 0) (inv_ref (x := 0) M h)).up (by omega)⟩)
  · exact KY_x (c_X1_scaledAfter l hst D k cA nA tA T N V p1 p2 (.inl E) e1) ⟨Nat.le_of_ble_eq_true rfl, Nat.le_of_ble_eq_true rfl, Nat.le_of_ble_eq_true rfl, Nat.le_of_ble_eq_true rfl⟩ pmC rfl rfl e2 hm rfl pmC.symm ((inv_ref (x := cd) M h).up (by omega))
theorem k_steamFor (hst : l.stackTraces = false) (h : INV c T N Q M) (hc : c ≤ 600) (hT : PoIs k cA Q tl) (p1 : Int32) (p2 : Int32) : KY .int tt0 l D k cA nA tA c T N V Q tl yX1_steamFor wsX1_steamFor [.int p1, .int p2] [(xR, 1)] (f_X2_steamFor M p1 p2) := by
  obtain ⟨n, R, hR, -⟩ := h.rel hc
  have hq : qT M [(xR, 1)] (f_X1_steamFor T N V p1 p2) (f_X2_steamFor M p1 p2) := q_steamFor hR
  rcases hq with ⟨v, V', t, f, s, e1, e2⟩ | ⟨E, cd, hm, e1, e2⟩
  · exact KY_r (c_X1_steamFor l hst D k cA nA tA T N V p1 p2 (.inr (v, V')) e1) ⟨Nat.le_of_ble_eq_true rfl, Nat.le_of_ble_eq_true rfl, Nat.le_of_ble_eq_true rfl, Nat.le_of_ble_eq_true rfl⟩ pmC rfl rfl e2 trivial (ref_tri (mu_ref M 0)) (fun ov w2 hB => ⟨hB.1, T, N, V', Q, tl, by rw [hB.2]; exact pmC.symm, hT, (inv_tri (mu_ref M 0) (inv_ref (x := 0) M h)).up (by omega)⟩)
  · exact KY_x (c_X1_steamFor l hst D k cA nA tA T N V p1 p2 (.inl E) e1) ⟨Nat.le_of_ble_eq_true rfl, Nat.le_of_ble_eq_true rfl, Nat.le_of_ble_eq_true rfl, Nat.le_of_ble_eq_true rfl⟩ pmC rfl rfl e2 hm rfl pmC.symm ((inv_ref (x := cd) M h).up (by omega))
theorem k_runScript (hst : l.stackTraces = false) (h : INV c T N Q M) (hc : c ≤ 600) (hT : PoIs k cA Q tl) (p1 : Int32) (p2 : Int64) : KY .int tt0 l D k cA nA tA c T N V Q tl yX1_runScript wsX1_runScript [.int p1, .long p2] [(xR, 1)] (f_X2_runScript M p1 p2) := by
  obtain ⟨n, R, hR, -⟩ := h.rel hc
  have hq : qT M [(xR, 1)] (f_X1_runScript T N V p1 p2) (f_X2_runScript M p1 p2) := q_runScript hR
  rcases hq with ⟨v, V', t, f, s, e1, e2⟩ | ⟨E, cd, hm, e1, e2⟩
  · exact KY_r (c_X1_runScript l hst D k cA nA tA T N V p1 p2 (.inr (v, V')) e1) ⟨Nat.le_of_ble_eq_true rfl, Nat.le_of_ble_eq_true rfl, Nat.le_of_ble_eq_true rfl, Nat.le_of_ble_eq_true rfl⟩ pmC rfl rfl e2 trivial (ref_tri (mu_ref M 0)) (fun ov w2 hB => ⟨hB.1, T, N, V', Q, tl, by rw [hB.2]; exact pmC.symm, hT, (inv_tri (mu_ref M 0) (inv_ref (x := 0) M h)).up (by omega)⟩)
  · exact KY_x (c_X1_runScript l hst D k cA nA tA T N V p1 p2 (.inl E) e1) ⟨Nat.le_of_ble_eq_true rfl, Nat.le_of_ble_eq_true rfl, Nat.le_of_ble_eq_true rfl, Nat.le_of_ble_eq_true rfl⟩ pmC rfl rfl e2 hm rfl pmC.symm ((inv_ref (x := cd) M h).up (by omega))
theorem k_simulate (hst : l.stackTraces = false) (h : INV c T N Q M) (hc : c ≤ 600) (hT : PoIs k cA Q tl) (p1 : Int64) (p2 : Int32) : KY .int tt0 l D k cA nA tA c T N V Q tl yX1_simulate wsX1_simulate [.long p1, .int p2] [(xR, 1)] (f_X2_simulate M p1 p2) := by
  obtain ⟨n, R, hR, -⟩ := h.rel hc
  have hq : qT M [(xR, 1)] (f_X1_simulate T N V p1 p2) (f_X2_simulate M p1 p2) := q_simulate hR
  rcases hq with ⟨v, V', t, f, s, e1, e2⟩ | ⟨E, cd, hm, e1, e2⟩
  · exact KY_r (c_X1_simulate l hst D k cA nA tA T N V p1 p2 (.inr (v, V')) e1) ⟨Nat.le_of_ble_eq_true rfl, Nat.le_of_ble_eq_true rfl, Nat.le_of_ble_eq_true rfl, Nat.le_of_ble_eq_true rfl⟩ pmC rfl rfl e2 trivial (ref_tri (mu_ref M 0)) (fun ov w2 hB => ⟨hB.1, T, N, V', Q, tl, by rw [hB.2]; exact pmC.symm, hT, (inv_tri (mu_ref M 0) (inv_ref (x := 0) M h)).up (by omega)⟩)
  · exact KY_x (c_X1_simulate l hst D k cA nA tA T N V p1 p2 (.inl E) e1) ⟨Nat.le_of_ble_eq_true rfl, Nat.le_of_ble_eq_true rfl, Nat.le_of_ble_eq_true rfl, Nat.le_of_ble_eq_true rfl⟩ pmC rfl rfl e2 hm rfl pmC.symm ((inv_ref (x := cd) M h).up (by omega))
theorem k_tick (hst : l.stackTraces = false) (h : INV c T N Q M) (hc : c ≤ 600) (hT : PoIs k cA Q tl) (p1 : Int32) : KY .int tt0 l D k cA nA tA c T N V Q tl yX1_tick wsX1_tick [.int p1] [(xR, 1)] (f_X2_tick M p1) := by
  have hq : aO c M [(xR, 1)] (f_X1_tick T N Q p1) (f_X2_tick M p1) := q_tick h hc
  rcases hq with ⟨v, T', N', Q', M', e1, e2, e3, e4⟩ | ⟨E, cd, hm, e1, e2⟩
  · exact KY_r (c_X1_tick l hst D k cA nA tA T N Q p1 tl hT (.inr (v, T', N', Q')) e1) ⟨Nat.le_of_ble_eq_true rfl, Nat.le_of_ble_eq_true rfl, Nat.le_of_ble_eq_true rfl, Nat.le_of_ble_eq_true rfl⟩ pmD rfl rfl e2 trivial e3 (fun ov w2 hB => by
      obtain ⟨h1, tl9, h2, h3⟩ := hB
      exact ⟨h1, T', N', V, Q', tl9, by rw [h3]; exact pmD.symm, h2, e4⟩)
  · exact KY_x (c_X1_tick l hst D k cA nA tA T N Q p1 tl hT (.inl E) e1) ⟨Nat.le_of_ble_eq_true rfl, Nat.le_of_ble_eq_true rfl, Nat.le_of_ble_eq_true rfl, Nat.le_of_ble_eq_true rfl⟩ pmD rfl rfl e2 hm rfl pmD.symm ((inv_ref (x := cd) M h).up (by omega))
theorem k_set (hst : l.stackTraces = false) (h : INV c T N Q M) (hc : c ≤ 600) (hT : PoIs k cA Q tl) (p1 : Int32) (p2 : Int32) : KY .int tt0 l D k cA nA tA c T N V Q tl yX1_set wsX1_set [.int p1, .int p2] [(xR, 1)] (f_X2_set M p1 p2) := by
  have hq : aO c M [(xR, 1)] (f_X1_set T N Q p1 p2) (f_X2_set M p1 p2) := q_set h
  rcases hq with ⟨v, T', N', Q', M', e1, e2, e3, e4⟩ | ⟨E, cd, hm, e1, e2⟩
  · exact KY_r (c_X1_set l hst D k cA nA tA T N Q p1 p2 tl hT (.inr (v, T', N', Q')) e1) ⟨Nat.le_of_ble_eq_true rfl, Nat.le_of_ble_eq_true rfl, Nat.le_of_ble_eq_true rfl, Nat.le_of_ble_eq_true rfl⟩ pmD rfl rfl e2 trivial e3 (fun ov w2 hB => by
      obtain ⟨h1, tl9, h2, h3⟩ := hB
      exact ⟨h1, T', N', V, Q', tl9, by rw [h3]; exact pmD.symm, h2, e4⟩)
  · exact KY_x (c_X1_set l hst D k cA nA tA T N Q p1 p2 tl hT (.inl E) e1) ⟨Nat.le_of_ble_eq_true rfl, Nat.le_of_ble_eq_true rfl, Nat.le_of_ble_eq_true rfl, Nat.le_of_ble_eq_true rfl⟩ pmD rfl rfl e2 hm rfl pmD.symm ((inv_ref (x := cd) M h).up (by omega))
theorem k_setValve (hst : l.stackTraces = false) (h : INV c T N Q M) (hc : c ≤ 600) (hT : PoIs k cA Q tl) (p1 : Int32) (p2 : Int32) : KY .int tt0 l D k cA nA tA c T N V Q tl yX1_setValve wsX1_setValve [.int p1, .int p2] [(xB, 1), (xR, 2)] (f_X2_setValve M p1 p2) := by
  have hq : aO c M [(xB, 1), (xR, 2)] (f_X1_setValve T N Q p1 p2) (f_X2_setValve M p1 p2) := q_setValve h
  rcases hq with ⟨v, T', N', Q', M', e1, e2, e3, e4⟩ | ⟨E, cd, hm, e1, e2⟩
  · exact KY_r (c_X1_setValve l hst D k cA nA tA T N Q p1 p2 tl hT (.inr (v, T', N', Q')) e1) ⟨Nat.le_of_ble_eq_true rfl, Nat.le_of_ble_eq_true rfl, Nat.le_of_ble_eq_true rfl, Nat.le_of_ble_eq_true rfl⟩ pmD rfl rfl e2 trivial e3 (fun ov w2 hB => by
      obtain ⟨h1, tl9, h2, h3⟩ := hB
      exact ⟨h1, T', N', V, Q', tl9, by rw [h3]; exact pmD.symm, h2, e4⟩)
  · exact KY_x (c_X1_setValve l hst D k cA nA tA T N Q p1 p2 tl hT (.inl E) e1) ⟨Nat.le_of_ble_eq_true rfl, Nat.le_of_ble_eq_true rfl, Nat.le_of_ble_eq_true rfl, Nat.le_of_ble_eq_true rfl⟩ pmD rfl rfl e2 hm rfl pmD.symm ((inv_ref (x := cd) M h).up (by omega))
theorem k_setBleed (hst : l.stackTraces = false) (h : INV c T N Q M) (hc : c ≤ 600) (hT : PoIs k cA Q tl) (p1 : Int32) (p2 : Int32) : KY .int tt0 l D k cA nA tA c T N V Q tl yX1_setBleed wsX1_setBleed [.int p1, .int p2] [(xB, 1), (xR, 2)] (f_X2_setBleed M p1 p2) := by
  have hq : aO c M [(xB, 1), (xR, 2)] (f_X1_setBleed T N Q p1 p2) (f_X2_setBleed M p1 p2) := q_setBleed h
  rcases hq with ⟨v, T', N', Q', M', e1, e2, e3, e4⟩ | ⟨E, cd, hm, e1, e2⟩
  · exact KY_r (c_X1_setBleed l hst D k cA nA tA T N Q p1 p2 tl hT (.inr (v, T', N', Q')) e1) ⟨Nat.le_of_ble_eq_true rfl, Nat.le_of_ble_eq_true rfl, Nat.le_of_ble_eq_true rfl, Nat.le_of_ble_eq_true rfl⟩ pmD rfl rfl e2 trivial e3 (fun ov w2 hB => by
      obtain ⟨h1, tl9, h2, h3⟩ := hB
      exact ⟨h1, T', N', V, Q', tl9, by rw [h3]; exact pmD.symm, h2, e4⟩)
  · exact KY_x (c_X1_setBleed l hst D k cA nA tA T N Q p1 p2 tl hT (.inl E) e1) ⟨Nat.le_of_ble_eq_true rfl, Nat.le_of_ble_eq_true rfl, Nat.le_of_ble_eq_true rfl, Nat.le_of_ble_eq_true rfl⟩ pmD rfl rfl e2 hm rfl pmD.symm ((inv_ref (x := cd) M h).up (by omega))
theorem k_wash (hst : l.stackTraces = false) (h : INV c T N Q M) (hc : c ≤ 600) (hT : PoIs k cA Q tl) (p1 : Int32) (p2 : Int32) : KY .int tt0 l D k cA nA tA c T N V Q tl yX1_wash wsX1_wash [.int p1, .int p2] [(xB, 1), (xR, 2), (xS, 3)] (f_X2_wash M p1 p2) := by
  have hq : aO c M [(xB, 1), (xR, 2), (xS, 3)] (f_X1_wash T N Q p1 p2) (f_X2_wash M p1 p2) := q_wash h
  rcases hq with ⟨v, T', N', Q', M', e1, e2, e3, e4⟩ | ⟨E, cd, hm, e1, e2⟩
  · exact KY_r (c_X1_wash l hst D k cA nA tA T N Q p1 p2 tl hT (.inr (v, T', N', Q')) e1) ⟨Nat.le_of_ble_eq_true rfl, Nat.le_of_ble_eq_true rfl, Nat.le_of_ble_eq_true rfl, Nat.le_of_ble_eq_true rfl⟩ pmD rfl rfl e2 trivial e3 (fun ov w2 hB => by
      obtain ⟨h1, tl9, h2, h3⟩ := hB
      exact ⟨h1, T', N', V, Q', tl9, by rw [h3]; exact pmD.symm, h2, e4⟩)
  · exact KY_x (c_X1_wash l hst D k cA nA tA T N Q p1 p2 tl hT (.inl E) e1) ⟨Nat.le_of_ble_eq_true rfl, Nat.le_of_ble_eq_true rfl, Nat.le_of_ble_eq_true rfl, Nat.le_of_ble_eq_true rfl⟩ pmD rfl rfl e2 hm rfl pmD.symm ((inv_ref (x := cd) M h).up (by omega))
theorem k_endWash (hst : l.stackTraces = false) (h : INV c T N Q M) (hc : c ≤ 600) (hT : PoIs k cA Q tl) (p1 : Int32) : KY .int tt0 l D k cA nA tA c T N V Q tl yX1_endWash wsX1_endWash [.int p1] [(xB, 1), (xS, 2)] (f_X2_endWash M p1) := by
  have hq : aO c M [(xB, 1), (xS, 2)] (f_X1_endWash T N Q p1) (f_X2_endWash M p1) := q_endWash h
  rcases hq with ⟨v, T', N', Q', M', e1, e2, e3, e4⟩ | ⟨E, cd, hm, e1, e2⟩
  · exact KY_r (c_X1_endWash l hst D k cA nA tA T N Q p1 tl hT (.inr (v, T', N', Q')) e1) ⟨Nat.le_of_ble_eq_true rfl, Nat.le_of_ble_eq_true rfl, Nat.le_of_ble_eq_true rfl, Nat.le_of_ble_eq_true rfl⟩ pmD rfl rfl e2 trivial e3 (fun ov w2 hB => by
      obtain ⟨h1, tl9, h2, h3⟩ := hB
      exact ⟨h1, T', N', V, Q', tl9, by rw [h3]; exact pmD.symm, h2, e4⟩)
  · exact KY_x (c_X1_endWash l hst D k cA nA tA T N Q p1 tl hT (.inl E) e1) ⟨Nat.le_of_ble_eq_true rfl, Nat.le_of_ble_eq_true rfl, Nat.le_of_ble_eq_true rfl, Nat.le_of_ble_eq_true rfl⟩ pmD rfl rfl e2 hm rfl pmD.symm ((inv_ref (x := cd) M h).up (by omega))
theorem k_undo (hst : l.stackTraces = false) (h : INV c T N Q M) (hc : c ≤ 600) (hT : PoIs k cA Q tl) : KY .int tt0 l D k cA nA tA c T N V Q tl yX1_undo wsX1_undo [] [(xS, 1)] (f_X2_undo M) := by
  have hq : aO c M [(xS, 1)] (f_X1_undo T N Q) (f_X2_undo M) := q_undo h
  rcases hq with ⟨v, T', N', Q', M', e1, e2, e3, e4⟩ | ⟨E, cd, hm, e1, e2⟩
  · exact KY_r (c_X1_undo l hst D k cA nA tA T N Q tl hT (.inr (v, T', N', Q')) e1) ⟨Nat.le_of_ble_eq_true rfl, Nat.le_of_ble_eq_true rfl, Nat.le_of_ble_eq_true rfl, Nat.le_of_ble_eq_true rfl⟩ pmD rfl rfl e2 trivial e3 (fun ov w2 hB => by
      obtain ⟨h1, tl9, h2, h3⟩ := hB
      exact ⟨h1, T', N', V, Q', tl9, by rw [h3]; exact pmD.symm, h2, e4⟩)
  · exact KY_x (c_X1_undo l hst D k cA nA tA T N Q tl hT (.inl E) e1) ⟨Nat.le_of_ble_eq_true rfl, Nat.le_of_ble_eq_true rfl, Nat.le_of_ble_eq_true rfl, Nat.le_of_ble_eq_true rfl⟩ pmD rfl rfl e2 hm rfl pmD.symm ((inv_ref (x := cd) M h).up (by omega))
theorem k_restore (hst : l.stackTraces = false) (h : INV c T N Q M) (hc : c ≤ 600) (hT : PoIs k cA Q tl) (p1 : Int32) : KY .int tt0 l D k cA nA tA c T N V Q tl yX1_restore wsX1_restore [.int p1] [(xB, 1), (xS, 2)] (f_X2_restore M p1) := by
  have hq : aO c M [(xB, 1), (xS, 2)] (f_X1_restore T N Q p1) (f_X2_restore M p1) := q_restore h
  rcases hq with ⟨v, T', N', Q', M', e1, e2, e3, e4⟩ | ⟨E, cd, hm, e1, e2⟩
  · exact KY_r (c_X1_restore l hst D k cA nA tA T N Q p1 tl hT (.inr (v, T', N', Q')) e1) ⟨Nat.le_of_ble_eq_true rfl, Nat.le_of_ble_eq_true rfl, Nat.le_of_ble_eq_true rfl, Nat.le_of_ble_eq_true rfl⟩ pmD rfl rfl e2 trivial e3 (fun ov w2 hB => by
      obtain ⟨h1, tl9, h2, h3⟩ := hB
      exact ⟨h1, T', N', V, Q', tl9, by rw [h3]; exact pmD.symm, h2, e4⟩)
  · exact KY_x (c_X1_restore l hst D k cA nA tA T N Q p1 tl hT (.inl E) e1) ⟨Nat.le_of_ble_eq_true rfl, Nat.le_of_ble_eq_true rfl, Nat.le_of_ble_eq_true rfl, Nat.le_of_ble_eq_true rfl⟩ pmD rfl rfl e2 hm rfl pmD.symm ((inv_ref (x := cd) M h).up (by omega))
theorem k_save (hst : l.stackTraces = false) (h : INV c T N Q M) (hc : c ≤ 600) (hT : PoIs k cA Q tl) (p1 : Int32) : KY .int tt0 l D k cA nA tA c T N V Q tl yX1_save wsX1_save [.int p1] [(xB, 1)] (f_X2_save M p1) := by
  rcases q_save h (p := p1) with ⟨v, T', Q', M', e1, e2, e3, e4⟩ | ⟨e1, e2⟩
  · exact KY_r (c_X1_save l hst D k cA nA tA T N Q p1 tl hT (.inr (v, T', Q')) e1) ⟨Nat.le_of_ble_eq_true rfl, Nat.le_of_ble_eq_true rfl, Nat.le_of_ble_eq_true rfl, Nat.le_of_ble_eq_true rfl⟩ pmD rfl rfl e2 trivial e3 (fun ov w2 hB => by
      obtain ⟨h1, tl9, h2, h3⟩ := hB
      exact ⟨h1, T', N, V, Q', tl9, by rw [h3]; exact pmD.symm, h2, e4⟩)
  · exact KY_x (E := xB) (cd := 1) (c_X1_save l hst D k cA nA tA T N Q p1 tl hT (.inl xB) e1) ⟨Nat.le_of_ble_eq_true rfl, Nat.le_of_ble_eq_true rfl, Nat.le_of_ble_eq_true rfl, Nat.le_of_ble_eq_true rfl⟩ pmD rfl rfl e2 (by decide) rfl pmD.symm ((inv_ref (x := 1) M h).up (by omega))
theorem k_load (hst : l.stackTraces = false) (h : INV c T N Q M) (hc : c ≤ 600) (hT : PoIs k cA Q tl) : KY .int tt0 l D k cA nA tA c T N V Q tl yX1_load wsX1_load [] [(xS, 1)] (f_X2_load M) := by
  rcases q_load h with ⟨v, T', N', M', e1, e2, e3, e4⟩ | ⟨T', M', e1, e2, e3, e4⟩
  · exact KY_r (c_X1_load l hst D k cA nA tA T N (.inr (v, T', N')) e1) ⟨Nat.le_of_ble_eq_true rfl, Nat.le_of_ble_eq_true rfl, Nat.le_of_ble_eq_true rfl, Nat.le_of_ble_eq_true rfl⟩ pmB rfl rfl e2 trivial e3 (fun ov w2 hB => ⟨hB.1, T', N', V, Q, tl, by rw [hB.2]; exact pmB.symm, hT, e4⟩)
  · exact KY_x (E := xS) (cd := 1) (c_X1_load l hst D k cA nA tA T N (.inl (xS, T')) e1) ⟨Nat.le_of_ble_eq_true rfl, Nat.le_of_ble_eq_true rfl, Nat.le_of_ble_eq_true rfl, Nat.le_of_ble_eq_true rfl⟩ pmB rfl rfl e2 (by decide) e3 pmB.symm e4
theorem inv_app {T' : TrV} {scs : Int32} {scr : Nat → Int32} (M : MdV) (h : INV c T N Q M) (h1 : tr_nws T' = tr_nws T) (h2 : tr_rcn T' = tr_rcn T) (h3 : tr_fil T' = tr_fil T) (h4 : ∃ L C, TxC scs scr T' L C) : INV (c + 1) T' N Q (mu_scs (mu_scr (mu_ref M 0) scr) scs) := by
  obtain ⟨n, R, g1, g2, g3, g4, -, ⟨a, ds, r1, r2, r3, w, r4, r5, r6⟩, g7⟩ := h.up (show c ≤ c + 1 by omega)
  obtain ⟨a1, a2, a3, a4, a5, a6, a7, a8, a9, a10, a11, a12, a13, a14, a15⟩ := M
  exact ⟨n, R, g1, g2, g3, g4, h4, ⟨a, ds, r1, r2, h2.trans r3, w, r4, h1.trans r5, r6⟩, by unfold SlotC; rw [h3]; exact g7⟩
theorem ref_app {scs : Int32} {scr : Nat → Int32} (M : MdV) : m_ref (mu_scs (mu_scr (mu_ref M 0) scr) scs) = 0 := by
  obtain ⟨a1, a2, a3, a4, a5, a6, a7, a8, a9, a10, a11, a12, a13, a14, a15⟩ := M
  rfl
theorem tx_app {scs : Int32} {scr : Nat → Int32} (M : MdV) {T' : TrV} {L : Nat} {C : Nat → Nat} (h : TxN (mu_scs (mu_scr (mu_ref M 0) scr) scs) T' L C) : TxC scs scr T' L C := by
  obtain ⟨a1, a2, a3, a4, a5, a6, a7, a8, a9, a10, a11, a12, a13, a14, a15⟩ := M
  exact h
theorem k_append (hst : l.stackTraces = false) (h : INV c T N Q M) (hc : c ≤ 600) (hT : PoIs k cA Q tl) (p1 : Int32) : KY .int tt0 l D k cA nA tA c T N V Q tl yX1_append wsX1_append [.int p1] [(xR, 1), (xS, 2)] (f_X2_append M p1) := by
  have hx : ∃ L C, TxN M T L C := by
    obtain ⟨n, R, g1, g2, g3, g4, g5, g6, g7⟩ := id h
    exact g5
  obtain ⟨L, C, hx⟩ := hx
  rcases q_append hx (p := p1) with ⟨e1, e2⟩ | ⟨e1, e2⟩ | ⟨ch, T', M', hL, e1, e2, e3, e4, e5⟩
  · exact KY_x (E := xR) (cd := 1) (c_X1_append l hst D k cA nA tA T p1 (.inl xR) e1) ⟨Nat.le_of_ble_eq_true rfl, Nat.le_of_ble_eq_true rfl, Nat.le_of_ble_eq_true rfl, Nat.le_of_ble_eq_true rfl⟩ pmA rfl rfl e2 (by decide) rfl pmA.symm ((inv_ref (x := 1) M h).up (by omega))
  · exact KY_x (E := xS) (cd := 2) (c_X1_append l hst D k cA nA tA T p1 (.inl xS) e1) ⟨Nat.le_of_ble_eq_true rfl, Nat.le_of_ble_eq_true rfl, Nat.le_of_ble_eq_true rfl, Nat.le_of_ble_eq_true rfl⟩ pmA rfl rfl e2 (by decide) rfl pmA.symm ((inv_ref (x := 2) M h).up (by omega))
  · have hi : INV (c + 1) T' N Q M' := by
      rw [e5] at e3 ⊢
      exact inv_app M h (by rw [e4]; rfl) (by rw [e4]; rfl) (by rw [e4]; rfl) ⟨_, _, tx_app M e3⟩
    have hr : m_ref M' = 0 := by rw [e5]; exact ref_app M
    exact KY_r (c_X1_append l hst D k cA nA tA T p1 (.inr (nI (L + 1), T')) e1) ⟨Nat.le_of_ble_eq_true rfl, Nat.le_of_ble_eq_true rfl, Nat.le_of_ble_eq_true rfl, Nat.le_of_ble_eq_true rfl⟩ pmA rfl rfl e2 trivial hr (fun ov w2 hB => ⟨hB.1, T', N, V, Q, tl, by rw [hB.2]; exact pmA.symm, hT, hi⟩)
theorem inv_po {V9 : PoV} (h : INV c T N Q M) (hv : ∀ i, 3 ≤ i → V9 i = Q i) : INV c T N V9 M := by
  obtain ⟨n, R, g1, g2, g3, g4, g5, ⟨a, ds, r1, r2, r3, w, r4, r5, r6⟩, g7⟩ := h
  refine ⟨n, R, g1, g2, g3, g4, g5, ⟨a, ds, r1, r2, r3, w, r4, r5, fun j hj => ?_⟩, fun s hs => ?_⟩
  · obtain ⟨z1, z2, S, z3, z4⟩ := r6 j hj
    exact ⟨z1, z2, S, by rw [hv _ (by omega)]; exact z3, z4⟩
  · rcases g7 s hs with z | ⟨z1, z2, K, z3, z4, S, z5, z6⟩
    · exact Or.inl z
    · exact Or.inr ⟨z1, z2, K, z3, z4, S, by rw [hv _ (by omega)]; exact z5, z6⟩
theorem k_bestTurns (hst : l.stackTraces = false) (h : INV c T N Q M) (hc : c ≤ 600) (hT : PoIs k cA Q tl) (p1 : Int32) (p2 : Int32) : KY .int tt0 l D k cA nA tA c T N V Q tl yX1_bestTurns wsX1_bestTurns [.int p1, .int p2] [(xR, 1)] (f_X2_bestTurns M p1 p2) := by
  obtain ⟨n, R, hR, hok⟩ := h.rel hc
  rcases q_bestTurns hR (p := p1) (u := p2) with ⟨e1, e2⟩ | ⟨t, ht, rfl, t', f, s, e2⟩
  · exact KY_x (E := xR) (cd := 1) (c_X1_bestTurns_x l hst D k cA nA tA T N Q tl hT p1 p2 xR e1) ⟨Nat.le_of_ble_eq_true rfl, Nat.le_of_ble_eq_true rfl, Nat.le_of_ble_eq_true rfl, Nat.le_of_ble_eq_true rfl⟩ pmD rfl rfl e2 (by decide) rfl pmD.symm ((inv_ref (x := 1) M h).up (by omega))
  · exact KY_r (c_X1_bestTurns l hst D k cA nA tA T N Q tl hT n t R hR.2.2.1 hR.2.2.2.1 (by have := hR.2.2.2.2; omega) ht (fun b => c_X1_VC l hst D k t ht b) p2) ⟨Nat.le_of_ble_eq_true rfl, Nat.le_of_ble_eq_true rfl, Nat.le_of_ble_eq_true rfl, Nat.le_of_ble_eq_true rfl⟩ pmD rfl rfl e2 trivial (ref_tri (mu_ref M 0)) (fun ov w2 hB => by
      obtain ⟨h1, V9, tl9, h2, h3, h4⟩ := hB
      exact ⟨h1, T, N, V, V9, tl9, by rw [h4]; exact pmD.symm, h2, (inv_po (inv_tri (mu_ref M 0) (inv_ref (x := 0) M h)) h3).up (by omega)⟩)
theorem inv_clr {T' : TrV} (M : MdV) (h : INV c T N Q M) (h1 : tr_nws T' = tr_nws T) (h2 : tr_rcn T' = tr_rcn T) (h3 : tr_fil T' = tr_fil T) (h4 : ∃ L C, TxN (mu_scs (mu_ref M 0) 0) T' L C) : INV (c + 1) T' N Q (mu_scs (mu_ref M 0) 0) := by
  obtain ⟨n, R, g1, g2, g3, g4, -, ⟨a, ds, r1, r2, r3, w, r4, r5, r6⟩, g7⟩ := h.up (show c ≤ c + 1 by omega)
  obtain ⟨a1, a2, a3, a4, a5, a6, a7, a8, a9, a10, a11, a12, a13, a14, a15⟩ := M
  exact ⟨n, R, g1, g2, g3, g4, h4, ⟨a, ds, r1, r2, h2.trans r3, w, r4, h1.trans r5, r6⟩, by unfold SlotC; rw [h3]; exact g7⟩
theorem k_clearText (hst : l.stackTraces = false) (h : INV c T N Q M) (hc : c ≤ 600) (hT : PoIs k cA Q tl) : KY .int tt0 l D k cA nA tA c T N V Q tl yX1_clearText wsX1_clearText [] [] (f_X2_clearText M) := by
  have hx : ∃ L C, TxN M T L C := by
    obtain ⟨n, R, g1, g2, g3, g4, g5, g6, g7⟩ := id h
    exact g5
  obtain ⟨L, C, hx⟩ := hx
  obtain ⟨e1, e2, e3⟩ := q_clearText hx
  exact KY_r (c_X1_clearText l hst D k cA nA tA T (.inr (nI L, tu_tln T 0)) e1) ⟨Nat.le_of_ble_eq_true rfl, Nat.le_of_ble_eq_true rfl, Nat.le_of_ble_eq_true rfl, Nat.le_of_ble_eq_true rfl⟩ pmA rfl rfl e2 trivial rfl (fun ov w2 hB => ⟨hB.1, tu_tln T 0, N, V, Q, tl, by rw [hB.2]; exact pmA.symm, hT, inv_clr M h rfl rfl rfl ⟨_, _, e3⟩⟩)
theorem k_errorPosition (hst : l.stackTraces = false) (h : INV c T N Q M) (hc : c ≤ 600) (hT : PoIs k cA Q tl) : KY .int tt0 l D k cA nA tA c T N V Q tl yX1_errorPosition wsX1_errorPosition [] [] (f_X2_errorPosition M) := by
  obtain ⟨v, T', M', e1, e2, e3, e4⟩ := q_errorPosition h
  exact KY_r (c_X1_errorPosition l hst D k cA nA tA T (.inr (v, T')) e1) ⟨Nat.le_of_ble_eq_true rfl, Nat.le_of_ble_eq_true rfl, Nat.le_of_ble_eq_true rfl, Nat.le_of_ble_eq_true rfl⟩ pmA rfl rfl e2 trivial e3 (fun ov w2 hB => ⟨hB.1, T', N, V, Q, tl, by rw [hB.2]; exact pmA.symm, hT, e4⟩)
theorem k_economy (hst : l.stackTraces = false) (h : INV c T N Q M) (hc : c ≤ 600) (hT : PoIs k cA Q tl) (hF : NaNok) (hz : okF FP.fconst0) : KY .float okF l D k cA nA tA c T N V Q tl yX1_economy wsX1_economy [] [] (f_X2_economy M) := by
  obtain ⟨v, e1, e2, e3⟩ := q_economy (T := T) hF hz h hc
  exact KY_r (c_X1_economy l hst D k cA nA tA T N (.inr v) e1) ⟨Nat.le_of_ble_eq_true rfl, Nat.le_of_ble_eq_true rfl, Nat.le_of_ble_eq_true rfl, Nat.le_of_ble_eq_true rfl⟩ pmB rfl rfl e2 e3 rfl (fun ov w2 hB => ⟨hB.1, T, N, V, Q, tl, by rw [hB.2]; exact pmB.symm, hT, (inv_ref (x := 0) M h).up (by omega)⟩)
end KK

