/-! an object that holds plain numbers; each call of it -/
def CW (k : Nat → ClassId) (cA nA tA : Nat → Nat) (T : TrV) (N V : StV) (tl : va_W) : va_W := trW k cA nA tA T ++ stW k nA N ++ stW k tA V ++ tl
theorem pmA {k : Nat → ClassId} {cA nA tA : Nat → Nat} {T : TrV} {N V : StV} {tl : va_W} : List.Perm (CW k cA nA tA T N V tl) (trW k cA nA tA T ++ (stW k nA N ++ (stW k tA V ++ tl))) := by
  unfold CW
  rw [List.append_assoc, List.append_assoc]
theorem pmB {k : Nat → ClassId} {cA nA tA : Nat → Nat} {T : TrV} {N V : StV} {tl : va_W} : List.Perm (CW k cA nA tA T N V tl) ((trW k cA nA tA T ++ stW k nA N) ++ (stW k tA V ++ tl)) := by
  unfold CW
  rw [List.append_assoc (trW k cA nA tA T ++ stW k nA N)]
theorem pmC {k : Nat → ClassId} {cA nA tA : Nat → Nat} {T : TrV} {N V : StV} {tl : va_W} : List.Perm (CW k cA nA tA T N V tl) ((trW k cA nA tA T ++ stW k nA N ++ stW k tA V) ++ tl) := List.Perm.refl _
theorem pmD {k : Nat → ClassId} {cA nA tA : Nat → Nat} {T : TrV} {N V : StV} {tl : va_W} : List.Perm (CW k cA nA tA T N V tl) ((trW k cA nA tA T ++ stW k nA N ++ tl) ++ stW k tA V) := by
  unfold CW
  rw [List.append_assoc (trW k cA nA tA T ++ stW k nA N) (stW k tA V) tl, List.append_assoc (trW k cA nA tA T ++ stW k nA N) tl (stW k tA V)]
  exact List.perm_append_comm.append_left _
def Ob (k : Nat → ClassId) (cA nA tA : Nat → Nat) (X : XV) (w : va_W) : Prop := ∃ (T : TrV) (N V : StV) (Q : PoV) (tl : va_W), List.Perm w (CW k cA nA tA T N V tl) ∧ PoIs k cA Q tl ∧ IX X T N Q
theorem Ob.perm {k : Nat → ClassId} {cA nA tA : Nat → Nat} {X : XV} {w w' : va_W} (h : Ob k cA nA tA X w) (hp : List.Perm w' w) : Ob k cA nA tA X w' := by
  obtain ⟨T, N, V, Q, tl, h1, h2, h3⟩ := h
  exact ⟨T, N, V, Q, tl, hp.trans h1, h2, h3⟩
/-! no NaN comes out of the divisions -/
def NaNok : Prop := ∀ a b : Int32, b ≠ 0 → nn32 (FP.fdiv (FP.i2f a) (FP.i2f b)) = true
theorem NaN_ok : NaNok := by
  intro a b hb
  have hz : ¬ FP.Core.FZero (FP.i2f b) := fun z => FP.Core.i2f_ne_zero hb ((FP.Core.zero_bits232 _).mp z)
  have h : FP.Core.fIsNaN (FP.fdiv (FP.i2f a) (FP.i2f b)) = false := FP.Core.fdiv_out (FP.Core.FFin.notNaN (FP.Core.i2f_fin a)) (FP.Core.i2f_fin b) hz
  unfold nn32
  rw [decide_eq_true_iff, UInt32.le_iff_toNat_le, UInt32.toNat_and, show (0x7fffffff : UInt32).toNat = 2 ^ 31 - 1 from rfl, Nat.and_two_pow_sub_one_eq_mod]
  refine (FP.Core.ne_nan32 _).mp fun z => ?_
  rw [(FP.Core.fIsNaN_iff _).mpr z] at h
  cases h
section QF
variable {T : TrV} {N : StV} {n c : Nat} {R : Nat → Nat} {X : XV}
theorem a_economy (hA : AgS n 0 N R) (h54 : R 54 < 2147483648) : f_X1_economy T N = some (.inr (ecV R)) := by
  unfold f_X1_economy ecV
  rw [nm_e2, hA.c0 (j := 0) (by omega), hA.c0 (j := 1) (by omega)]
  show (if nI (R 54) ≤ 0 then _ else _) = _
  by_cases e : R 54 = 0
  · rw [if_pos e, if_pos (by rw [L0, nI_leF (by omega) (by omega)]; omega)]
  · rw [if_neg e, if_neg (by rw [L0, nI_leF (by omega) (by omega)]; omega), gb_t (NaN_ok _ _ (nI_ne0 (by omega) (lt31 h54)))]
theorem a_share (hA : AgS n 0 N R) (hg : GN n R) (p : Int32) : f_X1_share T N p = some (u_share n R p) := by
  obtain ⟨⟨n2, n6⟩, hge, -⟩ := id hg
  unfold f_X1_share u_share
  rcases ceX (T := T) (p := p) hA.1 n6 with ⟨e1, c⟩ | ⟨i, hi, rfl, e1, c⟩
  · rw [e1, bx_e, if_pos c]
  · have ha : amN R i ≤ 5000 := (hge i hi).2.1
    rw [e1, bx_r, if_neg c, s_amount hA n6 hi, bd_some, nI_cl (by omega)]
    unfold shV
    by_cases e : amN R i = 0
    · rw [if_pos e, if_pos (by rw [L0, nI_leF (by omega) (by omega)]; omega)]
    · rw [if_neg e, if_neg (by rw [L0, nI_leF (by omega) (by omega)]; omega), gb_in (by omega) (by omega), (hA.2.2.2.2.2 i hi).2.2.1, gb_t (NaN_ok _ _ (nI_ne0 (by omega) (lt31 (by omega))))]
end QF

set_option maxHeartbeats 1000000 in
theorem co_append (l : Launch) (hst : l.stackTraces = false) (D : va_G) (k : Nat → ClassId) (cA nA tA : Nat → Nat) (X : XV) (w : va_W) (hw : Ob k cA nA tA X w) (p1 : Int32) (r : Int64 × XV) (h : o_append X p1 = some r) : CO l D k yL_append wsL_append ({ frames := 8, cells := 2, slots := 12, locals := 125 } : Room) [.ref (cA 0), .int p1] w (fun (ov : Option Value) (w' : va_W) => ov = some (.long r.1) ∧ Ob k cA nA tA r.2 w') := by
  obtain ⟨hX, h⟩ := gQ_l h
  cases h
  obtain ⟨T, N, V, Q, tl, hp, hT, hI⟩ := hw
  rcases m_append hX hI p1 with ⟨E, hu, hf⟩ | ⟨v, X', T', hu, hf, hI'⟩
  · rw [hu]
    have hE : E = xR ∨ E = xS := by
      unfold u_append at hu
      repeat' split at hu
      all_goals first | (cases hu; done) | (cases hu; simp; done)
    refine ⟨_, _, hp.trans pmA, c_L_append l D k (cA 0) p1 _ _ (stW k nA N ++ (stW k tA V ++ tl)) (.inl E) _ rfl rfl (fun E9 h9 => by cases h9; exact hE) (fun B ov w h9 => by cases h9) (c_X1_append l hst D k cA nA tA T p1 (.inl E) hf), ?_⟩
    intro ov w' hP
    rcases hP with ⟨h1, rfl, rfl⟩ | ⟨h1, rfl, rfl⟩ | ⟨B, v9, w2, h1, h2, rfl, rfl⟩
    · cases h1
      exact ⟨congrArg (fun z : Int64 => some (Value.long z)) wv_R.symm, ⟨T, N, V, Q, tl, pmA.symm, hT, hI⟩⟩
    · cases h1
      exact ⟨congrArg (fun z : Int64 => some (Value.long z)) wv_S.symm, ⟨T, N, V, Q, tl, pmA.symm, hT, hI⟩⟩
    · cases h1
  · rw [hu]
    refine ⟨_, _, hp.trans pmA, c_L_append l D k (cA 0) p1 _ _ (stW k nA N ++ (stW k tA V ++ tl)) (.inr _) _ rfl rfl (fun E9 h9 => by cases h9) (fun B ov w h9 h8 => by cases h9; exact ⟨_, h8.1⟩) (c_X1_append l hst D k cA nA tA T p1 (.inr (v, T')) hf), ?_⟩
    intro ov w' hP
    rcases hP with ⟨h1, rfl, rfl⟩ | ⟨h1, rfl, rfl⟩ | ⟨B, v9, w2, h1, h2, rfl, rfl⟩
    · cases h1
    · cases h1
    · cases h1
      obtain ⟨e1, rfl⟩ := h2
      cases e1
      exact ⟨rfl, ⟨T', N, V, Q, tl, pmA.symm, hT, hI'⟩⟩
set_option maxHeartbeats 1000000 in
theorem co_load (l : Launch) (hst : l.stackTraces = false) (D : va_G) (k : Nat → ClassId) (cA nA tA : Nat → Nat) (X : XV) (w : va_W) (hw : Ob k cA nA tA X w) (r : Int64 × XV) (h : o_load X = some r) : CO l D k yL_load wsL_load ({ frames := 7, cells := 7, slots := 42, locals := 104 } : Room) [.ref (cA 0)] w (fun (ov : Option Value) (w' : va_W) => ov = some (.long r.1) ∧ Ob k cA nA tA r.2 w') := by
  obtain ⟨hX, h⟩ := gQ_l h
  cases h
  obtain ⟨T, N, V, Q, tl, hp, hT, hI⟩ := hw
  rcases m_load hX hI with ⟨T', hu, hf, hI'⟩ | ⟨v, X', T', N', hu, hf, hI'⟩
  · rw [hu]
    refine ⟨_, _, hp.trans pmB, c_L_load l D k (cA 0)  _ (trW k cA nA tA T' ++ stW k nA N) (stW k tA V ++ tl) (.inl xS) _ rfl rfl (fun E9 h9 => by cases h9; exact rfl) (fun B ov w h9 => by cases h9) (c_X1_load l hst D k cA nA tA T N (.inl (xS, T')) hf), ?_⟩
    intro ov w' hP
    rcases hP with ⟨h1, rfl, rfl⟩ | ⟨B, v9, w2, h1, h2, rfl, rfl⟩
    · cases h1
      exact ⟨congrArg (fun z : Int64 => some (Value.long z)) wv_S.symm, ⟨T', N, V, Q, tl, pmB.symm, hT, hI'⟩⟩
    · cases h1
  · rw [hu]
    refine ⟨_, _, hp.trans pmB, c_L_load l D k (cA 0)  _ _ (stW k tA V ++ tl) (.inr _) _ rfl rfl (fun E9 h9 => by cases h9) (fun B ov w h9 h8 => by cases h9; exact ⟨_, h8.1⟩) (c_X1_load l hst D k cA nA tA T N (.inr (v, T', N')) hf), ?_⟩
    intro ov w' hP
    rcases hP with ⟨h1, rfl, rfl⟩ | ⟨B, v9, w2, h1, h2, rfl, rfl⟩
    · cases h1
    · cases h1
      obtain ⟨e1, rfl⟩ := h2
      cases e1
      exact ⟨rfl, ⟨T', N', V, Q, tl, pmB.symm, hT, hI'⟩⟩
theorem e_about {n : Nat} {R : Nat → Nat} {p1 : Int32} {E : String} (h : u_about n R p1 = .inl E) : E = xR := by
  unfold u_about at h
  repeat' split at h
  all_goals first | (cases h; done) | (cases h; simp; done)
set_option maxHeartbeats 1000000 in
theorem co_about (l : Launch) (hst : l.stackTraces = false) (D : va_G) (k : Nat → ClassId) (cA nA tA : Nat → Nat) (X : XV) (w : va_W) (hw : Ob k cA nA tA X w) (p1 : Int32) (v : Int64) (h : o_about X p1 = some v) : CO l D k yL_about wsL_about ({ frames := 8, cells := 1, slots := 6, locals := 125 } : Room) [.ref (cA 0), .int p1] w (fun (ov : Option Value) (w' : va_W) => ov = some (.long v) ∧ Ob k cA nA tA X w') := by
  obtain ⟨hX, h⟩ := gQ_l h
  cases h
  obtain ⟨T, N, V, Q, tl, hp, hT, hI⟩ := hw
  have hf := a_about (T := T) hI.1 hX.1.1 p1
  cases hu : u_about (x_n X) (x_R X) p1 with
  | inl E =>
    rw [hu] at hf
    refine ⟨_, _, hp.trans pmB, c_L_about l D k (cA 0) p1 _ _ (stW k tA V ++ tl) (.inl E) _ rfl rfl (fun E9 h9 => by cases h9; exact (e_about hu)) (fun B ov w h9 => by cases h9) (c_X1_about l hst D k cA nA tA T N p1 (.inl E) hf), ?_⟩
    intro ov w' hP
    rcases hP with ⟨h1, rfl, rfl⟩ | ⟨B, v9, w2, h1, h2, rfl, rfl⟩
    · cases h1
      exact ⟨congrArg (fun z : Int64 => some (Value.long z)) wv_R.symm, ⟨T, N, V, Q, tl, pmB.symm, hT, hI⟩⟩
    · cases h1
  | inr r =>
    rw [hu] at hf
    refine ⟨_, _, hp.trans pmB, c_L_about l D k (cA 0) p1 _ _ (stW k tA V ++ tl) (.inr _) _ rfl rfl (fun E9 h9 => by cases h9) (fun B ov w h9 h8 => by cases h9; exact ⟨_, h8.1⟩) (c_X1_about l hst D k cA nA tA T N p1 (.inr r) hf), ?_⟩
    intro ov w' hP
    rcases hP with ⟨h1, rfl, rfl⟩ | ⟨B, v9, w2, h1, h2, rfl, rfl⟩
    · cases h1
    · cases h1
      obtain ⟨e1, rfl⟩ := h2
      cases e1
      exact ⟨rfl, ⟨T, N, V, Q, tl, pmB.symm, hT, hI⟩⟩
theorem e_total {n : Nat} {R : Nat → Nat} {p1 : Int32} {E : String} (h : u_total n R p1 = .inl E) : E = xR := by
  unfold u_total at h
  repeat' split at h
  all_goals first | (cases h; done) | (cases h; simp; done)
set_option maxHeartbeats 1000000 in
theorem co_total (l : Launch) (hst : l.stackTraces = false) (D : va_G) (k : Nat → ClassId) (cA nA tA : Nat → Nat) (X : XV) (w : va_W) (hw : Ob k cA nA tA X w) (p1 : Int32) (v : Int64) (h : o_total X p1 = some v) : CO l D k yL_total wsL_total ({ frames := 8, cells := 1, slots := 6, locals := 125 } : Room) [.ref (cA 0), .int p1] w (fun (ov : Option Value) (w' : va_W) => ov = some (.long v) ∧ Ob k cA nA tA X w') := by
  obtain ⟨hX, h⟩ := gQ_l h
  cases h
  obtain ⟨T, N, V, Q, tl, hp, hT, hI⟩ := hw
  have hf := a_total (T := T) hI.1 p1
  cases hu : u_total (x_n X) (x_R X) p1 with
  | inl E =>
    rw [hu] at hf
    refine ⟨_, _, hp.trans pmB, c_L_total l D k (cA 0) p1 _ _ (stW k tA V ++ tl) (.inl E) _ rfl rfl (fun E9 h9 => by cases h9; exact (e_total hu)) (fun B ov w h9 => by cases h9) (c_X1_total l hst D k cA nA tA T N p1 (.inl E) hf), ?_⟩
    intro ov w' hP
    rcases hP with ⟨h1, rfl, rfl⟩ | ⟨B, v9, w2, h1, h2, rfl, rfl⟩
    · cases h1
      exact ⟨congrArg (fun z : Int64 => some (Value.long z)) wv_R.symm, ⟨T, N, V, Q, tl, pmB.symm, hT, hI⟩⟩
    · cases h1
  | inr r =>
    rw [hu] at hf
    refine ⟨_, _, hp.trans pmB, c_L_total l D k (cA 0) p1 _ _ (stW k tA V ++ tl) (.inr _) _ rfl rfl (fun E9 h9 => by cases h9) (fun B ov w h9 h8 => by cases h9; exact ⟨_, h8.1⟩) (c_X1_total l hst D k cA nA tA T N p1 (.inr r) hf), ?_⟩
    intro ov w' hP
    rcases hP with ⟨h1, rfl, rfl⟩ | ⟨B, v9, w2, h1, h2, rfl, rfl⟩
    · cases h1
    · cases h1
      obtain ⟨e1, rfl⟩ := h2
      cases e1
      exact ⟨rfl, ⟨T, N, V, Q, tl, pmB.symm, hT, hI⟩⟩
theorem e_effect {n : Nat} {R : Nat → Nat} {p1 : Int32} {p2 : Int32} {E : String} (h : u_effect n R p1 p2 = .inl E) : E = xB ∨ E = xR := by
  unfold u_effect at h
  repeat' split at h
  all_goals first | (cases h; done) | (cases h; simp; done)
set_option maxHeartbeats 1000000 in
theorem co_effect (l : Launch) (hst : l.stackTraces = false) (D : va_G) (k : Nat → ClassId) (cA nA tA : Nat → Nat) (X : XV) (w : va_W) (hw : Ob k cA nA tA X w) (p1 : Int32) (p2 : Int32) (v : Int64) (h : o_effect X p1 p2 = some v) : CO l D k yL_effect wsL_effect ({ frames := 8, cells := 2, slots := 12, locals := 126 } : Room) [.ref (cA 0), .int p1, .int p2] w (fun (ov : Option Value) (w' : va_W) => ov = some (.long v) ∧ Ob k cA nA tA X w') := by
  obtain ⟨hX, h⟩ := gQ_l h
  cases h
  obtain ⟨T, N, V, Q, tl, hp, hT, hI⟩ := hw
  have hf := a_effect (T := T) hI.1 hX.1.1 p1 p2
  cases hu : u_effect (x_n X) (x_R X) p1 p2 with
  | inl E =>
    rw [hu] at hf
    refine ⟨_, _, hp.trans pmB, c_L_effect l D k (cA 0) p1 p2 _ _ (stW k tA V ++ tl) (.inl E) _ rfl rfl (fun E9 h9 => by cases h9; exact (e_effect hu)) (fun B ov w h9 => by cases h9) (c_X1_effect l hst D k cA nA tA T N p1 p2 (.inl E) hf), ?_⟩
    intro ov w' hP
    rcases hP with ⟨h1, rfl, rfl⟩ | ⟨h1, rfl, rfl⟩ | ⟨B, v9, w2, h1, h2, rfl, rfl⟩
    · cases h1
      exact ⟨congrArg (fun z : Int64 => some (Value.long z)) wv_B.symm, ⟨T, N, V, Q, tl, pmB.symm, hT, hI⟩⟩
    · cases h1
      exact ⟨congrArg (fun z : Int64 => some (Value.long z)) wv_R.symm, ⟨T, N, V, Q, tl, pmB.symm, hT, hI⟩⟩
    · cases h1
  | inr r =>
    rw [hu] at hf
    refine ⟨_, _, hp.trans pmB, c_L_effect l D k (cA 0) p1 p2 _ _ (stW k tA V ++ tl) (.inr _) _ rfl rfl (fun E9 h9 => by cases h9) (fun B ov w h9 h8 => by cases h9; exact ⟨_, h8.1⟩) (c_X1_effect l hst D k cA nA tA T N p1 p2 (.inr r) hf), ?_⟩
    intro ov w' hP
    rcases hP with ⟨h1, rfl, rfl⟩ | ⟨h1, rfl, rfl⟩ | ⟨B, v9, w2, h1, h2, rfl, rfl⟩
    · cases h1
    · cases h1
    · cases h1
      obtain ⟨e1, rfl⟩ := h2
      cases e1
      exact ⟨rfl, ⟨T, N, V, Q, tl, pmB.symm, hT, hI⟩⟩
theorem e_neighbor {n : Nat} {R : Nat → Nat} {p1 : Int32} {p2 : Int32} {E : String} (h : u_neighbor n R p1 p2 = .inl E) : E = xB := by
  unfold u_neighbor at h
  repeat' split at h
  all_goals first | (cases h; done) | (cases h; simp; done)
set_option maxHeartbeats 1000000 in
theorem co_neighbor (l : Launch) (hst : l.stackTraces = false) (D : va_G) (k : Nat → ClassId) (cA nA tA : Nat → Nat) (X : XV) (w : va_W) (hw : Ob k cA nA tA X w) (p1 : Int32) (p2 : Int32) (v : Int64) (h : o_neighbor X p1 p2 = some v) : CO l D k yL_neighbor wsL_neighbor ({ frames := 8, cells := 1, slots := 6, locals := 125 } : Room) [.ref (cA 0), .int p1, .int p2] w (fun (ov : Option Value) (w' : va_W) => ov = some (.long v) ∧ Ob k cA nA tA X w') := by
  obtain ⟨hX, h⟩ := gQ_l h
  cases h
  obtain ⟨T, N, V, Q, tl, hp, hT, hI⟩ := hw
  have hf := a_neighbor (T := T) hI.1 hX.1.1 p1 p2
  cases hu : u_neighbor (x_n X) (x_R X) p1 p2 with
  | inl E =>
    rw [hu] at hf
    refine ⟨_, _, hp.trans pmB, c_L_neighbor l D k (cA 0) p1 p2 _ _ (stW k tA V ++ tl) (.inl E) _ rfl rfl (fun E9 h9 => by cases h9; exact (e_neighbor hu)) (fun B ov w h9 => by cases h9) (c_X1_neighbor l hst D k cA nA tA T N p1 p2 (.inl E) hf), ?_⟩
    intro ov w' hP
    rcases hP with ⟨h1, rfl, rfl⟩ | ⟨B, v9, w2, h1, h2, rfl, rfl⟩
    · cases h1
      exact ⟨congrArg (fun z : Int64 => some (Value.long z)) wv_B.symm, ⟨T, N, V, Q, tl, pmB.symm, hT, hI⟩⟩
    · cases h1
  | inr r =>
    rw [hu] at hf
    refine ⟨_, _, hp.trans pmB, c_L_neighbor l D k (cA 0) p1 p2 _ _ (stW k tA V ++ tl) (.inr _) _ rfl rfl (fun E9 h9 => by cases h9) (fun B ov w h9 h8 => by cases h9; exact ⟨_, h8.1⟩) (c_X1_neighbor l hst D k cA nA tA T N p1 p2 (.inr r) hf), ?_⟩
    intro ov w' hP
    rcases hP with ⟨h1, rfl, rfl⟩ | ⟨B, v9, w2, h1, h2, rfl, rfl⟩
    · cases h1
    · cases h1
      obtain ⟨e1, rfl⟩ := h2
      cases e1
      exact ⟨rfl, ⟨T, N, V, Q, tl, pmB.symm, hT, hI⟩⟩
set_option maxHeartbeats 1000000 in
theorem co_tick (l : Launch) (hst : l.stackTraces = false) (D : va_G) (k : Nat → ClassId) (cA nA tA : Nat → Nat) (X : XV) (w : va_W) (hw : Ob k cA nA tA X w) (p1 : Int32) (r : Int64 × XV) (h : o_tick X p1 = some r) : CO l D k yL_tick wsL_tick ({ frames := 8, cells := 12, slots := 81, locals := 125 } : Room) [.ref (cA 0), .int p1] w (fun (ov : Option Value) (w' : va_W) => ov = some (.long r.1) ∧ Ob k cA nA tA r.2 w') := by
  obtain ⟨hX, h⟩ := gQ_l h
  cases h
  obtain ⟨T, N, V, Q, tl, hp, hT, hI⟩ := hw
  rcases m_tick hX (by omega) hI p1 with ⟨E, hu, hf⟩ | ⟨v, X', T', N', Q', hu, hf, hI'⟩
  · rw [hu]
    have hE : E = xR := by
      unfold u_tick at hu
      repeat' split at hu
      all_goals first | (cases hu; done) | (cases hu; simp; done)
    refine ⟨_, _, hp.trans pmD, c_L_tick l D k (cA 0) p1 _ _ (stW k tA V) (.inl E) _ rfl rfl (fun E9 h9 => by cases h9; exact hE) (fun B ov w h9 => by cases h9) (c_X1_tick l hst D k cA nA tA T N Q p1 tl hT (.inl E) hf), ?_⟩
    intro ov w' hP
    rcases hP with ⟨h1, rfl, rfl⟩ | ⟨B, v9, w2, h1, h2, rfl, rfl⟩
    · cases h1
      exact ⟨congrArg (fun z : Int64 => some (Value.long z)) wv_R.symm, ⟨T, N, V, Q, tl, pmD.symm, hT, hI⟩⟩
    · cases h1
  · rw [hu]
    refine ⟨_, _, hp.trans pmD, c_L_tick l D k (cA 0) p1 _ _ (stW k tA V) (.inr _) _ rfl rfl (fun E9 h9 => by cases h9) (fun B ov w h9 h8 => by cases h9; exact ⟨_, h8.1⟩) (c_X1_tick l hst D k cA nA tA T N Q p1 tl hT (.inr (v, T', N', Q')) hf), ?_⟩
    intro ov w' hP
    rcases hP with ⟨h1, rfl, rfl⟩ | ⟨B, v9, w2, h1, h2, rfl, rfl⟩
    · cases h1
    · cases h1
      obtain ⟨e1, tl9, hT9, rfl⟩ := h2
      cases e1
      exact ⟨rfl, ⟨T', N', V, Q', tl9, pmD.symm, hT9, hI'⟩⟩
set_option maxHeartbeats 1000000 in
theorem co_set (l : Launch) (hst : l.stackTraces = false) (D : va_G) (k : Nat → ClassId) (cA nA tA : Nat → Nat) (X : XV) (w : va_W) (hw : Ob k cA nA tA X w) (p1 : Int32) (p2 : Int32) (r : Int64 × XV) (h : o_set X p1 p2 = some r) : CO l D k yL_set wsL_set ({ frames := 8, cells := 13, slots := 87, locals := 127 } : Room) [.ref (cA 0), .int p1, .int p2] w (fun (ov : Option Value) (w' : va_W) => ov = some (.long r.1) ∧ Ob k cA nA tA r.2 w') := by
  obtain ⟨hX, h⟩ := gQ_l h
  cases h
  obtain ⟨T, N, V, Q, tl, hp, hT, hI⟩ := hw
  rcases m_set hX hI p1 p2 with ⟨E, hu, hf⟩ | ⟨v, X', T', N', Q', hu, hf, hI'⟩
  · rw [hu]
    have hE : E = xR := by
      unfold u_set at hu
      repeat' split at hu
      all_goals first | (cases hu; done) | (cases hu; simp; done)
    refine ⟨_, _, hp.trans pmD, c_L_set l D k (cA 0) p1 p2 _ _ (stW k tA V) (.inl E) _ rfl rfl (fun E9 h9 => by cases h9; exact hE) (fun B ov w h9 => by cases h9) (c_X1_set l hst D k cA nA tA T N Q p1 p2 tl hT (.inl E) hf), ?_⟩
    intro ov w' hP
    rcases hP with ⟨h1, rfl, rfl⟩ | ⟨B, v9, w2, h1, h2, rfl, rfl⟩
    · cases h1
      exact ⟨congrArg (fun z : Int64 => some (Value.long z)) wv_R.symm, ⟨T, N, V, Q, tl, pmD.symm, hT, hI⟩⟩
    · cases h1
  · rw [hu]
    refine ⟨_, _, hp.trans pmD, c_L_set l D k (cA 0) p1 p2 _ _ (stW k tA V) (.inr _) _ rfl rfl (fun E9 h9 => by cases h9) (fun B ov w h9 h8 => by cases h9; exact ⟨_, h8.1⟩) (c_X1_set l hst D k cA nA tA T N Q p1 p2 tl hT (.inr (v, T', N', Q')) hf), ?_⟩
    intro ov w' hP
    rcases hP with ⟨h1, rfl, rfl⟩ | ⟨B, v9, w2, h1, h2, rfl, rfl⟩
    · cases h1
    · cases h1
      obtain ⟨e1, tl9, hT9, rfl⟩ := h2
      cases e1
      exact ⟨rfl, ⟨T', N', V, Q', tl9, pmD.symm, hT9, hI'⟩⟩
set_option maxHeartbeats 1000000 in
theorem co_setValve (l : Launch) (hst : l.stackTraces = false) (D : va_G) (k : Nat → ClassId) (cA nA tA : Nat → Nat) (X : XV) (w : va_W) (hw : Ob k cA nA tA X w) (p1 : Int32) (p2 : Int32) (r : Int64 × XV) (h : o_setValve X p1 p2 = some r) : CO l D k yL_setValve wsL_setValve ({ frames := 8, cells := 13, slots := 87, locals := 127 } : Room) [.ref (cA 0), .int p1, .int p2] w (fun (ov : Option Value) (w' : va_W) => ov = some (.long r.1) ∧ Ob k cA nA tA r.2 w') := by
  obtain ⟨hX, h⟩ := gQ_l h
  cases h
  obtain ⟨T, N, V, Q, tl, hp, hT, hI⟩ := hw
  rcases m_setValve hX hI p1 p2 with ⟨E, hu, hf⟩ | ⟨v, X', T', N', Q', hu, hf, hI'⟩
  · rw [hu]
    have hE : E = xB ∨ E = xR := by
      unfold u_setValve at hu
      repeat' split at hu
      all_goals first | (cases hu; done) | (cases hu; simp; done)
    refine ⟨_, _, hp.trans pmD, c_L_setValve l D k (cA 0) p1 p2 _ _ (stW k tA V) (.inl E) _ rfl rfl (fun E9 h9 => by cases h9; exact hE) (fun B ov w h9 => by cases h9) (c_X1_setValve l hst D k cA nA tA T N Q p1 p2 tl hT (.inl E) hf), ?_⟩
    intro ov w' hP
    rcases hP with ⟨h1, rfl, rfl⟩ | ⟨h1, rfl, rfl⟩ | ⟨B, v9, w2, h1, h2, rfl, rfl⟩
    · cases h1
      exact ⟨congrArg (fun z : Int64 => some (Value.long z)) wv_B.symm, ⟨T, N, V, Q, tl, pmD.symm, hT, hI⟩⟩
    · cases h1
      exact ⟨congrArg (fun z : Int64 => some (Value.long z)) wv_R.symm, ⟨T, N, V, Q, tl, pmD.symm, hT, hI⟩⟩
    · cases h1
  · rw [hu]
    refine ⟨_, _, hp.trans pmD, c_L_setValve l D k (cA 0) p1 p2 _ _ (stW k tA V) (.inr _) _ rfl rfl (fun E9 h9 => by cases h9) (fun B ov w h9 h8 => by cases h9; exact ⟨_, h8.1⟩) (c_X1_setValve l hst D k cA nA tA T N Q p1 p2 tl hT (.inr (v, T', N', Q')) hf), ?_⟩
    intro ov w' hP
    rcases hP with ⟨h1, rfl, rfl⟩ | ⟨h1, rfl, rfl⟩ | ⟨B, v9, w2, h1, h2, rfl, rfl⟩
    · cases h1
    · cases h1
    · cases h1
      obtain ⟨e1, tl9, hT9, rfl⟩ := h2
      cases e1
      exact ⟨rfl, ⟨T', N', V, Q', tl9, pmD.symm, hT9, hI'⟩⟩
set_option maxHeartbeats 1000000 in
theorem co_setBleed (l : Launch) (hst : l.stackTraces = false) (D : va_G) (k : Nat → ClassId) (cA nA tA : Nat → Nat) (X : XV) (w : va_W) (hw : Ob k cA nA tA X w) (p1 : Int32) (p2 : Int32) (r : Int64 × XV) (h : o_setBleed X p1 p2 = some r) : CO l D k yL_setBleed wsL_setBleed ({ frames := 8, cells := 13, slots := 87, locals := 127 } : Room) [.ref (cA 0), .int p1, .int p2] w (fun (ov : Option Value) (w' : va_W) => ov = some (.long r.1) ∧ Ob k cA nA tA r.2 w') := by
  obtain ⟨hX, h⟩ := gQ_l h
  cases h
  obtain ⟨T, N, V, Q, tl, hp, hT, hI⟩ := hw
  rcases m_setBleed hX hI p1 p2 with ⟨E, hu, hf⟩ | ⟨v, X', T', N', Q', hu, hf, hI'⟩
  · rw [hu]
    have hE : E = xB ∨ E = xR := by
      unfold u_setBleed at hu
      repeat' split at hu
      all_goals first | (cases hu; done) | (cases hu; simp; done)
    refine ⟨_, _, hp.trans pmD, c_L_setBleed l D k (cA 0) p1 p2 _ _ (stW k tA V) (.inl E) _ rfl rfl (fun E9 h9 => by cases h9; exact hE) (fun B ov w h9 => by cases h9) (c_X1_setBleed l hst D k cA nA tA T N Q p1 p2 tl hT (.inl E) hf), ?_⟩
    intro ov w' hP
    rcases hP with ⟨h1, rfl, rfl⟩ | ⟨h1, rfl, rfl⟩ | ⟨B, v9, w2, h1, h2, rfl, rfl⟩
    · cases h1
      exact ⟨congrArg (fun z : Int64 => some (Value.long z)) wv_B.symm, ⟨T, N, V, Q, tl, pmD.symm, hT, hI⟩⟩
    · cases h1
      exact ⟨congrArg (fun z : Int64 => some (Value.long z)) wv_R.symm, ⟨T, N, V, Q, tl, pmD.symm, hT, hI⟩⟩
    · cases h1
  · rw [hu]
    refine ⟨_, _, hp.trans pmD, c_L_setBleed l D k (cA 0) p1 p2 _ _ (stW k tA V) (.inr _) _ rfl rfl (fun E9 h9 => by cases h9) (fun B ov w h9 h8 => by cases h9; exact ⟨_, h8.1⟩) (c_X1_setBleed l hst D k cA nA tA T N Q p1 p2 tl hT (.inr (v, T', N', Q')) hf), ?_⟩
    intro ov w' hP
    rcases hP with ⟨h1, rfl, rfl⟩ | ⟨h1, rfl, rfl⟩ | ⟨B, v9, w2, h1, h2, rfl, rfl⟩
    · cases h1
    · cases h1
    · cases h1
      obtain ⟨e1, tl9, hT9, rfl⟩ := h2
      cases e1
      exact ⟨rfl, ⟨T', N', V, Q', tl9, pmD.symm, hT9, hI'⟩⟩
set_option maxHeartbeats 1000000 in
theorem co_wash (l : Launch) (hst : l.stackTraces = false) (D : va_G) (k : Nat → ClassId) (cA nA tA : Nat → Nat) (X : XV) (w : va_W) (hw : Ob k cA nA tA X w) (p1 : Int32) (p2 : Int32) (r : Int64 × XV) (h : o_wash X p1 p2 = some r) : CO l D k yL_wash wsL_wash ({ frames := 8, cells := 14, slots := 93, locals := 126 } : Room) [.ref (cA 0), .int p1, .int p2] w (fun (ov : Option Value) (w' : va_W) => ov = some (.long r.1) ∧ Ob k cA nA tA r.2 w') := by
  obtain ⟨hX, h⟩ := gQ_l h
  cases h
  obtain ⟨T, N, V, Q, tl, hp, hT, hI⟩ := hw
  rcases m_wash hX hI p1 p2 with ⟨E, hu, hf⟩ | ⟨v, X', T', N', Q', hu, hf, hI'⟩
  · rw [hu]
    have hE : E = xB ∨ E = xR ∨ E = xS := by
      unfold u_wash at hu
      repeat' split at hu
      all_goals first | (cases hu; done) | (cases hu; simp; done)
    refine ⟨_, _, hp.trans pmD, c_L_wash l D k (cA 0) p1 p2 _ _ (stW k tA V) (.inl E) _ rfl rfl (fun E9 h9 => by cases h9; exact hE) (fun B ov w h9 => by cases h9) (c_X1_wash l hst D k cA nA tA T N Q p1 p2 tl hT (.inl E) hf), ?_⟩
    intro ov w' hP
    rcases hP with ⟨h1, rfl, rfl⟩ | ⟨h1, rfl, rfl⟩ | ⟨h1, rfl, rfl⟩ | ⟨B, v9, w2, h1, h2, rfl, rfl⟩
    · cases h1
      exact ⟨congrArg (fun z : Int64 => some (Value.long z)) wv_B.symm, ⟨T, N, V, Q, tl, pmD.symm, hT, hI⟩⟩
    · cases h1
      exact ⟨congrArg (fun z : Int64 => some (Value.long z)) wv_R.symm, ⟨T, N, V, Q, tl, pmD.symm, hT, hI⟩⟩
    · cases h1
      exact ⟨congrArg (fun z : Int64 => some (Value.long z)) wv_S.symm, ⟨T, N, V, Q, tl, pmD.symm, hT, hI⟩⟩
    · cases h1
  · rw [hu]
    refine ⟨_, _, hp.trans pmD, c_L_wash l D k (cA 0) p1 p2 _ _ (stW k tA V) (.inr _) _ rfl rfl (fun E9 h9 => by cases h9) (fun B ov w h9 h8 => by cases h9; exact ⟨_, h8.1⟩) (c_X1_wash l hst D k cA nA tA T N Q p1 p2 tl hT (.inr (v, T', N', Q')) hf), ?_⟩
    intro ov w' hP
    rcases hP with ⟨h1, rfl, rfl⟩ | ⟨h1, rfl, rfl⟩ | ⟨h1, rfl, rfl⟩ | ⟨B, v9, w2, h1, h2, rfl, rfl⟩
    · cases h1
    · cases h1
    · cases h1
    · cases h1
      obtain ⟨e1, tl9, hT9, rfl⟩ := h2
      cases e1
      exact ⟨rfl, ⟨T', N', V, Q', tl9, pmD.symm, hT9, hI'⟩⟩
set_option maxHeartbeats 1000000 in
theorem co_endWash (l : Launch) (hst : l.stackTraces = false) (D : va_G) (k : Nat → ClassId) (cA nA tA : Nat → Nat) (X : XV) (w : va_W) (hw : Ob k cA nA tA X w) (p1 : Int32) (r : Int64 × XV) (h : o_endWash X p1 = some r) : CO l D k yL_endWash wsL_endWash ({ frames := 8, cells := 12, slots := 81, locals := 125 } : Room) [.ref (cA 0), .int p1] w (fun (ov : Option Value) (w' : va_W) => ov = some (.long r.1) ∧ Ob k cA nA tA r.2 w') := by
  obtain ⟨hX, h⟩ := gQ_l h
  cases h
  obtain ⟨T, N, V, Q, tl, hp, hT, hI⟩ := hw
  rcases m_endWash hX hI p1 with ⟨E, hu, hf⟩ | ⟨v, X', T', N', Q', hu, hf, hI'⟩
  · rw [hu]
    have hE : E = xB ∨ E = xS := by
      unfold u_endWash at hu
      repeat' split at hu
      all_goals first | (cases hu; done) | (cases hu; simp; done)
    refine ⟨_, _, hp.trans pmD, c_L_endWash l D k (cA 0) p1 _ _ (stW k tA V) (.inl E) _ rfl rfl (fun E9 h9 => by cases h9; exact hE) (fun B ov w h9 => by cases h9) (c_X1_endWash l hst D k cA nA tA T N Q p1 tl hT (.inl E) hf), ?_⟩
    intro ov w' hP
    rcases hP with ⟨h1, rfl, rfl⟩ | ⟨h1, rfl, rfl⟩ | ⟨B, v9, w2, h1, h2, rfl, rfl⟩
    · cases h1
      exact ⟨congrArg (fun z : Int64 => some (Value.long z)) wv_B.symm, ⟨T, N, V, Q, tl, pmD.symm, hT, hI⟩⟩
    · cases h1
      exact ⟨congrArg (fun z : Int64 => some (Value.long z)) wv_S.symm, ⟨T, N, V, Q, tl, pmD.symm, hT, hI⟩⟩
    · cases h1
  · rw [hu]
    refine ⟨_, _, hp.trans pmD, c_L_endWash l D k (cA 0) p1 _ _ (stW k tA V) (.inr _) _ rfl rfl (fun E9 h9 => by cases h9) (fun B ov w h9 h8 => by cases h9; exact ⟨_, h8.1⟩) (c_X1_endWash l hst D k cA nA tA T N Q p1 tl hT (.inr (v, T', N', Q')) hf), ?_⟩
    intro ov w' hP
    rcases hP with ⟨h1, rfl, rfl⟩ | ⟨h1, rfl, rfl⟩ | ⟨B, v9, w2, h1, h2, rfl, rfl⟩
    · cases h1
    · cases h1
    · cases h1
      obtain ⟨e1, tl9, hT9, rfl⟩ := h2
      cases e1
      exact ⟨rfl, ⟨T', N', V, Q', tl9, pmD.symm, hT9, hI'⟩⟩
set_option maxHeartbeats 1000000 in
theorem co_undo (l : Launch) (hst : l.stackTraces = false) (D : va_G) (k : Nat → ClassId) (cA nA tA : Nat → Nat) (X : XV) (w : va_W) (hw : Ob k cA nA tA X w) (r : Int64 × XV) (h : o_undo X = some r) : CO l D k yL_undo wsL_undo ({ frames := 7, cells := 11, slots := 75, locals := 102 } : Room) [.ref (cA 0)] w (fun (ov : Option Value) (w' : va_W) => ov = some (.long r.1) ∧ Ob k cA nA tA r.2 w') := by
  obtain ⟨hX, h⟩ := gQ_l h
  cases h
  obtain ⟨T, N, V, Q, tl, hp, hT, hI⟩ := hw
  rcases m_undo hX hI  with ⟨E, hu, hf⟩ | ⟨v, X', T', N', Q', hu, hf, hI'⟩
  · rw [hu]
    have hE : E = xS := by
      unfold u_undo at hu
      repeat' split at hu
      all_goals first | (cases hu; done) | (cases hu; simp; done)
    refine ⟨_, _, hp.trans pmD, c_L_undo l D k (cA 0)  _ _ (stW k tA V) (.inl E) _ rfl rfl (fun E9 h9 => by cases h9; exact hE) (fun B ov w h9 => by cases h9) (c_X1_undo l hst D k cA nA tA T N Q  tl hT (.inl E) hf), ?_⟩
    intro ov w' hP
    rcases hP with ⟨h1, rfl, rfl⟩ | ⟨B, v9, w2, h1, h2, rfl, rfl⟩
    · cases h1
      exact ⟨congrArg (fun z : Int64 => some (Value.long z)) wv_S.symm, ⟨T, N, V, Q, tl, pmD.symm, hT, hI⟩⟩
    · cases h1
  · rw [hu]
    refine ⟨_, _, hp.trans pmD, c_L_undo l D k (cA 0)  _ _ (stW k tA V) (.inr _) _ rfl rfl (fun E9 h9 => by cases h9) (fun B ov w h9 h8 => by cases h9; exact ⟨_, h8.1⟩) (c_X1_undo l hst D k cA nA tA T N Q  tl hT (.inr (v, T', N', Q')) hf), ?_⟩
    intro ov w' hP
    rcases hP with ⟨h1, rfl, rfl⟩ | ⟨B, v9, w2, h1, h2, rfl, rfl⟩
    · cases h1
    · cases h1
      obtain ⟨e1, tl9, hT9, rfl⟩ := h2
      cases e1
      exact ⟨rfl, ⟨T', N', V, Q', tl9, pmD.symm, hT9, hI'⟩⟩
theorem e_ahead {n : Nat} {R : Nat → Nat} {p1 : Int32} {p2 : Int32} {p3 : Int32} {E : String} (h : u_ahead n R p1 p2 p3 = .inl E) : E = xB ∨ E = xR := by
  unfold u_ahead at h
  repeat' split at h
  all_goals first | (cases h; done) | (cases h; simp; done)
set_option maxHeartbeats 1000000 in
theorem co_ahead (l : Launch) (hst : l.stackTraces = false) (D : va_G) (k : Nat → ClassId) (cA nA tA : Nat → Nat) (X : XV) (w : va_W) (hw : Ob k cA nA tA X w) (p1 : Int32) (p2 : Int32) (p3 : Int32) (v : Int64) (h : o_ahead X p1 p2 p3 = some v) : CO l D k yL_ahead wsL_ahead ({ frames := 8, cells := 3, slots := 18, locals := 127 } : Room) [.ref (cA 0), .int p1, .int p2, .int p3] w (fun (ov : Option Value) (w' : va_W) => ov = some (.long v) ∧ Ob k cA nA tA X w') := by
  obtain ⟨hX, h⟩ := gQ_l h
  cases h
  obtain ⟨T, N, V, Q, tl, hp, hT, hI⟩ := hw
  obtain ⟨V', hf⟩ := a_ahead (T := T) (V := V) hI.1 hX.1.1 hX.c5 p1 p2 p3
  cases hu : u_ahead (x_n X) (x_R X) p1 p2 p3 with
  | inl E =>
    rw [hu] at hf
    refine ⟨_, _, hp.trans pmC, c_L_ahead l D k (cA 0) p1 p2 p3 _ _ tl (.inl E) _ rfl rfl (fun E9 h9 => by cases h9; exact (e_ahead hu)) (fun B ov w h9 => by cases h9) (c_X1_ahead l hst D k cA nA tA T N V p1 p2 p3 (.inl E) hf), ?_⟩
    intro ov w' hP
    rcases hP with ⟨h1, rfl, rfl⟩ | ⟨h1, rfl, rfl⟩ | ⟨B, v9, w2, h1, h2, rfl, rfl⟩
    · cases h1
      exact ⟨congrArg (fun z : Int64 => some (Value.long z)) wv_B.symm, ⟨T, N, V, Q, tl, pmC.symm, hT, hI⟩⟩
    · cases h1
      exact ⟨congrArg (fun z : Int64 => some (Value.long z)) wv_R.symm, ⟨T, N, V, Q, tl, pmC.symm, hT, hI⟩⟩
    · cases h1
  | inr r =>
    rw [hu] at hf
    refine ⟨_, _, hp.trans pmC, c_L_ahead l D k (cA 0) p1 p2 p3 _ _ tl (.inr _) _ rfl rfl (fun E9 h9 => by cases h9) (fun B ov w h9 h8 => by cases h9; exact ⟨_, h8.1⟩) (c_X1_ahead l hst D k cA nA tA T N V p1 p2 p3 (.inr (r, V')) hf), ?_⟩
    intro ov w' hP
    rcases hP with ⟨h1, rfl, rfl⟩ | ⟨h1, rfl, rfl⟩ | ⟨B, v9, w2, h1, h2, rfl, rfl⟩
    · cases h1
    · cases h1
    · cases h1
      obtain ⟨e1, rfl⟩ := h2
      cases e1
      exact ⟨rfl, ⟨T, N, V', Q, tl, pmC.symm, hT, hI⟩⟩
theorem e_growth {n : Nat} {R : Nat → Nat} {p1 : Int32} {p2 : Int32} {E : String} (h : u_growth n R p1 p2 = .inl E) : E = xR := by
  unfold u_growth at h
  repeat' split at h
  all_goals first | (cases h; done) | (cases h; simp; done)
set_option maxHeartbeats 1000000 in
theorem co_growth (l : Launch) (hst : l.stackTraces = false) (D : va_G) (k : Nat → ClassId) (cA nA tA : Nat → Nat) (X : XV) (w : va_W) (hw : Ob k cA nA tA X w) (p1 : Int32) (p2 : Int32) (v : Int64) (h : o_growth X p1 p2 = some v) : CO l D k yL_growth wsL_growth ({ frames := 8, cells := 2, slots := 12, locals := 126 } : Room) [.ref (cA 0), .int p1, .int p2] w (fun (ov : Option Value) (w' : va_W) => ov = some (.long v) ∧ Ob k cA nA tA X w') := by
  obtain ⟨hX, h⟩ := gQ_l h
  cases h
  obtain ⟨T, N, V, Q, tl, hp, hT, hI⟩ := hw
  obtain ⟨V', hf⟩ := a_growth (T := T) (V := V) hI.1 hX.1.1 hX.c5 p1 p2
  cases hu : u_growth (x_n X) (x_R X) p1 p2 with
  | inl E =>
    rw [hu] at hf
    refine ⟨_, _, hp.trans pmC, c_L_growth l D k (cA 0) p1 p2 _ _ tl (.inl E) _ rfl rfl (fun E9 h9 => by cases h9; exact (e_growth hu)) (fun B ov w h9 => by cases h9) (c_X1_growth l hst D k cA nA tA T N V p1 p2 (.inl E) hf), ?_⟩
    intro ov w' hP
    rcases hP with ⟨h1, rfl, rfl⟩ | ⟨B, v9, w2, h1, h2, rfl, rfl⟩
    · cases h1
      exact ⟨congrArg (fun z : Int64 => some (Value.long z)) wv_R.symm, ⟨T, N, V, Q, tl, pmC.symm, hT, hI⟩⟩
    · cases h1
  | inr r =>
    rw [hu] at hf
    refine ⟨_, _, hp.trans pmC, c_L_growth l D k (cA 0) p1 p2 _ _ tl (.inr _) _ rfl rfl (fun E9 h9 => by cases h9) (fun B ov w h9 h8 => by cases h9; exact ⟨_, h8.1⟩) (c_X1_growth l hst D k cA nA tA T N V p1 p2 (.inr (r, V')) hf), ?_⟩
    intro ov w' hP
    rcases hP with ⟨h1, rfl, rfl⟩ | ⟨B, v9, w2, h1, h2, rfl, rfl⟩
    · cases h1
    · cases h1
      obtain ⟨e1, rfl⟩ := h2
      cases e1
      exact ⟨rfl, ⟨T, N, V', Q, tl, pmC.symm, hT, hI⟩⟩
theorem e_washGain {n : Nat} {R : Nat → Nat} {p1 : Int32} {p2 : Int32} {p3 : Int32} {E : String} (h : u_washGain n R p1 p2 p3 = .inl E) : E = xB ∨ E = xR ∨ E = xS := by
  unfold u_washGain at h
  repeat' split at h
  all_goals first | (cases h; done) | (cases h; simp; done)
set_option maxHeartbeats 1000000 in
theorem co_washGain (l : Launch) (hst : l.stackTraces = false) (D : va_G) (k : Nat → ClassId) (cA nA tA : Nat → Nat) (X : XV) (w : va_W) (hw : Ob k cA nA tA X w) (p1 : Int32) (p2 : Int32) (p3 : Int32) (v : Int64) (h : o_washGain X p1 p2 p3 = some v) : CO l D k yL_washGain wsL_washGain ({ frames := 8, cells := 4, slots := 24, locals := 128 } : Room) [.ref (cA 0), .int p1, .int p2, .int p3] w (fun (ov : Option Value) (w' : va_W) => ov = some (.long v) ∧ Ob k cA nA tA X w') := by
  obtain ⟨hX, h⟩ := gQ_l h
  cases h
  obtain ⟨T, N, V, Q, tl, hp, hT, hI⟩ := hw
  obtain ⟨V', hf⟩ := a_washGain (T := T) (V := V) hI.1 hX.1.1 hX.c5 p1 p2 p3
  cases hu : u_washGain (x_n X) (x_R X) p1 p2 p3 with
  | inl E =>
    rw [hu] at hf
    refine ⟨_, _, hp.trans pmC, c_L_washGain l D k (cA 0) p1 p2 p3 _ _ tl (.inl E) _ rfl rfl (fun E9 h9 => by cases h9; exact (e_washGain hu)) (fun B ov w h9 => by cases h9) (c_X1_washGain l hst D k cA nA tA T N V p1 p2 p3 (.inl E) hf), ?_⟩
    intro ov w' hP
    rcases hP with ⟨h1, rfl, rfl⟩ | ⟨h1, rfl, rfl⟩ | ⟨h1, rfl, rfl⟩ | ⟨B, v9, w2, h1, h2, rfl, rfl⟩
    · cases h1
      exact ⟨congrArg (fun z : Int64 => some (Value.long z)) wv_B.symm, ⟨T, N, V, Q, tl, pmC.symm, hT, hI⟩⟩
    · cases h1
      exact ⟨congrArg (fun z : Int64 => some (Value.long z)) wv_R.symm, ⟨T, N, V, Q, tl, pmC.symm, hT, hI⟩⟩
    · cases h1
      exact ⟨congrArg (fun z : Int64 => some (Value.long z)) wv_S.symm, ⟨T, N, V, Q, tl, pmC.symm, hT, hI⟩⟩
    · cases h1
  | inr r =>
    rw [hu] at hf
    refine ⟨_, _, hp.trans pmC, c_L_washGain l D k (cA 0) p1 p2 p3 _ _ tl (.inr _) _ rfl rfl (fun E9 h9 => by cases h9) (fun B ov w h9 h8 => by cases h9; exact ⟨_, h8.1⟩) (c_X1_washGain l hst D k cA nA tA T N V p1 p2 p3 (.inr (r, V')) hf), ?_⟩
    intro ov w' hP
    rcases hP with ⟨h1, rfl, rfl⟩ | ⟨h1, rfl, rfl⟩ | ⟨h1, rfl, rfl⟩ | ⟨B, v9, w2, h1, h2, rfl, rfl⟩
    · cases h1
    · cases h1
    · cases h1
    · cases h1
      obtain ⟨e1, rfl⟩ := h2
      cases e1
      exact ⟨rfl, ⟨T, N, V', Q, tl, pmC.symm, hT, hI⟩⟩
set_option maxHeartbeats 1000000 in
theorem co_bestTurns (l : Launch) (hst : l.stackTraces = false) (D : va_G) (k : Nat → ClassId) (cA nA tA : Nat → Nat) (X : XV) (w : va_W) (hw : Ob k cA nA tA X w) (p1 : Int32) (p2 : Int32) (v : Int64) (h : o_bestTurns X p1 p2 = some v) : CO l D k yL_bestTurns wsL_bestTurns ({ frames := 13, cells := 34, slots := 231, locals := 726 } : Room) [.ref (cA 0), .int p1, .int p2] w (fun (ov : Option Value) (w' : va_W) => ov = some (.long v) ∧ Ob k cA nA tA X w') := by
  obtain ⟨hX, h⟩ := gQ_l h
  cases h
  obtain ⟨T, N, V, Q, tl, hp, hT, hI⟩ := hw
  rcases ckX (p := p1) (lo := 1) (hi := 3) with ⟨e1, c⟩ | ⟨e1, c⟩
  · have hu : u_bestTurns (x_n X) (x_R X) p1 p2 = .inl xR := if_pos c
    rw [hu]
    refine ⟨_, _, hp.trans pmD, c_L_bestTurns l D k (cA 0) p1 p2 _ _ (stW k tA V) (.inl xR) _ rfl rfl (fun E9 h9 => by cases h9; exact rfl) (fun B ov w h9 => by cases h9) (c_X1_bestTurns_x l hst D k cA nA tA T N Q tl hT p1 p2 xR e1), ?_⟩
    intro ov w' hP
    rcases hP with ⟨h1, rfl, rfl⟩ | ⟨B, v9, w2, h1, h2, rfl, rfl⟩
    · cases h1
      exact ⟨congrArg (fun z : Int64 => some (Value.long z)) wv_R.symm, ⟨T, N, V, Q, tl, pmD.symm, hT, hI⟩⟩
    · cases h1
  · obtain ⟨j, hj, rfl, hj1⟩ := inR (H := 3) (by decide) (by decide) c
    have hj2 : 1 ≤ j := (nI_leF (a := 1) (by omega) (by omega)).mp hj1
    obtain ⟨t, rfl⟩ : ∃ t, j = t + 1 := ⟨j - 1, by omega⟩
    have hu : u_bestTurns (x_n X) (x_R X) (nI (t + 1)) p2 = .inr (btV (x_n X) (x_R X) t p2) := by
      unfold u_bestTurns
      rw [if_neg c, nI_cl (by omega), Nat.add_sub_cancel]
    rw [hu]
    refine ⟨_, _, hp.trans pmD, c_L_bestTurns l D k (cA 0) (nI (t + 1)) p2 _ _ (stW k tA V) (.inr _) _ rfl rfl (fun E9 h9 => by cases h9) (fun B ov w h9 h8 => by cases h9; exact ⟨_, h8.1⟩) (c_X1_bestTurns l hst D k cA nA tA T N Q tl hT (x_n X) t (x_R X) hI.1 hX.1.1 (by have := hX.c5; omega) (by omega) (fun b => c_X1_VC l hst D k t (by omega) b) p2), ?_⟩
    intro ov w' hP
    rcases hP with ⟨h1, rfl, rfl⟩ | ⟨B, v9, w2, h1, h2, rfl, rfl⟩
    · cases h1
    · cases h1
      obtain ⟨e1, V9, tl9, hT9, hV9, rfl⟩ := h2
      cases e1
      refine ⟨rfl, ⟨T, N, V, V9, tl9, pmD.symm, hT9, hI.1, hI.2.1, ⟨hI.2.2.1.1, ?_⟩, fun s hs => ?_⟩⟩
      · obtain ⟨w9, q1, q2, q3⟩ := hI.2.2.1.2
        refine ⟨w9, q1, q2, fun j r hj => ?_⟩
        obtain ⟨S, z1, z2⟩ := q3 j r hj
        exact ⟨S, by rw [hV9 _ (by omega)]; exact z1, z2⟩
      · rcases hI.2.2.2 s hs with y | ⟨r, y1, y2, S, y3, y4⟩
        · exact Or.inl y
        · exact Or.inr ⟨r, y1, y2, S, by rw [hV9 _ (by omega)]; exact y3, y4⟩
theorem e_scaledAfter {n : Nat} {R : Nat → Nat} {p1 : Int32} {p2 : Int32} {E : String} (h : u_scaledAfter n R p1 p2 = .inl E) : E = xB ∨ E = xR := by
  unfold u_scaledAfter at h
  repeat' split at h
  all_goals first | (cases h; done) | (cases h; simp; done)
set_option maxHeartbeats 1000000 in
theorem co_scaledAfter (l : Launch) (hst : l.stackTraces = false) (D : va_G) (k : Nat → ClassId) (cA nA tA : Nat → Nat) (X : XV) (w : va_W) (hw : Ob k cA nA tA X w) (p1 : Int32) (p2 : Int32) (v : Int64) (h : o_scaledAfter X p1 p2 = some v) : CO l D k yL_scaledAfter wsL_scaledAfter ({ frames := 8, cells := 7, slots := 42, locals := 127 } : Room) [.ref (cA 0), .int p1, .int p2] w (fun (ov : Option Value) (w' : va_W) => ov = some (.long v) ∧ Ob k cA nA tA X w') := by
  obtain ⟨hX, h⟩ := gQ_l h
  cases h
  obtain ⟨T, N, V, Q, tl, hp, hT, hI⟩ := hw
  obtain ⟨V', hf⟩ := a_scaledAfter (T := T) (V := V) hI.1 hX.1.1 hX.c5 p1 p2
  cases hu : u_scaledAfter (x_n X) (x_R X) p1 p2 with
  | inl E =>
    rw [hu] at hf
    refine ⟨_, _, hp.trans pmC, c_L_scaledAfter l D k (cA 0) p1 p2 _ _ tl (.inl E) _ rfl rfl (fun E9 h9 => by cases h9; exact (e_scaledAfter hu)) (fun B ov w h9 => by cases h9) (c_X1_scaledAfter l hst D k cA nA tA T N V p1 p2 (.inl E) hf), ?_⟩
    intro ov w' hP
    rcases hP with ⟨h1, rfl, rfl⟩ | ⟨h1, rfl, rfl⟩ | ⟨B, v9, w2, h1, h2, rfl, rfl⟩
    · cases h1
      exact ⟨congrArg (fun z : Int64 => some (Value.long z)) wv_B.symm, ⟨T, N, V, Q, tl, pmC.symm, hT, hI⟩⟩
    · cases h1
      exact ⟨congrArg (fun z : Int64 => some (Value.long z)) wv_R.symm, ⟨T, N, V, Q, tl, pmC.symm, hT, hI⟩⟩
    · cases h1
  | inr r =>
    rw [hu] at hf
    refine ⟨_, _, hp.trans pmC, c_L_scaledAfter l D k (cA 0) p1 p2 _ _ tl (.inr _) _ rfl rfl (fun E9 h9 => by cases h9) (fun B ov w h9 h8 => by cases h9; exact ⟨_, h8.1⟩) (c_X1_scaledAfter l hst D k cA nA tA T N V p1 p2 (.inr (r, V')) hf), ?_⟩
    intro ov w' hP
    rcases hP with ⟨h1, rfl, rfl⟩ | ⟨h1, rfl, rfl⟩ | ⟨B, v9, w2, h1, h2, rfl, rfl⟩
    · cases h1
    · cases h1
    · cases h1
      obtain ⟨e1, rfl⟩ := h2
      cases e1
      exact ⟨rfl, ⟨T, N, V', Q, tl, pmC.symm, hT, hI⟩⟩
theorem e_steamFor {n : Nat} {R : Nat → Nat} {p1 : Int32} {p2 : Int32} {E : String} (h : u_steamFor n R p1 p2 = .inl E) : E = xR := by
  unfold u_steamFor at h
  repeat' split at h
  all_goals first | (cases h; done) | (cases h; simp; done)
set_option maxHeartbeats 1000000 in
theorem co_steamFor (l : Launch) (hst : l.stackTraces = false) (D : va_G) (k : Nat → ClassId) (cA nA tA : Nat → Nat) (X : XV) (w : va_W) (hw : Ob k cA nA tA X w) (p1 : Int32) (p2 : Int32) (v : Int64) (h : o_steamFor X p1 p2 = some v) : CO l D k yL_steamFor wsL_steamFor ({ frames := 8, cells := 7, slots := 42, locals := 127 } : Room) [.ref (cA 0), .int p1, .int p2] w (fun (ov : Option Value) (w' : va_W) => ov = some (.long v) ∧ Ob k cA nA tA X w') := by
  obtain ⟨hX, h⟩ := gQ_l h
  cases h
  obtain ⟨T, N, V, Q, tl, hp, hT, hI⟩ := hw
  obtain ⟨V', hf⟩ := a_steamFor (T := T) (V := V) hI.1 hX.1.1 hX.c5 p1 p2
  cases hu : u_steamFor (x_n X) (x_R X) p1 p2 with
  | inl E =>
    rw [hu] at hf
    refine ⟨_, _, hp.trans pmC, c_L_steamFor l D k (cA 0) p1 p2 _ _ tl (.inl E) _ rfl rfl (fun E9 h9 => by cases h9; exact (e_steamFor hu)) (fun B ov w h9 => by cases h9) (c_X1_steamFor l hst D k cA nA tA T N V p1 p2 (.inl E) hf), ?_⟩
    intro ov w' hP
    rcases hP with ⟨h1, rfl, rfl⟩ | ⟨B, v9, w2, h1, h2, rfl, rfl⟩
    · cases h1
      exact ⟨congrArg (fun z : Int64 => some (Value.long z)) wv_R.symm, ⟨T, N, V, Q, tl, pmC.symm, hT, hI⟩⟩
    · cases h1
  | inr r =>
    rw [hu] at hf
    refine ⟨_, _, hp.trans pmC, c_L_steamFor l D k (cA 0) p1 p2 _ _ tl (.inr _) _ rfl rfl (fun E9 h9 => by cases h9) (fun B ov w h9 h8 => by cases h9; exact ⟨_, h8.1⟩) (c_X1_steamFor l hst D k cA nA tA T N V p1 p2 (.inr (r, V')) hf), ?_⟩
    intro ov w' hP
    rcases hP with ⟨h1, rfl, rfl⟩ | ⟨B, v9, w2, h1, h2, rfl, rfl⟩
    · cases h1
    · cases h1
      obtain ⟨e1, rfl⟩ := h2
      cases e1
      exact ⟨rfl, ⟨T, N, V', Q, tl, pmC.symm, hT, hI⟩⟩
theorem e_script {n : Nat} {R : Nat → Nat} {p1 : Int32} {p2 : Int64} {E : String} (h : u_script n R p1 p2 = .inl E) : E = xR := by
  unfold u_script oqv at h
  split at h
  · cases h
  · split at h
    · cases h
    · cases h; rfl
set_option maxHeartbeats 1000000 in
theorem co_script (l : Launch) (hst : l.stackTraces = false) (D : va_G) (k : Nat → ClassId) (cA nA tA : Nat → Nat) (X : XV) (w : va_W) (hw : Ob k cA nA tA X w) (p1 : Int32) (p2 : Int64) (v : Int64) (h : o_script X p1 p2 = some v) : CO l D k yL_script wsL_script ({ frames := 8, cells := 7, slots := 42, locals := 144 } : Room) [.ref (cA 0), .int p1, .long p2] w (fun (ov : Option Value) (w' : va_W) => ov = some (.long v) ∧ Ob k cA nA tA X w') := by
  obtain ⟨hX, h⟩ := gQ_l h
  cases h
  obtain ⟨T, N, V, Q, tl, hp, hT, hI⟩ := hw
  obtain ⟨V', hf⟩ := a_script (T := T) (V := V) hI.1 hX.1.1 hX.c5 p1 p2
  cases hu : u_script (x_n X) (x_R X) p1 p2 with
  | inl E =>
    rw [hu] at hf
    refine ⟨_, _, hp.trans pmC, c_L_script l D k (cA 0) p1 p2 _ _ tl (.inl E) _ rfl rfl (fun E9 h9 => by cases h9; exact (e_script hu)) (fun B ov w h9 => by cases h9) (c_X1_runScript l hst D k cA nA tA T N V p1 p2 (.inl E) hf), ?_⟩
    intro ov w' hP
    rcases hP with ⟨h1, rfl, rfl⟩ | ⟨B, v9, w2, h1, h2, rfl, rfl⟩
    · cases h1
      exact ⟨congrArg (fun z : Int64 => some (Value.long z)) wv_R.symm, ⟨T, N, V, Q, tl, pmC.symm, hT, hI⟩⟩
    · cases h1
  | inr r =>
    rw [hu] at hf
    refine ⟨_, _, hp.trans pmC, c_L_script l D k (cA 0) p1 p2 _ _ tl (.inr _) _ rfl rfl (fun E9 h9 => by cases h9) (fun B ov w h9 h8 => by cases h9; exact ⟨_, h8.1⟩) (c_X1_runScript l hst D k cA nA tA T N V p1 p2 (.inr (r, V')) hf), ?_⟩
    intro ov w' hP
    rcases hP with ⟨h1, rfl, rfl⟩ | ⟨B, v9, w2, h1, h2, rfl, rfl⟩
    · cases h1
    · cases h1
      obtain ⟨e1, rfl⟩ := h2
      cases e1
      exact ⟨rfl, ⟨T, N, V', Q, tl, pmC.symm, hT, hI⟩⟩
theorem e_simulate {n : Nat} {R : Nat → Nat} {p1 : Int64} {p3 : Int32} {E : String} (h : u_simulate n R p1 p3 = .inl E) : E = xR := by
  unfold u_simulate oqv at h
  split at h
  · cases h
  · split at h
    · cases h
    · cases h; rfl
set_option maxHeartbeats 1000000 in
theorem co_simulate (l : Launch) (hst : l.stackTraces = false) (D : va_G) (k : Nat → ClassId) (cA nA tA : Nat → Nat) (X : XV) (w : va_W) (hw : Ob k cA nA tA X w) (p1 : Int64) (p3 : Int32) (v : Int64) (h : o_simulate X p1 p3 = some v) : CO l D k yL_simulate wsL_simulate ({ frames := 8, cells := 7, slots := 42, locals := 131 } : Room) [.ref (cA 0), .long p1, .int p3] w (fun (ov : Option Value) (w' : va_W) => ov = some (.long v) ∧ Ob k cA nA tA X w') := by
  obtain ⟨hX, h⟩ := gQ_l h
  cases h
  obtain ⟨T, N, V, Q, tl, hp, hT, hI⟩ := hw
  obtain ⟨V', hf⟩ := a_simulate (T := T) (V := V) hI.1 hX.1.1 hX.c5 p1 p3
  cases hu : u_simulate (x_n X) (x_R X) p1 p3 with
  | inl E =>
    rw [hu] at hf
    refine ⟨_, _, hp.trans pmC, c_L_simulate l D k (cA 0) p1 p3 _ _ tl (.inl E) _ rfl rfl (fun E9 h9 => by cases h9; exact (e_simulate hu)) (fun B ov w h9 => by cases h9) (c_X1_simulate l hst D k cA nA tA T N V p1 p3 (.inl E) hf), ?_⟩
    intro ov w' hP
    rcases hP with ⟨h1, rfl, rfl⟩ | ⟨B, v9, w2, h1, h2, rfl, rfl⟩
    · cases h1
      exact ⟨congrArg (fun z : Int64 => some (Value.long z)) wv_R.symm, ⟨T, N, V, Q, tl, pmC.symm, hT, hI⟩⟩
    · cases h1
  | inr r =>
    rw [hu] at hf
    refine ⟨_, _, hp.trans pmC, c_L_simulate l D k (cA 0) p1 p3 _ _ tl (.inr _) _ rfl rfl (fun E9 h9 => by cases h9) (fun B ov w h9 h8 => by cases h9; exact ⟨_, h8.1⟩) (c_X1_simulate l hst D k cA nA tA T N V p1 p3 (.inr (r, V')) hf), ?_⟩
    intro ov w' hP
    rcases hP with ⟨h1, rfl, rfl⟩ | ⟨B, v9, w2, h1, h2, rfl, rfl⟩
    · cases h1
    · cases h1
      obtain ⟨e1, rfl⟩ := h2
      cases e1
      exact ⟨rfl, ⟨T, N, V', Q, tl, pmC.symm, hT, hI⟩⟩
set_option maxHeartbeats 1000000 in
theorem co_save (l : Launch) (hst : l.stackTraces = false) (D : va_G) (k : Nat → ClassId) (cA nA tA : Nat → Nat) (X : XV) (w : va_W) (hw : Ob k cA nA tA X w) (p1 : Int32) (r : Int64 × XV) (h : o_save X p1 = some r) : CO l D k yL_save wsL_save ({ frames := 8, cells := 12, slots := 81, locals := 123 } : Room) [.ref (cA 0), .int p1] w (fun (ov : Option Value) (w' : va_W) => ov = some (.long r.1) ∧ Ob k cA nA tA r.2 w') := by
  obtain ⟨hX, h⟩ := gQ_l h
  cases h
  obtain ⟨T, N, V, Q, tl, hp, hT, hI⟩ := hw
  rcases m_save hX hI p1 with ⟨E, hu, hf⟩ | ⟨v, X', T', Q', hu, hf, hI'⟩
  · rw [hu]
    have hE : E = xB := by
      unfold u_save at hu
      repeat' split at hu
      all_goals first | (cases hu; done) | (cases hu; simp; done)
    refine ⟨_, _, hp.trans pmD, c_L_save l D k (cA 0) p1 _ _ (stW k tA V) (.inl E) _ rfl rfl (fun E9 h9 => by cases h9; exact hE) (fun B ov w h9 => by cases h9) (c_X1_save l hst D k cA nA tA T N Q p1 tl hT (.inl E) hf), ?_⟩
    intro ov w' hP
    rcases hP with ⟨h1, rfl, rfl⟩ | ⟨B, v9, w2, h1, h2, rfl, rfl⟩
    · cases h1
      exact ⟨congrArg (fun z : Int64 => some (Value.long z)) wv_B.symm, ⟨T, N, V, Q, tl, pmD.symm, hT, hI⟩⟩
    · cases h1
  · rw [hu]
    refine ⟨_, _, hp.trans pmD, c_L_save l D k (cA 0) p1 _ _ (stW k tA V) (.inr _) _ rfl rfl (fun E9 h9 => by cases h9) (fun B ov w h9 h8 => by cases h9; exact ⟨_, h8.1⟩) (c_X1_save l hst D k cA nA tA T N Q p1 tl hT (.inr (v, T', Q')) hf), ?_⟩
    intro ov w' hP
    rcases hP with ⟨h1, rfl, rfl⟩ | ⟨B, v9, w2, h1, h2, rfl, rfl⟩
    · cases h1
    · cases h1
      obtain ⟨e1, tl9, hT9, rfl⟩ := h2
      cases e1
      exact ⟨rfl, ⟨T', N, V, Q', tl9, pmD.symm, hT9, hI'⟩⟩
set_option maxHeartbeats 1000000 in
theorem co_restore (l : Launch) (hst : l.stackTraces = false) (D : va_G) (k : Nat → ClassId) (cA nA tA : Nat → Nat) (X : XV) (w : va_W) (hw : Ob k cA nA tA X w) (p1 : Int32) (r : Int64 × XV) (h : o_restore X p1 = some r) : CO l D k yL_restore wsL_restore ({ frames := 8, cells := 12, slots := 81, locals := 123 } : Room) [.ref (cA 0), .int p1] w (fun (ov : Option Value) (w' : va_W) => ov = some (.long r.1) ∧ Ob k cA nA tA r.2 w') := by
  obtain ⟨hX, h⟩ := gQ_l h
  cases h
  obtain ⟨T, N, V, Q, tl, hp, hT, hI⟩ := hw
  rcases m_restore hX hI p1 with ⟨E, hu, hf⟩ | ⟨v, X', T', N', Q', hu, hf, hI'⟩
  · rw [hu]
    have hE : E = xB ∨ E = xS := by
      unfold u_restore at hu
      repeat' split at hu
      all_goals first | (cases hu; done) | (cases hu; simp; done)
    refine ⟨_, _, hp.trans pmD, c_L_restore l D k (cA 0) p1 _ _ (stW k tA V) (.inl E) _ rfl rfl (fun E9 h9 => by cases h9; exact hE) (fun B ov w h9 => by cases h9) (c_X1_restore l hst D k cA nA tA T N Q p1 tl hT (.inl E) hf), ?_⟩
    intro ov w' hP
    rcases hP with ⟨h1, rfl, rfl⟩ | ⟨h1, rfl, rfl⟩ | ⟨B, v9, w2, h1, h2, rfl, rfl⟩
    · cases h1
      exact ⟨congrArg (fun z : Int64 => some (Value.long z)) wv_B.symm, ⟨T, N, V, Q, tl, pmD.symm, hT, hI⟩⟩
    · cases h1
      exact ⟨congrArg (fun z : Int64 => some (Value.long z)) wv_S.symm, ⟨T, N, V, Q, tl, pmD.symm, hT, hI⟩⟩
    · cases h1
  · rw [hu]
    refine ⟨_, _, hp.trans pmD, c_L_restore l D k (cA 0) p1 _ _ (stW k tA V) (.inr _) _ rfl rfl (fun E9 h9 => by cases h9) (fun B ov w h9 h8 => by cases h9; exact ⟨_, h8.1⟩) (c_X1_restore l hst D k cA nA tA T N Q p1 tl hT (.inr (v, T', N', Q')) hf), ?_⟩
    intro ov w' hP
    rcases hP with ⟨h1, rfl, rfl⟩ | ⟨h1, rfl, rfl⟩ | ⟨B, v9, w2, h1, h2, rfl, rfl⟩
    · cases h1
    · cases h1
    · cases h1
      obtain ⟨e1, tl9, hT9, rfl⟩ := h2
      cases e1
      exact ⟨rfl, ⟨T', N', V, Q', tl9, pmD.symm, hT9, hI'⟩⟩
theorem e_share {n : Nat} {R : Nat → Nat} {p1 : Int32} {E : String} (h : u_share n R p1 = .inl E) : E = xB := by
  unfold u_share at h
  repeat' split at h
  all_goals first | (cases h; done) | (cases h; simp; done)
set_option maxHeartbeats 1000000 in
theorem co_share (l : Launch) (hst : l.stackTraces = false) (D : va_G) (k : Nat → ClassId) (cA nA tA : Nat → Nat) (X : XV) (w : va_W) (hw : Ob k cA nA tA X w) (p1 : Int32) (v : UInt32) (h : o_share X p1 = some v) : CO l D k yL_share wsL_share ({ frames := 8, cells := 1, slots := 6, locals := 125 } : Room) [.ref (cA 0), .int p1] w (fun (ov : Option Value) (w' : va_W) => ov = some (.float v) ∧ Ob k cA nA tA X w') := by
  obtain ⟨hX, h⟩ := gQ_l h
  cases h
  obtain ⟨T, N, V, Q, tl, hp, hT, hI⟩ := hw
  have hf := a_share (T := T) hI.1 hX.1.1 p1
  cases hu : u_share (x_n X) (x_R X) p1 with
  | inl E =>
    rw [hu] at hf
    refine ⟨_, _, hp.trans pmB, c_L_share l D k (cA 0) p1 _ _ (stW k tA V ++ tl) (.inl E) _ rfl rfl (fun E9 h9 => by cases h9; exact (e_share hu)) (fun B ov w h9 => by cases h9) (c_X1_share l hst D k cA nA tA T N p1 (.inl E) hf), ?_⟩
    intro ov w' hP
    rcases hP with ⟨h1, rfl, rfl⟩ | ⟨B, v9, w2, h1, h2, rfl, rfl⟩
    · cases h1
      exact ⟨rfl, ⟨T, N, V, Q, tl, pmB.symm, hT, hI⟩⟩
    · cases h1
  | inr r =>
    rw [hu] at hf
    refine ⟨_, _, hp.trans pmB, c_L_share l D k (cA 0) p1 _ _ (stW k tA V ++ tl) (.inr _) _ rfl rfl (fun E9 h9 => by cases h9) (fun B ov w h9 h8 => by cases h9; exact ⟨_, h8.1⟩) (c_X1_share l hst D k cA nA tA T N p1 (.inr r) hf), ?_⟩
    intro ov w' hP
    rcases hP with ⟨h1, rfl, rfl⟩ | ⟨B, v9, w2, h1, h2, rfl, rfl⟩
    · cases h1
    · cases h1
      obtain ⟨e1, rfl⟩ := h2
      cases e1
      exact ⟨rfl, ⟨T, N, V, Q, tl, pmB.symm, hT, hI⟩⟩
theorem co_economy (l : Launch) (hst : l.stackTraces = false) (D : va_G) (k : Nat → ClassId) (cA nA tA : Nat → Nat) (X : XV) (w : va_W) (hw : Ob k cA nA tA X w) (v : UInt32) (h : o_economy X = some v) : COx l D k yX1_economy wsX1_economy ({ frames := 0, cells := 0, slots := 0, locals := 0 } : Room) (cA 0) [] w (fun (ov : Option Value) (w' : va_W) => ov = some (.float v) ∧ Ob k cA nA tA X w') := by
  obtain ⟨hX, h⟩ := gQ_l h
  cases h
  obtain ⟨T, N, V, Q, tl, hp, hT, hI⟩ := hw
  have h54 : x_R X 54 < 2147483648 := by have h9 : x_R X 54 ≤ 98901 * 600 := hX.1.2.2.1 0 (by omega); omega
  have hf := a_economy (T := T) hI.1 h54
  refine COx_of hp pmB rfl (c_X1_economy l hst D k cA nA tA T N (.inr _) hf) (fun ov w' hB => ?_)
  obtain ⟨rfl, rfl⟩ := hB
  exact ⟨rfl, T, N, V, Q, tl, pmB.symm, hT, hI⟩
theorem co_errorPosition (l : Launch) (hst : l.stackTraces = false) (D : va_G) (k : Nat → ClassId) (cA nA tA : Nat → Nat) (X : XV) (w : va_W) (hw : Ob k cA nA tA X w) (v : Int32) (h : o_errorPosition X = some v) : COx l D k yX1_errorPosition wsX1_errorPosition ({ frames := 2, cells := 0, slots := 0, locals := 52 } : Room) (cA 0) [] w (fun (ov : Option Value) (w' : va_W) => ov = some (.int v) ∧ Ob k cA nA tA X w') := by
  obtain ⟨hX, h⟩ := gQ_l h
  cases h
  obtain ⟨T, N, V, Q, tl, hp, hT, hI⟩ := hw
  obtain ⟨T', hf, hI'⟩ := m_errPos hX hI
  refine COx_of hp pmA rfl (c_X1_errorPosition l hst D k cA nA tA T (.inr (u_errPos X, T')) hf) (fun ov w' hB => ?_)
  obtain ⟨rfl, rfl⟩ := hB
  exact ⟨rfl, T', N, V, Q, tl, pmA.symm, hT, hI'⟩
theorem co_clearText (l : Launch) (hst : l.stackTraces = false) (D : va_G) (k : Nat → ClassId) (cA nA tA : Nat → Nat) (X : XV) (w : va_W) (hw : Ob k cA nA tA X w) (r : Int32 × XV) (h : o_clearText X = some r) : COx l D k yX1_clearText wsX1_clearText ({ frames := 0, cells := 0, slots := 0, locals := 0 } : Room) (cA 0) [] w (fun (ov : Option Value) (w' : va_W) => ov = some (.int r.1) ∧ Ob k cA nA tA r.2 w') := by
  obtain ⟨hX, h⟩ := gQ_l h
  cases h
  obtain ⟨T, N, V, Q, tl, hp, hT, hI⟩ := hw
  obtain ⟨T', hf, hI'⟩ := m_clear hI
  refine COx_of hp pmA rfl (c_X1_clearText l hst D k cA nA tA T (.inr ((u_clear X).1, T')) hf) (fun ov w' hB => ?_)
  obtain ⟨rfl, rfl⟩ := hB
  exact ⟨rfl, T', N, V, Q, tl, pmA.symm, hT, hI'⟩
