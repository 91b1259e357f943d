/-! floats: how thick an effect is lies in 0 to 1, and is 0 without solids alone -/
theorem l2f_i (x : Int32) : FP.l2f x.toInt64 = FP.i2f x := by
  show UInt32.ofNat (FP.Core.fromInt FP.Core.b32 x.toInt64.toInt) = UInt32.ofNat (FP.Core.fromInt FP.Core.b32 x.toInt)
  rw [Int32.toInt_toInt64]
/-- a small whole number as a float: its datum -/
theorem i2f_dat {s : Nat} (hs : s ≤ 5000) : ∃ (c : Nat) (q : Int), FP.Core.val32 (FP.i2f (nI s)) = .fin false c q ∧ q ≤ 0 ∧ -149 ≤ q ∧ c = s * 2 ^ (-q).toNat := by
  have hi : (nI s).toInt = (s : Int) := nI_toInt (lt31 (by omega))
  have hw : FP.Core.FInt (nI s).toInt (FP.Core.i2f (nI s)) := FP.Core.i2f_int (by rw [hi]; omega)
  have hv : FP.Core.val32 (FP.Core.i2f (nI s)) = FP.Core.round FP.Core.b32 (FP.Core.ofInt (nI s).toInt) := FP.Core.val32_i2f _
  have hf := FP.Core.val32_fits (FP.Core.i2f (nI s))
  have hsg : FP.Core.sgn (FP.Core.val32 (FP.Core.i2f (nI s))) = false := by
    rw [hv, hi]
    show FP.Core.sgn (FP.Core.roundRatio FP.Core.b32 (decide ((s : Int) < 0)) _ 1 0) = false
    rw [FP.Core.sgn_roundRatio, decide_eq_false_iff_not]
    omega
  unfold FP.Core.FInt at hw
  show ∃ (c : Nat) (q : Int), FP.Core.val32 (FP.Core.i2f (nI s)) = .fin false c q ∧ _
  cases hd : FP.Core.val32 (FP.Core.i2f (nI s)) with
  | nan => rw [hd] at hw; exact hw.elim
  | inf t => rw [hd] at hw; exact hw.elim
  | fin t c q =>
    rw [hd] at hw hf hsg
    have ht : t = false := hsg
    subst ht
    obtain ⟨h1, h2, h3, h4⟩ := hf
    have hq0 : (FP.Core.b32).qmin = -149 := by decide +kernel
    have ht0 : (FP.Core.b32).tails = 8388608 := by decide +kernel
    rw [hq0] at h2 h4
    rw [ht0] at h4
    have hw2 : ((c * 2 ^ q.toNat : Nat) : Int) = (s : Int) * ((2 ^ (-q).toNat : Nat) : Int) := by
      have h9 : FP.Core.signed false (c * 2 ^ q.toNat) = (nI s).toInt * ((2 ^ (-q).toNat : Nat) : Int) := hw
      rw [hi] at h9
      exact h9
    have hw3 : c * 2 ^ q.toNat = s * 2 ^ (-q).toNat := by exact_mod_cast hw2
    have hq : q ≤ 0 := by
      refine Int.not_lt.mp fun hlt => ?_
      have e1 : (-q).toNat = 0 := by omega
      rw [e1, Nat.pow_zero, Nat.mul_one] at hw3
      have h8 : 8388608 ≤ c := by
        rcases h4 with h4 | h4
        · omega
        · exact h4
      have : c * 1 ≤ c * 2 ^ q.toNat := Nat.mul_le_mul_left c (Nat.two_pow_pos _)
      omega
    refine ⟨c, q, rfl, hq, h2, ?_⟩
    have e1 : q.toNat = 0 := by omega
    rw [e1, Nat.pow_zero, Nat.mul_one] at hw3
    exact hw3
theorem sh_dat {s a : Nat} (ha : a ≤ 5000) (h0 : 0 < a) (hs : s ≤ a) : ∃ d : FP.Core.Datum, FP.Core.val32 (FP.fdiv (FP.i2f (nI s)) (FP.i2f (nI a))) = d ∧ d ≠ .nan ∧ 0 ≤ FP.Core.zval FP.Core.b32 d ∧ FP.Core.zval FP.Core.b32 d ≤ FP.Core.zval FP.Core.b32 (FP.Core.val32 FP.fconst1) ∧ (FP.Core.zval FP.Core.b32 d = 0 ↔ s = 0) := by
  obtain ⟨c, q, e1, q1, q2, e2⟩ := i2f_dat (s := s) (by omega)
  obtain ⟨d, r, e3, r1, r2, e4⟩ := i2f_dat (s := a) ha
  have hd : d ≠ 0 := by
    rw [e4]
    exact Nat.ne_of_gt (Nat.mul_pos h0 (Nat.two_pow_pos _))
  have hv : FP.Core.val32 (FP.fdiv (FP.i2f (nI s)) (FP.i2f (nI a))) = FP.Core.roundRatio FP.Core.b32 false c d (q - r) := by
    have h9 : FP.Core.val32 (FP.Core.fdiv (FP.i2f (nI s)) (FP.i2f (nI a))) = _ := FP.Core.val32_fdiv _ _
    rw [e1, e3] at h9
    refine h9.trans ?_
    show (if d = 0 then _ else FP.Core.roundRatio FP.Core.b32 (false != false) c d (q - r)) = _
    rw [if_neg hd]
    rfl
  have hB : 0 < d := Nat.pos_of_ne_zero hd
  have hq0 : (FP.Core.b32).qmin = -149 := by decide +kernel
  have hsg := FP.Core.sgn_roundRatio FP.Core.b32 false c d (q - r)
  have hz : FP.Core.zval FP.Core.b32 (FP.Core.roundRatio FP.Core.b32 false c d (q - r)) = ((FP.Core.zmag FP.Core.b32 (FP.Core.roundRatio FP.Core.b32 false c d (q - r)) : Nat) : Int) := by
    unfold FP.Core.zval
    rw [hsg]
    rfl
  -- units
  obtain ⟨e0, he0, he1, he2⟩ : ∃ e0 : Int, e0 ≤ -149 ∧ e0 ≤ q - r ∧ e0 ≤ 0 := ⟨min (-149) (q - r), by omega, by omega, by omega⟩
  have hu : FP.Core.inUnits c (q - r) e0 = s * 2 ^ (-r).toNat * 2 ^ (-e0).toNat := by
    unfold FP.Core.inUnits
    rw [e2, Nat.mul_assoc, Nat.mul_assoc, ← Nat.pow_add, ← Nat.pow_add]
    congr 2
    omega
  have h1 : FP.Core.fits FP.Core.b32 (FP.Core.val32 FP.fconst1) := FP.Core.val32_fits _
  have hm1 : FP.Core.zmag FP.Core.b32 (FP.Core.val32 FP.fconst1) = 2 ^ 149 := by decide +kernel
  have hz1 : FP.Core.zval FP.Core.b32 (FP.Core.val32 FP.fconst1) = ((2 ^ 149 : Nat) : Int) := by decide +kernel
  have hn1 : FP.Core.val32 FP.fconst1 ≠ .nan := by decide +kernel
  have le1 : FP.Core.zmag FP.Core.b32 (FP.Core.roundRatio FP.Core.b32 false c d (q - r)) ≤ 2 ^ 149 := by
    rw [← hm1]
    refine FP.Core.zmag_roundRatio_le FP.Core.good_b32 hB h1 hn1 (e0 := e0) (by rw [hq0]; exact he0) he1 ?_
    rw [hu, hm1, hq0, e4, ← Nat.pow_add, show 149 + (-149 - e0).toNat = (-e0).toNat by omega, Nat.mul_comm (2 ^ (-e0).toNat)]
    exact Nat.mul_le_mul_right _ (Nat.mul_le_mul_right _ hs)
  refine ⟨_, hv, FP.Core.roundRatio_ne_nan _ _ _ _ _, ?_, ?_, ?_⟩
  · rw [hz]; omega
  · rw [hz, hz1]; exact_mod_cast le1
  · constructor
    · intro h9
      refine Nat.eq_zero_of_not_pos fun hs0 => ?_
      have hf1 : FP.Core.fits FP.Core.b32 (.fin false 1 (-149)) := by
        refine ⟨?_, ?_, ?_, ?_⟩
        · decide +kernel
        · rw [hq0]; omega
        · decide +kernel
        · left; rw [hq0]
      have hmm : FP.Core.zmag FP.Core.b32 (.fin false 1 (-149)) = 1 := by decide +kernel
      have ge1 : 1 ≤ FP.Core.zmag FP.Core.b32 (FP.Core.roundRatio FP.Core.b32 false c d (q - r)) := by
        rw [← hmm]
        refine FP.Core.zmag_roundRatio_ge FP.Core.good_b32 hB hf1 (e0 := e0) (by rw [hq0]; exact he0) he1 ?_
        rw [hu, hmm, hq0, e4, Nat.one_mul, show (-e0).toNat = 149 + (-149 - e0).toNat by omega, Nat.pow_add]
        have h5 : a ≤ s * 2 ^ 149 := by
          have : 1 * 2 ^ 149 ≤ s * 2 ^ 149 := Nat.mul_le_mul_right _ hs0
          have : (5000 : Nat) ≤ 2 ^ 149 := by decide
          omega
        have h6 := Nat.mul_le_mul_right (2 ^ (-r).toNat * 2 ^ (-149 - e0).toNat) h5
        have e6 : 2 ^ (-149 - e0).toNat * (a * 2 ^ (-r).toNat) = a * (2 ^ (-r).toNat * 2 ^ (-149 - e0).toNat) := by
          rw [Nat.mul_comm, Nat.mul_assoc]
        have e7 : s * 2 ^ (-r).toNat * (2 ^ 149 * 2 ^ (-149 - e0).toNat) = s * 2 ^ 149 * (2 ^ (-r).toNat * 2 ^ (-149 - e0).toNat) := by
          ac_rfl
        rw [e6, e7]
        exact h6
      rw [hz] at h9
      omega
    · intro h9
      have hc : c = 0 := by rw [e2, h9, Nat.zero_mul]
      rw [hc]
      unfold FP.Core.roundRatio
      rw [if_pos rfl]
      decide +kernel
theorem fc_self {v : UInt32} (h : FP.Core.val32 v ≠ .nan) : Op.cmpValue (FP.fcmp v v) .l = 0 := by
  have h9 : FP.fcmp v v = some .eq := FP.Core.fcmp_self h
  rw [h9]
  rfl
theorem nan_of {v : UInt32} (h : nn32 v = true) : FP.Core.val32 v ≠ .nan := by
  unfold nn32 at h
  rw [decide_eq_true_iff, UInt32.le_iff_toNat_le, UInt32.toNat_and, show (0x7fffffff : UInt32).toNat = 2 ^ 31 - 1 from rfl, Nat.and_two_pow_sub_one_eq_mod] at h
  exact (FP.Core.ne_nan32 _).mpr h
theorem zero_nn : FP.Core.val32 FP.fconst0 ≠ .nan := by decide +kernel
theorem zero_zv : FP.Core.zval FP.Core.b32 (FP.Core.val32 FP.fconst0) = 0 := by decide +kernel
theorem one_zv : 0 ≤ FP.Core.zval FP.Core.b32 (FP.Core.val32 FP.fconst1) := by decide +kernel
theorem one_nn : FP.Core.val32 FP.fconst1 ≠ .nan := by decide +kernel
theorem ec_nn (R : Nat → Nat) (h : R 54 < 2147483648) : FP.Core.val32 (ecV R) ≠ .nan := by
  unfold ecV
  by_cases e : R 54 = 0
  · rw [if_pos e]; exact zero_nn
  · rw [if_neg e]
    exact nan_of (NaN_ok _ _ (nI_ne0 (by omega) (lt31 h)))
/-- what the law asks of a share -/
theorem sh_ok {R : Nat → Nat} {i : Nat} (h : amN R i ≤ 5000) : FP.Core.val32 (shV R i) ≠ .nan ∧ ¬ Op.cmpValue (FP.fcmp (shV R i) FP.fconst0) .l < 0 ∧ ¬ 0 < Op.cmpValue (FP.fcmp (shV R i) FP.fconst1) .g ∧ (Op.cmpValue (FP.fcmp (shV R i) FP.fconst0) .l = 0 ↔ R (12 + i) = 0) := by
  have key : ∃ d, FP.Core.val32 (shV R i) = d ∧ d ≠ .nan ∧ 0 ≤ FP.Core.zval FP.Core.b32 d ∧ FP.Core.zval FP.Core.b32 d ≤ FP.Core.zval FP.Core.b32 (FP.Core.val32 FP.fconst1) ∧ (FP.Core.zval FP.Core.b32 d = 0 ↔ R (12 + i) = 0) := by
    unfold shV
    by_cases e : amN R i = 0
    · rw [if_pos e]
      refine ⟨_, rfl, zero_nn, by rw [zero_zv]; exact Int.le_refl _, by rw [zero_zv]; exact one_zv, fun _ => ?_, fun _ => zero_zv⟩
      unfold amN at e
      omega
    · rw [if_neg e]
      exact sh_dat h (by omega) (by unfold amN; omega)
  obtain ⟨d, e1, e2, e3, e4, e5⟩ := key
  have n1 : FP.Core.val32 (shV R i) ≠ .nan := by rw [e1]; exact e2
  have g0 : FP.fcmp (shV R i) FP.fconst0 = some .gt ∨ FP.fcmp (shV R i) FP.fconst0 = some .eq := FP.Core.fcmp_ge.mpr ⟨n1, zero_nn, by rw [zero_zv, e1]; exact e3⟩
  have g1 : FP.fcmp (shV R i) FP.fconst1 = some .lt ∨ FP.fcmp (shV R i) FP.fconst1 = some .eq := FP.Core.fcmp_le.mpr ⟨n1, one_nn, by rw [e1]; exact e4⟩
  have ge : FP.fcmp (shV R i) FP.fconst0 = some .eq ↔ R (12 + i) = 0 := by
    rw [← e5]
    constructor
    · intro h9
      have := (FP.Core.fcmp_eq.mp h9).2.2
      rw [zero_zv, e1] at this
      exact this
    · intro h9
      exact FP.Core.fcmp_eq.mpr ⟨n1, zero_nn, by rw [zero_zv, e1]; exact h9⟩
  refine ⟨n1, ?_, ?_, ?_⟩
  · rcases g0 with g | g <;> rw [g] <;> decide
  · rcases g1 with g | g <;> rw [g] <;> decide
  · rw [← ge]
    rcases g0 with g | g <;> rw [g]
    · exact ⟨fun h9 => absurd h9 (by decide), fun h9 => by cases h9⟩
    · exact ⟨fun _ => rfl, fun _ => rfl⟩
