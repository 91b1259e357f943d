/-! the simulation's own numbers -/
theorem rnd (v : Int64) : ∃ r : Nat, r < 2147483648 ∧ ((v.toUInt64 >>> ((33 : Int32).toInt64.toUInt64 &&& Int64.toUInt64 63)).toInt64).toInt32 = nI r := by
  have h33 : ((33 : Int32).toInt64.toUInt64 &&& Int64.toUInt64 63) = 33 := by decide +kernel
  rw [h33]
  generalize v.toUInt64 = u
  have hb : (u >>> 33).toNat < 2147483648 := by
    rw [UInt64.toNat_shiftRight, show (33 : UInt64).toNat % 64 = 33 by decide, Nat.shiftRight_eq_div_pow]
    have := u.toNat_lt
    omega
  refine ⟨(u >>> 33).toNat, hb, ?_⟩
  generalize u >>> 33 = w at hb ⊢
  apply Int32.toInt_inj.mp
  rw [nI_toInt (show w.toNat < 2 ^ 31 by omega), Int64.toInt_toInt32]
  have h64 : w.toInt64.toInt = (w.toNat : Int) := by
    show w.toBitVec.toInt = _
    rw [BitVec.toInt_eq_toNat_of_lt (by show 2 * w.toNat < 2 ^ 64; omega)]
    rfl
  rw [h64, Int.bmod_eq_of_le (by omega) (by omega)]
