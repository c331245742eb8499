/-! a number is its sign and its other bits; rounding a number gives it -/
theorem l_sgn (a : Int64) : (a &&& (-9223372036854775808)).toBitVec.toNat = a.toBitVec.toNat / 9223372036854775808 * 9223372036854775808 := by
  rw [Int64.toBitVec_and, BitVec.toNat_and]
  show a.toBitVec.toNat &&& (1 * 2 ^ 63) = _
  rw [nat_and_shl, show (1 : Nat) = 2 ^ 1 - 1 from rfl, Nat.and_two_pow_sub_one_eq_mod]
  have := a.toBitVec.isLt
  omega
theorem bv_ext {x y : Int64} (h : x.toBitVec.toNat = y.toBitVec.toNat) : x = y := Int64.toBitVec_inj.mp (BitVec.eq_of_toNat_eq h)
theorem lN_bits {n : Nat} (h : n < 18446744073709551616) : (lN n).toBitVec.toNat = n := by
  show (BitVec.ofNat 64 n).toNat = n
  rw [BitVec.toNat_ofNat]
  exact Nat.mod_eq_of_lt h
theorem sgn_or (a : Int64) : (a &&& (-9223372036854775808)) ||| lN (zmg a) = a := by
  apply bv_ext
  have hz := zmg_lt a
  have hA := a.toBitVec.isLt
  rw [Int64.toBitVec_or, BitVec.toNat_or, l_sgn, lN_bits (by omega)]
  have e : a.toBitVec.toNat / 9223372036854775808 * 9223372036854775808 = 2 ^ 63 * (a.toBitVec.toNat / 9223372036854775808) := Nat.mul_comm _ _
  rw [e, ← Nat.two_pow_add_eq_or_of_lt (show zmg a < 2 ^ 63 from hz)]
  unfold zmg
  have := Nat.div_add_mod a.toBitVec.toNat 9223372036854775808
  exact this
theorem zrd_self {m : Nat} (h : m < 9218868437227405312) : zrd (zam m) 0 (zep m) = m := by
  by_cases h0 : m = 0
  · subst h0
    exact zrd_0 _
  · by_cases c : m / 4503599627370496 = 0
    · have e1 : zam m = m := by unfold zam; rw [if_pos c]
      have e2 : zep m = 0 := by unfold zep; omega
      have := zrd_up (v := m) (E := 0) (k := 0) (by omega) (by omega) (by rw [Nat.pow_zero]; omega) (fun _ => rfl)
      rw [Nat.pow_zero, Nat.mul_one, Nat.sub_zero] at this
      rw [e1, e2]
      rw [show ((0 : Nat) : Int) = 0 from rfl] at this ⊢
      rw [this]
      unfold zpk
      rw [if_neg (by omega)]
      omega
    · have e1 : zam m = m % 4503599627370496 + 4503599627370496 := by unfold zam; rw [if_neg c]
      have e2 : zep m = m / 4503599627370496 - 1 := rfl
      have := zrd_up (v := zam m) (E := zep m) (k := 0) (by omega) (by omega) (by rw [Nat.pow_zero]; omega) (fun q => by rw [Nat.pow_zero] at q; omega)
      rw [Nat.pow_zero, Nat.mul_one, Nat.sub_zero] at this
      rw [this]
      unfold zpk
      rw [if_neg (by omega)]
      omega
