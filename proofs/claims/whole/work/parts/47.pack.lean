/-! numbers by their bits; the reference's small words -/
/-- the bits without the sign -/
def zmg (a : Int64) : Nat := a.toBitVec.toNat % 9223372036854775808
/-- a finite number is zam * 2^zep * 2^-1074 -/
def zam (m : Nat) : Nat := if m / 4503599627370496 = 0 then m else m % 4503599627370496 + 4503599627370496
def zep (m : Nat) : Nat := m / 4503599627370496 - 1
theorem zmg_lt (a : Int64) : zmg a < 9223372036854775808 := Nat.mod_lt _ (by decide)
theorem l_mag (a : Int64) : (a &&& 9223372036854775807).toInt = (zmg a : Int) := by
  have h1 : (a &&& 9223372036854775807).toBitVec.toNat = a.toBitVec.toNat % 2 ^ 63 := by
    rw [Int64.toBitVec_and, BitVec.toNat_and]
    show a.toBitVec.toNat &&& (2 ^ 63 - 1) = _
    rw [Nat.and_two_pow_sub_one_eq_mod]
  rw [l_ofN h1 (Nat.mod_lt _ (by decide))]
  rfl
theorem nat_and_shl (x y n : Nat) : x &&& (y * 2 ^ n) = (x / 2 ^ n &&& y) * 2 ^ n := by
  apply Nat.eq_of_testBit_eq
  intro i
  rw [Nat.testBit_and, Nat.testBit_mul_two_pow, Nat.testBit_mul_two_pow, Nat.testBit_and, Nat.testBit_div_two_pow]
  by_cases h : n ≤ i
  · rw [show i - n + n = i by omega]
    simp [h]
  · simp [h]
theorem l_exp (a : Int64) : (a &&& 9218868437227405312).toInt = ((zmg a / 4503599627370496 * 4503599627370496 : Nat) : Int) := by
  have h1 : (a &&& 9218868437227405312).toBitVec.toNat = zmg a / 4503599627370496 * 4503599627370496 := by
    rw [Int64.toBitVec_and, BitVec.toNat_and]
    show a.toBitVec.toNat &&& (2047 * 2 ^ 52) = _
    rw [nat_and_shl, show (2047 : Nat) = 2 ^ 11 - 1 from rfl, Nat.and_two_pow_sub_one_eq_mod]
    unfold zmg
    have := a.toBitVec.isLt
    omega
  have := zmg_lt a
  rw [l_ofN h1 (by omega)]
theorem M_isNan (a : Int64) : f_M_isNan a = some (if 9218868437227405312 < zmg a then 1 else 0) := by
  unfold f_M_isNan
  have h := l_mag a
  by_cases hc : 9218868437227405312 < zmg a
  · rw [if_pos hc, if_pos (by rw [l_lt, h]; show (9218868437227405312 : Int) < _; omega)]
  · rw [if_neg hc, if_neg (by rw [l_lt, h]; show ¬ (9218868437227405312 : Int) < _; omega)]
theorem M_isInfinite (a : Int64) : f_M_isInfinite a = some (if zmg a = 9218868437227405312 then 1 else 0) := by
  unfold f_M_isInfinite
  have h := l_mag a
  by_cases hc : zmg a = 9218868437227405312
  · rw [if_pos hc, if_pos (by rw [l_eq, h, hc]; rfl)]
  · rw [if_neg hc, if_neg (by rw [l_eq, h]; show ¬ _ = (9218868437227405312 : Int); omega)]
theorem M_isZero (a : Int64) : f_M_isZero a = some (if zmg a = 0 then 1 else 0) := by
  unfold f_M_isZero
  have h := l_mag a
  by_cases hc : zmg a = 0
  · rw [if_pos hc, if_pos (by rw [l_eq, h, hc]; rfl)]
  · rw [if_neg hc, if_neg (by rw [l_eq, h]; show ¬ _ = (0 : Int); omega)]
theorem l_frac (a : Int64) : (a &&& 4503599627370495).toInt = ((zmg a % 4503599627370496 : Nat) : Int) := by
  rw [l_andN 52 (by decide) rfl]
  unfold zmg
  congr 1
  omega
theorem M_amount (a : Int64) : ∃ d, f_M_amount a = some d ∧ d.toInt = (zam (zmg a) : Int) := by
  unfold f_M_amount zam
  have h := l_exp a
  have hf := l_frac a
  have hl := zmg_lt a
  by_cases hc : zmg a / 4503599627370496 = 0
  · rw [if_pos hc, if_pos (by rw [l_eq, h, hc]; rfl)]
    refine ⟨_, rfl, ?_⟩
    rw [hf]
    congr 1
    omega
  · rw [if_neg hc, if_neg (by rw [l_eq, h]; show ¬ _ = (0 : Int); omega)]
    refine ⟨_, rfl, ?_⟩
    have hcomm : (a &&& 4503599627370495) ||| 4503599627370496 = 4503599627370496 ||| (a &&& 4503599627370495) := Int64.or_comm _ _
    rw [hcomm, l_or 52 1 (zmg a % 4503599627370496) rfl hf (by omega), hf]
    show (4503599627370496 : Int) + _ = _
    omega
theorem M_power (a : Int64) : ∃ d, f_M_power a = some d ∧ d.toInt = (zep (zmg a) : Int) - 1074 := by
  unfold f_M_power zep
  have hl := zmg_lt a
  have e1 : (jlushr a 52 &&& 2047).toInt = ((zmg a / 4503599627370496 : Nat) : Int) := by
    rw [l_andN 11 (by decide) rfl, l_ushrN a (n := 52) rfl (by decide)]
    unfold zmg
    congr 1
    have := a.toBitVec.isLt
    omega
  have e2 : ((jlushr a 52 &&& 2047).toInt32).toInt = ((zmg a / 4503599627370496 : Nat) : Int) := by
    rw [l2i, e1] <;> rw [e1] <;> omega
  by_cases hc : zmg a / 4503599627370496 = 0
  · rw [if_pos (by rw [i_eq, e2, hc]; rfl)]
    refine ⟨_, rfl, ?_⟩
    rw [hc]
    rfl
  · rw [if_neg (by rw [i_eq, e2]; show ¬ _ = (0 : Int); omega)]
    refine ⟨_, rfl, ?_⟩
    have e3 : (1075 : Int32).toInt = 1075 := rfl
    rw [i_sub, e2, e3] <;> (try rw [e2, e3]) <;> omega
/-- a row of bits with the mark of infinity as its end -/
def zpk (L k : Nat) : Nat := if 9218868437227405312 ≤ L * 4503599627370496 + k then 9218868437227405312 else L * 4503599627370496 + k
theorem M_packed {x0 x2 : Int64} {x4 : Int32} {v L : Nat} (hv : x2.toInt = v) (h4 : x4.toInt = (L : Int) - 1074) (hL : L < 1000000) (hv2 : v ≤ 9007199254740992) (hsm : v < 4503599627370496 → L = 0) :
    f_M_packed x0 x2 x4 = some (x0 ||| lN (zpk L v)) := by
  have e53 : (9007199254740992 : Int64).toInt = 9007199254740992 := rfl
  have e52 : (4503599627370496 : Int64).toInt = 4503599627370496 := rfl
  have e1 : (1 : Int32).toInt = 1 := rfl
  have e1075 : (1075 : Int32).toInt = 1075 := rfl
  have e2047 : (2047 : Int32).toInt = 2047 := rfl
  -- the common end, with w and e
  have key : ∀ (w : Int64) (s0 : Int32) (n e : Nat), w.toInt = (n : Int) → s0.toInt = (e : Int) - 1074 → e < 1000001 → n < 9007199254740992 → (n < 4503599627370496 → e = 0) → f_M_packed_34 x0 w s0 = some (x0 ||| lN (zpk e n)) := by
    intro w s0 n e hw hs he hn hns
    unfold f_M_packed_34
    by_cases hc : n < 4503599627370496
    · have := hns hc
      subst this
      rw [if_pos (by rw [l_lt, hw, e52]; omega)]
      unfold zpk
      rw [if_neg (by omega), Nat.zero_mul, Nat.zero_add, lN_of' hw]
    · rw [if_neg (by rw [l_lt, hw, e52]; omega)]
      have hs2 : (s0 + 1075).toInt = ((e + 1 : Nat) : Int) := by
        rw [i_add, hs, e1075] <;> (try rw [hs, e1075]) <;> omega
      by_cases hc2 : e + 1 < 2047
      · rw [if_pos (by rw [i_lt, hs2, e2047]; omega)]
        have h52 : (jlshl (s0 + 1075).toInt64 52).toInt = ((2 ^ 52 * (e + 1) : Nat) : Int) := by
          have e3 : ((s0 + 1075).toInt64).toInt * ((2 ^ 52 : Nat) : Int) = ((2 ^ 52 * (e + 1) : Nat) : Int) := by rw [i2l, hs2, Nat.mul_comm]; exact (Int.natCast_mul _ _).symm
          rw [l_shl (n := 52) rfl (by decide), e3] <;> (try rw [e3]) <;> omega
        have hsub : (w - 4503599627370496).toInt = ((n - 4503599627370496 : Nat) : Int) := by
          rw [l_sub, hw, e52] <;> (try rw [hw, e52]) <;> omega
        rw [Int64.or_assoc]
        refine congrArg (fun z => some (x0 ||| z)) (lN_of' ?_)
        rw [l_or 52 (e + 1) (n - 4503599627370496) h52 hsub (by omega), h52, hsub]
        unfold zpk
        rw [if_neg (by omega)]
        omega
      · rw [if_neg (by rw [i_lt, hs2, e2047]; omega)]
        unfold zpk
        rw [if_pos (by omega)]
        rfl
  unfold f_M_packed f_M_packed_15
  by_cases hc : v = 9007199254740992
  · rw [if_pos (by rw [l_eq, hv, e53]; omega), if_pos (by rw [l_eq, hv, e53]; omega)]
    have h41 : (x4 + 1).toInt = ((L + 1 : Nat) : Int) - 1074 := by
      rw [i_add, h4, e1] <;> (try rw [h4, e1]) <;> omega
    have hz : zpk (L + 1) 4503599627370496 = zpk L 9007199254740992 := by
      unfold zpk
      rw [show (L + 1) * 4503599627370496 + 4503599627370496 = L * 4503599627370496 + 9007199254740992 by omega]
    rw [key _ _ 4503599627370496 (L + 1) rfl h41 (by omega) (by decide) (fun h => absurd h (by decide)), hc, hz]
  · rw [if_neg (by rw [l_eq, hv, e53]; omega), if_neg (by rw [l_eq, hv, e53]; omega)]
    exact key _ _ v L hv h4 (by omega) (by omega) hsm
