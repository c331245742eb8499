/-! the bits are ordered as the values are -/
theorem ifc {p q : Prop} [Decidable p] [Decidable q] {α : Type} {a b : α} (h : p ↔ q) : (if p then a else b) = (if q then a else b) := by
  by_cases c : p
  · rw [if_pos c, if_pos (h.mp c)]
  · rw [if_neg c, if_neg (fun d => c (h.mpr d))]
theorem zval_mono {m n : Nat} (h : m ≤ n) : zep m ≤ zep n := by
  unfold zep
  have : m / 4503599627370496 ≤ n / 4503599627370496 := Nat.div_le_div_right h
  omega
theorem zam_pos {m : Nat} (h : m ≠ 0) : 0 < zam m := by
  unfold zam
  split <;> omega
theorem zam_lt' {m : Nat} : zam m < 9007199254740992 := by
  unfold zam
  split <;> omega
theorem zam_lt_same {m n : Nat} (h : m < n) (he : zep m = zep n) : zam m < zam n := by
  unfold zep at he
  unfold zam
  split <;> split <;> omega
theorem zam_le_same {m n : Nat} (h : m ≤ n) (he : zep m = zep n) : zam m ≤ zam n := by
  unfold zep at he
  unfold zam
  split <;> split <;> omega
theorem zam_up {m n : Nat} (h : zep m < zep n) : 4503599627370496 ≤ zam n := by
  unfold zep at h
  unfold zam
  split <;> omega
theorem zep_lt {m : Nat} (h : m < 9218868437227405312) : zep m ≤ 2045 := by
  unfold zep
  omega
theorem zep_lt' {m : Nat} (h : m < 9223372036854775808) : zep m ≤ 2046 := by
  unfold zep
  omega
/-- the smaller's amount against the greater's, lifted to the smaller's power -/
theorem zval_le {m n : Nat} (h : m ≤ n) : zam m ≤ zam n * 2 ^ (zep n - zep m) := by
  have hm := zval_mono h
  rcases Nat.lt_or_ge (zep m) (zep n) with q | q
  · have h1 := zam_up q
    have h2 : 2 ^ 1 ≤ 2 ^ (zep n - zep m) := p2le (by omega)
    have h3 := Nat.mul_le_mul h1 h2
    have h4 := @zam_lt' m
    generalize zam n * 2 ^ (zep n - zep m) = y at h3 ⊢
    omega
  · rw [show zep n - zep m = 0 by omega, Nat.pow_zero, Nat.mul_one]
    exact zam_le_same h (by omega)
theorem zval_lt {m n : Nat} (h : m < n) : zam m < zam n * 2 ^ (zep n - zep m) := by
  have hm := zval_mono (Nat.le_of_lt h)
  rcases Nat.lt_or_ge (zep m) (zep n) with q | q
  · have h1 := zam_up q
    have h2 : 2 ^ 1 ≤ 2 ^ (zep n - zep m) := p2le (by omega)
    have h3 := Nat.mul_le_mul h1 h2
    have h4 := @zam_lt' m
    generalize zam n * 2 ^ (zep n - zep m) = y at h3 ⊢
    omega
  · rw [show zep n - zep m = 0 by omega, Nat.pow_zero, Nat.mul_one]
    exact zam_lt_same h (by omega)
theorem l_neg_iff (x : Int64) : x < 0 ↔ x.toBitVec.msb = true := by
  rw [l_lt, BitVec.msb_eq_decide, decide_eq_true_iff]
  have h := l_bv x
  have r := l_rng x
  have l := x.toBitVec.isLt
  show x.toInt < 0 ↔ 9223372036854775808 ≤ x.toBitVec.toNat
  omega
theorem l_xor_neg (a b : Int64) : (a ^^^ b) < 0 ↔ ¬ (a < 0 ↔ b < 0) := by
  rw [l_neg_iff, l_neg_iff, l_neg_iff, Int64.toBitVec_xor, BitVec.msb_xor]
  cases a.toBitVec.msb <;> cases b.toBitVec.msb <;> decide
theorem l_sgn_eq {a b : Int64} (h : a < 0 ↔ b < 0) : (a &&& (-9223372036854775808)) = (b &&& (-9223372036854775808)) := by
  apply bv_ext
  rw [l_sgn, l_sgn]
  rw [l_lt, l_lt] at h
  have h1 := l_bv a
  have h2 := l_bv b
  have r1 := l_rng a
  have r2 := l_rng b
  have e0 : (0 : Int64).toInt = 0 := rfl
  rw [e0] at h
  have l1 := a.toBitVec.isLt
  have l2 := b.toBitVec.isLt
  have e : a.toBitVec.toNat / 9223372036854775808 = b.toBitVec.toNat / 9223372036854775808 := by
    by_cases c : a.toInt < 0
    · have c2 := h.mp c
      omega
    · have c2 : ¬ b.toInt < 0 := fun q => c (h.mpr q)
      omega
  rw [e]
theorem zmg_flip (b : Int64) : zmg (b ^^^ (-9223372036854775808)) = zmg b := by
  unfold zmg
  rw [Int64.toBitVec_xor, BitVec.toNat_xor]
  show (b.toBitVec.toNat ^^^ 9223372036854775808) % 2 ^ 63 = b.toBitVec.toNat % 2 ^ 63
  rw [Nat.xor_mod_two_pow]
  show b.toBitVec.toNat % 2 ^ 63 ^^^ 0 = _
  rw [Nat.xor_zero]
theorem zam_0 {m : Nat} : zam m = 0 ↔ m = 0 := by
  unfold zam
  split <;> omega
