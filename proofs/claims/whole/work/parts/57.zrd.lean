/-! one word for what is rounded: (V + mo/2) * 2^(E - 1074) -/
def zrd (V mo : Nat) (E : Int) : Nat := zRB ((2 * V + mo) * 2 ^ E.toNat) (2 * 2 ^ (-E).toNat)
theorem zrd_0 (E : Int) : zrd 0 0 E = 0 := by
  unfold zrd
  rw [Nat.mul_zero, Nat.add_zero, Nat.zero_mul, zRB_0]
theorem zrd_shift (V k : Nat) (E : Int) : zrd (V * 2 ^ k) 0 E = zrd V 0 (E + k) := by
  unfold zrd
  rw [Nat.add_zero, Nat.add_zero]
  rcases Int.lt_or_le E 0 with q | q
  · obtain ⟨e, he⟩ : ∃ e : Nat, E = -(e : Int) := ⟨(-E).toNat, by omega⟩
    rcases Int.lt_or_le (E + k) 0 with w | w
    · rw [show E.toNat = 0 by omega, show (-E).toNat = e by omega, show (E + (k : Int)).toNat = 0 by omega, show (-(E + (k : Int))).toNat = e - k by omega, Nat.pow_zero, Nat.mul_one, Nat.mul_one, ← Nat.mul_assoc]
      have e1 : 2 * 2 ^ e = 2 * 2 ^ (e - k) * 2 ^ k := by rw [Nat.mul_assoc, ← Nat.pow_add, show e - k + k = e by omega]
      rw [e1, zRB_mul (p2pos k)]
    · rw [show E.toNat = 0 by omega, show (-E).toNat = e by omega, show (E + (k : Int)).toNat = k - e by omega, show (-(E + (k : Int))).toNat = 0 by omega, Nat.pow_zero, Nat.mul_one, Nat.mul_one]
      have e1 : 2 * (V * 2 ^ k) = 2 * V * 2 ^ (k - e) * 2 ^ e := by rw [Nat.mul_assoc (2 * V), ← Nat.pow_add, show k - e + e = k by omega, Nat.mul_assoc]
      rw [e1, zRB_mul (p2pos e)]
  · rw [show (-E).toNat = 0 by omega, show (-(E + (k : Int))).toNat = 0 by omega, show (E + (k : Int)).toNat = k + E.toNat by omega, Nat.pow_add, ← Nat.mul_assoc, ← Nat.mul_assoc]
theorem M_round' (c1 c2 c3 c4 c5 : Int32) {r : Nat → Int32} (hr : mOK r) {a mo : Nat} {x1 : Int64} {x3 x4 x5 : Int32} {E : Int} (ha : a < 6) (ha4 : a ≠ 4) (hx3 : x3.toInt = a) (h4 : x4.toInt = E - 1074) (hE1 : -100000 < E) (hE2 : E < 100000) (h5 : x5.toInt = mo) (hmo : mo < 2) (hmo2 : mo = 1 → 55 ≤ zlen (mV r a)) :
    ∃ r', f_M_round c1 c2 c3 c4 c5 r x1 x3 x4 x5 = some (x1 ||| lN (zrd (mV r a) mo E), r') ∧ mS r r' := M_round c1 c2 c3 c4 c5 hr ha ha4 hx3 h4 hE1 hE2 h5 hmo hmo2
theorem B_round' {x0 x2 : Int64} {x4 : Int32} {V : Nat} {E : Int} (hV : x2.toInt = V) (h4 : x4.toInt = E - 1074) (hE1 : -100000 < E) (hE2 : E < 100000) :
    f_B_round x0 x2 x4 = some (x0 ||| lN (zrd V 0 E)) := by
  have h := B_round (x0 := x0) hV h4 hE1 hE2
  unfold zrd
  rw [Nat.add_zero]
  exact h
