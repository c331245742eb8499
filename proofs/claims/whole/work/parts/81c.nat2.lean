/-! Natural, more -/
theorem add_car (v w k : Nat) : (v + w) / 1073741824 ^ k = (v % 1073741824 ^ k + w % 1073741824 ^ k) / 1073741824 ^ k + (v / 1073741824 ^ k + w / 1073741824 ^ k) := by
  have h : v + w = (v % 1073741824 ^ k + w % 1073741824 ^ k) + 1073741824 ^ k * (v / 1073741824 ^ k + w / 1073741824 ^ k) := by
    have e1 := Nat.div_add_mod v (1073741824 ^ k)
    have e2 := Nat.div_add_mod w (1073741824 ^ k)
    rw [Nat.mul_add]
    omega
  have e : (v + w) / 1073741824 ^ k = ((v % 1073741824 ^ k + w % 1073741824 ^ k) + 1073741824 ^ k * (v / 1073741824 ^ k + w / 1073741824 ^ k)) / 1073741824 ^ k := congrArg (· / 1073741824 ^ k) h
  rw [e, Nat.add_mul_div_left _ _ (nBp k)]
theorem add_carS (v w k : Nat) : (v % 1073741824 ^ (k + 1) + w % 1073741824 ^ (k + 1)) / 1073741824 ^ (k + 1) = ((v % 1073741824 ^ k + w % 1073741824 ^ k) / 1073741824 ^ k + (nd v k + nd w k)) / 1073741824 := by
  have h : v % 1073741824 ^ (k + 1) + w % 1073741824 ^ (k + 1) = (v % 1073741824 ^ k + w % 1073741824 ^ k) + 1073741824 ^ k * (nd v k + nd w k) := by
    rw [nd_mod, nd_mod, Nat.mul_add]
    omega
  rw [h, Nat.pow_succ, ← Nat.div_div_eq_div_mul, Nat.add_mul_div_left _ _ (nBp k)]
theorem add_dig (v w k : Nat) : nd (v + w) k = ((v % 1073741824 ^ k + w % 1073741824 ^ k) / 1073741824 ^ k + (nd v k + nd w k)) % 1073741824 := by
  have e : nd (v + w) k = (v + w) / 1073741824 ^ k % 1073741824 := rfl
  rw [e, add_car, nd_div v k, nd_div w k]
  generalize (v % 1073741824 ^ k + w % 1073741824 ^ k) / 1073741824 ^ k = c
  generalize v / 1073741824 ^ (k + 1) = x
  generalize w / 1073741824 ^ (k + 1) = y
  omega
theorem add_carL (v w k : Nat) : (v % 1073741824 ^ k + w % 1073741824 ^ k) / 1073741824 ^ k < 2 := by
  apply Nat.div_lt_of_lt_mul
  have h1 := Nat.mod_lt v (nBp k)
  have h2 := Nat.mod_lt w (nBp k)
  omega
