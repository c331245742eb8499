/-! ints and longs by the whole numbers behind them -/
theorem i_rng (x : Int32) : -2147483648 ≤ x.toInt ∧ x.toInt < 2147483648 := ⟨by have := Int32.le_toInt x; omega, by have := Int32.toInt_lt x; omega⟩
theorem l_rng (x : Int64) : -9223372036854775808 ≤ x.toInt ∧ x.toInt < 9223372036854775808 := ⟨by have := Int64.le_toInt x; omega, by have := Int64.toInt_lt x; omega⟩
theorem i_ext {x y : Int32} (h : x.toInt = y.toInt) : x = y := Int32.toInt_inj.mp h
theorem l_ext {x y : Int64} (h : x.toInt = y.toInt) : x = y := Int64.toInt_inj.mp h
theorem i_add {x y : Int32} (h1 : -2147483648 ≤ x.toInt + y.toInt) (h2 : x.toInt + y.toInt < 2147483648) : (x + y).toInt = x.toInt + y.toInt := by
  rw [Int32.toInt_add]; exact Int.bmod_eq_of_le (by omega) (by omega)
theorem i_sub {x y : Int32} (h1 : -2147483648 ≤ x.toInt - y.toInt) (h2 : x.toInt - y.toInt < 2147483648) : (x - y).toInt = x.toInt - y.toInt := by
  rw [Int32.toInt_sub]; exact Int.bmod_eq_of_le (by omega) (by omega)
theorem i_mul {x y : Int32} (h1 : -2147483648 ≤ x.toInt * y.toInt) (h2 : x.toInt * y.toInt < 2147483648) : (x * y).toInt = x.toInt * y.toInt := by
  rw [Int32.toInt_mul]; exact Int.bmod_eq_of_le (by omega) (by omega)
theorem i_neg {x : Int32} (h : -2147483648 < x.toInt) : (-x).toInt = -x.toInt := by
  have := i_rng x
  rw [Int32.toInt_neg]; exact Int.bmod_eq_of_le (by omega) (by omega)
theorem l_add {x y : Int64} (h1 : -9223372036854775808 ≤ x.toInt + y.toInt) (h2 : x.toInt + y.toInt < 9223372036854775808) : (x + y).toInt = x.toInt + y.toInt := by
  rw [Int64.toInt_add]; exact Int.bmod_eq_of_le (by omega) (by omega)
theorem l_sub {x y : Int64} (h1 : -9223372036854775808 ≤ x.toInt - y.toInt) (h2 : x.toInt - y.toInt < 9223372036854775808) : (x - y).toInt = x.toInt - y.toInt := by
  rw [Int64.toInt_sub]; exact Int.bmod_eq_of_le (by omega) (by omega)
theorem l_mul {x y : Int64} (h1 : -9223372036854775808 ≤ x.toInt * y.toInt) (h2 : x.toInt * y.toInt < 9223372036854775808) : (x * y).toInt = x.toInt * y.toInt := by
  rw [Int64.toInt_mul]; exact Int.bmod_eq_of_le (by omega) (by omega)
theorem l_neg {x : Int64} (h : -9223372036854775808 < x.toInt) : (-x).toInt = -x.toInt := by
  have := l_rng x
  rw [Int64.toInt_neg]; exact Int.bmod_eq_of_le (by omega) (by omega)
theorem i2l (x : Int32) : x.toInt64.toInt = x.toInt := Int32.toInt_toInt64 x
theorem l2i {x : Int64} (h1 : -2147483648 ≤ x.toInt) (h2 : x.toInt < 2147483648) : x.toInt32.toInt = x.toInt := by
  rw [Int64.toInt_toInt32]; exact Int.bmod_eq_of_le (by omega) (by omega)
theorem i_lt {x y : Int32} : x < y ↔ x.toInt < y.toInt := Int32.lt_iff_toInt_lt
theorem i_le {x y : Int32} : x ≤ y ↔ x.toInt ≤ y.toInt := Int32.le_iff_toInt_le
theorem i_eq {x y : Int32} : x = y ↔ x.toInt = y.toInt := Int32.toInt_inj.symm
theorem l_lt {x y : Int64} : x < y ↔ x.toInt < y.toInt := Int64.lt_iff_toInt_lt
theorem l_le {x y : Int64} : x ≤ y ↔ x.toInt ≤ y.toInt := Int64.le_iff_toInt_le
theorem l_eq {x y : Int64} : x = y ↔ x.toInt = y.toInt := Int64.toInt_inj.symm
theorem i_cl {x : Int32} : x.toNatClampNeg = x.toInt.toNat := rfl
theorem i_bv (x : Int32) : (x.toBitVec.toNat : Int) = x.toInt % 4294967296 := by
  have h : x.toInt = x.toBitVec.toInt := rfl
  rw [h, BitVec.toInt_eq_toNat_cond]
  have := x.toBitVec.isLt
  split <;> omega
theorem l_bv (x : Int64) : (x.toBitVec.toNat : Int) = x.toInt % 18446744073709551616 := by
  have h : x.toInt = x.toBitVec.toInt := rfl
  rw [h, BitVec.toInt_eq_toNat_cond]
  have := x.toBitVec.isLt
  split <;> omega
theorem l_ofN {x : Int64} {n : Nat} (h : x.toBitVec.toNat = n) (hn : n < 9223372036854775808) : x.toInt = n := by
  have h1 : x.toInt = x.toBitVec.toInt := rfl
  rw [h1, BitVec.toInt_eq_toNat_cond]
  split <;> omega
theorem i_ofN {x : Int32} {n : Nat} (h : x.toBitVec.toNat = n) (hn : n < 2147483648) : x.toInt = n := by
  have h1 : x.toInt = x.toBitVec.toInt := rfl
  rw [h1, BitVec.toInt_eq_toNat_cond]
  split <;> omega
theorem p2lt {a b : Nat} (h : a < b) : (2 : Nat) ^ a < 2 ^ b := Nat.pow_lt_pow_right (by decide) h
theorem p2le {a b : Nat} (h : a ≤ b) : (2 : Nat) ^ a ≤ 2 ^ b := Nat.pow_le_pow_right (by decide) h
theorem p2pos (a : Nat) : 0 < 2 ^ a := Nat.two_pow_pos a
theorem p2i (a : Nat) : ((2 ^ a : Nat) : Int) = 2 ^ a := by push_cast; rfl
/-- a mask of k ones -/
theorem l_and {x m : Int64} (k : Nat) (hk : k < 63) (hm : m.toInt = ((2 ^ k - 1 : Nat) : Int)) : (x &&& m).toInt = x.toInt % ((2 ^ k : Nat) : Int) := by
  have hp := p2pos k
  have hp2 : 2 ^ k ≤ 2 ^ 62 := p2le (by omega)
  have hmb : m.toBitVec.toNat = 2 ^ k - 1 := by
    have h := l_bv m
    rw [hm] at h
    omega
  have h1 : (x &&& m).toBitVec.toNat = x.toBitVec.toNat % 2 ^ k := by
    rw [Int64.toBitVec_and, BitVec.toNat_and, hmb, Nat.and_two_pow_sub_one_eq_mod]
  have hlt : x.toBitVec.toNat % 2 ^ k < 2 ^ k := Nat.mod_lt _ hp
  rw [l_ofN h1 (by omega)]
  have h2 := l_bv x
  have hd : ((2 ^ k : Nat) : Int) ∣ 18446744073709551616 := by
    refine ⟨((2 ^ (64 - k) : Nat) : Int), ?_⟩
    have : 2 ^ k * 2 ^ (64 - k) = 18446744073709551616 := by rw [← Nat.pow_add, show k + (64 - k) = 64 by omega]
    rw [← Int.natCast_mul, this]; rfl
  rw [Int.natCast_emod, h2]
  exact Int.emod_emod_of_dvd _ hd
theorem i_and {x m : Int32} (k : Nat) (hk : k < 31) (hm : m.toInt = ((2 ^ k - 1 : Nat) : Int)) : (x &&& m).toInt = x.toInt % ((2 ^ k : Nat) : Int) := by
  have hp := p2pos k
  have hp2 : 2 ^ k ≤ 2 ^ 30 := p2le (by omega)
  have hmb : m.toBitVec.toNat = 2 ^ k - 1 := by
    have h := i_bv m
    rw [hm] at h
    omega
  have h1 : (x &&& m).toBitVec.toNat = x.toBitVec.toNat % 2 ^ k := by
    rw [Int32.toBitVec_and, BitVec.toNat_and, hmb, Nat.and_two_pow_sub_one_eq_mod]
  have hlt : x.toBitVec.toNat % 2 ^ k < 2 ^ k := Nat.mod_lt _ hp
  rw [i_ofN h1 (by omega)]
  have h2 := i_bv x
  have hd : ((2 ^ k : Nat) : Int) ∣ 4294967296 := by
    refine ⟨((2 ^ (32 - k) : Nat) : Int), ?_⟩
    have : 2 ^ k * 2 ^ (32 - k) = 4294967296 := by rw [← Nat.pow_add, show k + (32 - k) = 32 by omega]
    rw [← Int.natCast_mul, this]; rfl
  rw [Int.natCast_emod, h2]
  exact Int.emod_emod_of_dvd _ hd
/-- shifts by n, told by the count's whole number -/
theorem c_i2l : ∀ n, n < 64 → ((nI n).toInt64 &&& 63) = lN n := by decide
theorem nI_of' {s : Int32} {n : Nat} (h : s.toInt = n) : s = nI n := by
  apply i_ext
  have := i_rng s
  rw [h, nI_toInt (by omega)]
theorem lN_of' {s : Int64} {n : Nat} (h : s.toInt = n) : s = lN n := by
  apply l_ext
  have := l_rng s
  rw [h, pk_lT (by omega)]
theorem l_shr {x : Int64} {s : Int32} {n : Nat} (hs : s.toInt = n) (hn : n < 64) : (jlshr x s).toInt = x.toInt / ((2 ^ n : Nat) : Int) := by
  rw [nI_of' hs]
  unfold jlshr
  rw [c_i2l n hn]
  have h1 : (x >>> lN n).toBitVec = x.toBitVec.sshiftRight ((lN n).toBitVec.smod 64).toNat := by
    rw [Int64.toBitVec_shiftRight]; rfl
  have h2 : ∀ n, n < 64 → ((lN n).toBitVec.smod 64).toNat = n := by decide
  rw [h2 n hn] at h1
  show (x >>> lN n).toBitVec.toInt = _
  rw [h1, BitVec.toInt_sshiftRight, Int.shiftRight_eq_div_pow]
  rfl
theorem i_shr {x s : Int32} {n : Nat} (hs : s.toInt = n) (hn : n < 32) : (jshr x s).toInt = x.toInt / ((2 ^ n : Nat) : Int) := by
  rw [nI_of' hs]
  unfold jshr
  have h2 : ∀ n, n < 32 → ((nI n &&& 31).toBitVec.smod 32).toNat = n := by decide
  rw [pk_shr x (nI n &&& 31) n (h2 n hn), Int.shiftRight_eq_div_pow]
theorem l_shlN (x : Int64) {s : Int32} {n : Nat} (hs : s.toInt = n) (hn : n < 64) : (jlshl x s).toBitVec.toNat = x.toBitVec.toNat * 2 ^ n % 18446744073709551616 := by
  rw [nI_of' hs]
  unfold jlshl
  rw [c_i2l n hn]
  have h2 : ∀ n, n < 64 → ((lN n).toBitVec.smod 64).toNat = n := by decide
  rw [Int64.toBitVec_shiftLeft]
  show (x.toBitVec <<< ((lN n).toBitVec.smod 64).toNat).toNat = _
  rw [h2 n hn, BitVec.toNat_shiftLeft, Nat.shiftLeft_eq]
theorem l_shl {x : Int64} {s : Int32} {n : Nat} (hs : s.toInt = n) (hn : n < 64) (h1 : -9223372036854775808 ≤ x.toInt * ((2 ^ n : Nat) : Int)) (h2 : x.toInt * ((2 ^ n : Nat) : Int) < 9223372036854775808) : (jlshl x s).toInt = x.toInt * ((2 ^ n : Nat) : Int) := by
  have e1 := l_bv (jlshl x s)
  have e2 := l_bv x
  have r := l_rng (jlshl x s)
  rw [l_shlN x hs hn, Int.natCast_emod, Int.natCast_mul, e2] at e1
  have e3 : (x.toInt % 18446744073709551616 * ((2 ^ n : Nat) : Int)) % 18446744073709551616 = x.toInt * ((2 ^ n : Nat) : Int) % 18446744073709551616 := by
    rw [Int.mul_emod, Int.emod_emod_of_dvd _ (Int.dvd_refl _), ← Int.mul_emod]
  have e4 : ((18446744073709551616 : Nat) : Int) = 18446744073709551616 := rfl
  rw [e4, e3] at e1
  omega
theorem l_ushrN (x : Int64) {s : Int32} {n : Nat} (hs : s.toInt = n) (hn : n < 64) : (jlushr x s).toBitVec.toNat = x.toBitVec.toNat / 2 ^ n := by
  rw [nI_of' hs]
  unfold jlushr
  have h2 : ∀ n, n < 64 → ((((nI n).toInt64.toUInt64 &&& Int64.toUInt64 63).toBitVec % 64 : BitVec 64)).toNat = n := by decide
  show ((x.toUInt64 >>> _).toBitVec).toNat = _
  rw [UInt64.toBitVec_shiftRight, BitVec.ushiftRight_eq', BitVec.toNat_ushiftRight, Nat.shiftRight_eq_div_pow]
  exact congrArg (fun k => x.toBitVec.toNat / 2 ^ k) (h2 n hn)
theorem l_ushr {x : Int64} {s : Int32} {n : Nat} (hs : s.toInt = n) (hn : n < 64) (h0 : 0 ≤ x.toInt ∨ 0 < n) : (jlushr x s).toInt = x.toInt % 18446744073709551616 / ((2 ^ n : Nat) : Int) := by
  have e1 := l_bv x
  have hp := p2pos n
  have hlt : x.toBitVec.toNat / 2 ^ n < 9223372036854775808 := by
    rcases h0 with h0 | h0
    · have r := l_rng x
      have : x.toBitVec.toNat < 9223372036854775808 := by omega
      exact Nat.lt_of_le_of_lt (Nat.div_le_self _ _) this
    · have h2 : 2 ^ 1 ≤ 2 ^ n := p2le (by omega)
      have := x.toBitVec.isLt
      exact Nat.div_lt_of_lt_mul (by omega)
  rw [l_ofN (l_ushrN x hs hn) hlt, ← e1]
  exact Int.natCast_ediv _ _
theorem i_shlN (x : Int32) {s : Int32} {n : Nat} (hs : s.toInt = n) (hn : n < 32) : (jshl x s).toBitVec.toNat = x.toBitVec.toNat * 2 ^ n % 4294967296 := by
  rw [nI_of' hs]
  unfold jshl
  have h2 : ∀ n, n < 32 → ((nI n &&& 31).toBitVec.smod 32).toNat = n := by decide
  exact pk_shl x (nI n &&& 31) n (h2 n hn)
theorem i_shl {x s : Int32} {n : Nat} (hs : s.toInt = n) (hn : n < 32) (h1 : -2147483648 ≤ x.toInt * ((2 ^ n : Nat) : Int)) (h2 : x.toInt * ((2 ^ n : Nat) : Int) < 2147483648) : (jshl x s).toInt = x.toInt * ((2 ^ n : Nat) : Int) := by
  have e1 := i_bv (jshl x s)
  have e2 := i_bv x
  have r := i_rng (jshl x s)
  rw [i_shlN x hs hn, Int.natCast_emod, Int.natCast_mul, e2] at e1
  have e3 : (x.toInt % 4294967296 * ((2 ^ n : Nat) : Int)) % 4294967296 = x.toInt * ((2 ^ n : Nat) : Int) % 4294967296 := by
    rw [Int.mul_emod, Int.emod_emod_of_dvd _ (Int.dvd_refl _), ← Int.mul_emod]
  have e4 : ((4294967296 : Nat) : Int) = 4294967296 := rfl
  rw [e4, e3] at e1
  omega
theorem i_ushr {x s : Int32} {n : Nat} (hs : s.toInt = n) (hn : n < 32) (h0 : 0 ≤ x.toInt) : (jushr x s).toInt = x.toInt / ((2 ^ n : Nat) : Int) := by
  have e1 := i_bv x
  have r := i_rng x
  have hb : x.toBitVec.toNat < 2147483648 := by omega
  have h2 : ∀ n, n < 32 → (((nI n).toUInt32 &&& Int32.toUInt32 31).toBitVec % 32).toNat = n := by decide
  have h3 : (jushr x s).toBitVec.toNat = x.toBitVec.toNat / 2 ^ n := by
    rw [nI_of' hs]
    exact pk_ushr x (nI n) n (h2 n hn)
  have hlt : x.toBitVec.toNat / 2 ^ n < 2147483648 := Nat.lt_of_le_of_lt (Nat.div_le_self _ _) hb
  rw [i_ofN h3 hlt, Int.natCast_ediv, e1, Int.emod_eq_of_lt h0 (by omega)]
/-- 'or' of what has no bit in common -/
theorem l_or {x y : Int64} (k q r : Nat) (hx : x.toInt = ((2 ^ k * q : Nat) : Int)) (hy : y.toInt = (r : Int)) (hr : r < 2 ^ k) : (x ||| y).toInt = x.toInt + y.toInt := by
  have rx := l_rng x
  have ry := l_rng y
  have e1 := l_bv x
  have e2 := l_bv y
  have hxn : x.toBitVec.toNat = 2 ^ k * q := by
    have : (2 ^ k * q : Nat) < 9223372036854775808 := by omega
    rw [hx] at e1
    omega
  have hyn : y.toBitVec.toNat = r := by omega
  have h1 : (x ||| y).toBitVec.toNat = 2 ^ k * q + r := by
    rw [Int64.toBitVec_or, BitVec.toNat_or, hxn, hyn, Nat.two_pow_add_eq_or_of_lt hr]
  by_cases hk : k < 63
  · have hlt : 2 ^ k * q + r < 9223372036854775808 := by
      have a1 : 2 ^ k * q < 9223372036854775808 := by omega
      have a2 : 2 ^ k * 2 ^ (63 - k) = 9223372036854775808 := by rw [← Nat.pow_add, show k + (63 - k) = 63 by omega]
      rw [← a2] at a1 ⊢
      have a3 : q < 2 ^ (63 - k) := Nat.lt_of_mul_lt_mul_left a1
      calc 2 ^ k * q + r < 2 ^ k * q + 2 ^ k := by omega
        _ = 2 ^ k * (q + 1) := by rw [Nat.mul_add, Nat.mul_one]
        _ ≤ 2 ^ k * 2 ^ (63 - k) := Nat.mul_le_mul_left _ a3
    rw [l_ofN h1 hlt, hx, hy]
    exact Int.natCast_add _ _
  · have hq : q = 0 := by
      rcases Nat.eq_zero_or_pos q with h | h
      · exact h
      · have a1 : 2 ^ 63 ≤ 2 ^ k := p2le (by omega)
        have a2 : 2 ^ k * 1 ≤ 2 ^ k * q := Nat.mul_le_mul_left _ h
        omega
    subst hq
    have h1' : (x ||| y).toBitVec.toNat = r := by rw [h1]; omega
    rw [l_ofN h1' (by omega), hx, hy]
    simp
theorem i_or {x y : Int32} (k q r : Nat) (hk : k < 31) (hx : x.toInt = ((2 ^ k * q : Nat) : Int)) (hy : y.toInt = (r : Int)) (hr : r < 2 ^ k) : (x ||| y).toInt = x.toInt + y.toInt := by
  have rx := i_rng x
  have ry := i_rng y
  have e1 := i_bv x
  have e2 := i_bv y
  have hxn : x.toBitVec.toNat = 2 ^ k * q := by
    have : (2 ^ k * q : Nat) < 2147483648 := by omega
    rw [hx] at e1
    omega
  have hyn : y.toBitVec.toNat = r := by omega
  have h1 : (x ||| y).toBitVec.toNat = 2 ^ k * q + r := by
    rw [Int32.toBitVec_or, BitVec.toNat_or, hxn, hyn, Nat.two_pow_add_eq_or_of_lt hr]
  have hlt : 2 ^ k * q + r < 2147483648 := by
    have a1 : 2 ^ k * q < 2147483648 := by omega
    have a2 : 2 ^ k * 2 ^ (31 - k) = 2147483648 := by rw [← Nat.pow_add, show k + (31 - k) = 31 by omega]
    rw [← a2] at a1 ⊢
    have a3 : q < 2 ^ (31 - k) := Nat.lt_of_mul_lt_mul_left a1
    calc 2 ^ k * q + r < 2 ^ k * q + 2 ^ k := by omega
      _ = 2 ^ k * (q + 1) := by rw [Nat.mul_add, Nat.mul_one]
      _ ≤ 2 ^ k * 2 ^ (31 - k) := Nat.mul_le_mul_left _ a3
  rw [i_ofN h1 hlt, hx, hy]
  exact Int.natCast_add _ _
theorem l_div {x y : Int64} (hx : 0 ≤ x.toInt) (hy : 0 < y.toInt) : (x / y).toInt = x.toInt / y.toInt := by
  have rx := l_rng x
  rw [Int64.toInt_div, Int.tdiv_eq_ediv_of_nonneg hx]
  have h1 : x.toInt / y.toInt ≤ x.toInt := Int.ediv_le_self _ hx
  have h2 : 0 ≤ x.toInt / y.toInt := Int.ediv_nonneg hx (by omega)
  exact Int.bmod_eq_of_le (by omega) (by omega)
theorem i_div {x y : Int32} (hx : 0 ≤ x.toInt) (hy : 0 < y.toInt) : (x / y).toInt = x.toInt / y.toInt := by
  have rx := i_rng x
  rw [Int32.toInt_div, Int.tdiv_eq_ediv_of_nonneg hx]
  have h1 : x.toInt / y.toInt ≤ x.toInt := Int.ediv_le_self _ hx
  have h2 : 0 ≤ x.toInt / y.toInt := Int.ediv_nonneg hx (by omega)
  exact Int.bmod_eq_of_le (by omega) (by omega)
theorem l_rem {x y : Int64} (hx : 0 ≤ x.toInt) (hy : 0 < y.toInt) : (jlrem x y).toInt = x.toInt % y.toInt := by
  have rx := l_rng x
  have hd := l_div hx hy
  have h3 := Int.mul_ediv_add_emod x.toInt y.toInt
  have h4 : 0 ≤ x.toInt % y.toInt := Int.emod_nonneg _ (by omega)
  have h5 : 0 ≤ x.toInt / y.toInt := Int.ediv_nonneg hx (by omega)
  have h6 : 0 ≤ y.toInt * (x.toInt / y.toInt) := Int.mul_nonneg (by omega) h5
  have h7 : (x / y * y).toInt = x.toInt / y.toInt * y.toInt := by rw [l_mul, hd] <;> rw [hd, Int.mul_comm] <;> omega
  unfold jlrem
  rw [l_sub] <;> rw [h7, Int.mul_comm] <;> omega
theorem i_rem {x y : Int32} (hx : 0 ≤ x.toInt) (hy : 0 < y.toInt) : (jrem x y).toInt = x.toInt % y.toInt := by
  have rx := i_rng x
  have hd := i_div hx hy
  have h3 := Int.mul_ediv_add_emod x.toInt y.toInt
  have h4 : 0 ≤ x.toInt % y.toInt := Int.emod_nonneg _ (by omega)
  have h5 : 0 ≤ x.toInt / y.toInt := Int.ediv_nonneg hx (by omega)
  have h6 : 0 ≤ y.toInt * (x.toInt / y.toInt) := Int.mul_nonneg (by omega) h5
  have h7 : (x / y * y).toInt = x.toInt / y.toInt * y.toInt := by rw [i_mul, hd] <;> rw [hd, Int.mul_comm] <;> omega
  unfold jrem
  rw [i_sub] <;> rw [h7, Int.mul_comm] <;> omega
