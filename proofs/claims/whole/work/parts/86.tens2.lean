/-! the reference: a decimal rounded -/
theorem M_tens92 (t s o c p : Int32) {r : Nat → Int32} (hr : mOK r) (g : Int64) {s0 : Int32} {by' : Nat} (h0 : s0.toInt = by') (hA : mV r 0 ≠ 0) (hB : mV r 1 ≠ 0) (hb1 : zlen (mV r 0) + by' ≤ 2000) (hb2 : 70 + zlen (mV r 1) ≤ zlen (mV r 0) + by') :
    ∃ r', f_M_scaledByTens_92 t s o c p r g s0 = some (g ||| lN (zq (mV r 0) (mV r 1) 1074), r') ∧ mOK r' := by
  have e0 : (0 : Int32).toInt = 0 := rfl
  have e1 : (1 : Int32).toInt = 1 := rfl
  obtain ⟨r1, t1, R1⟩ := M_shift t s o c p hr (a := 0) (x1 := 0) (by decide) rfl h0
  have hfit : ∀ {v k : Nat}, zlen v + k ≤ 2300 → v * 2 ^ k < mTop := by
    intro v k h
    apply mTop_big
    have h2 : v * 2 ^ k < 2 ^ zlen v * 2 ^ k := (Nat.mul_lt_mul_right (p2pos k)).mpr (zlen_lt v)
    rw [← Nat.pow_add] at h2
    exact Nat.lt_trans h2 (p2lt (by omega))
  have hA0 := Nat.pos_of_ne_zero hA
  have hB0 := Nat.pos_of_ne_zero hB
  have v0 : mV r1 0 = mV r 0 * 2 ^ by' := by rw [R1.2.1, Nat.mod_eq_of_lt (hfit (by omega))]
  have v1 : mV r1 1 = mV r 1 := mR_keep R1 (by decide) (by decide)
  obtain ⟨d1, l1, l2⟩ := M_length t s o c p R1.1 (a := 0) (x1 := 0) (by decide) rfl
  obtain ⟨d2, l3, l4⟩ := M_length t s o c p R1.1 (a := 1) (x1 := 1) (by decide) rfl
  have zA := zlen_mul hA0 by'
  rw [v0, zA] at l2
  rw [v1] at l4
  generalize hAA : mV r 0 = A at *
  generalize hBB : mV r 1 = B at *
  obtain ⟨n, hn⟩ : ∃ n : Nat, n = zlen A + by' - zlen B + 1 := ⟨_, rfl⟩
  have hd : (d1 - d2 + 1).toInt = (n : Int) := by
    have f1 : (d1 - d2).toInt = ((zlen A + by' - zlen B : Nat) : Int) := by rw [i_sub, l2, l4] <;> (try rw [l2, l4]) <;> omega
    rw [i_suc f1 (by omega), hn]
  have hBlt := zlen_lt B
  have hBge := zlen_le hB
  have hBp := zlen_pos hB0
  obtain ⟨r2, t2, k1, k2, k3, _⟩ := M_quotient t s o c p R1.1 (n := n) (x1 := d1 - d2 + 1) hd (by omega) (by rw [v1]; exact hB0) (by rw [v1]; exact hfit (by omega)) (by
    rw [v0, v1]
    have a1 := zlen_lt (A * 2 ^ by')
    rw [zA] at a1
    have a2 : 2 ^ (zlen B - 1) * 2 ^ (n + 1) ≤ B * 2 ^ (n + 1) := Nat.mul_le_mul_right _ hBge
    rw [← Nat.pow_add] at a2
    have a3 : 2 ^ (zlen A + by') ≤ 2 ^ (zlen B - 1 + (n + 1)) := p2le (by omega)
    omega)
  rw [v0, v1] at k2 k3
  obtain ⟨d3, l5, l6⟩ := M_length t s o c p k1 (a := 0) (x1 := 0) (by decide) rfl
  rw [k3] at l6
  unfold f_M_scaledByTens_92
  rw [t1, Option.bind_some, l1, Option.bind_some, l3, Option.bind_some, t2, Option.bind_some, l5, Option.bind_some]
  have hz : 55 ≤ zlen (A * 2 ^ by' / B) := by
    have h59 : 2 ^ 69 ≤ A * 2 ^ by' / B := by
      rw [Nat.le_div_iff_mul_le hB0]
      have b1 : 2 ^ 69 * B ≤ 2 ^ 69 * 2 ^ zlen B := Nat.mul_le_mul_left _ (Nat.le_of_lt hBlt)
      have b2 : 2 ^ (zlen A + by' - 1) ≤ A * 2 ^ by' := zlen_ge (by omega)
      rw [← Nat.pow_add] at b1
      have b3 : 2 ^ (69 + zlen B) ≤ 2 ^ (zlen A + by' - 1) := p2le (by omega)
      omega
    have := zlen_gt h59
    omega
  have hq : zq (A * 2 ^ by') B (1074 - by') = zq A B 1074 := by
    have h := zq_pow A B by' 0 (1074 - by')
    rw [Nat.pow_zero, Nat.mul_one] at h
    rw [h]
    congr 1
    omega
  have hneg : (-s0).toInt = (1074 - (by' : Int)) - 1074 := by rw [i_neg (by omega), h0]; omega
  have fin : ∀ {x5 : Int32} {mo : Nat}, x5.toInt = (mo : Int) → mo = (if A * 2 ^ by' % B = 0 then 0 else 1) → ∃ r', f_M_scaledByTens_137 t s o c p r2 g 3 (-s0) x5 = some (g ||| lN (zq A B 1074), r') ∧ mOK r' := by
    intro x5 mo h5 hmo
    have hmo2 : mo < 2 := by rw [hmo]; split <;> decide
    obtain ⟨r5, u1, uR⟩ := M_round' t s o c p k1 (a := 3) (mo := mo) (x1 := g) (x3 := 3) (by decide) (by decide) rfl hneg (by omega) (by omega) h5 hmo2 (fun _ => by rw [k2]; exact hz)
    unfold f_M_scaledByTens_137
    rw [u1, Option.bind_some, k2, hmo, zrd_div hB0 (by omega), hq]
    exact ⟨r5, rfl, uR.1⟩
  by_cases c0 : A * 2 ^ by' % B = 0
  · rw [if_pos (by rw [i_le, l6, e0, c0]; decide)]
    exact fin (mo := 0) rfl (by rw [if_pos c0])
  · have : zlen (A * 2 ^ by' % B) ≠ 0 := fun h => c0 (zlen_0.mp h)
    rw [if_neg (by rw [i_le, l6, e0]; omega)]
    exact fin (mo := 1) rfl (by rw [if_neg c0])
theorem M_scaledByTens (t s o c p : Int32) {r : Nat → Int32} (hr : mOK r) (g : Int64) {x3 : Int32} {n : Nat} {e : Int} (h3 : x3.toInt = e) (hn : n ≤ 20) (hA : mV r 0 < 10 ^ n) (hA0 : mV r 0 ≠ 0 → 0 < n ∧ 10 ^ (n - 1) ≤ mV r 0) :
    ∃ r', f_M_scaledByTens t s o c p r g x3 = some (g ||| lN (zq (mV r 0 * 10 ^ e.toNat) (10 ^ (-e).toNat) 1074), r') ∧ mOK r' := by
  have e0 : (0 : Int32).toInt = 0 := rfl
  have e400 : (400 : Int32).toInt = 400 := rfl
  have em420 : (-420 : Int32).toInt = -420 := rfl
  have e70 : (70 : Int32).toInt = 70 := rfl
  have rx := i_rng x3
  obtain ⟨d, l1, l2⟩ := M_length t s o c p hr (a := 0) (x1 := 0) (by decide) rfl
  unfold f_M_scaledByTens
  rw [l1, Option.bind_some]
  by_cases hz : mV r 0 = 0
  · rw [if_pos (by rw [i_eq, l2, hz]; rfl), hz, Nat.zero_mul, zq_1074, Nat.zero_mul, zRB_0, or_z]
    exact ⟨r, rfl, hr⟩
  · obtain ⟨hn0, hge⟩ := hA0 hz
    have hzp : zlen (mV r 0) ≠ 0 := fun q => hz (zlen_0.mp q)
    have hz67 : zlen (mV r 0) ≤ 67 := by
      apply zlen_mono
      have h1 : 10 ^ n ≤ 10 ^ 20 := p10le hn
      have h2 : 10 ^ 20 < 2 ^ 67 := by decide +kernel
      omega
    rw [if_neg (by rw [i_eq, l2, e0]; omega)]
    rcases Int.lt_or_le 400 e with q | q
    · rw [if_neg (show ¬ x3 ≤ 400 by rw [i_le, h3, e400]; omega)]
      have hh : 10 ^ 309 ≤ mV r 0 * 10 ^ e.toNat := by
        have a1 : 10 ^ 309 ≤ 10 ^ e.toNat := p10le (by omega)
        exact Nat.le_trans a1 (Nat.le_mul_of_pos_left _ (Nat.pos_of_ne_zero hz))
      rw [show (-e).toNat = 0 by omega, Nat.pow_zero, zq_huge hh]
      exact ⟨r, rfl, hr⟩
    · rw [if_pos (show x3 ≤ 400 by rw [i_le, h3, e400]; omega)]
      rcases Int.lt_or_le e (-420) with w | w
      · rw [if_neg (show ¬ (-420 : Int32) ≤ x3 by rw [i_le, h3, em420]; omega)]
        rw [show e.toNat = 0 by omega, Nat.pow_zero, Nat.mul_one, zq_tiny hA (show 324 + n ≤ (-e).toNat by omega), or_z]
        exact ⟨r, rfl, hr⟩
      · rw [if_pos (show (-420 : Int32) ≤ x3 by rw [i_le, h3, em420]; omega)]
        have t24 : 10 ^ 440 < 2 ^ 1500 := by decide +kernel
        by_cases hneg : e < 0
        · rw [if_pos (show x3 < 0 by rw [i_lt, h3, e0]; exact hneg)]
          have hnx : (-x3).toInt = (((-e).toNat : Nat) : Int) := by rw [i_neg (by omega), h3]; omega
          obtain ⟨r1, t1, R1⟩ := M_set t s o c p hr (a := 1) (x1 := 1) (x2 := 1) (by decide) rfl
          obtain ⟨r2, t2, R2⟩ := M_tens t s o c p R1.1 (a := 1) (x1 := 1) (by decide) rfl hnx
          have hten : 10 ^ (-e).toNat < 2 ^ 1500 := Nat.lt_of_le_of_lt (p10le (by omega)) t24
          have v1 : mV r2 1 = 10 ^ (-e).toNat := by
            have e1 : (1 : Int64).toBitVec.toNat = 1 := rfl
            rw [R2.2.1, R1.2.1, e1, Nat.one_mul, Nat.mod_eq_of_lt (mTop_big (Nat.lt_trans hten (p2lt (by decide))))]
          have v0 : mV r2 0 = mV r 0 := by rw [mR_keep R2 (by decide) (by decide), mR_keep R1 (by decide) (by decide)]
          obtain ⟨d2, l3, l4⟩ := M_length t s o c p R2.1 (a := 1) (x1 := 1) (by decide) rfl
          rw [v1] at l4
          have hzB : zlen (10 ^ (-e).toNat) ≤ 1500 := zlen_mono hten
          have hs1 : (70 + d2).toInt = ((70 + zlen (10 ^ (-e).toNat) : Nat) : Int) := by rw [i_add, e70, l4] <;> (try rw [e70, l4]) <;> omega
          have hs2 : (70 + d2 - d).toInt = (70 + zlen (10 ^ (-e).toNat) : Int) - zlen (mV r 0) := by rw [i_sub, hs1, l2] <;> (try rw [hs1, l2]) <;> omega
          rw [t1, Option.bind_some, t2, Option.bind_some, l3, Option.bind_some, show e.toNat = 0 by omega, Nat.pow_zero, Nat.mul_one, ← v1, ← v0]
          rw [← v1] at hs2 hzB
          rw [← v0] at hs2 hz67 hz
          have hB0 : mV r2 1 ≠ 0 := by rw [v1]; exact Nat.ne_of_gt (p10p _)
          rw [if_neg (show ¬ (70 + d2 - d) ≤ 0 by rw [i_le, hs2, e0]; omega)]
          exact M_tens92 t s o c p R2.1 g (by' := 70 + zlen (mV r2 1) - zlen (mV r2 0)) (by rw [hs2]; omega) hz hB0 (by omega) (by omega)
        · rw [if_neg (show ¬ x3 < 0 by rw [i_lt, h3, e0]; omega)]
          have hnx : x3.toInt = ((e.toNat : Nat) : Int) := by rw [h3]; omega
          obtain ⟨r1, t1, R1⟩ := M_tens t s o c p hr (a := 0) (x1 := 0) (by decide) rfl hnx
          have hlt : mV r 0 * 10 ^ e.toNat < 2 ^ 1500 := by
            have a1 : mV r 0 * 10 ^ e.toNat < 10 ^ n * 10 ^ e.toNat := (Nat.mul_lt_mul_right (p10p _)).mpr hA
            rw [← Nat.pow_add] at a1
            exact Nat.lt_trans (Nat.lt_of_lt_of_le a1 (p10le (by omega))) t24
          have v0 : mV r1 0 = mV r 0 * 10 ^ e.toNat := by rw [R1.2.1, Nat.mod_eq_of_lt (mTop_big (Nat.lt_trans hlt (p2lt (by decide))))]
          obtain ⟨r2, u1, uR⟩ := M_round' t s o c p R1.1 (a := 0) (mo := 0) (x1 := g) (x3 := 0) (x4 := 0) (x5 := 0) (E := 1074) (by decide) (by decide) rfl rfl (by decide) (by decide) rfl (by decide) (fun q => by cases q)
          rw [t1, Option.bind_some, u1, Option.bind_some, v0, zrd_zq, show (-e).toNat = 0 by omega, Nat.pow_zero]
          exact ⟨r2, rfl, uR.1⟩
