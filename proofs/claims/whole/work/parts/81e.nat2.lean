/-! Natural, more -/
theorem zpow_v {m : Nat} (h : m ≤ 9) : (zpow m).toInt = ((10 ^ m : Nat) : Int) := by
  rcases (show m = 0 ∨ m = 1 ∨ m = 2 ∨ m = 3 ∨ m = 4 ∨ m = 5 ∨ m = 6 ∨ m = 7 ∨ m = 8 ∨ m = 9 by omega) with e | e | e | e | e | e | e | e | e | e <;> subst e <;> decide
theorem p10p (k : Nat) : 0 < 10 ^ k := Nat.pow_pos (by decide)
theorem p10le {a b : Nat} (h : a ≤ b) : 10 ^ a ≤ 10 ^ b := Nat.pow_le_pow_right (by decide) h
theorem N_tens {us : Int32} {l : Nat → Int32} {v : Nat} (h : nR us l v) {x : Int32} {n : Nat} (hx : x.toInt.toNat = n) (hV : v * 10 ^ n < 1073741824 ^ 48) : ∃ us' l', f_N_multiplyByPowerOfTen us l x = some (us', l') ∧ nR us' l' (v * 10 ^ n) := by
  have e0 : (0 : Int32).toInt = 0 := rfl
  have e9 : (9 : Int32).toInt = 9 := rfl
  have em9 : (-9 : Int32).toInt = -9 := rfl
  unfold f_N_multiplyByPowerOfTen f_N_multiplyByPowerOfTen_2
  have rx := i_rng x
  obtain ⟨⟨us', l'⟩, a1, a2⟩ := zrun_inv (step := f_N_multiplyByPowerOfTen_2_step) (x := (us, l, x)) (fun z => ∃ k W : Nat, z.2.2.toInt.toNat = k ∧ W * 10 ^ k = v * 10 ^ n ∧ nR z.1 z.2.1 W) (fun z => z.2.2.toInt.toNat) (fun d => nR d.1 d.2 (v * 10 ^ n)) (by
    rintro ⟨q, b, y⟩ ⟨k, W, hk, hW, hR⟩
    dsimp only at hk hR
    unfold f_N_multiplyByPowerOfTen_2_step f_N_multiplyByPowerOfTen_2_body
    dsimp only
    have ry := i_rng y
    rcases Nat.eq_zero_or_pos k with c | c
    · rw [if_pos (show y ≤ 0 by rw [i_le, e0]; omega)]
      refine Or.inr ⟨_, rfl, ?_⟩
      rw [c, Nat.pow_zero, Nat.mul_one] at hW
      rw [← hW]
      exact hR
    · have hy : y.toInt = (k : Int) := by omega
      rw [if_neg (show ¬ y ≤ 0 by rw [i_le, e0, hy]; omega)]
      obtain ⟨j, hj⟩ : ∃ j, j = min k 9 := ⟨_, rfl⟩
      have hs : (if 9 < y then 9 else y).toInt = (j : Int) := by
        by_cases c2 : (9 : Int32) < y
        · rw [if_pos c2, e9]
          rw [i_lt, e9, hy] at c2
          omega
        · rw [if_neg c2, hy]
          rw [i_lt, e9, hy] at c2
          omega
      generalize (if 9 < y then 9 else y) = y9 at hs ⊢
      rw [if_pos (show zin y9 10 from ⟨by omega, by omega⟩), i_cl, hs, Int.toNat_natCast]
      have hmu : ((k : Int) - 9).toNat < ((k : Int)).toNat := by omega
      have hkj : ((k : Int) - 9).toNat = k - j := by omega
      have hj9 : 10 ^ j ≤ 10 ^ 9 := p10le (by omega)
      have hk2 : 10 ^ k = 10 ^ j * 10 ^ (k - j) := by rw [← Nat.pow_add, show j + (k - j) = k by omega]
      have hle : W * 10 ^ j ≤ W * 10 ^ k := Nat.mul_le_mul_left _ (p10le (by omega))
      obtain ⟨u2, l2, t1, t2⟩ := N_mulAdd hR (x1 := zpow j) (x2 := 0) (a := 0) (zpow_v (by omega)) rfl (p10p j) (Nat.le_trans hj9 (by decide)) (by decide) (by rw [Nat.add_zero]; omega)
      rw [t1, Option.bind_some]
      rw [Nat.add_zero] at t2
      have hm : (y + (-9)).toInt = (k : Int) - 9 := by
        clear hle hk2 hj9 hW t2 t1 hR hs hV hk
        rw [i_add, hy, em9] <;> (try rw [hy, em9]) <;> omega
      refine Or.inl ⟨_, rfl, ⟨k - j, W * 10 ^ j, by dsimp only; rw [hm]; exact hkj, ?_, t2⟩, by dsimp only; rw [hm, hy]; exact hmu⟩
      rw [Nat.mul_assoc, ← hk2, hW]) ⟨n, v, hx, rfl, h⟩
  exact ⟨us', l', a1, a2⟩
