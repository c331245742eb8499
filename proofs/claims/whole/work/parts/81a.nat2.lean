/-! Natural: add, times, powers of ten -/
theorem N_append {us : Int32} {l : Nat → Int32} {u V : Nat} {x : Int32} (hu : us.toInt = u) (h48 : u ≤ 48) (hd : ∀ i, i < u → (l i).toInt = (nd V i : Int)) (hx : x.toInt = ((V / 1073741824 ^ u : Nat) : Int)) (hc : V / 1073741824 ^ u < 1073741824) (hV : V < 1073741824 ^ 48) (hn : u = 0 ∨ 1073741824 ^ (u - 1) ≤ V) : ∃ us' l', f_N_append us l x = some (us', l') ∧ nR us' l' V := by
  have e0 : (0 : Int32).toInt = 0 := rfl
  have e48 : (48 : Int32).toInt = 48 := rfl
  unfold f_N_append
  by_cases c : V / 1073741824 ^ u = 0
  · rw [if_pos (show x = 0 by rw [i_eq, hx, c]; rfl)]
    refine ⟨us, l, rfl, u, hu, h48, ⟨?_, hd⟩, hn⟩
    rcases Nat.div_eq_zero_iff.mp c with q | q
    · have := nBp u; omega
    · exact q
  · have hge : 1073741824 ^ u ≤ V := by
      rcases Nat.lt_or_ge V (1073741824 ^ u) with q | q
      · exact absurd (Nat.div_eq_of_lt q) c
      · exact q
    have hu48 : u < 48 := by
      rcases Nat.lt_or_ge u 48 with q | q
      · exact q
      · have := nBle q
        omega
    rw [if_neg (show ¬ x = 0 by rw [i_eq, hx, e0]; omega), if_neg (show ¬ (48 : Int32) ≤ us by rw [i_le, hu, e48]; omega), if_pos (show zin us 48 from ⟨by omega, by omega⟩), i_cl, hu, Int.toNat_natCast]
    have hs : (us + 1).toInt = ((u + 1 : Nat) : Int) := i_suc hu (by omega)
    refine ⟨_, _, rfl, u + 1, hs, by omega, ⟨?_, fun i hi => ?_⟩, Or.inr hge⟩
    · rw [Nat.pow_succ]
      have := Nat.div_lt_iff_lt_mul (nBp u) (x := V) (y := 1073741824)
      rw [Nat.mul_comm]
      exact this.mp hc
    · by_cases ci : i = u
      · subst ci
        rw [pk_us, hx]
        unfold nd
        rw [Nat.mod_eq_of_lt hc]
      · rw [pk_un ci]
        exact hd i (by omega)
theorem mul_car (v f a k : Nat) : (v * f + a) / 1073741824 ^ k = (v % 1073741824 ^ k * f + a) / 1073741824 ^ k + v / 1073741824 ^ k * f := by
  have h : v * f + a = (v % 1073741824 ^ k * f + a) + 1073741824 ^ k * (v / 1073741824 ^ k * f) := by
    have e : v * f = (1073741824 ^ k * (v / 1073741824 ^ k) + v % 1073741824 ^ k) * f := by rw [Nat.div_add_mod]
    rw [e, Nat.add_mul, Nat.mul_assoc]
    omega
  rw [h, Nat.add_mul_div_left _ _ (nBp k)]
theorem mul_carS (v f a k : Nat) : (v % 1073741824 ^ (k + 1) * f + a) / 1073741824 ^ (k + 1) = ((v % 1073741824 ^ k * f + a) / 1073741824 ^ k + nd v k * f) / 1073741824 := by
  have h : v % 1073741824 ^ (k + 1) * f + a = (v % 1073741824 ^ k * f + a) + 1073741824 ^ k * (nd v k * f) := by
    rw [nd_mod, Nat.add_mul, Nat.mul_assoc]
    omega
  rw [h, Nat.pow_succ, ← Nat.div_div_eq_div_mul, Nat.add_mul_div_left _ _ (nBp k)]
theorem mul_dig (v f a k : Nat) : nd (v * f + a) k = ((v % 1073741824 ^ k * f + a) / 1073741824 ^ k + nd v k * f) % 1073741824 := by
  have e : nd (v * f + a) k = (v * f + a) / 1073741824 ^ k % 1073741824 := rfl
  rw [e, mul_car, nd_div v k, Nat.add_mul, Nat.mul_assoc, Nat.add_left_comm, Nat.mul_add_mod]
theorem mul_carL {v f a k : Nat} (hf : f ≤ 1073741824) (ha : a < 1073741824) : (v % 1073741824 ^ k * f + a) / 1073741824 ^ k < 1073741824 := by
  apply Nat.div_lt_of_lt_mul
  have h1 : v % 1073741824 ^ k + 1 ≤ 1073741824 ^ k := Nat.mod_lt _ (nBp k)
  obtain ⟨m, hm⟩ : ∃ m, m = v % 1073741824 ^ k := ⟨_, rfl⟩
  obtain ⟨P, hP⟩ : ∃ P, P = 1073741824 ^ k := ⟨_, rfl⟩
  rw [← hm, ← hP] at h1
  rw [← hm, ← hP]
  clear hm hP
  have h2 : m * f ≤ m * 1073741824 := Nat.mul_le_mul_left _ hf
  omega
