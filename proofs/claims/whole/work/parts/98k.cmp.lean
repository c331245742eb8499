/-! the shortest digits: what is compared -/
theorem zsg_mul {x y c : Nat} (hc : 0 < c) : zsg (x * c) (y * c) = zsg x y := by
  unfold zsg
  by_cases h : x < y
  · rw [if_pos h, if_pos ((Nat.mul_lt_mul_right hc).mpr h)]
  · rw [if_neg h, if_neg (fun q => h ((Nat.mul_lt_mul_right hc).mp q))]
    by_cases h2 : x = y
    · rw [if_pos h2, if_pos (by rw [h2])]
    · rw [if_neg h2, if_neg (fun q => h2 (Nat.eq_of_mul_eq_mul_right hc q))]
theorem vU_pos (E t : Int) : 0 < vN 1 E t := by
  unfold vN
  exact Nat.mul_pos (Nat.mul_pos (by decide) (p10p _)) (p2pos _)
theorem vN_U (m : Nat) (E t : Int) : vN m E t = m * vN 1 E t := by
  unfold vN
  rw [Nat.one_mul, Nat.mul_assoc]
/-- the class's scale against its quarter of a last place -/
theorem key_SU {R S B m : Nat} {E P : Int} (hm : 0 < m) (h : R * vD E P = vN m E P * S) (hR : R = 4 * m * B) (k : Nat) : S * vN 1 E (P - k) = 4 * (B * 10 ^ k) * vD E (P - k) := by
  have h1 := feq_pow h k
  rw [vN_U m E (P - k), hR] at h1
  apply Nat.eq_of_mul_eq_mul_left hm
  generalize vN 1 E (P - (k : Int)) = q at *
  generalize vD E (P - (k : Int)) = D at *
  generalize 10 ^ k = z at *
  rw [Nat.mul_right_comm m q S, Nat.mul_assoc m S q] at h1
  rw [← h1, Nat.mul_comm 4 m, Nat.mul_assoc m 4 B, Nat.mul_assoc m (4 * B) z, Nat.mul_assoc m, Nat.mul_assoc 4 B z]
theorem cmpC {S U q D : Nat} (hU : 0 < U) (hq : 0 < q) (h : S * q = 4 * U * D) (V W : Nat) : zsg (V * S) (W * U) = zsg (V * 4 * D) (W * q) := by
  rw [← zsg_mul (x := V * S) hq, ← zsg_mul (x := V * 4 * D) hU, Nat.mul_assoc V S q, h, Nat.mul_right_comm W U q]
  congr 1
  rw [Nat.mul_comm 4 U, Nat.mul_assoc U 4 D, Nat.mul_left_comm V U, Nat.mul_comm U, Nat.mul_assoc V 4 D]
theorem cmpR (V W : Nat) (E t f : Int) (j : Nat) (hf : f = E + j - 2) : zsg (V * 10 ^ t.toNat * 2 ^ (-f).toNat) (W * 10 ^ (-t).toNat * 2 ^ f.toNat) = zsg (V * 4 * vD E t) (W * 2 ^ j * vN 1 E t) := by
  rw [← zsg_mul (x := V * 10 ^ t.toNat * 2 ^ (-f).toNat) (p2pos (2 + (-E).toNat + f.toNat)), ← zsg_mul (x := V * 4 * vD E t) (p2pos ((-f).toNat + f.toNat))]
  unfold vD vN
  rw [Nat.one_mul]
  have e1 : V * 10 ^ t.toNat * 2 ^ (-f).toNat * 2 ^ (2 + (-E).toNat + f.toNat) = V * 4 * (10 ^ t.toNat * 2 ^ (-E).toNat) * 2 ^ ((-f).toNat + f.toNat) := by
    rw [Nat.mul_assoc (V * 10 ^ t.toNat), ← Nat.pow_add, show V * 4 = V * 2 ^ 2 from rfl, Nat.mul_assoc V (2 ^ 2), ← Nat.mul_assoc (2 ^ 2) (10 ^ t.toNat), Nat.mul_comm (2 ^ 2) (10 ^ t.toNat), Nat.mul_assoc (10 ^ t.toNat) (2 ^ 2), ← Nat.pow_add, ← Nat.mul_assoc V, Nat.mul_assoc (V * 10 ^ t.toNat), ← Nat.pow_add, show (-f).toNat + (2 + (-E).toNat + f.toNat) = 2 + (-E).toNat + ((-f).toNat + f.toNat) by omega]
  have e2 : W * 10 ^ (-t).toNat * 2 ^ f.toNat * 2 ^ (2 + (-E).toNat + f.toNat) = W * 2 ^ j * (10 ^ (-t).toNat * 2 ^ E.toNat) * 2 ^ ((-f).toNat + f.toNat) := by
    rw [Nat.mul_assoc (W * 10 ^ (-t).toNat), ← Nat.pow_add, Nat.mul_assoc W (2 ^ j), ← Nat.mul_assoc (2 ^ j) (10 ^ (-t).toNat), Nat.mul_comm (2 ^ j) (10 ^ (-t).toNat), Nat.mul_assoc (10 ^ (-t).toNat) (2 ^ j), ← Nat.pow_add, ← Nat.mul_assoc W, Nat.mul_assoc (W * 10 ^ (-t).toNat), ← Nat.pow_add, show f.toNat + (2 + (-E).toNat + f.toNat) = j + E.toNat + ((-f).toNat + f.toNat) by omega]
  rw [e1, e2]
/-- the number cut to a place -/
def sF (m : Nat) (E t : Int) : Nat := vN m E t / vD E t
/-- the digits may stay; may go up; are nearer to what is above -/
def sSt (m b : Nat) (ev : Bool) (E t : Int) : Prop := (4 * m - b) * vN 1 E t < sF m E t * 4 * vD E t ∨ (ev = true ∧ (4 * m - b) * vN 1 E t = sF m E t * 4 * vD E t)
def sUp (m : Nat) (ev : Bool) (E t : Int) : Prop := (sF m E t + 1) * 4 * vD E t < (4 * m + 2) * vN 1 E t ∨ (ev = true ∧ (sF m E t + 1) * 4 * vD E t = (4 * m + 2) * vN 1 E t)
def sMi (m : Nat) (E t : Int) : Prop := (2 * sF m E t + 1) * 4 * vD E t < 8 * m * vN 1 E t ∨ ((2 * sF m E t + 1) * 4 * vD E t = 8 * m * vN 1 E t ∧ sF m E t % 2 = 1)
def sEnd (m b : Nat) (ev : Bool) (E t : Int) : Prop := sSt m b ev E t ∨ sUp m ev E t
/-- it goes up -/
def sGo (m b : Nat) (ev : Bool) (E t : Int) : Prop := sUp m ev E t ∧ (sSt m b ev E t → sMi m E t)
theorem sF_ge {m : Nat} {E P : Int} (h : isP m E P) {w : Nat} (hw : 0 < w) : 10 ^ (w - 1) * vD E (P - w) ≤ vN m E (P - w) := by
  have hv1 := v_pow m E (P - 1) (w - 1)
  rw [show P - 1 - ((w - 1 : Nat) : Int) = P - (w : Int) by omega] at hv1
  have h2 := Nat.mul_le_mul_right (10 ^ (w - 1) * vD E (P - w)) h.2
  have e1 : vN m E (P - 1) * (10 ^ (w - 1) * vD E (P - w)) = vN m E (P - w) * vD E (P - 1) := by rw [← Nat.mul_assoc, hv1]
  rw [e1, Nat.mul_comm (vN m E (P - w))] at h2
  exact Nat.le_of_mul_le_mul_left h2 (vD_pos _ _)
theorem sF_rng {m : Nat} {E P : Int} (h : isP m E P) {w : Nat} (hw : 0 < w) : 10 ^ (w - 1) ≤ sF m E (P - w) ∧ sF m E (P - w) < 10 ^ w := by
  have hDk := vD_pos E (P - (w : Int))
  have hv := v_pow m E P w
  unfold sF
  constructor
  · rw [Nat.le_div_iff_mul_le hDk]
    exact sF_ge h hw
  · apply Nat.div_lt_of_lt_mul
    have h2 : vN m E P * (10 ^ w * vD E (P - w)) < vD E P * (10 ^ w * vD E (P - w)) := (Nat.mul_lt_mul_right (Nat.mul_pos (p10p _) hDk)).mpr h.1
    rw [← Nat.mul_assoc, hv, Nat.mul_comm (vN m E (P - w))] at h2
    have h3 := Nat.lt_of_mul_lt_mul_left h2
    rw [Nat.mul_comm] at h3
    exact h3
/-- 17 digits are enough -/
theorem sEnd_17 {m b : Nat} {ev : Bool} {E P : Int} (h : isP m E P) (hm : m < 9007199254740992) (hm0 : 0 < m) (hb : b = 2 ∨ (b = 1 ∧ m = 4503599627370496)) : sEnd m b ev E (P - (17 : Nat)) := by
  have hge := sF_ge h (w := 17) (by decide)
  rw [vN_U m E (P - (17 : Nat))] at hge
  have hD := vD_pos E (P - (17 : Nat))
  have hq := vU_pos E (P - (17 : Nat))
  unfold sEnd sSt sUp
  generalize sF m E (P - (17 : Nat)) = V
  generalize vN 1 E (P - (17 : Nat)) = q at *
  generalize vD E (P - (17 : Nat)) = D at *
  have e16 : (10 : Nat) ^ (17 - 1) = 10000000000000000 := by decide
  rw [e16] at hge
  by_cases c1 : (4 * m - b) * q < V * 4 * D
  · exact Or.inl (Or.inl c1)
  · by_cases c2 : (V + 1) * 4 * D < (4 * m + 2) * q
    · exact Or.inr (Or.inl c2)
    · exfalso
      have e1 : (4 * m - b) * q = 4 * (m * q) - b * q := by rw [Nat.sub_mul, Nat.mul_assoc]
      have e2 : (4 * m + 2) * q = 4 * (m * q) + 2 * q := by rw [Nat.add_mul, Nat.mul_assoc]
      have e3 : (V + 1) * 4 * D = V * 4 * D + 4 * D := by rw [Nat.add_mul, Nat.one_mul, Nat.add_mul]
      rw [e1] at c1
      rw [e2, e3] at c2
      have hmq : q ≤ m * q := Nat.le_mul_of_pos_left _ hm0
      generalize V * 4 * D = x at *
      rcases hb with z | ⟨z1, z2⟩
      · subst z
        have h1 : q ≤ D := by
          generalize m * q = y at *
          omega
        have h2 : m * q ≤ m * D := Nat.mul_le_mul_left _ h1
        have h3 : m * D ≤ 9007199254740992 * D := Nat.mul_le_mul_right _ (Nat.le_of_lt hm)
        omega
      · subst z1 z2
        omega
theorem least_k {D : Nat → Prop} : ∀ {n : Nat}, D n → 1 ≤ n → ∃ k, 1 ≤ k ∧ k ≤ n ∧ D k ∧ ∀ j, 1 ≤ j → j < k → ¬ D j := by
  intro n
  induction n using Nat.strongRecOn with
  | _ n ih =>
    intro h hn
    by_cases c : ∃ j, 1 ≤ j ∧ j < n ∧ D j
    · obtain ⟨j, j1, j2, j3⟩ := c
      obtain ⟨k, k1, k2, k3, k4⟩ := ih j j2 j3 j1
      exact ⟨k, k1, by omega, k3, k4⟩
    · exact ⟨n, hn, Nat.le_refl _, h, fun j h1 h2 h3 => c ⟨j, h1, h2, h3⟩⟩
