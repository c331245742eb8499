/-! Natural: divided by a small one; the upper limbs taken -/
theorem dsm_step {v d k : Nat} (hd : 0 < d) : nd (v / d) k = (v / 1073741824 ^ (k + 1) % d * 1073741824 + nd v k) / d ∧ (v / 1073741824 ^ (k + 1) % d * 1073741824 + nd v k) % d = v / 1073741824 ^ k % d := by
  have hv := nd_div v k
  have h1 : v / 1073741824 ^ k = (v / 1073741824 ^ (k + 1) % d * 1073741824 + nd v k) + d * (1073741824 * (v / 1073741824 ^ (k + 1) / d)) := by
    have e := Nat.div_add_mod (v / 1073741824 ^ (k + 1)) d
    have e2 : 1073741824 * (v / 1073741824 ^ (k + 1)) = 1073741824 * (d * (v / 1073741824 ^ (k + 1) / d)) + 1073741824 * (v / 1073741824 ^ (k + 1) % d) := by rw [← Nat.mul_add, e]
    rw [hv, e2, Nat.mul_left_comm d]
    omega
  have hlt : (v / 1073741824 ^ (k + 1) % d * 1073741824 + nd v k) / d < 1073741824 := by
    apply Nat.div_lt_of_lt_mul
    have a1 : v / 1073741824 ^ (k + 1) % d + 1 ≤ d := Nat.mod_lt _ hd
    have a2 := Nat.mul_le_mul_right 1073741824 a1
    have a3 := nd_lt v k
    omega
  constructor
  · have e : nd (v / d) k = v / d / 1073741824 ^ k % 1073741824 := rfl
    rw [e, Nat.div_div_eq_div_mul, Nat.mul_comm d, ← Nat.div_div_eq_div_mul, h1, Nat.add_mul_div_left _ _ hd, Nat.add_mul_mod_self_left, Nat.mod_eq_of_lt hlt]
  · rw [h1, Nat.add_mul_mod_self_left]
theorem N_divSmall {us : Int32} {l : Nat → Int32} {v : Nat} (h : nR us l v) {x : Int32} {d : Nat} (hx : x.toInt = d) (hd : 0 < d) : ∃ r us' l', f_N_divideBySmall us l x = some (r, us', l') ∧ r.toInt = ((v % d : Nat) : Int) ∧ nR us' l' (v / d) := by
  obtain ⟨u, h1, h2, h3, h4⟩ := h
  have e0 : (0 : Int32).toInt = 0 := rfl
  have e1 : (1 : Int32).toInt = 1 := rfl
  have rx := i_rng x
  have hne : ¬ x.toInt64 = 0 := i_ne0 hx hd
  unfold f_N_divideBySmall f_N_divideBySmall_16
  rw [if_pos (show 0 < x by rw [i_lt, hx, e0]; omega)]
  have hst : (us - 1).toInt = (u : Int) - 1 := by rw [i_sub, h1, e1] <;> (try rw [h1, e1]) <;> omega
  have hsm : v / d < 1073741824 ^ u := Nat.lt_of_le_of_lt (Nat.div_le_self _ _) h3.1
  obtain ⟨⟨r, us', l'⟩, a1, a2, a3⟩ := zrun_inv (step := f_N_divideBySmall_16_step x) (x := (us, l, 0, us - 1)) (fun z => z.1 = us ∧ ∃ k : Nat, k ≤ u ∧ z.2.2.2.toInt = (k : Int) - 1 ∧ z.2.2.1.toInt = ((v / 1073741824 ^ k % d : Nat) : Int) ∧ (∀ i, k ≤ i → i < u → (z.2.1 i).toInt = (nd (v / d) i : Int)) ∧ ∀ i, i < k → z.2.1 i = l i) (fun z => (z.2.2.2.toInt + 1).toNat) (fun y => y.1.toInt = ((v % d : Nat) : Int) ∧ nR y.2.1 y.2.2 (v / d)) (by
    rintro ⟨p, b, cy, x4⟩ ⟨hp, k, hk, h5, hc, hdg, hs⟩
    dsimp only at hp h5 hc hdg hs
    subst hp
    unfold f_N_divideBySmall_16_step f_N_divideBySmall_16_body f_N_divideBySmall_58
    dsimp only
    have hml : v / 1073741824 ^ k % d < d := Nat.mod_lt _ hd
    cases k with
    | zero =>
      rw [if_pos (show x4 < 0 by rw [i_lt, h5, e0]; omega)]
      obtain ⟨us', u1, u2⟩ := N_drop h1 h2 ⟨hsm, fun j hj => hdg j (by omega) hj⟩
      rw [u1, Option.bind_some]
      refine Or.inr ⟨_, rfl, ?_, u2⟩
      dsimp only
      rw [Nat.pow_zero, Nat.div_one] at hc hml
      rw [l2i, hc] <;> rw [hc] <;> omega
    | succ n =>
      have h5' : x4.toInt = (n : Int) := by omega
      have hz : zin x4 48 := ⟨by omega, by omega⟩
      rw [if_neg (show ¬ x4 < 0 by rw [i_lt, h5, e0]; omega), if_pos hz, if_pos hne, if_pos hz, if_pos hne, i_cl, h5', Int.toNat_natCast, hs n (by omega)]
      have hl := h3.2 n (by omega)
      have ln := nd_lt v n
      obtain ⟨s1, s2⟩ := @dsm_step v d n hd
      have sm := nd_lt (v / d) n
      rw [s1] at sm
      have bnd : v / 1073741824 ^ (n + 1) % d * 1073741824 + nd v n < 2147483648 * 1073741824 := by
        generalize v / 1073741824 ^ (n + 1) % d = z at hml ⊢
        omega
      have e5 : (jlshl cy 30).toInt = ((1073741824 * (v / 1073741824 ^ (n + 1) % d) : Nat) : Int) := by
        have e : cy.toInt * ((2 ^ 30 : Nat) : Int) = ((1073741824 * (v / 1073741824 ^ (n + 1) % d) : Nat) : Int) := by rw [hc, Nat.mul_comm]; exact (Int.natCast_mul _ _).symm
        generalize v / 1073741824 ^ (n + 1) % d = z at *
        exact (l_shl (n := 30) rfl (by decide) (by rw [e]; omega) (by rw [e]; omega)).trans e
      have e6 : (jlshl cy 30 ||| (l n).toInt64).toInt = ((v / 1073741824 ^ (n + 1) % d * 1073741824 + nd v n : Nat) : Int) := by
        rw [l_or 30 _ (nd v n) e5 (by rw [i2l, hl]) ln, e5, i2l, hl, Nat.mul_comm]
        exact (Int.natCast_add _ _).symm
      generalize jlshl cy 30 ||| (l n).toInt64 = y at e6 ⊢
      generalize v / 1073741824 ^ (n + 1) % d * 1073741824 + nd v n = Y at *
      have e7 : (y / x.toInt64).toInt = ((Y / d : Nat) : Int) := by
        rw [l_div (by rw [e6]; exact Int.natCast_nonneg _) (by rw [i2l, hx]; omega), e6, i2l, hx]
        exact (Int.natCast_ediv _ _).symm
      have e8 : (jlrem y x.toInt64).toInt = ((Y % d : Nat) : Int) := by
        rw [l_rem (by rw [e6]; exact Int.natCast_nonneg _) (by rw [i2l, hx]; omega), e6, i2l, hx]
        exact (Int.natCast_emod _ _).symm
      have e9 : ((y / x.toInt64).toInt32).toInt = ((Y / d : Nat) : Int) := by
        generalize Y / d = z at *
        rw [l2i, e7] <;> rw [e7] <;> omega
      have hnu : n ≤ u := Nat.le_of_succ_le hk
      have hm : (x4 + (-1)).toInt = (n : Int) - 1 := i_prd h5'
      refine Or.inl ⟨_, rfl, ⟨rfl, n, hnu, hm, ?_, fun j hj hj2 => ?_, fun j hj => ?_⟩, by dsimp only; rw [hm]; (try rw [h5']); exact mu_dn _⟩ <;> clear hm
      · dsimp only
        rw [e8, s2]
      · dsimp only
        by_cases cj : j = n
        · subst cj
          rw [pk_us, e9, s1]
        · rw [pk_un cj]
          exact hdg j (by omega) hj2
      · dsimp only
        rw [pk_un (by omega)]
        exact hs j (by omega)) ⟨rfl, u, Nat.le_refl _, hst, by
          dsimp only
          rw [Nat.div_eq_of_lt h3.1, Nat.zero_mod]
          rfl, fun i hi hi2 => by omega, fun i _ => rfl⟩
  exact ⟨r, us', l', a1, a2, a3⟩
theorem N_takeFrom {us : Int32} {l : Nat → Int32} {v : Nat} (h : nR us l v) {x : Int32} {i : Nat} (hx : x.toInt = i) : ∃ d us', f_N_takeFrom us l x = some (d, us') ∧ d.toInt = (nd v i : Int) ∧ nR us' l (v % 1073741824 ^ i) := by
  have hh := h
  obtain ⟨u, h1, h2, h3, h4⟩ := hh
  obtain ⟨d, p1, p2⟩ := N_limbAt h hx
  have e0 : (0 : Int32).toInt = 0 := rfl
  unfold f_N_takeFrom
  rw [p1, Option.bind_some, if_neg (show ¬ x < 0 by rw [i_lt, hx, e0]; omega)]
  by_cases c : u ≤ i
  · rw [if_pos (show us ≤ x by rw [i_le, h1, hx]; omega)]
    refine ⟨_, _, rfl, p2, ?_⟩
    rw [Nat.mod_eq_of_lt (Nat.lt_of_lt_of_le h3.1 (nBle c))]
    exact h
  · rw [if_neg (show ¬ us ≤ x by rw [i_le, h1, hx]; omega)]
    obtain ⟨us', u1, u2⟩ := N_drop (l := l) (v := v % 1073741824 ^ i) hx (by omega) ⟨Nat.mod_lt _ (nBp i), fun j hj => by rw [nd_low hj]; exact h3.2 j (by omega)⟩
    rw [u1, Option.bind_some]
    exact ⟨_, _, rfl, p2, u2⟩
