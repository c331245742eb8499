/-! Natural, more -/
theorem N_mulAdd {us : Int32} {l : Nat → Int32} {v : Nat} (h : nR us l v) {x1 x2 : Int32} {f a : Nat} (hx1 : x1.toInt = f) (hx2 : x2.toInt = a) (hf0 : 0 < f) (hf : f ≤ 1073741824) (ha : a < 1073741824) (hV : v * f + a < 1073741824 ^ 48) : ∃ us' l', f_N_multiplyAndAdd us l x1 x2 = some (us', l') ∧ nR us' l' (v * f + a) := by
  obtain ⟨u, h1, h2, h3, h4⟩ := h
  unfold f_N_multiplyAndAdd f_N_multiplyAndAdd_6
  obtain ⟨⟨us', l'⟩, a1, a2⟩ := zrun_inv (step := f_N_multiplyAndAdd_6_step x1) (x := (us, l, x2.toInt64, 0)) (fun z => z.1 = us ∧ ∃ k : Nat, k ≤ u ∧ z.2.2.2.toInt = k ∧ z.2.2.1.toInt = (((v % 1073741824 ^ k * f + a) / 1073741824 ^ k : Nat) : Int) ∧ (∀ i, i < k → (z.2.1 i).toInt = (nd (v * f + a) i : Int)) ∧ ∀ i, k ≤ i → z.2.1 i = l i) (fun z => (u - z.2.2.2.toInt).toNat) (fun d => nR d.1 d.2 (v * f + a)) (by
    rintro ⟨q, b, cy, x5⟩ ⟨hq, k, hk, h5, hc, hd, hs⟩
    dsimp only at hq h5 hc hd hs
    subst hq
    unfold f_N_multiplyAndAdd_6_step f_N_multiplyAndAdd_6_body f_N_multiplyAndAdd_52
    dsimp only
    have hcl := @mul_carL v f a k hf ha
    by_cases c : k = u
    · subst c
      rw [if_pos (show q ≤ x5 by rw [i_le, h1, h5]; omega)]
      rw [Nat.mod_eq_of_lt h3.1] at hc hcl
      have hcx : (cy.toInt32).toInt = (((v * f + a) / 1073741824 ^ k : Nat) : Int) := by
        generalize (v * f + a) / 1073741824 ^ k = z at *
        rw [l2i, hc] <;> rw [hc] <;> omega
      obtain ⟨us', l', u1, u2⟩ := N_append h1 h2 hd hcx hcl hV (by
        rcases h4 with z | z
        · exact Or.inl z
        · refine Or.inr (Nat.le_trans z ?_)
          have := Nat.le_mul_of_pos_right v hf0
          omega)
      rw [u1, Option.bind_some]
      exact Or.inr ⟨_, rfl, u2⟩
    · have hz : zin x5 48 := ⟨by omega, by omega⟩
      rw [if_neg (show ¬ q ≤ x5 by rw [i_le, h1, h5]; omega), if_pos hz, if_pos hz, i_cl, h5, Int.toNat_natCast, hs k (Nat.le_refl _)]
      have hl := h3.2 k (by omega)
      have hdl := nd_lt v k
      have hprod : nd v k * f ≤ 1073741823 * 1073741824 := Nat.mul_le_mul (by omega) hf
      have hcS := mul_carS v f a k
      have hdg := mul_dig v f a k
      have hm : ((l k).toInt64 * x1.toInt64).toInt = ((nd v k * f : Nat) : Int) := by
        have e : (l k).toInt64.toInt * x1.toInt64.toInt = ((nd v k * f : Nat) : Int) := by rw [i2l, i2l, hl, hx1]; exact (Int.natCast_mul _ _).symm
        generalize nd v k * f = z at *
        rw [l_mul (by rw [e]; omega) (by rw [e]; omega), e]
      generalize (v % 1073741824 ^ k * f + a) / 1073741824 ^ k = cc at *
      generalize nd v k * f = pr at *
      have hsum : (cy + (l k).toInt64 * x1.toInt64).toInt = ((cc + pr : Nat) : Int) := by
        rw [l_add, hc, hm] <;> (try rw [hc, hm]) <;> omega
      have hnew := i_mask (cy + (l k).toInt64 * x1.toInt64)
      have hcar := B_ushr (s := 30) (o := 30) rfl (by decide) hsum
      rw [hsum] at hnew
      generalize cy + (l k).toInt64 * x1.toInt64 = sm at *
      have hsu : (x5 + 1).toInt = ((k + 1 : Nat) : Int) := i_suc h5 (by omega)
      refine Or.inl ⟨_, rfl, ⟨rfl, k + 1, by omega, hsu, ?_, fun i hi => ?_, fun i hi => ?_⟩, by dsimp only; rw [hsu]; (try rw [h5]); clear hsu h5; omega⟩
      · dsimp only
        rw [hcar, hcS]
      · dsimp only
        by_cases ci : i = k
        · subst ci
          rw [pk_us, hnew, hdg]
          exact (Int.natCast_emod _ _).symm
        · rw [pk_un ci]
          exact hd i (by omega)
      · dsimp only
        rw [pk_un (by omega)]
        exact hs i (by omega)) ⟨rfl, 0, by omega, rfl, by
          dsimp only
          rw [i2l, hx2, Nat.pow_zero, Nat.mod_one, Nat.zero_mul, Nat.zero_add, Nat.div_one], fun i hi => absurd hi (Nat.not_lt_zero _), fun i _ => rfl⟩
  exact ⟨us', l', a1, a2⟩
