/-! Natural, more -/
theorem N_add {us os : Int32} {l m : Nat → Int32} {v w : Nat} (h : nR us l v) (g : nR os m w) (hV : v + w < 1073741824 ^ 48) : ∃ us' l', f_N_add us l os m = some (us', l') ∧ nR us' l' (v + w) := by
  have hh := h
  have gg := g
  obtain ⟨u, h1, h2, h3, h4⟩ := hh
  obtain ⟨o, g1, g2, g3, g4⟩ := gg
  obtain ⟨n, hn⟩ : ∃ n, n = max u o := ⟨_, rfl⟩
  have hx2 : (if us < os then os else us).toInt = (n : Int) := by
    by_cases c : us < os
    · rw [if_pos c, g1]
      rw [i_lt, h1, g1] at c
      omega
    · rw [if_neg c, h1]
      rw [i_lt, h1, g1] at c
      omega
  unfold f_N_add f_N_add_17
  generalize (if us < os then os else us) = x2 at hx2 ⊢
  have lv : v < 1073741824 ^ n := Nat.lt_of_lt_of_le h3.1 (nBle (by omega))
  have lw : w < 1073741824 ^ n := Nat.lt_of_lt_of_le g3.1 (nBle (by omega))
  obtain ⟨⟨us', l'⟩, a1, a2⟩ := zrun_inv (step := f_N_add_17_step os m x2) (x := (us, l, 0, 0)) (fun z => z.1 = us ∧ ∃ k : Nat, k ≤ n ∧ z.2.2.2.toInt = k ∧ z.2.2.1.toInt = (((v % 1073741824 ^ k + w % 1073741824 ^ k) / 1073741824 ^ k : Nat) : Int) ∧ (∀ i, i < k → (z.2.1 i).toInt = (nd (v + w) i : Int)) ∧ ∀ i, k ≤ i → z.2.1 i = l i) (fun z => (n - z.2.2.2.toInt).toNat) (fun d => nR d.1 d.2 (v + w)) (by
    rintro ⟨q, b, cy, x4⟩ ⟨hq, k, hk, h5, hc, hd, hs⟩
    dsimp only at hq h5 hc hd hs
    subst hq
    unfold f_N_add_17_step f_N_add_17_body f_N_add_61
    dsimp only
    have hcl := add_carL v w k
    by_cases c : k = n
    · rw [if_pos (show x2 ≤ x4 by rw [i_le, hx2, h5]; omega)]
      rw [c, Nat.mod_eq_of_lt lv, Nat.mod_eq_of_lt lw] at hc
      rw [c, Nat.mod_eq_of_lt lv, Nat.mod_eq_of_lt lw] at hcl
      rw [c] at hd
      obtain ⟨us', l', u1, u2⟩ := N_append hx2 (by omega) hd hc (by omega) hV (by
        rcases Nat.lt_or_ge u o with z | z
        · rcases g4 with y | y
          · omega
          · refine Or.inr ?_
            rw [show n = o by omega]
            omega
        · rcases h4 with y | y
          · exact Or.inl (by omega)
          · refine Or.inr ?_
            rw [show n = u by omega]
            omega)
      rw [u1, Option.bind_some]
      exact Or.inr ⟨_, rfl, u2⟩
    · have hz : zin x4 48 := ⟨by omega, by omega⟩
      have hb : ∃ d, f_N_limbAt q b x4 = some d ∧ d.toInt = (nd v k : Int) := by
        unfold f_N_limbAt
        have e0 : (0 : Int32).toInt = 0 := rfl
        rw [if_neg (show ¬ x4 < 0 by rw [i_lt, h5, e0]; omega)]
        by_cases c2 : u ≤ k
        · rw [if_pos (show q ≤ x4 by rw [i_le, h1, h5]; omega)]
          refine ⟨_, rfl, ?_⟩
          rw [nd_hi h3.1 c2]
          rfl
        · rw [if_neg (show ¬ q ≤ x4 by rw [i_le, h1, h5]; omega), if_pos hz]
          refine ⟨_, rfl, ?_⟩
          rw [i_cl, h5, Int.toNat_natCast, hs k (Nat.le_refl _)]
          exact h3.2 k (by omega)
      obtain ⟨d1, p1, p2⟩ := hb
      obtain ⟨d2, q1, q2⟩ := N_limbAt g h5
      rw [if_neg (show ¬ x2 ≤ x4 by rw [i_le, hx2, h5]; omega), p1, Option.bind_some, q1, Option.bind_some, if_pos hz, i_cl, h5, Int.toNat_natCast]
      have l1 := nd_lt v k
      have l2 := nd_lt w k
      have hcS := add_carS v w k
      have hdg := add_dig v w k
      generalize (v % 1073741824 ^ k + w % 1073741824 ^ k) / 1073741824 ^ k = cc at *
      have s1 : (d1 + d2).toInt = ((nd v k + nd w k : Nat) : Int) := by
        rw [i_add, p2, q2] <;> (try rw [p2, q2]) <;> omega
      have s2 : (cy + (d1 + d2)).toInt = ((cc + (nd v k + nd w k) : Nat) : Int) := by
        rw [i_add, hc, s1] <;> (try rw [hc, s1]) <;> omega
      have hnew : ((cy + (d1 + d2)) &&& 1073741823).toInt = (((cc + (nd v k + nd w k)) % 1073741824 : Nat) : Int) := by
        rw [i_and 30 (by decide) rfl, s2]
        exact (Int.natCast_emod _ _).symm
      have hcar : (jushr (cy + (d1 + d2)) 30).toInt = (((cc + (nd v k + nd w k)) / 1073741824 : Nat) : Int) := by
        rw [i_ushr (n := 30) rfl (by decide) (by rw [s2]; exact Int.natCast_nonneg _), s2]
        exact (Int.natCast_ediv _ _).symm
      have hsu : (x4 + 1).toInt = ((k + 1 : Nat) : Int) := i_suc h5 (by omega)
      refine Or.inl ⟨_, rfl, ⟨rfl, k + 1, by omega, hsu, ?_, fun i hi => ?_, fun i hi => ?_⟩, by dsimp only; rw [hsu]; (try rw [h5]); clear hsu h5; omega⟩
      · dsimp only
        rw [hcar, hcS]
      · dsimp only
        by_cases ci : i = k
        · subst ci
          rw [pk_us, hnew, hdg]
        · rw [pk_un ci]
          exact hd i (by omega)
      · dsimp only
        rw [pk_un (by omega)]
        exact hs i (by omega)) ⟨rfl, 0, by omega, rfl, by
          dsimp only
          rw [Nat.pow_zero, Nat.mod_one, Nat.mod_one]
          rfl, fun i hi => absurd hi (Nat.not_lt_zero _), fun i _ => rfl⟩
  exact ⟨us', l', a1, a2⟩
