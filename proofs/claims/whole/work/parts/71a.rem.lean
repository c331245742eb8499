/-! class and reference: remainder -/
theorem rem_mod (w y a b : Nat) : w * 2 ^ a % y * 2 ^ b % y = w * 2 ^ (a + b) % y := by
  rw [Nat.mod_mul_mod, Nat.mul_assoc, ← Nat.pow_add]
theorem A_remstep {x4 a6 : Int64} {sh : Int32} {y w n : Nat} (h4 : x4.toInt = y) (hy0 : 0 < y) (hw : a6.toInt = w) (hwy : w < 9007199254740992) (hs : sh.toInt = n) (hn : n ≤ 10) : (jlrem (jlshl a6 sh) x4).toInt = ((w * 2 ^ n % y : Nat) : Int) := by
  have hp : 2 ^ n ≤ 1024 := p2le (b := 10) hn
  have hb : w * 2 ^ n ≤ 9007199254740991 * 1024 := Nat.mul_le_mul (by omega) hp
  have hsh : (jlshl a6 sh).toInt = ((w * 2 ^ n : Nat) : Int) := by
    have e3 : a6.toInt * ((2 ^ n : Nat) : Int) = ((w * 2 ^ n : Nat) : Int) := by rw [hw]; exact (Int.natCast_mul _ _).symm
    generalize w * 2 ^ n = u at e3 hb ⊢
    exact (l_shl hs (by omega) (by rw [e3]; omega) (by rw [e3]; omega)).trans e3
  rw [l_rem (by rw [hsh]; exact Int.natCast_nonneg _) (by rw [h4]; omega), hsh, h4]
  exact (Int.natCast_emod _ _).symm
theorem A_rem105 {x0 x2 x6 : Int64} {w : Nat} (hw : x6.toInt = w) : f_A_remainder_105 x0 x2 x6 = some ((x0 &&& (-9223372036854775808)) ||| lN (zrd w 0 (zep (zmg x2)))) := by
  obtain ⟨d, hd1, hd2⟩ := B_exponent x2
  have hl := zep_lt' (zmg_lt x2)
  unfold f_A_remainder_105
  rw [hd1, Option.bind_some, B_round' hw hd2 (by omega) (by omega), Option.bind_some]
/-- the class's loop: ten bits at a time -/
theorem A_rem79' {x0 x2 x4 x6 : Int64} {x8 : Int32} {y v e : Nat} (P : Nat → Nat → Prop) (hP : ∀ w g k, P w (g + k) → P (w * 2 ^ g % y) k) (h4 : x4.toInt = y) (hy0 : 0 < y) (hy : y < 9007199254740992) (h6 : x6.toInt = v) (hv : v < y) (h8 : x8.toInt = e) (he : e < 100000) (h0 : P v e) :
    ∃ w, P w 0 ∧ w < y ∧ f_A_remainder_79 x0 x2 x4 x6 x8 = some ((x0 &&& (-9223372036854775808)) ||| lN (zrd w 0 (zep (zmg x2)))) := by
  have e0 : (0 : Int32).toInt = 0 := rfl
  have e10 : (10 : Int32).toInt = 10 := rfl
  have em10 : (-10 : Int32).toInt = -10 := rfl
  unfold f_A_remainder_79
  have hx4 : ¬ x4 = 0 := by
    rw [l_eq, h4]
    show ¬ _ = (0 : Int)
    omega
  obtain ⟨z, hz1, w, hz2, hz3, hz4⟩ := zrun_inv (step := f_A_remainder_79_step x0 x2 x4) (x := (x6, x8)) (fun z => ∃ (k n w : Nat), z.2.toInt = (k : Int) - n ∧ k < 100000 ∧ n < 10 ∧ (0 < n → k = 0) ∧ z.1.toInt = (w : Int) ∧ w < y ∧ P w k) (fun z => (z.2.toInt + 10).toNat)
    (fun d => ∃ w, P w 0 ∧ w < y ∧ d = (x0 &&& (-9223372036854775808)) ||| lN (zrd w 0 (zep (zmg x2)))) (by
      rintro ⟨a6, a8⟩ ⟨k, n, w, hk, hk2, hn, hnk, hw, hwy, hval⟩
      dsimp only at hk hw
      unfold f_A_remainder_79_step f_A_remainder_79_body
      dsimp only
      rcases Nat.lt_or_ge 0 k with q | q
      · have hn0 : n = 0 := by
          rcases Nat.eq_zero_or_pos n with u | u
          · exact u
          · have := hnk u; omega
        subst hn0
        rw [if_neg (show ¬ a8 ≤ 0 by rw [i_le, hk, e0]; omega), if_pos hx4]
        have step : ∀ (sh : Int32) (g k' n' : Nat), sh.toInt = (g : Int) → g ≤ 10 → k = g + k' → (a8 + (-10)).toInt = (k' : Int) - n' → n' < 10 → (0 < n' → k' = 0) → (k' : Int) - n' + 10 < (k : Int) - (0 : Nat) + 10 → (∃ yy, some (Sum.inl (jlrem (jlshl a6 sh) x4, a8 + (-10))) = some (Sum.inl (β := Int64) yy) ∧ (∃ (k n w : Nat), yy.2.toInt = (k : Int) - n ∧ k < 100000 ∧ n < 10 ∧ (0 < n → k = 0) ∧ yy.1.toInt = (w : Int) ∧ w < y ∧ P w k) ∧ (yy.2.toInt + 10).toNat < (a8.toInt + 10).toNat) := by
          intro sh g k' n' s1 s2 s3 s4 s5 s6 s7
          have s8 : k' < 100000 := by clear s4 s1 hk; omega
          rw [s3] at hval
          have hr : (jlrem (jlshl a6 sh) x4).toInt = ((w * 2 ^ g % y : Nat) : Int) := A_remstep h4 hy0 hw (Nat.lt_trans hwy hy) s1 s2
          have hlt : w * 2 ^ g % y < y := Nat.mod_lt _ hy0
          have hp2 := hP w g k' hval
          generalize w * 2 ^ g % y = w2 at hr hlt hp2
          refine ⟨_, rfl, ⟨k', n', w2, s4, s8, s5, s6, hr, hlt, hp2⟩, ?_⟩
          dsimp only
          rw [s4, hk]
          clear s4 hk s1 hr hw
          omega
        left
        by_cases c : (10 : Int32) < a8
        · rw [if_pos c]
          rw [i_lt, e10, hk] at c
          exact step 10 10 (k - 10) 0 rfl (by decide) (by omega) (by rw [i_add, hk, em10] <;> (try rw [hk, em10]) <;> omega) (by omega) (by omega) (by omega)
        · rw [if_neg c]
          rw [i_lt, e10, hk] at c
          exact step a8 k 0 (10 - k) (by rw [hk]; omega) (by omega) (by omega) (by rw [i_add, hk, em10] <;> (try rw [hk, em10]) <;> omega) (by omega) (by omega) (by omega)
      · have hk0 : k = 0 := by omega
        subst hk0
        rw [if_pos (show a8 ≤ 0 by rw [i_le, hk, e0]; omega), A_rem105 hw]
        exact Or.inr ⟨_, rfl, w, hval, hwy, rfl⟩) ⟨e, 0, v, by rw [h8]; omega, he, by omega, by omega, h6, hv, h0⟩
  exact ⟨w, hz2, hz3, by rw [hz1, hz4]⟩
theorem A_rem79 {x0 x2 x4 x6 : Int64} {x8 : Int32} {y v e : Nat} (h4 : x4.toInt = y) (hy0 : 0 < y) (hy : y < 9007199254740992) (h6 : x6.toInt = v) (hv : v < y) (h8 : x8.toInt = e) (he : e < 100000) :
    f_A_remainder_79 x0 x2 x4 x6 x8 = some ((x0 &&& (-9223372036854775808)) ||| lN (zrd (v * 2 ^ e % y) 0 (zep (zmg x2)))) := by
  obtain ⟨w, h1, h2, h3⟩ := A_rem79' (x0 := x0) (x2 := x2) (fun w k => w * 2 ^ k % y = v * 2 ^ e % y) (fun w g k h => by rw [rem_mod]; exact h) h4 hy0 hy h6 hv h8 he rfl
  rw [Nat.pow_zero, Nat.mul_one, Nat.mod_eq_of_lt h2] at h1
  rw [h3, h1]
