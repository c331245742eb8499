/-! the reference's remainder -/
theorem M_rem163 {x0 x4 : Int64} {x9 : Int32} {w f : Nat} (hw : x4.toInt = w) (hw2 : w < 9007199254740992) (h9 : x9.toInt = (f : Int) - 1074) (hf : f < 100000) : f_M_remainder_163 x0 x4 x9 = some ((x0 &&& (-9223372036854775808)) ||| lN (zrd w 0 f)) := by
  unfold f_M_remainder_163
  by_cases c : w = 0
  · rw [if_pos (by rw [l_eq, hw, c]; rfl), c, zrd_0, or_z]
  · rw [if_neg (by rw [l_eq, hw]; show ¬ _ = (0 : Int); omega), M_scaled hw (by omega) hw2 h9 hf, Option.bind_some]
theorem M_rem139' {x0 x4 x6 : Int64} {x8 x9 : Int32} {y v k f : Nat} (P : Nat → Nat → Prop) (hP : ∀ w g k, P w (g + k) → P (w * 2 ^ g % y) k) (h6 : x6.toInt = y) (hy0 : 0 < y) (hy : y < 9007199254740992) (h4 : x4.toInt = v) (hv : v < y) (h9 : x9.toInt = (f : Int) - 1074) (hf : f < 100000) (h8 : x8.toInt = (f : Int) + k - 1074) (hk : k < 100000) (h0 : P v k) :
    ∃ w, P w 0 ∧ w < y ∧ f_M_remainder_139 x0 x4 x6 x8 x9 = some ((x0 &&& (-9223372036854775808)) ||| lN (zrd w 0 f)) := by
  have em1 : (-1 : Int32).toInt = -1 := rfl
  have e2 : (2 : Int64).toInt = 2 := rfl
  unfold f_M_remainder_139
  have hx6 : ¬ x6 = 0 := by
    rw [l_eq, h6]
    show ¬ _ = (0 : Int)
    omega
  obtain ⟨z, hz1, w, hz2, hz3, hz4⟩ := zrun_inv (step := f_M_remainder_139_step x0 x6 x9) (x := (x4, x8)) (fun z => ∃ (j w : Nat), z.2.toInt = (f : Int) + j - 1074 ∧ j < 100000 ∧ z.1.toInt = (w : Int) ∧ w < y ∧ P w j) (fun z => (z.2.toInt + 1074).toNat)
    (fun d => ∃ w, P w 0 ∧ w < y ∧ d = (x0 &&& (-9223372036854775808)) ||| lN (zrd w 0 f)) (by
      rintro ⟨a4, a8⟩ ⟨j, w, hj, hj2, hw, hwy, hval⟩
      dsimp only at hj hw
      unfold f_M_remainder_139_step f_M_remainder_139_body
      dsimp only
      cases j with
      | zero =>
        rw [if_pos (show a8 ≤ x9 by rw [i_le, hj, h9]; omega), M_rem163 hw (by omega) h9 hf]
        exact Or.inr ⟨_, rfl, w, hval, hwy, rfl⟩
      | succ j =>
        rw [if_neg (show ¬ a8 ≤ x9 by rw [i_le, hj, h9]; omega), if_pos hx6]
        have hd : (2 * a4).toInt = ((w * 2 ^ 1 : Nat) : Int) := by
          rw [Nat.pow_one, l_mul, e2, hw] <;> (try rw [e2, hw]) <;> omega
        have hr : (jlrem (2 * a4) x6).toInt = ((w * 2 ^ 1 % y : Nat) : Int) := by
          rw [l_rem (by rw [hd]; exact Int.natCast_nonneg _) (by rw [h6]; omega), hd, h6]
          exact (Int.natCast_emod _ _).symm
        have hj3 : j < 100000 := by clear hr hd; omega
        have hmu : ((f : Int) + j - 1074 + 1074).toNat < ((f : Int) + ((j + 1 : Nat) : Int) - 1074 + 1074).toNat := by clear hr hd; omega
        have hm : (a8 + (-1)).toInt = (f : Int) + j - 1074 := by
          rw [i_add, hj, em1] <;> (try rw [hj, em1]) <;> omega
        rw [Nat.add_comm j 1] at hval
        have hlt : w * 2 ^ 1 % y < y := Nat.mod_lt _ hy0
        have hp2 := hP w 1 j hval
        generalize w * 2 ^ 1 % y = w2 at hr hlt hp2
        exact Or.inl ⟨_, rfl, ⟨j, w2, hm, hj3, hr, hlt, hp2⟩, by dsimp only; rw [hm, hj]; exact hmu⟩) ⟨k, v, h8, hk, h4, hv, h0⟩
  exact ⟨w, hz2, hz3, by rw [hz1, hz4]⟩
theorem M_rem139 {x0 x4 x6 : Int64} {x8 x9 : Int32} {y v k f : Nat} (h6 : x6.toInt = y) (hy0 : 0 < y) (hy : y < 9007199254740992) (h4 : x4.toInt = v) (hv : v < y) (h9 : x9.toInt = (f : Int) - 1074) (hf : f < 100000) (h8 : x8.toInt = (f : Int) + k - 1074) (hk : k < 100000) :
    f_M_remainder_139 x0 x4 x6 x8 x9 = some ((x0 &&& (-9223372036854775808)) ||| lN (zrd (v * 2 ^ k % y) 0 f)) := by
  obtain ⟨w, h1, h2, h3⟩ := M_rem139' (x0 := x0) (fun w j => w * 2 ^ j % y = v * 2 ^ k % y) (fun w g k h => by rw [rem_mod]; exact h) h6 hy0 hy h4 hv h9 hf h8 hk rfl
  rw [Nat.pow_zero, Nat.mul_one, Nat.mod_eq_of_lt h2] at h1
  rw [h3, h1]
