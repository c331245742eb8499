/-! class and reference: reckon, turn -/
theorem same_reckon (t s o c p : Int32) {r : Nat → Int32} (hr : mOK r) (a b : Int64) {x5 : Int32} (h0 : ¬ x5 < 0) (h4 : x5 ≤ 4) :
    ∃ d r', f_D_reckon a b x5 = some d ∧ f_M_reckon t s o c p r a b x5 = some (d, 0, r') ∧ mOK r' := by
  have hx : x5 = 0 ∨ x5 = 1 ∨ x5 = 2 ∨ x5 = 3 ∨ x5 = 4 := by
    rw [i_lt] at h0
    rw [i_le] at h4
    have e0 : (0 : Int32).toInt = 0 := rfl
    have e4 : (4 : Int32).toInt = 4 := rfl
    rw [i_eq, i_eq, i_eq, i_eq, i_eq]
    show _ = (0 : Int) ∨ _ = (1 : Int) ∨ _ = (2 : Int) ∨ _ = (3 : Int) ∨ _ = (4 : Int)
    omega
  unfold f_D_reckon f_M_reckon
  rw [if_neg h0, if_pos h4]
  unfold f_M_reckon_17
  rw [M_thr0, Option.bind_some]
  dsimp only
  rw [if_pos rfl, M_isNan, M_isNan]
  simp only [Option.bind_some]
  have flip := zmg_flip b
  by_cases na : 9218868437227405312 < zmg a
  · rw [if_neg (fun q => zbf.mp q na)]
    refine ⟨9221120237041090560, r, ?_, rfl, hr⟩
    rcases hx with e | e | e | e | e <;> subst e
    · rw [if_pos rfl]
      unfold f_A_sum
      rw [B_isNan, Option.bind_some, if_neg (fun q => zbf.mp q na)]; rfl
    · rw [if_neg (by decide), if_pos rfl]
      unfold f_A_difference f_A_sum
      rw [B_isNan, Option.bind_some, if_neg (fun q => zbf.mp q na)]; rfl
    · rw [if_neg (by decide), if_neg (by decide), if_pos rfl]
      unfold f_A_product
      rw [B_isNan, Option.bind_some, if_neg (fun q => zbf.mp q na)]; rfl
    · rw [if_neg (by decide), if_neg (by decide), if_neg (by decide), if_pos rfl]
      unfold f_A_quotient
      rw [B_isNan, Option.bind_some, if_neg (fun q => zbf.mp q na)]; rfl
    · rw [if_neg (by decide), if_neg (by decide), if_neg (by decide), if_neg (by decide), if_pos rfl]
      obtain ⟨d, hd, _⟩ := B_mantissa b
      unfold f_A_remainder
      rw [hd, Option.bind_some, B_isNan, Option.bind_some, if_neg (fun q => zbf.mp q na)]; rfl
  · rw [if_pos (zbf.mpr na)]
    by_cases nb : 9218868437227405312 < zmg b
    · rw [if_neg (fun q => zbf.mp q nb)]
      refine ⟨9221120237041090560, r, ?_, rfl, hr⟩
      rcases hx with e | e | e | e | e <;> subst e
      · rw [if_pos rfl]
        unfold f_A_sum
        rw [B_isNan, B_isNan, Option.bind_some, Option.bind_some, if_pos (zbf.mpr na), if_neg (fun q => zbf.mp q nb)]; rfl
      · rw [if_neg (by decide), if_pos rfl]
        unfold f_A_difference f_A_sum
        rw [B_isNan, B_isNan, flip, Option.bind_some, Option.bind_some, if_pos (zbf.mpr na), if_neg (fun q => zbf.mp q nb)]; rfl
      · rw [if_neg (by decide), if_neg (by decide), if_pos rfl]
        unfold f_A_product
        rw [B_isNan, B_isNan, Option.bind_some, Option.bind_some, if_pos (zbf.mpr na), if_neg (fun q => zbf.mp q nb)]; rfl
      · rw [if_neg (by decide), if_neg (by decide), if_neg (by decide), if_pos rfl]
        unfold f_A_quotient
        rw [B_isNan, B_isNan, Option.bind_some, Option.bind_some, if_pos (zbf.mpr na), if_neg (fun q => zbf.mp q nb)]; rfl
      · rw [if_neg (by decide), if_neg (by decide), if_neg (by decide), if_neg (by decide), if_pos rfl]
        obtain ⟨d, hd, _⟩ := B_mantissa b
        unfold f_A_remainder
        rw [hd, Option.bind_some, B_isNan, B_isNan, Option.bind_some, Option.bind_some, if_pos (zbf.mpr na), if_neg (fun q => zbf.mp q nb)]; rfl
    · rw [if_pos (zbf.mpr nb)]
      rcases hx with e | e | e | e | e <;> subst e
      · obtain ⟨d, r', u1, u2, u3⟩ := same_sum 0 s o c p hr a b na nb
        rw [if_pos rfl, if_pos rfl, u1, u2]
        exact ⟨d, r', rfl, rfl, u3⟩
      · obtain ⟨d, r', u1, u2, u3⟩ := same_sum 0 s o c p hr a (b ^^^ (-9223372036854775808)) na (by rw [flip]; exact nb)
        rw [if_neg (by decide), if_pos rfl, if_neg (by decide), if_pos rfl]
        unfold f_A_difference
        rw [u1, u2]
        exact ⟨d, r', rfl, rfl, u3⟩
      · obtain ⟨d, r', u1, u2, u3⟩ := same_product 0 s o c p hr a b na nb
        rw [if_neg (by decide), if_neg (by decide), if_pos rfl, if_neg (by decide), if_neg (by decide), if_pos rfl, u1, u2]
        exact ⟨d, r', rfl, rfl, u3⟩
      · obtain ⟨d, r', u1, u2, u3⟩ := same_quotient 0 s o c p hr a b na nb
        rw [if_neg (by decide), if_neg (by decide), if_neg (by decide), if_pos rfl, if_neg (by decide), if_neg (by decide), if_neg (by decide), if_pos rfl, u1, u2]
        exact ⟨d, r', rfl, rfl, u3⟩
      · obtain ⟨d, u1, u2⟩ := same_remainder a b na nb
        rw [if_neg (by decide), if_neg (by decide), if_neg (by decide), if_neg (by decide), if_pos rfl, if_neg (by decide), if_neg (by decide), if_neg (by decide), if_neg (by decide), u1, u2]
        exact ⟨d, r, rfl, rfl, hr⟩
theorem same_turn (t s o c p : Int32) {r : Nat → Int32} (hr : mOK r) (a : Int64) {x3 : Int32} (h0 : ¬ x3 < 0) (h6 : x3 ≤ 6) :
    ∃ d r', f_D_turn a x3 = some d ∧ f_M_turn t s o c p r a x3 = some (d, 0, r') ∧ mOK r' := by
  unfold f_D_turn f_M_turn
  rw [if_neg h0, if_pos h6, if_neg h0, if_pos h6]
  unfold f_M_turn_16 f_B_magnitude
  rw [M_thr0, M_isNan, B_isNan]
  simp only [Option.bind_some]
  rw [if_pos trivial]
  by_cases na : 9218868437227405312 < zmg a
  · rw [if_neg (fun q => zbf.mp q na), if_neg (fun q => zbf.mp q na)]
    exact ⟨_, r, rfl, rfl, hr⟩
  · rw [if_pos (zbf.mpr na), if_pos (zbf.mpr na)]
    by_cases c0 : x3 = 0
    · rw [if_pos c0, if_pos c0]
      obtain ⟨d, r', u1, u2, u3⟩ := same_root 0 s o c p hr a na
      rw [u1, u2]
      exact ⟨d, r', rfl, rfl, u3⟩
    · rw [if_neg c0, if_neg c0]
      by_cases c5 : x3 = 5
      · rw [if_pos c5, if_pos c5]
        exact ⟨_, r, rfl, rfl, hr⟩
      · rw [if_neg c5, if_neg c5]
        by_cases c6 : x3 = 6
        · rw [if_pos c6, if_pos c6]
          exact ⟨_, r, rfl, rfl, hr⟩
        · rw [if_neg c6, if_neg c6]
          have hw : 0 < x3.toInt ∧ x3.toInt < 5 := by
            rw [i_lt] at h0
            rw [i_le] at h6
            rw [i_eq] at c0 c5 c6
            have e0 : (0 : Int32).toInt = 0 := rfl
            have e5 : (5 : Int32).toInt = 5 := rfl
            have e6 : (6 : Int32).toInt = 6 := rfl
            omega
          obtain ⟨w, hw2⟩ : ∃ w : Nat, x3.toInt = w := ⟨x3.toInt.toNat, by omega⟩
          obtain ⟨d, u1, u2⟩ := same_near 0 s o c p a na hw2 (by omega) (by omega)
          rw [u1, u2]
          exact ⟨d, r, rfl, rfl, hr⟩
