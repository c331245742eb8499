/-! class and reference: compare, of -/
def zplc (a : Int64) : Int64 := if a < 0 then -(a &&& 9223372036854775807) else a
theorem same_compare (t s o c p : Int32) (a b : Int64) : ∃ d, f_D_compare a b = some d ∧ f_M_compare t s o c p a b = some (d, 0) := by
  unfold f_D_compare f_M_compare
  rw [B_isNan, B_isNan, M_isNan, M_isNan, Option.bind_some, Option.bind_some, Option.bind_some, Option.bind_some]
  by_cases h1 : 9218868437227405312 < zmg a
  · rw [if_pos h1, if_neg (by decide), if_neg (by decide)]
    exact ⟨_, rfl, rfl⟩
  · rw [if_neg h1, if_pos rfl, if_pos rfl]
    by_cases h2 : 9218868437227405312 < zmg b
    · rw [if_pos h2, if_neg (by decide), if_neg (by decide)]
      exact ⟨_, rfl, rfl⟩
    · rw [if_neg h2, if_pos rfl, if_pos rfl]
      have hp : ∀ x : Int64, f_B_place x = some (zplc x) := by
        intro x
        unfold f_B_place f_B_magnitude zplc
        by_cases h : x < 0
        · rw [if_pos h, if_pos h]; rfl
        · rw [if_neg h, if_neg h]
      rw [hp a, hp b, Option.bind_some, Option.bind_some]
      have hm : (if a < 0 then f_M_compare_37 0 s o c p b (-(a &&& 9223372036854775807)) else f_M_compare_37 0 s o c p b a) = f_M_compare_55 0 s o c p (zplc a) (zplc b) := by
        unfold f_M_compare_37 zplc
        by_cases q : a < 0
        · rw [if_pos q, if_pos q]
          by_cases w : b < 0
          · rw [if_pos w, if_pos w]
          · rw [if_neg w, if_neg w]
        · rw [if_neg q, if_neg q]
          by_cases w : b < 0
          · rw [if_pos w, if_pos w]
          · rw [if_neg w, if_neg w]
      rw [hm]
      unfold f_M_compare_55
      generalize zplc a = x
      generalize zplc b = y
      by_cases e : x = y
      · subst e
        rw [if_pos rfl, if_neg (by rw [l_lt]; omega), if_neg (by rw [l_lt]; omega)]
        exact ⟨_, rfl, rfl⟩
      · rw [if_neg e]
        by_cases q : x < y
        · rw [if_pos q, if_pos q]
          exact ⟨_, rfl, rfl⟩
        · rw [if_neg q, if_neg q]
          rw [l_eq] at e
          rw [l_lt] at q
          rw [if_pos (by rw [l_lt]; omega)]
          exact ⟨_, rfl, rfl⟩
theorem mof54 (t s o c p : Int32) {r : Nat → Int32} (hr : mOK r) (s1 : Int64) : ∃ r', f_M_of_54 t s o c p r s1 = some (s1 ||| lN (zrd (mV r 0) 0 1074), t, r') ∧ mOK r' := by
  obtain ⟨r', h1, h2⟩ := M_round' t s o c p hr (a := 0) (mo := 0) (x1 := s1) (x3 := 0) (x4 := 0) (x5 := 0) (E := 1074) (by decide) (by decide) rfl rfl (by decide) (by decide) rfl (by decide) (fun h => by cases h)
  unfold f_M_of_54
  rw [h1, Option.bind_some]
  exact ⟨r', rfl, h2.1⟩
theorem i10 : ¬ (1 : Int32) = 0 := by decide
theorem same_of (t s o c p : Int32) {r : Nat → Int32} (hr : mOK r) (x : Int64) : ∃ d r', f_D_of x = some d ∧ f_M_of t s o c p r x = some (d, 0, r') ∧ mOK r' := by
  have rx := l_rng x
  unfold f_D_of f_M_of f_M_of_16 f_M_of_29
  by_cases hn : x < 0
  · have hn' : x.toInt < 0 := by rw [l_lt] at hn; exact hn
    have hx0 : ¬ x = 0 := by rw [l_eq]; show ¬ _ = (0 : Int); omega
    obtain ⟨r1, t1, tR⟩ := M_set 0 s o c p hr (a := 0) (x1 := 0) (x2 := -x) (by decide) rfl
    obtain ⟨r2, u1, u2⟩ := mof54 0 s o c p tR.1 (-9223372036854775808)
    rw [if_pos hn, if_pos hn, if_neg i10, t1, Option.bind_some, if_neg hx0, if_neg i10, u1, tR.2.1]
    by_cases hmin : x = -9223372036854775808
    · rw [if_pos hmin, B_round' (V := 1) (E := 1137) rfl rfl (by decide) (by decide), Option.bind_some]
      have e1 : (-x).toBitVec.toNat = 1 * 2 ^ 63 := by rw [hmin]; decide
      have e2 : zrd ((-x).toBitVec.toNat) 0 1074 = zrd 1 0 1137 := by rw [e1, zrd_shift]; rfl
      rw [e2]
      exact ⟨_, r2, rfl, rfl, u2⟩
    · have hlt : -9223372036854775808 < x.toInt := by
        rcases Int.lt_or_eq_of_le rx.1 with q | q
        · exact q
        · exact absurd (l_ext (q.symm.trans rfl)) hmin
      have hneg : (-x).toInt = -x.toInt := l_neg hlt
      obtain ⟨n, hnn⟩ : ∃ n : Nat, -x.toInt = n := ⟨(-x.toInt).toNat, by omega⟩
      have hb : (-x).toBitVec.toNat = n := by
        have := l_bv (-x)
        rw [hneg, hnn] at this
        omega
      rw [if_neg hmin, B_round' (V := n) (E := 1074) (hneg.trans hnn) rfl (by decide) (by decide), Option.bind_some, hb]
      exact ⟨_, r2, rfl, rfl, u2⟩
  · have hn' : 0 ≤ x.toInt := by rw [l_lt] at hn; exact Int.not_lt.mp hn
    obtain ⟨n, hnn⟩ : ∃ n : Nat, x.toInt = n := ⟨x.toInt.toNat, by omega⟩
    have hb : x.toBitVec.toNat = n := by
      have := l_bv x
      rw [hnn] at this
      omega
    obtain ⟨r1, t1, tR⟩ := M_set 0 s o c p hr (a := 0) (x1 := 0) (x2 := x) (by decide) rfl
    rw [if_neg hn, if_neg hn, if_pos rfl, t1, Option.bind_some]
    rw [B_round' (V := n) (E := 1074) hnn rfl (by decide) (by decide), Option.bind_some]
    by_cases hx0 : x = 0
    · have h00 : n = 0 := by
        rw [hx0] at hnn
        have e : (0 : Int64).toInt = 0 := rfl
        omega
      rw [if_pos hx0, h00, zrd_0, or_z]
      exact ⟨_, r1, rfl, rfl, tR.1⟩
    · obtain ⟨r2, u1, u2⟩ := mof54 0 s o c p tR.1 0
      rw [if_neg hx0, if_pos rfl, u1, tR.2.1, hb]
      exact ⟨_, r2, rfl, rfl, u2⟩
