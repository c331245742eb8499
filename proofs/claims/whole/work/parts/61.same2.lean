/-! class and reference: whole -/
theorem same_mant (a : Int64) : f_B_mantissa a = f_M_amount a := rfl
theorem same_expo (a : Int64) : ∃ d, f_B_exponent a = some d ∧ f_M_power a = some d ∧ d.toInt = (zep (zmg a) : Int) - 1074 := by
  obtain ⟨d1, h1, e1⟩ := B_exponent a
  obtain ⟨d2, h2, e2⟩ := M_power a
  have : d2 = d1 := i_ext (e2.trans e1.symm)
  subst this
  exact ⟨_, h1, h2, e2⟩
theorem zam_lt (a : Int64) : zam (zmg a) < 9007199254740992 := by
  have := zmg_lt a
  unfold zam
  split <;> omega
theorem shr_same {r : Int64} {s : Int32} {n m : Nat} (hr : r.toInt = m) (hs : s.toInt = n) (hn : n < 64) : jlushr r s = jlshr r s := by
  apply l_ext
  have rr := l_rng r
  rw [l_shr hs hn, l_ushr hs hn (Or.inl (by omega)), Int.emod_eq_of_lt (by omega) (by omega)]
theorem M_thr0 (t s o c p : Int32) : f_M_throwing t s o c p 0 0 = some (0, 0) := by
  unfold f_M_throwing
  rfl
/-- what both cut off, before the mask -/
theorem same_low (t s o c p : Int32) (a : Int64) (x3 : Int32) : ∃ v, f_H_lowBits a = some v ∧ f_M_whole_15 t s o c p a x3 0 = f_M_whole_103 0 s o c p x3 v := by
  have hmag := l_mag a
  have einf : (9218868437227405312 : Int64).toInt = 9218868437227405312 := rfl
  obtain ⟨d, hd1, hd2, hd3⟩ := same_expo a
  have zz : ∀ x : Int32, f_M_whole_103 0 s o c p x 0 = some (0, 0) := by
    intro x
    unfold f_M_whole_103
    by_cases q : x = 0
    · rw [if_pos q]; rfl
    · rw [if_neg q]
      by_cases w : x = 1
      · rw [if_pos w]; rfl
      · rw [if_neg w]; rfl
  unfold f_H_lowBits f_M_whole_15 f_B_magnitude
  rw [M_thr0, M_isNan, M_isInfinite, hd1, hd2]
  simp only [Option.bind_some]
  rw [if_pos trivial]
  by_cases hfin : zmg a < 9218868437227405312
  · rw [if_pos (show (a &&& 9223372036854775807) < 9218868437227405312 by rw [l_lt, hmag, einf]; omega), if_neg (show ¬ 9218868437227405312 < zmg a by omega), if_pos rfl, if_neg (show ¬ zmg a = 9218868437227405312 by omega), if_pos rfl]
    have e32 : (32 : Int32).toInt = 32 := rfl
    have e31 : (31 : Int32).toInt = 31 := rfl
    have em53 : (-53 : Int32).toInt = -53 := rfl
    have em52 : (-52 : Int32).toInt = -52 := rfl
    have e0 : (0 : Int32).toInt = 0 := rfl
    have hz60 : f_M_whole_60 0 s o c p a x3 = f_M_whole_103 0 s o c p x3 0 := by
      unfold f_M_whole_60 f_M_whole_87
      by_cases q : a < 0
      · rw [if_pos q]; rfl
      · rw [if_neg q]
    rcases Int.lt_or_le 31 d.toInt with q | q
    · rw [if_pos (show (32 : Int32) ≤ d by rw [i_le, e32]; omega), if_pos (show (31 : Int32) < d by rw [i_lt, e31]; omega)]
      exact ⟨0, rfl, hz60⟩
    · rw [if_neg (show ¬ (32 : Int32) ≤ d by rw [i_le, e32]; omega), if_neg (show ¬ (31 : Int32) < d by rw [i_lt, e31]; omega)]
      rcases Int.lt_or_le d.toInt (-52) with w | w
      · rw [if_neg (show ¬ (-53 : Int32) < d by rw [i_lt, em53]; omega), if_neg (show ¬ (-52 : Int32) ≤ d by rw [i_le, em52]; omega)]
        exact ⟨0, rfl, hz60⟩
      · rw [if_pos (show (-53 : Int32) < d by rw [i_lt, em53]; omega), if_pos (show (-52 : Int32) ≤ d by rw [i_le, em52]; omega), same_mant]
        obtain ⟨r, hr1, hr2⟩ := M_amount a
        rw [hr1, Option.bind_some, Option.bind_some, Option.bind_some]
        unfold f_H_lowBits_49 f_M_whole_87
        rcases Int.lt_or_le d.toInt 0 with u | u
        · obtain ⟨n, hn⟩ : ∃ n : Nat, -d.toInt = n := ⟨(-d.toInt).toNat, by omega⟩
          have hneg : (-d).toInt = (n : Int) := by rw [i_neg (by omega), hn]
          have u' : d < 0 := by rw [i_lt, e0]; exact u
          rw [if_pos u', if_pos u', shr_same hr2 hneg (by omega)]
          by_cases q : a < 0
          · rw [if_pos q, if_pos q]; exact ⟨_, rfl, rfl⟩
          · rw [if_neg q, if_neg q]; exact ⟨_, rfl, rfl⟩
        · have u' : ¬ d < 0 := by rw [i_lt, e0]; omega
          rw [if_neg u', if_neg u']
          by_cases q : a < 0
          · rw [if_pos q, if_pos q]; exact ⟨_, rfl, rfl⟩
          · rw [if_neg q, if_neg q]; exact ⟨_, rfl, rfl⟩
  · rw [if_neg (by rw [l_lt, hmag, einf]; omega)]
    refine ⟨0, rfl, ?_⟩
    rw [zz]
    by_cases q : 9218868437227405312 < zmg a
    · rw [if_pos q, if_neg (show ¬ (1 : Int32) = 0 by decide)]
    · rw [if_neg q, if_pos rfl, if_pos (show zmg a = 9218868437227405312 by omega), if_neg (show ¬ (1 : Int32) = 0 by decide)]
theorem same_whole (t s o c p : Int32) (a : Int64) {x3 : Int32} (h0 : ¬ x3 < 0) (h2 : x3 ≤ 2) : ∃ d, f_D_whole a x3 = some d ∧ f_M_whole t s o c p a x3 = some (d, 0) := by
  obtain ⟨v, h1, h3⟩ := same_low t s o c p a x3
  unfold f_D_whole f_M_whole
  rw [if_neg h0, if_pos h2, if_neg h0, if_pos h2, h1, Option.bind_some, h3]
  unfold f_M_whole_103
  by_cases q : x3 = 0
  · rw [if_pos q, if_pos q]; exact ⟨_, rfl, rfl⟩
  · rw [if_neg q, if_neg q]
    by_cases w : x3 = 1
    · rw [if_pos w, if_pos w]; exact ⟨_, rfl, rfl⟩
    · rw [if_neg w, if_neg w]; exact ⟨_, rfl, rfl⟩
