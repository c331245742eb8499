/-! blanks -/
theorem same_blank (x : Int32) : ∃ d, f_R_isBlank x = some d ∧ f_M_isBlank x = some d ∧ (d = 0 ∨ d = 1) := by
  have E : ∀ (k : Int32), x = k ↔ x.toInt = k.toInt := fun k => i_eq
  have L : ∀ (k : Int32), x < k ↔ x.toInt < k.toInt := fun k => i_lt
  have G : ∀ (k : Int32), k < x ↔ k.toInt < x.toInt := fun k => i_lt
  have l : ∀ (k : Int32), x ≤ k ↔ x.toInt ≤ k.toInt := fun k => i_le
  have g : ∀ (k : Int32), k ≤ x ↔ k.toInt ≤ x.toInt := fun k => i_le
  have c1 : (5760 : Int32).toInt = 5760 := rfl
  have c2 : (6158 : Int32).toInt = 6158 := rfl
  have c3 : (8192 : Int32).toInt = 8192 := rfl
  have c4 : (8202 : Int32).toInt = 8202 := rfl
  have c5 : (8232 : Int32).toInt = 8232 := rfl
  have c6 : (8233 : Int32).toInt = 8233 := rfl
  have c7 : (8239 : Int32).toInt = 8239 := rfl
  have c8 : (8287 : Int32).toInt = 8287 := rfl
  have c9 : (12288 : Int32).toInt = 12288 := rfl
  have c10 : (65279 : Int32).toInt = 65279 := rfl
  have c11 : (9 : Int32).toInt = 9 := rfl
  have c12 : (13 : Int32).toInt = 13 := rfl
  have c13 : (32 : Int32).toInt = 32 := rfl
  have c14 : (160 : Int32).toInt = 160 := rfl
  unfold f_R_isBlank f_R_isBlank_19 f_R_isBlank_66 f_R_isBlank_32 f_R_isBlank_107 f_M_isBlank f_M_isBlank_12 f_M_isBlank_53 f_M_isBlank_57 f_M_isBlank_58 f_M_isBlank_104
  simp only [E, L, G, l, g, c1, c2, c3, c4, c5, c6, c7, c8, c9, c10, c11, c12, c13, c14]
  rw [if_neg i10, if_pos trivial]
  generalize x.toInt = n
  by_cases h1 : 5760 ≤ n
  · rw [if_pos h1, if_neg (show ¬ n < 9 by omega), if_neg (show ¬ n ≤ 13 by omega), if_neg (show ¬ n = 32 by omega), if_neg (show ¬ n = 160 by omega)]
    by_cases h2 : n = 5760
    · rw [if_pos h2, if_pos h2]; exact ⟨1, rfl, rfl, Or.inr rfl⟩
    · rw [if_neg h2, if_neg h2]
      by_cases h3 : n = 6158
      · rw [if_pos h3, if_pos h3]; exact ⟨1, rfl, rfl, Or.inr rfl⟩
      · rw [if_neg h3, if_neg h3]
        have rest : ∃ d, (if n = 8232 then some (1 : Int32) else if n = 8233 then some 1 else if n = 8239 then some 1 else if n = 8287 then some 1 else if n = 12288 then some 1 else if n = 65279 then some 1 else some 0) = some d ∧ (d = 0 ∨ d = 1) := by
          repeat' split
          all_goals first | exact ⟨1, rfl, Or.inr rfl⟩ | exact ⟨0, rfl, Or.inl rfl⟩
        by_cases h4 : n < 8192
        · rw [if_pos h4, if_pos h4]
          obtain ⟨d, d1, d2⟩ := rest
          exact ⟨d, d1, d1, d2⟩
        · rw [if_neg h4, if_neg h4]
          by_cases h5 : n ≤ 8202
          · rw [if_pos h5, if_neg (show ¬ 8202 < n by omega)]; exact ⟨1, rfl, rfl, Or.inr rfl⟩
          · rw [if_neg h5, if_pos (show 8202 < n by omega)]
            obtain ⟨d, d1, d2⟩ := rest
            exact ⟨d, d1, d1, d2⟩
  · rw [if_neg h1]
    have far : (if n = 5760 then some (1 : Int32) else if n = 6158 then some 1 else if n < 8192 then (if n = 8232 then some (1 : Int32) else if n = 8233 then some 1 else if n = 8239 then some 1 else if n = 8287 then some 1 else if n = 12288 then some 1 else if n = 65279 then some 1 else some 0) else if 8202 < n then (if n = 8232 then some (1 : Int32) else if n = 8233 then some 1 else if n = 8239 then some 1 else if n = 8287 then some 1 else if n = 12288 then some 1 else if n = 65279 then some 1 else some 0) else some 1) = some 0 := by
      rw [if_neg (show ¬ n = 5760 by omega), if_neg (show ¬ n = 6158 by omega), if_pos (show n < 8192 by omega), if_neg (show ¬ n = 8232 by omega), if_neg (show ¬ n = 8233 by omega), if_neg (show ¬ n = 8239 by omega), if_neg (show ¬ n = 8287 by omega), if_neg (show ¬ n = 12288 by omega), if_neg (show ¬ n = 65279 by omega)]
    rw [far]
    have sm : ∃ d, (if n = 32 then some (1 : Int32) else if n = 160 then some 1 else some 0) = some d ∧ (d = 0 ∨ d = 1) := by
      repeat' split
      all_goals first | exact ⟨1, rfl, Or.inr rfl⟩ | exact ⟨0, rfl, Or.inl rfl⟩
    obtain ⟨d, d1, d2⟩ := sm
    rw [d1]
    by_cases h2 : n < 9
    · rw [if_pos h2]; exact ⟨d, rfl, rfl, d2⟩
    · rw [if_neg h2]
      by_cases h3 : n ≤ 13
      · rw [if_pos h3]; exact ⟨1, rfl, rfl, Or.inr rfl⟩
      · rw [if_neg h3]; exact ⟨d, rfl, rfl, d2⟩
