/-! class and reference: remainder -/
theorem same_remainder (a b : Int64) (na : ¬ 9218868437227405312 < zmg a) (nb : ¬ 9218868437227405312 < zmg b) :
    ∃ d, f_A_remainder a b = some d ∧ f_M_remainder a b = some d := by
  obtain ⟨ma, hm1, hm2⟩ := M_amount a
  obtain ⟨mb, hn1, hn2⟩ := M_amount b
  obtain ⟨ea, ha1, ha2, ha3⟩ := same_expo a
  obtain ⟨eb, hb1, hb2, hb3⟩ := same_expo b
  have hma : f_B_mantissa a = some ma := hm1
  have hmb : f_B_mantissa b = some mb := hn1
  unfold f_A_remainder f_M_remainder f_B_magnitude
  rw [B_isNan, B_isNan, B_isInfinite, B_isInfinite, M_isInfinite, M_isInfinite, M_isZero, M_isZero, hma, hmb, hm1, hn1, ha1, hb1, ha2, hb2]
  simp only [Option.bind_some]
  rw [if_pos (zbf.mpr na), if_pos (zbf.mpr nb)]
  by_cases ia : zmg a = 9218868437227405312
  · simp only [if_neg (fun q => zbf.mp q ia)]
    exact ⟨_, rfl, rfl⟩
  · by_cases zb : zmg b = 0
    · have hz : mb = 0 := by
        apply l_ext
        rw [hn2, zb]
        rfl
      simp only [if_pos (zbf.mpr ia), if_neg (fun q => zbf.mp q zb), if_pos hz]
      exact ⟨_, rfl, rfl⟩
    · have hp := zam_pos zb
      have hz : ¬ mb = 0 := by
        rw [l_eq, hn2]
        show ¬ _ = (0 : Int)
        omega
      by_cases ib : zmg b = 9218868437227405312
      · simp only [if_pos (zbf.mpr ia), if_pos (zbf.mpr zb), if_neg hz, if_neg (fun q => zbf.mp q ib)]
        exact ⟨_, rfl, rfl⟩
      · have fa : zmg a < 9218868437227405312 := by omega
        have fb : zmg b < 9218868437227405312 := by omega
        have hea := zep_lt fa
        have heb := zep_lt fb
        have hlt : (a &&& 9223372036854775807) < (b &&& 9223372036854775807) ↔ zmg a < zmg b := by
          rw [l_lt, l_mag, l_mag]
          omega
        have lA := @zam_lt' (zmg a)
        have lB := @zam_lt' (zmg b)
        simp only [if_pos (zbf.mpr ia), if_pos (zbf.mpr zb), if_pos (zbf.mpr ib), if_neg hz, if_pos hz]
        have hrem : (jlrem ma mb).toInt = ((zam (zmg a) % zam (zmg b) : Nat) : Int) := by
          rw [l_rem (by rw [hm2]; exact Int.natCast_nonneg _) (by rw [hn2]; omega), hm2, hn2]
          exact (Int.natCast_emod _ _).symm
        by_cases hlo : zmg a < zmg b
        · rw [if_pos (hlt.mpr hlo)]
          by_cases za : zmg a = 0
          · rw [if_neg (fun q => zbf.mp q za)]
            exact ⟨_, rfl, rfl⟩
          · rw [if_pos (zbf.mpr za)]
            have hmono := zval_mono (Nat.le_of_lt hlo)
            refine ⟨a, rfl, ?_⟩
            by_cases he : zep (zmg a) = zep (zmg b)
            · have hlt2 := zam_lt_same hlo he
              rw [if_pos (show eb ≤ ea by rw [i_le, ha3, hb3]; omega)]
              rw [Nat.mod_eq_of_lt hlt2] at hrem
              rw [M_rem139 (k := 0) (f := zep (zmg b)) hn2 hp lB hrem hlt2 hb3 (by omega) (by rw [ha3]; omega) (by omega), Nat.pow_zero, Nat.mul_one, Nat.mod_eq_of_lt hlt2, ← he, zrd_self fa, sgn_or]
            · have hup := zam_up (m := zmg a) (n := zmg b) (by omega)
              rw [if_neg (show ¬ eb ≤ ea by rw [i_le, ha3, hb3]; omega)]
              have hd : (eb - ea).toInt = ((zep (zmg b) - zep (zmg a) : Nat) : Int) := by
                rw [i_sub, ha3, hb3] <;> (try rw [ha3, hb3]) <;> omega
              have e53 : (53 : Int32).toInt = 53 := rfl
              by_cases hf : 53 < zep (zmg b) - zep (zmg a)
              · rw [if_pos (show (53 : Int32) < eb - ea by rw [i_lt, e53, hd]; omega)]
              · rw [if_neg (show ¬ (53 : Int32) < eb - ea by rw [i_lt, e53, hd]; omega), if_pos]
                rw [l_lt, l_shr hd (by omega), hm2, hn2]
                have h2 : 2 ^ 1 ≤ 2 ^ (zep (zmg b) - zep (zmg a)) := p2le (by omega)
                have h3 : zam (zmg a) / 2 ^ (zep (zmg b) - zep (zmg a)) < 4503599627370496 := by
                  apply Nat.div_lt_of_lt_mul
                  generalize 2 ^ (zep (zmg b) - zep (zmg a)) = P at h2 ⊢
                  omega
                have h4 : (zam (zmg a) : Int) / ((2 ^ (zep (zmg b) - zep (zmg a)) : Nat) : Int) = ((zam (zmg a) / 2 ^ (zep (zmg b) - zep (zmg a)) : Nat) : Int) := (Int.natCast_ediv _ _).symm
                rw [h4]
                omega
        · have hge : zmg b ≤ zmg a := by omega
          have hmono := zval_mono hge
          have za : ¬ zmg a = 0 := by omega
          have hd : (ea - eb).toInt = ((zep (zmg a) - zep (zmg b) : Nat) : Int) := by
            rw [i_sub, ha3, hb3] <;> (try rw [ha3, hb3]) <;> omega
          have hml := Nat.mod_lt (zam (zmg a)) hp
          rw [if_neg (fun q => hlo (hlt.mp q)), if_pos (zbf.mpr za), if_pos (show eb ≤ ea by rw [i_le, ha3, hb3]; omega)]
          rw [A_rem79 hn2 hp lB hrem hml hd (by omega), M_rem139 (k := zep (zmg a) - zep (zmg b)) (f := zep (zmg b)) hn2 hp lB hrem hml hb3 (by omega) (by rw [ha3]; omega) (by omega)]
          exact ⟨_, rfl, rfl⟩
