/-! class and reference: sum -/
theorem z_zero {a : Int64} (h : zmg a = 0) (hn : ¬ a < 0) : a = 0 := by
  apply l_ext
  rw [l_lt] at hn
  have h1 := l_bv a
  have h2 := l_rng a
  have e0 : (0 : Int64).toInt = 0 := rfl
  rw [e0] at hn ⊢
  unfold zmg at h
  omega
theorem z_sgn {a : Int64} (h : zmg a = 0) : (a &&& (-9223372036854775808)) = a := by
  have := sgn_or a
  rw [h, or_z] at this
  exact this
theorem and_self64 (a : Int64) : a &&& a = a := Int64.toBitVec_inj.mp (by rw [Int64.toBitVec_and, BitVec.and_self])
theorem zero_and64 (a : Int64) : 0 &&& a = 0 := Int64.toBitVec_inj.mp (by rw [Int64.toBitVec_and]; exact BitVec.zero_and)
theorem and_zero64 (a : Int64) : a &&& 0 = 0 := Int64.toBitVec_inj.mp (by rw [Int64.toBitVec_and]; exact BitVec.and_zero)
theorem z_and {a b : Int64} (ha : zmg a = 0) (hb : zmg b = 0) : a &&& b = if (a ^^^ b) < 0 then 0 else (a &&& (-9223372036854775808)) := by
  by_cases h : (a ^^^ b) < 0
  · rw [if_pos h]
    have hx := (l_xor_neg a b).mp h
    by_cases qa : a < 0
    · have qb : ¬ b < 0 := fun q => hx (iff_of_true qa q)
      rw [z_zero hb qb, and_zero64]
    · rw [z_zero ha qa, zero_and64]
  · rw [if_neg h]
    have hx : a < 0 ↔ b < 0 := Classical.not_not.mp (fun q => h ((l_xor_neg a b).mpr q))
    have e := l_sgn_eq hx
    rw [z_sgn ha, z_sgn hb] at e
    rw [z_sgn ha, ← e, and_self64]
theorem same_sum64 (t s o c p : Int32) {r : Nat → Int32} (hr : mOK r) (a b : Int64) (fa : zmg a < 9218868437227405312) (fb : zmg b < 9218868437227405312) :
    ∃ d r', (if zmg a < zmg b then f_A_sumOfOrdered b a else f_A_sumOfOrdered a b) = some d ∧ f_M_sum_64 t s o c p r a b = some (d, r') ∧ mOK r' := by
  obtain ⟨ea, ha1, ha2⟩ := M_power a
  obtain ⟨eb, hb1, hb2⟩ := M_power b
  unfold f_M_sum_64
  rw [ha1, hb1]
  simp only [Option.bind_some]
  by_cases h : zmg a < zmg b
  · have hm := zval_mono (Nat.le_of_lt h)
    have hlt := zval_lt h
    have low : ∃ r' x, mOK r' ∧ mV r' 0 = zam (zmg a) * 2 ^ (zep (zmg a) - zep (zmg a)) ∧ mV r' 1 = zam (zmg b) * 2 ^ (zep (zmg b) - zep (zmg a)) ∧ mV r' 0 + mV r' 1 < mTop ∧ zep (zmg a) < 3000 ∧ (if eb ≤ ea then f_M_sum_86 t s o c p r a b eb else f_M_sum_86 t s o c p r a b ea) = f_M_sum_160 t s o c p r' a b ea x ∧ (x = 0 ↔ (a ^^^ b) < 0) := by
      obtain ⟨r', x, c1, c2, c3, c4, c5, c6, c7⟩ := M_sum86 t s o c p hr a b ha2 (Nat.le_refl _) hm
      by_cases q : eb ≤ ea
      · have e : eb = ea := by
          rw [i_le, ha2, hb2] at q
          apply i_ext
          rw [ha2, hb2]
          omega
        rw [if_pos q, e]
        exact ⟨r', x, c1, c2, c3, c4, c5, c6, c7⟩
      · rw [if_neg q]
        exact ⟨r', x, c1, c2, c3, c4, c5, c6, c7⟩
    obtain ⟨r', x, c1, c2, c3, c4, c5, c6, c7⟩ := low
    obtain ⟨r2, d1, d2⟩ := M_sum160 t s o c p c1 a b ha2 c5 c4 x
    rw [if_pos h, A_sumOrd (Nat.le_of_lt h) fb, c6, d1, c2, c3, Nat.sub_self, Nat.pow_zero, Nat.mul_one]
    have hne : ¬ zam (zmg a) = zam (zmg b) * 2 ^ (zep (zmg b) - zep (zmg a)) := by omega
    have hne' : ¬ zam (zmg b) * 2 ^ (zep (zmg b) - zep (zmg a)) = zam (zmg a) := by omega
    have hge : ¬ zam (zmg b) * 2 ^ (zep (zmg b) - zep (zmg a)) ≤ zam (zmg a) := by omega
    have hxc : (b ^^^ a) < 0 ↔ (a ^^^ b) < 0 := by
      rw [l_xor_neg, l_xor_neg]
      exact ⟨fun q w => q w.symm, fun q w => q w.symm⟩
    by_cases hx : (a ^^^ b) < 0
    · rw [if_pos (hxc.mpr hx), if_pos (c7.mpr hx), if_neg hne, if_neg hne', if_neg hge]
      exact ⟨_, r2, rfl, rfl, d2⟩
    · have hs : a < 0 ↔ b < 0 := Classical.not_not.mp (fun q => hx ((l_xor_neg a b).mpr q))
      rw [if_neg (fun q => hx (hxc.mp q)), if_neg (fun q => hx (c7.mp q)), l_sgn_eq hs, Nat.add_comm]
      exact ⟨_, r2, rfl, rfl, d2⟩
  · have hab : zmg b ≤ zmg a := by omega
    have hm := zval_mono hab
    have hle := zval_le hab
    obtain ⟨r', x, c1, c2, c3, c4, c5, c6, c7⟩ := M_sum86 t s o c p hr a b hb2 hm (Nat.le_refl _)
    obtain ⟨r2, d1, d2⟩ := M_sum160 t s o c p c1 a b hb2 c5 c4 x
    rw [if_neg h, A_sumOrd hab fa, if_pos (show eb ≤ ea by rw [i_le, ha2, hb2]; omega), c6, d1, c2, c3, Nat.sub_self, Nat.pow_zero, Nat.mul_one]
    by_cases hx : (a ^^^ b) < 0
    · rw [if_pos hx, if_pos (c7.mpr hx), if_pos hle]
      exact ⟨_, r2, rfl, rfl, d2⟩
    · rw [if_neg hx, if_neg (fun q => hx (c7.mp q))]
      exact ⟨_, r2, rfl, rfl, d2⟩
theorem obnd {α : Type} (o : Option α) : (o.bind fun x => some x) = o := by cases o <;> rfl
theorem zbf {c : Prop} [Decidable c] : (if c then (1 : Int32) else 0) = 0 ↔ ¬ c := by
  by_cases h : c
  · rw [if_pos h]; exact ⟨fun q => absurd q i10, fun q => absurd h q⟩
  · rw [if_neg h]; exact ⟨fun _ => h, fun _ => rfl⟩
theorem same_sum (t s o c p : Int32) {r : Nat → Int32} (hr : mOK r) (a b : Int64) (na : ¬ 9218868437227405312 < zmg a) (nb : ¬ 9218868437227405312 < zmg b) :
    ∃ d r', f_A_sum a b = some d ∧ f_M_sum t s o c p r a b = some (d, r') ∧ mOK r' := by
  unfold f_A_sum f_M_sum f_M_sum_14 f_M_sum_27 f_B_magnitude
  rw [B_isNan, B_isNan, B_isInfinite, B_isInfinite, M_isInfinite, M_isInfinite, M_isZero, M_isZero]
  simp only [Option.bind_some]
  rw [if_pos (zbf.mpr na), if_pos (zbf.mpr nb)]
  by_cases ia : zmg a = 9218868437227405312
  · rw [if_neg (fun q => zbf.mp q ia), if_neg (fun q => zbf.mp q ia)]
    by_cases ib : zmg b = 9218868437227405312
    · rw [if_neg (fun q => zbf.mp q ib), if_neg (fun q => zbf.mp q ib)]
      by_cases e : a = b
      · rw [if_pos e, if_pos e]
        exact ⟨_, r, rfl, rfl, hr⟩
      · rw [if_neg e, if_neg e, if_neg (fun q => zbf.mp q ia)]
        exact ⟨_, r, rfl, rfl, hr⟩
    · rw [if_pos (zbf.mpr ib), if_pos (zbf.mpr ib)]
      exact ⟨_, r, rfl, rfl, hr⟩
  · rw [if_pos (zbf.mpr ia), if_pos (zbf.mpr ia)]
    by_cases ib : zmg b = 9218868437227405312
    · rw [if_neg (fun q => zbf.mp q ib), if_neg (fun q => zbf.mp q ib), if_neg (fun q => zbf.mp q ib)]
      have e : ¬ a = b := fun e => ia (by rw [e]; exact ib)
      rw [if_neg e, if_pos (zbf.mpr ia)]
      exact ⟨_, r, rfl, rfl, hr⟩
    · rw [if_pos (zbf.mpr ib), if_pos (zbf.mpr ib)]
      have fa : zmg a < 9218868437227405312 := by omega
      have fb : zmg b < 9218868437227405312 := by omega
      have hlt : (a &&& 9223372036854775807) < (b &&& 9223372036854775807) ↔ zmg a < zmg b := by
        rw [l_lt, l_mag, l_mag]
        omega
      have hA : (if (a &&& 9223372036854775807) < (b &&& 9223372036854775807) then ((f_A_sumOfOrdered b a).bind fun r_77 => some r_77) else ((f_A_sumOfOrdered a b).bind fun r_69 => some r_69)) = (if zmg a < zmg b then f_A_sumOfOrdered b a else f_A_sumOfOrdered a b) := by
        rw [obnd, obnd]
        exact ifc hlt
      rw [hA]
      by_cases za : zmg a = 0
      · by_cases zb : zmg b = 0
        · rw [if_neg (fun q => zbf.mp q za), if_neg (fun q => zbf.mp q zb), if_neg (by omega), A_sumOrd (by omega) fa, z_and za zb, za, zb]
          refine ⟨_, r, rfl, ?_, hr⟩
          by_cases hx : (a ^^^ b) < 0
          · rw [if_pos hx, if_pos hx, if_pos (by rfl)]
          · rw [if_neg hx, if_neg hx, show zam 0 * 2 ^ (zep 0 - zep 0) + zam 0 = 0 from rfl, zrd_0, or_z]
        · rw [if_neg (fun q => zbf.mp q za), if_pos (zbf.mpr zb)]
          exact same_sum64 t s o c p hr a b fa fb
      · rw [if_pos (zbf.mpr za)]
        exact same_sum64 t s o c p hr a b fa fb
