/-! the class's Bits -/
theorem B_isNan (a : Int64) : f_B_isNan a = some (if 9218868437227405312 < zmg a then 1 else 0) := M_isNan a
theorem B_isInfinite (a : Int64) : f_B_isInfinite a = some (if zmg a = 9218868437227405312 then 1 else 0) := M_isInfinite a
theorem B_isZero (a : Int64) : f_B_isZero a = some (if zmg a = 0 then 1 else 0) := M_isZero a
theorem B_mantissa (a : Int64) : ∃ d, f_B_mantissa a = some d ∧ d.toInt = (zam (zmg a) : Int) := M_amount a
theorem B_exponent (a : Int64) : ∃ d, f_B_exponent a = some d ∧ d.toInt = (zep (zmg a) : Int) - 1074 := by
  unfold f_B_exponent f_B_magnitude zep
  rw [Option.bind_some]
  have hl := zmg_lt a
  have hm := l_mag a
  generalize (a &&& 9223372036854775807) = b at hm ⊢
  generalize zmg a = m at hm hl ⊢
  have e1 : (jlushr b 52).toInt = ((m / 4503599627370496 : Nat) : Int) := by
    rw [l_ushr (n := 52) rfl (by decide) (Or.inr (by decide)), hm]
    show _ / (4503599627370496 : Int) = _
    omega
  have e2 : ((jlushr b 52).toInt32).toInt = ((m / 4503599627370496 : Nat) : Int) := by
    rw [l2i, e1] <;> rw [e1] <;> omega
  by_cases hc : m / 4503599627370496 = 0
  · rw [if_pos (by rw [i_eq, e2, hc]; rfl)]
    refine ⟨_, rfl, ?_⟩
    rw [hc]
    rfl
  · rw [if_neg (by rw [i_eq, e2]; show ¬ _ = (0 : Int); omega)]
    refine ⟨_, rfl, ?_⟩
    have e3 : (1075 : Int32).toInt = 1075 := rfl
    rw [i_sub, e2, e3] <;> (try rw [e2, e3]) <;> omega
theorem B_bitLength {x : Int64} {n : Nat} (hx : x.toInt = n) : ∃ d, f_B_bitLength x = some d ∧ d.toInt = (zlen n : Int) := by
  have e0 : (0 : Int32).toInt = 0 := rfl
  have rx := l_rng x
  unfold f_B_bitLength f_B_bitLength_5
  refine zrun_inv (step := f_B_bitLength_5_step) (x := (x, 0, 32)) (fun z => ∃ y c s : Nat, z.1.toInt = (y : Int) ∧ z.2.1.toInt = (c : Int) ∧ z.2.2.toInt = (s : Int) ∧ c ≤ 64 ∧ zlen n = c + zlen y ∧ ((s = 0 ∧ y < 2) ∨ (s = 1 ∧ y < 2 ^ 2) ∨ (s = 2 ∧ y < 2 ^ 4) ∨ (s = 4 ∧ y < 2 ^ 8) ∨ (s = 8 ∧ y < 2 ^ 16) ∨ (s = 16 ∧ y < 2 ^ 32) ∨ (s = 32 ∧ y < 2 ^ 64))) (fun z => z.2.2.toInt.toNat) (fun d => d.toInt = (zlen n : Int)) ?_ ⟨n, 0, 32, hx, rfl, rfl, by omega, by omega, by omega⟩
  rintro ⟨x0, x2, x3⟩ ⟨y, c, s, h0, h2, h3, hc, hz, hs⟩
  dsimp only at h0 h2 h3
  unfold f_B_bitLength_5_step f_B_bitLength_5_body f_B_bitLength_25 f_B_bitLength_32
  dsimp only
  by_cases hs0 : s = 0
  · have hy : y < 2 := by omega
    rw [if_pos (by rw [i_le, e0, h3]; omega)]
    refine Or.inr ⟨_, rfl, ?_⟩
    have h1 : (x0.toInt32).toInt = (y : Int) := by rw [l2i, h0] <;> rw [h0] <;> omega
    have hzy : zlen y = y := by
      rcases Nat.lt_or_ge 0 y with q | q
      · have : y = 1 := by omega
        subst this; rfl
      · have : y = 0 := by omega
        subst this; rfl
    rw [i_add, h2, h1] <;> (try rw [h2, h1]) <;> omega
  · have hsl : s < 64 := by omega
    rw [if_neg (by rw [i_le, e0, h3]; omega)]
    have hsh : (jlushr x0 x3).toInt = ((y / 2 ^ s : Nat) : Int) := by
      have ry := l_rng x0
      rw [l_ushr h3 hsl (Or.inl (by omega)), h0, Int.emod_eq_of_lt (by omega) (by omega)]
      exact (Int.natCast_ediv _ _).symm
    have hhalf : (jshr x3 1).toInt = ((s / 2 : Nat) : Int) := by
      rw [i_shr (n := 1) rfl (by decide), h3]; exact (Int.natCast_ediv _ _).symm
    have hzd := zlen_div y s
    by_cases hq : y / 2 ^ s = 0
    · rw [if_pos (by rw [l_eq, hsh, hq]; rfl)]
      have hlt : y < 2 ^ s := by
        rcases Nat.div_eq_zero_iff.mp hq with z | z
        · have := p2pos s; omega
        · exact z
      refine Or.inl ⟨_, rfl, ⟨y, c, s / 2, h0, h2, hhalf, hc, hz, ?_⟩, by dsimp only; rw [hhalf, h3]; omega⟩
      rcases hs with ⟨e, q⟩ | ⟨e, q⟩ | ⟨e, q⟩ | ⟨e, q⟩ | ⟨e, q⟩ | ⟨e, q⟩ | ⟨e, q⟩ <;> subst e <;> omega
    · rw [if_neg (by rw [l_eq, hsh]; show ¬ _ = (0 : Int); omega)]
      have hpos : 0 < zlen (y / 2 ^ s) := zlen_pos (Nat.pos_of_ne_zero hq)
      have hsum : (x2 + x3).toInt = ((c + s : Nat) : Int) := by
        rw [i_add, h2, h3] <;> (try rw [h2, h3]) <;> omega
      have hn64 : zlen n ≤ 63 := zlen_mono (by omega)
      refine Or.inl ⟨_, rfl, ⟨y / 2 ^ s, c + s, s / 2, hsh, hsum, hhalf, by omega, by omega, ?_⟩, by dsimp only; rw [hhalf, h3]; omega⟩
      rcases hs with ⟨e, q⟩ | ⟨e, q⟩ | ⟨e, q⟩ | ⟨e, q⟩ | ⟨e, q⟩ | ⟨e, q⟩ | ⟨e, q⟩ <;> subst e <;> omega
/-- the mask of o ones, o from 1 to 63 -/
theorem B_mask {s : Int32} {o : Nat} (hs : s.toInt = o) (h1 : 0 < o) (h2 : o < 64) {x : Int64} {n : Nat} (hx : x.toInt = n) : (x &&& ((jlshl 1 s) - 1)).toInt = ((n % 2 ^ o : Nat) : Int) := by
  have rx := l_rng x
  by_cases h63 : o = 63
  · subst h63
    have e : jlshl 1 s - 1 = 9223372036854775807 := by rw [nI_of' hs]; decide
    rw [e, l_mag]
    unfold zmg
    have := l_bv x
    have e2 : x.toBitVec.toNat = n := by omega
    rw [e2]
  · have hp : 2 ^ o ≤ 2 ^ 62 := p2le (by omega)
    have hp0 := p2pos o
    have e1 : (1 : Int64).toInt = 1 := rfl
    have e3 : (1 : Int64).toInt * ((2 ^ o : Nat) : Int) = ((2 ^ o : Nat) : Int) := by rw [e1, Int.one_mul]
    have e4 : (jlshl 1 s).toInt = ((2 ^ o : Nat) : Int) := by
      rw [l_shl hs h2, e3] <;> (try rw [e3]) <;> omega
    have e5 : (jlshl 1 s - 1).toInt = ((2 ^ o - 1 : Nat) : Int) := by
      rw [l_sub, e4, e1] <;> (try rw [e4, e1]) <;> omega
    rw [l_and o (by omega) e5, hx]
    exact (Int.natCast_emod _ _).symm
theorem B_ushr {s : Int32} {o : Nat} (hs : s.toInt = o) (h2 : o < 64) {x : Int64} {n : Nat} (hx : x.toInt = n) : (jlushr x s).toInt = ((n / 2 ^ o : Nat) : Int) := by
  have rx := l_rng x
  rw [l_ushr hs h2 (Or.inl (by omega)), hx, Int.emod_eq_of_lt (by omega) (by omega)]
  exact (Int.natCast_ediv _ _).symm
theorem B_nearest {x : Int64} {s : Int32} {n o : Nat} (hx : x.toInt = n) (hs : s.toInt = o) (h1 : 0 < o) (h2 : o < 64) : ∃ d, f_B_shiftDownToNearest x s = some d ∧ d.toInt = (rhe n (2 ^ o) : Int) := by
  have rx := l_rng x
  have e1 : (1 : Int64).toInt = 1 := rfl
  have ei1 : (1 : Int32).toInt = 1 := rfl
  have hlost := B_mask hs h1 h2 hx
  have hkept := B_ushr hs h2 hx
  have hs1 : (s - 1).toInt = ((o - 1 : Nat) : Int) := by
    rw [i_sub, hs, ei1] <;> (try rw [hs, ei1]) <;> omega
  have hp : 2 ^ (o - 1) ≤ 2 ^ 62 := p2le (by omega)
  have hhalf : (jlshl 1 (s - 1)).toInt = ((2 ^ (o - 1) : Nat) : Int) := by
    have e3 : (1 : Int64).toInt * ((2 ^ (o - 1) : Nat) : Int) = ((2 ^ (o - 1) : Nat) : Int) := by rw [e1, Int.one_mul]
    have b1 : ((2 ^ (o - 1) : Nat) : Int) ≤ 4611686018427387904 := by have h := Int.ofNat_le.mpr hp; generalize ((2 ^ (o - 1) : Nat) : Int) = P at h ⊢; omega
    have b2 : (0 : Int) ≤ ((2 ^ (o - 1) : Nat) : Int) := Int.natCast_nonneg _
    exact (l_shl hs1 (by omega) (by rw [e3]; omega) (by rw [e3]; omega)).trans e3
  have hpo : 2 ^ o = 2 * 2 ^ (o - 1) := by rw [← Nat.pow_succ']; congr 1; omega
  have hkl : n / 2 ^ o ≤ n := Nat.div_le_self _ _
  have hkl2 : n / 2 ^ o * 2 ≤ n := by
    have a1 := Nat.div_mul_le_self n (2 ^ o)
    have a2 : 2 ^ 1 ≤ 2 ^ o := p2le (by omega)
    exact Nat.le_trans (Nat.mul_le_mul_left _ a2) a1
  have hodd : (jlushr x s &&& 1).toInt = ((n / 2 ^ o % 2 : Nat) : Int) := by
    rw [l_and 1 (by decide) rfl, hkept]; exact (Int.natCast_emod _ _).symm
  have hup : (jlushr x s + 1).toInt = ((n / 2 ^ o + 1 : Nat) : Int) := by
    rw [l_add, hkept, e1] <;> (try rw [hkept, e1]) <;> omega
  unfold f_B_shiftDownToNearest f_B_shiftDownToNearest_44 f_B_shiftDownToNearest_48 f_B_shiftDownToNearest_49 rhe
  generalize n / 2 ^ o = k at *
  generalize n % 2 ^ o = t at *
  rw [hpo]
  generalize 2 ^ (o - 1) = P at *
  by_cases c1 : P < t
  · rw [if_pos (by rw [l_lt, hhalf, hlost]; omega), if_neg (by decide), if_pos (Or.inl (by omega))]
    exact ⟨_, rfl, hup⟩
  · rw [if_neg (by rw [l_lt, hhalf, hlost]; omega)]
    by_cases c2 : t = P
    · rw [if_pos (by rw [l_eq, hhalf, hlost]; omega)]
      by_cases c3 : k % 2 = 0
      · rw [if_pos (by rw [l_eq, hodd, c3]; rfl), if_pos rfl, if_neg (by omega)]
        exact ⟨_, rfl, hkept⟩
      · rw [if_neg (by rw [l_eq, hodd]; show ¬ _ = (0 : Int); omega), if_neg (by decide), if_pos (Or.inr ⟨by omega, by omega⟩)]
        exact ⟨_, rfl, hup⟩
    · rw [if_neg (by rw [l_eq, hhalf, hlost]; omega), if_pos rfl, if_neg (by omega)]
      exact ⟨_, rfl, hkept⟩
