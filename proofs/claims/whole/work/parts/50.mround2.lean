/-! the reference's round, whole -/
theorem zlen_ge {n k : Nat} (h : k < zlen n) : 2 ^ k ≤ n := by
  rcases Nat.lt_or_ge n (2 ^ k) with q | q
  · have := zlen_mono q; omega
  · exact q
theorem zRB_0 (D : Nat) : zRB 0 D = 0 := by
  unfold zRB rhe
  rw [Nat.zero_div, Nat.zero_mod, Nat.zero_div]
  have e : zlen 0 - 53 = 0 := rfl
  rw [e, Nat.pow_zero, Nat.mul_one, if_neg]
  · exact zpk_0
  · rintro (q | q)
    · omega
    · cases q.2
theorem M_rnd35 (c1 c2 c3 c4 c5 : Int32) {r : Nat → Int32} (hr : mOK r) {a mo L : Nat} {x1 : Int64} {x3 x4 x5 x6 s0 : Int32} {E : Int} (ha : a < 6) (ha4 : a ≠ 4) (hx3 : x3.toInt = a) (h4 : x4.toInt = E - 1074) (hE1 : -100000 < E) (hE2 : E < 100000) (h5 : x5.toInt = mo) (hmo : mo < 2) (hmo2 : mo = 1 → 55 ≤ zlen (mV r a)) (h6 : x6.toInt = (zlen (mV r a) : Int)) (hs0 : s0.toInt = (L : Int) - 1074) (hL : (L : Int) = max ((zlen (mV r a) : Int) + E - 53) 0) :
    ∃ r', f_M_round_35 c1 c2 c3 c4 c5 r x1 x3 x4 x5 x6 s0 = some (x1 ||| lN (zRB ((2 * mV r a + mo) * 2 ^ E.toNat) (2 * 2 ^ (-E).toNat)), r') ∧ mS r r' := by
  have e0 : (0 : Int32).toInt = 0 := rfl
  have e1 : (1 : Int32).toInt = 1 := rfl
  have hzl := zlen_lt (mV r a)
  have hlen : zlen (mV r a) ≤ 2496 := zlen_mono (by rw [← mTop_eq]; exact mV_lt hr ha)
  unfold f_M_round_35
  by_cases hV : mV r a = 0
  · have hz : zlen (mV r a) = 0 := by rw [hV]; rfl
    have hm0 : mo = 0 := by
      rcases Nat.lt_or_ge 0 mo with q | q
      · have := hmo2 (by omega); omega
      · omega
    subst hm0
    rw [if_pos (by rw [i_eq, h6, hz]; rfl), hV, Nat.mul_zero, Nat.add_zero, Nat.zero_mul, zRB_0, or_z]
    exact ⟨r, rfl, hr, fun b _ _ => rfl⟩
  · have hVp : 0 < mV r a := Nat.pos_of_ne_zero hV
    have hlp := zlen_pos hVp
    rw [if_neg (by rw [i_eq, h6, e0]; omega)]
    have hoff : (s0 - x4).toInt = (L : Int) - E := by
      rw [i_sub, hs0, h4] <;> (try rw [hs0, h4]) <;> omega
    have hL6 : L < 1000000 := by omega
    rw [zRB_row hVp hmo L hL]
    by_cases hc : E < L
    · rw [if_pos (by rw [i_lt, e0, hoff]; omega), if_pos hc]
      obtain ⟨o, ho⟩ : ∃ o : Nat, (L : Int) - E = o := ⟨((L : Int) - E).toNat, by omega⟩
      have ho0 : 0 < o := by omega
      have ho1 : (s0 - x4).toInt = (o : Int) := by omega
      have ho2 : ((s0 - x4) - 1).toInt = ((o - 1 : Nat) : Int) := by
        rw [i_sub, ho1, e1] <;> (try rw [ho1, e1]) <;> omega
      obtain ⟨d, hd1, hd2⟩ := M_bits c1 c2 c3 c4 c5 hr ha hx3 ho1 (by omega)
      obtain ⟨b, hb1, hb2⟩ := M_bit c1 c2 c3 c4 c5 hr ha hx3 ho2
      rw [hd1, Option.bind_some, hb1, Option.bind_some, show ((L : Int) - E).toNat = o by omega]
      have hzv := zlen_div (mV r a) o
      have hv53 : mV r a / 2 ^ o < 2 ^ 53 := Nat.lt_of_lt_of_le (zlen_lt _) (p2le (by omega))
      have hv62 : mV r a / 2 ^ o % 2 ^ 62 = mV r a / 2 ^ o := Nat.mod_eq_of_lt (Nat.lt_of_lt_of_le hv53 (by decide))
      rw [hv62] at hd2
      have hsm : mV r a / 2 ^ o < 4503599627370496 → L = 0 := by
        intro hlt
        rcases Nat.eq_zero_or_pos L with q | q
        · exact q
        · have : 2 ^ 52 ≤ mV r a / 2 ^ o := zlen_ge (by rw [hzv]; omega)
          omega
      have hbl : mV r a / 2 ^ (o - 1) % 2 < 2 := Nat.mod_lt _ (by decide)
      refine ⟨r, ?_, hr, fun b _ _ => rfl⟩
      unfold f_M_round_110 zup
      by_cases hb : mV r a / 2 ^ (o - 1) % 2 = 1
      · rw [if_pos (by rw [i_eq, hb2, hb]; rfl), M_rnd119 c1 c2 c3 c4 c5 hr ha hx3 h6 ho1 ho0 hd2 hs0 hL6 hv53 hsm (h := 1) rfl (by decide) h5 hmo, hb]
      · have hb0 : mV r a / 2 ^ (o - 1) % 2 = 0 := by omega
        rw [if_neg (by rw [i_eq, hb2, hb0]; decide), M_rnd119 c1 c2 c3 c4 c5 hr ha hx3 h6 ho1 ho0 hd2 hs0 hL6 hv53 hsm (h := 0) rfl (by decide) h5 hmo, hb0]
    · rw [if_neg (by rw [i_lt, e0, hoff]; omega), if_neg hc]
      have hm0 : mo = 0 := by
        rcases Nat.lt_or_ge 0 mo with q | q
        · have := hmo2 (by omega); omega
        · omega
      subst hm0
      obtain ⟨d, hd⟩ : ∃ d : Nat, E - (L : Int) = d := ⟨(E - (L : Int)).toNat, by omega⟩
      have hneg : (-(s0 - x4)).toInt = (d : Int) := by
        rw [i_neg (by rw [hoff]; omega), hoff]; omega
      obtain ⟨r1, t1, tR⟩ := M_copy c1 c2 c3 c4 c5 hr (a := 4) (b := a) (x1 := 4) (by decide) ha (Ne.symm ha4) rfl hx3
      obtain ⟨r2, u1, uR⟩ := M_shift c1 c2 c3 c4 c5 tR.1 (a := 4) (x1 := 4) (by decide) rfl hneg
      obtain ⟨w, w1, w2⟩ := M_bits c1 c2 c3 c4 c5 uR.1 (a := 4) (n := 0) (x1 := 4) (x2 := 0) (by decide) rfl rfl (by decide)
      rw [t1, Option.bind_some, u1, Option.bind_some, w1, Option.bind_some]
      have hzm := zlen_mul hVp d
      have hv53 : mV r a * 2 ^ d < 2 ^ 53 := Nat.lt_of_lt_of_le (zlen_lt _) (p2le (by omega))
      have htop : 2 ^ 53 ≤ mTop := by rw [mTop_eq]; exact p2le (by decide)
      have hval : mV r2 4 = mV r a * 2 ^ d := by
        rw [uR.2.1, tR.2.1, Nat.mod_eq_of_lt (Nat.lt_of_lt_of_le hv53 htop)]
      rw [hval, Nat.pow_zero, Nat.div_one, Nat.mod_eq_of_lt (Nat.lt_of_lt_of_le hv53 (by decide))] at w2
      have hsm : mV r a * 2 ^ d < 4503599627370496 → L = 0 := by
        intro hlt
        rcases Nat.eq_zero_or_pos L with q | q
        · exact q
        · have : 2 ^ 52 ≤ mV r a * 2 ^ d := zlen_ge (by rw [hzm]; omega)
          omega
      rw [M_packed w2 hs0 hL6 (Nat.le_of_lt hv53) hsm, Option.bind_some]
      have hrh : rhe ((2 * mV r a + 0) * 2 ^ E.toNat) (2 * 2 ^ L) = mV r a * 2 ^ d := by
        have e9 : (2 * mV r a + 0) * 2 ^ E.toNat = mV r a * 2 ^ d * (2 * 2 ^ L) := by
          rw [show E.toNat = d + L by omega, Nat.pow_add, Nat.add_zero]
          rw [Nat.mul_comm 2 (mV r a), Nat.mul_assoc, Nat.mul_assoc, ← Nat.mul_assoc 2, Nat.mul_comm 2 (2 ^ d), Nat.mul_assoc]
        rw [e9]
        exact rhe_whole (Nat.mul_pos (by decide) (p2pos L))
      rw [hrh]
      exact ⟨r2, rfl, uR.1, fun b hb hne => by rw [uR.2.2 b hb hne, tR.2.2 b hb hne]⟩
theorem M_round (c1 c2 c3 c4 c5 : Int32) {r : Nat → Int32} (hr : mOK r) {a mo : Nat} {x1 : Int64} {x3 x4 x5 : Int32} {E : Int} (ha : a < 6) (ha4 : a ≠ 4) (hx3 : x3.toInt = a) (h4 : x4.toInt = E - 1074) (hE1 : -100000 < E) (hE2 : E < 100000) (h5 : x5.toInt = mo) (hmo : mo < 2) (hmo2 : mo = 1 → 55 ≤ zlen (mV r a)) :
    ∃ r', f_M_round c1 c2 c3 c4 c5 r x1 x3 x4 x5 = some (x1 ||| lN (zRB ((2 * mV r a + mo) * 2 ^ E.toNat) (2 * 2 ^ (-E).toNat)), r') ∧ mS r r' := by
  have e53 : (53 : Int32).toInt = 53 := rfl
  have em : (-1074 : Int32).toInt = -1074 := rfl
  have hlen : zlen (mV r a) ≤ 2496 := zlen_mono (by rw [← mTop_eq]; exact mV_lt hr ha)
  obtain ⟨d, hd1, hd2⟩ := M_length c1 c2 c3 c4 c5 hr ha hx3
  unfold f_M_round
  rw [hd1, Option.bind_some]
  have h1 : (d + x4).toInt = (zlen (mV r a) : Int) + E - 1074 := by
    rw [i_add, hd2, h4] <;> (try rw [hd2, h4]) <;> omega
  have h2 : ((d + x4) - 53).toInt = (zlen (mV r a) : Int) + E - 53 - 1074 := by
    rw [i_sub, h1, e53] <;> (try rw [h1, e53]) <;> omega
  by_cases hc : (zlen (mV r a) : Int) + E - 53 ≤ 0
  · rw [if_pos (by rw [i_le, h2, em]; omega)]
    exact M_rnd35 c1 c2 c3 c4 c5 hr (L := 0) ha ha4 hx3 h4 hE1 hE2 h5 hmo hmo2 hd2 rfl (by omega)
  · rw [if_neg (by rw [i_le, h2, em]; omega)]
    exact M_rnd35 c1 c2 c3 c4 c5 hr (L := ((zlen (mV r a) : Int) + E - 53).toNat) ha ha4 hx3 h4 hE1 hE2 h5 hmo hmo2 hd2 (by rw [h2]; omega) (by omega)
