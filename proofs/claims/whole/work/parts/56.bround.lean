/-! the class's round -/
theorem B_lift {x : Int64} {n : Nat} (hx : x.toInt = n) : ∃ d, f_B_lift x = some d ∧ d.toInt = 53 - (zlen n : Int) := by
  have rx := l_rng x
  obtain ⟨d, h1, h2⟩ := B_bitLength hx
  have hz : zlen n ≤ 63 := zlen_mono (by omega)
  unfold f_B_lift
  rw [h1, Option.bind_some]
  refine ⟨_, rfl, ?_⟩
  have e : (53 : Int32).toInt = 53 := rfl
  rw [i_sub, e, h2] <;> (try rw [e, h2]) <;> omega
theorem zup_zero {V o : Nat} (h : V < 2 ^ (o - 1)) (mo : Nat) : zup V mo o = 0 := by
  have h2 : V < 2 ^ o := Nat.lt_of_lt_of_le h (p2le (by omega))
  unfold zup
  rw [Nat.div_eq_of_lt h, Nat.div_eq_of_lt h2, if_neg]
  rintro ⟨q, -⟩
  cases q
theorem zup_rhe {V o : Nat} (ho : 0 < o) : zup V 0 o = rhe V (2 ^ o) := by
  rw [← rhe_cut (by decide) ho, Nat.add_zero, Nat.mul_comm 2 V, Nat.mul_comm 2 (2 ^ o), rhe_mul (by decide)]
theorem rhe_le {V o k : Nat} (h : V < 2 ^ (o + k)) : rhe V (2 ^ o) ≤ 2 ^ k := by
  have h1 : V / 2 ^ o < 2 ^ k := by
    apply Nat.div_lt_of_lt_mul
    rw [← Nat.pow_add]
    exact h
  unfold rhe
  split <;> omega
theorem rhe_ge {V D : Nat} : V / D ≤ rhe V D := by
  unfold rhe
  split <;> omega
theorem B_rnd73 {x0 s0 : Int64} {x6 : Int32} {L k : Nat} (h6 : x6.toInt = (L : Int) - 1074) (hL : L ≤ 2045) (hk : s0.toInt = k) (hk2 : k ≤ 9007199254740992) : f_B_round_73 x0 x6 s0 = some (x0 ||| lN (zpk L k)) := by
  have e : (-1074 : Int32).toInt = -1074 := rfl
  have h1 : (x6 - (-1074)).toInt = (L : Int) := by
    rw [i_sub, h6, e] <;> (try rw [h6, e]) <;> omega
  have h2 : (jlshl (x6 - (-1074)).toInt64 52).toInt = ((L * 4503599627370496 : Nat) : Int) := by
    have e3 : ((x6 - (-1074)).toInt64).toInt * ((2 ^ 52 : Nat) : Int) = ((L * 4503599627370496 : Nat) : Int) := by rw [i2l, h1]; exact (Int.natCast_mul _ _).symm
    rw [l_shl (n := 52) rfl (by decide), e3] <;> (try rw [e3]) <;> omega
  have h3 : (jlshl (x6 - (-1074)).toInt64 52 + s0).toInt = ((L * 4503599627370496 + k : Nat) : Int) := by
    rw [l_add, h2, hk] <;> (try rw [h2, hk]) <;> omega
  unfold f_B_round_73
  refine congrArg (fun z => some (x0 ||| z)) (lN_of' ?_)
  rw [h3]
  unfold zpk
  split <;> omega
/-- the places of a shift: what the numbers say, without the machine -/
theorem sh_facts {z L : Nat} {E : Int} (hL : (L : Int) = max ((z : Int) + E - 53) 0) : (0 ≤ (L : Int) - E ∨ (L : Int) - E < 0) ∧ ((L : Int) - E = max ((z : Int) - 53) (-E)) ∧ (0 < L → (L : Int) - E = (z : Int) - 53) ∧ ((z : Int) - 53 ≤ (L : Int) - E) := by omega
theorem B_rnd_up {x0 x2 : Int64} {sh x6 : Int32} {V L o : Nat} (hV : x2.toInt = V) (ho0 : 0 < o) (ho63 : o ≤ 63) (hsh : sh.toInt = o) (h6 : x6.toInt = (L : Int) - 1074) (hz : zlen V ≤ o + 53) (hLz : 0 < L → o + 53 = zlen V) :
    (if x6 ≤ 971 then (if sh ≤ 0 then f_B_round_73 x0 x6 (jlshl x2 (-sh)) else (f_B_shiftDownToNearest x2 sh).bind fun r_62 => f_B_round_73 x0 x6 r_62) else some (x0 ||| 9218868437227405312)) = some (x0 ||| lN (zpk L (zup V 0 o))) := by
  have hkle : rhe V (2 ^ o) ≤ 2 ^ 53 := rhe_le (Nat.lt_of_lt_of_le (zlen_lt V) (p2le (by omega)))
  rw [zup_rhe ho0]
  by_cases c971 : L ≤ 2045
  · have q1 : x6 ≤ 971 := by
      rw [i_le, h6, show (971 : Int32).toInt = 971 from rfl]; omega
    have q2 : ¬ sh ≤ 0 := by
      rw [i_le, hsh, show (0 : Int32).toInt = 0 from rfl]; omega
    rw [if_pos q1, if_neg q2]
    obtain ⟨k, hk1, hk2⟩ := B_nearest hV hsh ho0 (by omega)
    rw [hk1, Option.bind_some]
    exact B_rnd73 h6 c971 hk2 hkle
  · have q1 : ¬ x6 ≤ 971 := by
      rw [i_le, h6, show (971 : Int32).toInt = 971 from rfl]; omega
    rw [if_neg q1]
    have hge : 2 ^ 52 ≤ V / 2 ^ o := zlen_ge (by rw [zlen_div]; omega)
    have hge2 : 2 ^ 52 ≤ rhe V (2 ^ o) := Nat.le_trans hge rhe_ge
    have hpk : zpk L (rhe V (2 ^ o)) = 9218868437227405312 := by
      unfold zpk
      generalize rhe V (2 ^ o) = k at hge2 ⊢
      rw [if_pos (by omega)]
    rw [hpk]
    rfl
theorem B_rnd_dn {x0 x2 : Int64} {sh x6 : Int32} {V L d2 : Nat} (hV : x2.toInt = V) (hVp : 0 < V) (hsh : sh.toInt = -(d2 : Int)) (h6 : x6.toInt = (L : Int) - 1074) (hz : zlen V + d2 ≤ 53) (hLz : 0 < L → zlen V + d2 = 53) :
    (if x6 ≤ 971 then (if sh ≤ 0 then f_B_round_73 x0 x6 (jlshl x2 (-sh)) else (f_B_shiftDownToNearest x2 sh).bind fun r_62 => f_B_round_73 x0 x6 r_62) else some (x0 ||| 9218868437227405312)) = some (x0 ||| lN (zpk L (V * 2 ^ d2))) := by
  have hzm := zlen_mul hVp d2
  have hv53 : V * 2 ^ d2 < 2 ^ 53 := Nat.lt_of_lt_of_le (zlen_lt _) (p2le (by omega))
  by_cases c971 : L ≤ 2045
  · have q1 : x6 ≤ 971 := by
      rw [i_le, h6, show (971 : Int32).toInt = 971 from rfl]; omega
    have q2 : sh ≤ 0 := by
      rw [i_le, hsh, show (0 : Int32).toInt = 0 from rfl]; omega
    rw [if_pos q1, if_pos q2]
    have hns : (-sh).toInt = (d2 : Int) := by rw [i_neg (by omega), hsh]; omega
    have hk : (jlshl x2 (-sh)).toInt = ((V * 2 ^ d2 : Nat) : Int) := by
      have e3 : x2.toInt * ((2 ^ d2 : Nat) : Int) = ((V * 2 ^ d2 : Nat) : Int) := by rw [hV]; exact (Int.natCast_mul _ _).symm
      generalize V * 2 ^ d2 = k at e3 hv53
      exact (l_shl hns (by omega) (by rw [e3]; omega) (by rw [e3]; omega)).trans e3
    exact B_rnd73 h6 c971 hk (Nat.le_of_lt hv53)
  · have q1 : ¬ x6 ≤ 971 := by
      rw [i_le, h6, show (971 : Int32).toInt = 971 from rfl]; omega
    rw [if_neg q1]
    have hge : 2 ^ 52 ≤ V * 2 ^ d2 := zlen_ge (by rw [hzm]; omega)
    have hpk : zpk L (V * 2 ^ d2) = 9218868437227405312 := by
      unfold zpk
      generalize V * 2 ^ d2 = k at hge ⊢
      rw [if_pos (by omega)]
    rw [hpk]
    rfl
theorem rhe_up {V d L : Nat} {E : Int} (h : E - (L : Int) = d) : rhe (2 * V * 2 ^ E.toNat) (2 * 2 ^ L) = V * 2 ^ d := by
  have e9 : 2 * V * 2 ^ E.toNat = V * 2 ^ d * (2 * 2 ^ L) := by
    rw [show E.toNat = d + L by omega, Nat.pow_add]
    rw [Nat.mul_comm 2 V, Nat.mul_assoc, Nat.mul_assoc, ← Nat.mul_assoc 2, Nat.mul_comm 2 (2 ^ d), Nat.mul_assoc]
  rw [e9]
  exact rhe_whole (Nat.mul_pos (by decide) (p2pos L))
theorem zRB_1 {V : Nat} {E : Int} (hV : 0 < V) (L : Nat) (hL : (L : Int) = max ((zlen V : Int) + E - 53) 0) :
    zRB (2 * V * 2 ^ E.toNat) (2 * 2 ^ (-E).toNat) = if E < L then zpk L (zup V 0 (L - E).toNat) else zpk L (V * 2 ^ (E - L).toNat) := by
  have hrow := zRB_row (mo := 0) hV (by decide) L hL
  rw [Nat.add_zero] at hrow
  rw [hrow]
  by_cases c : E < L
  · rw [if_pos c, if_pos c]
  · rw [if_neg c, if_neg c, rhe_up (d := (E - (L : Int)).toNat) (by omega)]
theorem B_rnd_core {x0 x2 : Int64} {sh x6 : Int32} {V L : Nat} {E : Int} (hV : x2.toInt = V) (hVp : 0 < V) (hz63 : zlen V ≤ 63) (hL : (L : Int) = max ((zlen V : Int) + E - 53) 0) (hsh : sh.toInt = (L : Int) - E) (h6 : x6.toInt = (L : Int) - 1074) :
    (if sh ≤ 63 then (if x6 ≤ 971 then (if sh ≤ 0 then f_B_round_73 x0 x6 (jlshl x2 (-sh)) else (f_B_shiftDownToNearest x2 sh).bind fun r_62 => f_B_round_73 x0 x6 r_62) else some (x0 ||| 9218868437227405312)) else some x0) = some (x0 ||| lN (zRB (2 * V * 2 ^ E.toNat) (2 * 2 ^ (-E).toNat))) := by
  rw [zRB_1 hVp L hL]
  by_cases c63 : (L : Int) - E ≤ 63
  · have q1 : sh ≤ 63 := by
      rw [i_le, hsh, show (63 : Int32).toInt = 63 from rfl]; omega
    rw [if_pos q1]
    by_cases hc : E < L
    · rw [if_pos hc]
      exact B_rnd_up hV (by omega) (by omega) (by rw [hsh]; omega) h6 (by omega) (by omega)
    · rw [if_neg hc]
      exact B_rnd_dn hV hVp (by rw [hsh]; omega) h6 (by omega) (by omega)
  · have q1 : ¬ sh ≤ 63 := by
      rw [i_le, hsh, show (63 : Int32).toInt = 63 from rfl]; omega
    have hL0 : L = 0 := by omega
    have hz0 : zup V 0 ((L : Int) - E).toNat = 0 := zup_zero (Nat.lt_of_lt_of_le (zlen_lt V) (p2le (by omega))) 0
    rw [if_neg q1, if_pos (by omega), hz0, hL0, zpk_0, or_z]
theorem B_shift {d x4 : Int32} {z L : Nat} {E : Int} (hd : d.toInt = 53 - (z : Int)) (hz : z ≤ 63) (h4 : x4.toInt = E - 1074) (hE1 : -100000 < E) (hE2 : E < 100000) (hL : (L : Int) = max ((z : Int) + E - 53) 0) : (if (-d) < ((-1074) - x4) then ((-1074) - x4) else (-d)).toInt = (L : Int) - E := by
  have hneg : (-d).toInt = (z : Int) - 53 := by rw [i_neg (by omega), hd]; omega
  have hsub : ((-1074) - x4).toInt = -E := by
    have em : (-1074 : Int32).toInt = -1074 := rfl
    rw [i_sub, em, h4] <;> (try rw [em, h4]) <;> omega
  by_cases c : (-d) < ((-1074) - x4)
  · rw [if_pos c, hsub]
    rw [i_lt, hneg, hsub] at c
    clear hneg hsub
    omega
  · rw [if_neg c, hneg]
    rw [i_lt, hneg, hsub] at c
    clear hneg hsub
    omega
theorem B_round {x0 x2 : Int64} {x4 : Int32} {V : Nat} {E : Int} (hV : x2.toInt = V) (h4 : x4.toInt = E - 1074) (hE1 : -100000 < E) (hE2 : E < 100000) :
    f_B_round x0 x2 x4 = some (x0 ||| lN (zRB (2 * V * 2 ^ E.toNat) (2 * 2 ^ (-E).toNat))) := by
  unfold f_B_round
  by_cases hz : V = 0
  · rw [if_pos (by rw [l_eq, hV, hz]; rfl), hz, Nat.mul_zero, Nat.zero_mul, zRB_0, or_z]
  · have hVp : 0 < V := Nat.pos_of_ne_zero hz
    have hl63 : zlen V ≤ 63 := zlen_mono (by have r2 := l_rng x2; omega)
    have q0 : ¬ x2 = 0 := by rw [l_eq, hV]; show ¬ _ = (0 : Int); omega
    obtain ⟨d, hd1, hd2⟩ := B_lift hV
    rw [if_neg q0, hd1, Option.bind_some]
    obtain ⟨L, hL⟩ : ∃ L : Nat, (L : Int) = max ((zlen V : Int) + E - 53) 0 := ⟨(max ((zlen V : Int) + E - 53) 0).toNat, by clear hd1 hd2; omega⟩
    have hsh := B_shift hd2 hl63 h4 hE1 hE2 hL
    generalize (if (-d) < ((-1074) - x4) then ((-1074) - x4) else (-d)) = sh at hsh ⊢
    have hlast : (x4 + sh).toInt = (L : Int) - 1074 := by
      clear hd1 hd2
      rw [i_add, h4, hsh] <;> (try rw [h4, hsh]) <;> omega
    exact B_rnd_core hV hVp hl63 hL hsh hlast
