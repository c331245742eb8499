/-! a decimal rounded: class and reference -/
theorem zero_or64 (a : Int64) : 0 ||| a = a := Int64.toBitVec_inj.mp (by rw [Int64.toBitVec_or]; exact BitVec.zero_or)
theorem zpk_inf {L k : Nat} (h : 9218868437227405312 ≤ L * 4503599627370496 + k) : zpk L k = 9218868437227405312 := by
  unfold zpk
  rw [if_pos h]
theorem zRB_inf {N D : Nat} (hD : 0 < D) (h : 2 ^ 2098 ≤ N / D) : zRB N D = 9218868437227405312 := by
  have hz : 2098 < zlen (N / D) := zlen_gt h
  unfold zRB
  apply zpk_inf
  have hne : N / D ≠ 0 := by
    intro q
    rw [q] at hz
    exact absurd hz (by decide)
  have hk : 4503599627370496 ≤ rhe N (D * 2 ^ (zlen (N / D) - 53)) := by
    refine Nat.le_trans ?_ rhe_ge
    rw [← Nat.div_div_eq_div_mul]
    have h1 := zlen_le hne
    rw [Nat.le_div_iff_mul_le (p2pos _)]
    have e : 4503599627370496 * 2 ^ (zlen (N / D) - 53) = 2 ^ (zlen (N / D) - 1) := by
      rw [show 4503599627370496 = 2 ^ 52 from rfl, ← Nat.pow_add, show 52 + (zlen (N / D) - 53) = zlen (N / D) - 1 by omega]
    rw [e]
    exact h1
  generalize rhe N (D * 2 ^ (zlen (N / D) - 53)) = k at hk ⊢
  generalize zlen (N / D) = z at hz ⊢
  omega
theorem zRB_tiny {N D : Nat} (h : 2 * N < D) : zRB N D = 0 := by
  have h0 : N / D = 0 := Nat.div_eq_of_lt (by omega)
  unfold zRB
  rw [h0]
  show zpk 0 (rhe N (D * 1)) = 0
  unfold rhe
  rw [Nat.mul_one, Nat.mod_eq_of_lt (show N < D by omega), h0, if_neg (by omega)]
  rfl
theorem zq_1074 (x y : Nat) : zq x y 1074 = zRB (x * 2 ^ 1074) y := by
  unfold zq
  rw [show (1074 : Int).toNat = 1074 from rfl, show (-(1074 : Int)).toNat = 0 from rfl, Nat.pow_zero, Nat.mul_one]
theorem zq_tiny {A c e : Nat} (hA : A < 10 ^ c) (he : 324 + c ≤ e) : zq A (10 ^ e) 1074 = 0 := by
  rw [zq_1074]
  apply zRB_tiny
  have h1 : 2 * 2 ^ 1074 ≤ 10 ^ 324 := by decide +kernel
  have h2 : A * (2 * 2 ^ 1074) < 10 ^ c * 10 ^ 324 := Nat.mul_lt_mul_of_lt_of_le hA h1 (p10p _)
  rw [← Nat.pow_add] at h2
  have h3 : 10 ^ (c + 324) ≤ 10 ^ e := p10le (by omega)
  have e1 : 2 * (A * 2 ^ 1074) = A * (2 * 2 ^ 1074) := Nat.mul_left_comm _ _ _
  rw [e1]
  exact Nat.lt_of_lt_of_le h2 h3
theorem zq_huge {A : Nat} (hA : 10 ^ 309 ≤ A) : zq A 1 1074 = 9218868437227405312 := by
  rw [zq_1074]
  apply zRB_inf (by decide)
  rw [Nat.div_one]
  have h1 : 2 ^ 1024 ≤ 10 ^ 309 := by decide +kernel
  have h2 := Nat.mul_le_mul_right (2 ^ 1074) (Nat.le_trans h1 hA)
  rw [← Nat.pow_add] at h2
  exact h2
theorem nB48 : 1073741824 ^ 48 = 2 ^ 1440 := nB2 48
theorem n_fits {v k n : Nat} (h : zlen v ≤ k) (hk : k + n ≤ 1440) : v * 2 ^ n < 1073741824 ^ 48 := by
  rw [nB48]
  have h1 : v < 2 ^ k := Nat.lt_of_lt_of_le (zlen_lt v) (p2le h)
  have h2 : v * 2 ^ n < 2 ^ k * 2 ^ n := (Nat.mul_lt_mul_right (p2pos n)).mpr h1
  rw [← Nat.pow_add] at h2
  exact Nat.lt_of_lt_of_le h2 (p2le hk)
theorem R_quo112 (c1 c2 c3 c4 c5 : Int32) {nu du x1 : Int32} {nl dl : Nat → Int32} {x3 : Int64} {A D : Nat} {E : Int} (hn : nR nu nl (A * 2 ^ 60 % D)) (hD : 0 < D) (hx3 : x3.toInt = ((A * 2 ^ 60 / D : Nat) : Int)) (hz : 55 ≤ zlen (A * 2 ^ 60 / D)) (hE : (-x1 - 60).toInt = E - 1074) (hE1 : -100000 < E) (hE2 : E < 100000) :
    f_R_roundedQuotient_112 c1 c2 c3 c4 c5 nu nl du dl x1 x3 = some (lN (zq (A * 2 ^ 60) D E), nu, nl, du, dl) := by
  unfold f_R_roundedQuotient_112 f_R_roundedQuotient_129
  have key : zrd (ztr (A * 2 ^ 60) D) 0 E = zq (A * 2 ^ 60) D E := zrd_tr hD (fun _ => hz)
  rw [N_isZero hn, Option.bind_some, ← key]
  unfold ztr
  generalize A * 2 ^ 60 / D = q at hx3 ⊢
  by_cases c : A * 2 ^ 60 % D = 0
  · rw [if_pos c, if_neg i10, if_pos c, B_round' hx3 hE hE1 hE2, Option.bind_some, zero_or64]
  · rw [if_neg c, if_pos rfl, if_neg c, B_round' (l_or1 hx3) hE hE1 hE2, Option.bind_some, zero_or64]
theorem quo_mul {D q r K M : Nat} (h1 : r + D * q = K) : r * M % D + D * (q * M + r * M / D) = K * M := by
  have e := Nat.div_add_mod (r * M) D
  rw [← h1, Nat.add_mul, Nat.mul_add, ← Nat.mul_assoc D q M]
  omega
theorem quo_more {A D q r k : Nat} (h1 : r + D * q = A * 2 ^ k) : r * 2 ^ 20 % D + D * (q * 2 ^ 20 + r * 2 ^ 20 / D) = A * 2 ^ (k + 20) := by
  rw [Nat.pow_add, ← Nat.mul_assoc A]
  exact quo_mul h1
theorem R_quo73 (c1 c2 c3 c4 c5 : Int32) {nu du x1 : Int32} {nl dl : Nat → Int32} {x3 : Int64} {A D q r n : Nat} {E : Int} (hn : nR nu nl r) (hd : nR du dl D) (hdn : du.toInt = ((n + 1 : Nat) : Int)) (hDz : zlen D = 30 * (n + 1)) (hn45 : n < 45) (hA : zlen A = zlen D) (hr : r < D) (hq : q < 2) (h0 : r + D * q = A) (hx3 : x3.toInt = (q : Int)) (hE : (-x1 - 60).toInt = E - 1074) (hE1 : -100000 < E) (hE2 : E < 100000) :
    ∃ nu' nl', f_R_roundedQuotient_73 c1 c2 c3 c4 c5 nu nl du dl x1 x3 0 = some (lN (zq (A * 2 ^ 60) D E), nu', nl', du, dl) := by
  have e3 : (3 : Int32).toInt = 3 := rfl
  have hD : 0 < D := by omega
  unfold f_R_roundedQuotient_73
  obtain ⟨z, hz1, hz2⟩ := zrun_inv (step := f_R_roundedQuotient_73_step c1 c2 c3 c4 c5 x1) (x := (nu, nl, du, dl, x3, 0)) (fun z => ∃ i q r : Nat, i ≤ 3 ∧ z.2.2.2.2.2.toInt = (i : Int) ∧ nR z.1 z.2.1 r ∧ z.2.2.1 = du ∧ z.2.2.2.1 = dl ∧ z.2.2.2.2.1.toInt = (q : Int) ∧ r < D ∧ r + D * q = A * 2 ^ (20 * i) ∧ q < 2 * 2 ^ (20 * i)) (fun z => (3 - z.2.2.2.2.2.toInt).toNat)
    (fun y => ∃ nu' nl', y = (lN (zq (A * 2 ^ 60) D E), nu', nl', du, dl)) (by
      rintro ⟨pu, pl, tu, tl, y3, y5⟩ ⟨i, q, r, hi, h5, hR, htu, htl, hq3, hrD, hval, hqb⟩
      dsimp only at h5 hR htu htl hq3
      subst htu htl
      unfold f_R_roundedQuotient_73_step f_R_roundedQuotient_73_body
      dsimp only
      by_cases c : i = 3
      · subst c
        rw [if_pos (show (3 : Int32) ≤ y5 by rw [i_le, h5, e3]; omega)]
        have hv : r + D * q = A * 2 ^ 60 := hval
        obtain ⟨d1, d2⟩ := (Nat.div_mod_unique hD).mpr ⟨hv, hrD⟩
        rw [← d2] at hR
        rw [← d1] at hq3
        have hz : 55 ≤ zlen (A * 2 ^ 60 / D) := by
          have hAne : A ≠ 0 := by
            intro z
            rw [z] at hA
            have : zlen 0 = 0 := rfl
            omega
          have a1 := zlen_le hAne
          have a2 := zlen_lt D
          have h59 : 2 ^ 59 ≤ A * 2 ^ 60 / D := by
            rw [Nat.le_div_iff_mul_le hD]
            have b1 : 2 ^ 59 * D ≤ 2 ^ 59 * 2 ^ zlen D := Nat.mul_le_mul_left _ (Nat.le_of_lt a2)
            have b2 : 2 ^ (zlen A - 1) * 2 ^ 60 ≤ A * 2 ^ 60 := Nat.mul_le_mul_right _ a1
            rw [← Nat.pow_add] at b1 b2
            rw [show 59 + zlen D = zlen A - 1 + 60 by omega] at b1
            exact Nat.le_trans b1 b2
          have := zlen_gt h59
          omega
        rw [R_quo112 c1 c2 c3 c4 c5 hR hD hq3 hz hE hE1 hE2]
        exact Or.inr ⟨_, rfl, _, _, rfl⟩
      · rw [if_neg (show ¬ (3 : Int32) ≤ y5 by rw [i_le, h5, e3]; omega)]
        have hzr : zlen r ≤ 30 * (n + 1) := by
          rw [← hDz]
          exact zlen_mono (Nat.lt_trans hrD (zlen_lt D))
        obtain ⟨u1, l1, s1, s2⟩ := N_shiftUp hR (x := 20) (n := 20) rfl (n_fits hzr (by omega))
        obtain ⟨d, u2, l2, t1, t2, t3⟩ := N_divRest s2 hd hdn hDz (by
          show r * 2 ^ 20 < D * 2 ^ 20
          exact (Nat.mul_lt_mul_right (p2pos 20)).mpr hrD)
        rw [s1, Option.bind_some]
        dsimp only
        rw [t1, Option.bind_some]
        dsimp only
        have hdl : r * 2 ^ 20 / D < 2 ^ 20 := by
          apply Nat.div_lt_of_lt_mul
          exact (Nat.mul_lt_mul_right (p2pos 20)).mpr hrD
        have hp : 2 ^ (20 * i) ≤ 2 ^ 40 := p2le (by omega)
        have hqs : (jlshl y3 20).toInt = ((2 ^ 20 * q : Nat) : Int) := by
          have e : y3.toInt * ((2 ^ 20 : Nat) : Int) = ((2 ^ 20 * q : Nat) : Int) := by rw [hq3, Nat.mul_comm]; exact (Int.natCast_mul _ _).symm
          have hq4 : q < 2199023255552 := by
            generalize 2 ^ (20 * i) = P at hp hqb
            omega
          exact (l_shl (n := 20) rfl (by decide) (by rw [e]; omega) (by rw [e]; omega)).trans e
        have hor : (jlshl y3 20 ||| d.toInt64).toInt = ((q * 2 ^ 20 + r * 2 ^ 20 / D : Nat) : Int) := by
          rw [l_or 20 q (r * 2 ^ 20 / D) hqs (by rw [i2l, t2]) hdl, hqs, i2l, t2, Nat.mul_comm]
          exact (Int.natCast_add _ _).symm
        have hs : (y5 + 1).toInt = ((i + 1 : Nat) : Int) := i_suc h5 (by omega)
        refine Or.inl ⟨_, rfl, ⟨i + 1, _, _, by omega, hs, t3, rfl, rfl, hor, Nat.mod_lt _ hD, ?_, ?_⟩, by dsimp only; rw [hs]; (try rw [h5]); clear hs h5; omega⟩
        · rw [show 20 * (i + 1) = 20 * i + 20 by omega]
          exact quo_more hval
        · rw [show 20 * (i + 1) = 20 * i + 20 by omega, Nat.pow_add, ← Nat.mul_assoc]
          have : (q + 1) * 2 ^ 20 ≤ 2 * 2 ^ (20 * i) * 2 ^ 20 := Nat.mul_le_mul_right _ hqb
          rw [Nat.add_mul, Nat.one_mul] at this
          omega) ⟨0, q, r, by omega, rfl, hn, rfl, rfl, hx3, hr, by rw [Nat.mul_zero, Nat.pow_zero, Nat.mul_one]; exact h0, by rw [Nat.mul_zero, Nat.pow_zero]; omega⟩
  obtain ⟨nu', nl', w⟩ := hz2
  exact ⟨nu', nl', by rw [hz1, w]⟩
theorem R_roundedQuotient (c1 c2 c3 c4 c5 : Int32) {nu du : Int32} {nl dl : Nat → Int32} {A D : Nat} (hn : nR nu nl A) (hd : nR du dl D) (hA : A ≠ 0) (hD : D ≠ 0) (hA2 : zlen A ≤ 1300) (hD2 : zlen D ≤ 1300) :
    ∃ y, f_R_roundedQuotient c1 c2 c3 c4 c5 nu nl du dl = some (lN (zq A D 1074), y) := by
  obtain ⟨r4, p1, p2⟩ := N_bitLength hd
  obtain ⟨r11, q1, q2⟩ := N_bitLength hn
  have hx : (r4 - r11).toInt = (zlen D : Int) - zlen A := by rw [i_sub, p2, q2] <;> (try rw [p2, q2]) <;> omega
  have hxn : (-(r4 - r11)).toInt = (zlen A : Int) - zlen D := by rw [i_neg (by omega), hx]; omega
  unfold f_R_roundedQuotient
  rw [p1, Option.bind_some, q1, Option.bind_some]
  generalize r4 - r11 = x1 at hx hxn ⊢
  obtain ⟨a, ha⟩ : ∃ a : Nat, a = zlen D - zlen A := ⟨_, rfl⟩
  obtain ⟨b, hb⟩ : ∃ b : Nat, b = zlen A - zlen D := ⟨_, rfl⟩
  have zA1 := zlen_mul (Nat.pos_of_ne_zero hA) a
  have zD1 := zlen_mul (Nat.pos_of_ne_zero hD) b
  have hA1 : 0 < A * 2 ^ a := Nat.mul_pos (Nat.pos_of_ne_zero hA) (p2pos _)
  have hD1 : 0 < D * 2 ^ b := Nat.mul_pos (Nat.pos_of_ne_zero hD) (p2pos _)
  obtain ⟨u1, l1, s1, s2⟩ := N_shiftUp hn (x := x1) (n := a) (by rw [hx]; omega) (n_fits (Nat.le_refl _) (by omega))
  obtain ⟨u2, l2, t1, t2⟩ := N_shiftUp hd (x := -x1) (n := b) (by rw [hxn]; omega) (n_fits (Nat.le_refl _) (by omega))
  rw [s1, Option.bind_some]
  dsimp only
  rw [t1, Option.bind_some]
  dsimp only
  obtain ⟨r37, k, n, v1, v2, v3, v4, v5, v6⟩ := N_slack t2 (by omega)
  obtain ⟨u3, l3, s3, s4⟩ := N_shiftUp s2 (x := r37) (n := k) (by rw [v2]; omega) (n_fits (Nat.le_refl _) (by omega))
  obtain ⟨u4, l4, t3, t4⟩ := N_shiftUp t2 (x := r37) (n := k) (by rw [v2]; omega) (n_fits (Nat.le_refl _) (by omega))
  rw [v1, Option.bind_some, s3, Option.bind_some]
  dsimp only
  rw [t3, Option.bind_some]
  dsimp only
  have zA2 := zlen_mul hA1 k
  have zD2 := zlen_mul hD1 k
  have eA : A * 2 ^ a * 2 ^ k = A * 2 ^ (a + k) := by rw [Nat.mul_assoc, ← Nat.pow_add]
  have eD : D * 2 ^ b * 2 ^ k = D * 2 ^ (b + k) := by rw [Nat.mul_assoc, ← Nat.pow_add]
  have hfin : zq (A * 2 ^ a * 2 ^ k * 2 ^ 60) (D * 2 ^ b * 2 ^ k) (1074 - ((zlen D : Int) - zlen A) - 60) = zq A D 1074 := by
    rw [eA, eD, Nat.mul_assoc, ← Nat.pow_add, zq_pow]
    congr 1
    omega
  rw [← hfin]
  have hDp : 0 < D * 2 ^ b * 2 ^ k := Nat.mul_pos hD1 (p2pos _)
  have hzz : zlen (A * 2 ^ a * 2 ^ k) = zlen (D * 2 ^ b * 2 ^ k) := by omega
  have hDz : zlen (D * 2 ^ b * 2 ^ k) = 30 * (n + 1) := by omega
  generalize A * 2 ^ a * 2 ^ k = A2 at *
  generalize D * 2 ^ b * 2 ^ k = D2 at *
  obtain ⟨n', w1, w2, w3, w4, w5⟩ := nR_top t4 (by omega)
  have hnn : n' = n := by omega
  subst hnn
  have hlt : A2 < 2 * D2 := by
    have a1 := zlen_lt A2
    have a2 := zlen_le (n := D2) (by omega)
    have a3 : 2 ^ zlen A2 = 2 * 2 ^ (zlen D2 - 1) := by rw [← Nat.pow_succ', hzz, show (zlen D2 - 1).succ = zlen D2 by omega]
    omega
  obtain ⟨d, u5, l5, g1, g2, g3⟩ := N_divRest s4 t4 w1 hDz (by omega)
  rw [g1, Option.bind_some]
  dsimp only
  have hq2 : A2 / D2 < 2 := Nat.div_lt_of_lt_mul (by omega)
  have e60 : (60 : Int32).toInt = 60 := rfl
  have hE : (-x1 - 60).toInt = (1074 - ((zlen D : Int) - zlen A) - 60) - 1074 := by rw [i_sub, hxn, e60] <;> (try rw [hxn, e60]) <;> omega
  obtain ⟨nu', nl', k1⟩ := R_quo73 c1 c2 c3 c4 c5 (x3 := d.toInt64) g3 t4 w1 hDz (by omega) hzz (Nat.mod_lt _ hDp) hq2 (by rw [Nat.add_comm]; exact Nat.div_add_mod _ _) (by rw [i2l, g2]) hE (by omega) (by omega)
  rw [k1]
  exact ⟨_, rfl⟩
theorem zlen_ten {c : Nat} (h : c ≤ 380) : zlen (10 ^ c) ≤ 1300 := by
  apply zlen_mono
  have h1 : 10 ^ c ≤ 10 ^ 380 := p10le h
  have h2 : 10 ^ 380 < 2 ^ 1300 := by decide +kernel
  exact Nat.lt_of_le_of_lt h1 h2
theorem R_roundedDecimal (c1 c2 c3 : Int32) {cn pw nu du : Int32} {nl dl : Nat → Int32} {A c : Nat} {p : Int} (hn : nR nu nl A) (hcn : cn.toInt = c) (hpw : pw.toInt = p) (hc : c ≤ 20) (hp1 : -10000000 < p) (hp2 : p < 10000000) (hA : A < 10 ^ c) (hA0 : A ≠ 0 → 10 ^ (c - 1) ≤ A) :
    ∃ y, f_R_roundedDecimal c1 c2 c3 cn pw nu nl du dl = some (lN (zq (A * 10 ^ p.toNat) (10 ^ (-p).toNat) 1074), y) := by
  have em : (-323 : Int32).toInt = -323 := rfl
  have e309 : (309 : Int32).toInt = 309 := rfl
  have hs : (cn + pw).toInt = (c : Int) + p := by rw [i_add, hcn, hpw] <;> (try rw [hcn, hpw]) <;> omega
  unfold f_R_roundedDecimal
  rw [N_isZero hn, Option.bind_some]
  by_cases hz : A = 0
  · rw [if_pos hz, if_neg i10, hz, Nat.zero_mul, zq_1074, Nat.zero_mul, zRB_0]
    exact ⟨_, rfl⟩
  · have hge := hA0 hz
    have hc0 : 0 < c := by
      rcases Nat.eq_zero_or_pos c with q | q
      · subst q
        rw [Nat.pow_zero] at hA
        omega
      · exact q
    rw [if_neg hz, if_pos rfl]
    rcases Int.lt_or_le ((c : Int) + p) (-323) with q | q
    · rw [if_neg (show ¬ (-323 : Int32) ≤ cn + pw by rw [i_le, hs, em]; omega)]
      rw [show p.toNat = 0 by omega, Nat.pow_zero, Nat.mul_one, zq_tiny hA (show 324 + c ≤ (-p).toNat by omega)]
      exact ⟨_, rfl⟩
    · rw [if_pos (show (-323 : Int32) ≤ cn + pw by rw [i_le, hs, em]; omega)]
      rcases Int.lt_or_le 309 ((c : Int) + p) with w | w
      · rw [if_neg (show ¬ cn + pw ≤ (309 : Int32) by rw [i_le, hs, e309]; omega)]
        have hh : 10 ^ 309 ≤ A * 10 ^ p.toNat := by
          have a1 : 10 ^ (c - 1) * 10 ^ p.toNat ≤ A * 10 ^ p.toNat := Nat.mul_le_mul_right _ hge
          rw [← Nat.pow_add] at a1
          exact Nat.le_trans (p10le (by omega)) a1
        rw [show (-p).toNat = 0 by omega, Nat.pow_zero, zq_huge hh]
        exact ⟨_, rfl⟩
      · rw [if_pos (show cn + pw ≤ (309 : Int32) by rw [i_le, hs, e309]; omega)]
        have hAp : A * 10 ^ p.toNat < 10 ^ 330 := by
          have a1 : A * 10 ^ p.toNat < 10 ^ c * 10 ^ p.toNat := (Nat.mul_lt_mul_right (p10p _)).mpr hA
          rw [← Nat.pow_add] at a1
          exact Nat.lt_of_lt_of_le a1 (p10le (by omega))
        have t48 : 10 ^ 380 < 1073741824 ^ 48 := by decide +kernel
        obtain ⟨u1, l1, s1, s2⟩ := N_set (us := du) (l := dl) 1
        obtain ⟨u2, l2, s3, s4⟩ := N_tens hn (x := pw) (n := p.toNat) (by rw [hpw]) (Nat.lt_trans hAp (Nat.lt_of_le_of_lt (p10le (by decide)) t48))
        have hnp : (-pw).toInt = -p := by rw [i_neg (by omega), hpw]
        have e1 : (1 : Int64).toBitVec.toNat = 1 := rfl
        rw [e1] at s2
        obtain ⟨u3, l3, s5, s6⟩ := N_tens s2 (x := -pw) (n := (-p).toNat) (by rw [hnp]) (by rw [Nat.one_mul]; exact Nat.lt_of_le_of_lt (p10le (by omega)) t48)
        rw [Nat.one_mul] at s6
        rw [s1, Option.bind_some]
        dsimp only
        rw [s3, Option.bind_some]
        dsimp only
        rw [s5, Option.bind_some]
        dsimp only
        have hAne : A * 10 ^ p.toNat ≠ 0 := Nat.ne_of_gt (Nat.mul_pos (by omega) (p10p _))
        obtain ⟨y, k1⟩ := R_roundedQuotient c1 c2 c3 cn pw s4 s6 hAne (Nat.ne_of_gt (p10p _)) (by
          apply Nat.le_trans (zlen_mono (k := 1300) ?_) (Nat.le_refl _)
          have h2 : 10 ^ 380 < 2 ^ 1300 := by decide +kernel
          exact Nat.lt_trans hAp (Nat.lt_of_le_of_lt (p10le (by decide)) h2)) (zlen_ten (by omega))
        rw [k1, Option.bind_some]
        exact ⟨_, rfl⟩
