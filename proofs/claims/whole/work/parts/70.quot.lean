/-! class and reference: quotient -/
theorem zlen_0 {n : Nat} : zlen n = 0 ↔ n = 0 := by
  rcases Nat.eq_zero_or_pos n with q | q
  · subst q; exact ⟨fun _ => rfl, fun _ => rfl⟩
  · have := zlen_pos q
    exact ⟨fun h => by omega, fun h => by omega⟩
theorem A_quo44 {s a b : Int64} {x6 x7 ea eb : Int32} {x8 x10 : Int64} {X Y : Nat} {E : Int} (h8 : x8.toInt = Y) (h10 : x10.toInt = X) (hX1 : 4503599627370496 ≤ X) (hX2 : X < 9007199254740992) (hY1 : 4503599627370496 ≤ Y) (hY2 : Y < 9007199254740992) (ha : f_B_exponent a = some ea) (hb : f_B_exponent b = some eb) (hE : (((ea - x6) - (eb - x7)) - 60).toInt = E - 1074) (hE1 : -100000 < E) (hE2 : E < 100000) :
    f_A_quotientOfFinite_44 s a b x6 x7 x8 x10 0 0 = some (s ||| lN (zq (X * 2 ^ 61) (2 * Y) E)) := by
  have e60 : (60 : Int32).toInt = 60 := rfl
  have e1 : (1 : Int32).toInt = 1 := rfl
  have e2 : (1 : Int64).toInt = 1 := rfl
  unfold f_A_quotientOfFinite_44
  obtain ⟨z, hz1, hz2⟩ := zrun_inv (step := f_A_quotientOfFinite_44_step s a b x6 x7 x8) (x := (x10, 0, 0)) (fun z => ∃ i q rest : Nat, z.2.2.toInt = (i : Int) ∧ i ≤ 61 ∧ z.1.toInt = (rest : Int) ∧ z.2.1.toInt = (q : Int) ∧ rest + 2 * Y * q = X * 2 ^ i ∧ rest < 2 * Y ∧ q < 2 ^ i) (fun z => (61 - z.2.2.toInt).toNat)
    (fun d => d = s ||| lN (zq (X * 2 ^ 61) (2 * Y) E)) (by
      rintro ⟨w10, w12, w14⟩ ⟨i, q, rest, hi, hi2, hr, hq, hval, hlt, hq2⟩
      dsimp only at hi hr hq
      unfold f_A_quotientOfFinite_44_step f_A_quotientOfFinite_44_body
      dsimp only
      have hp : 2 ^ i ≤ 2 ^ 61 := p2le hi2
      have hq3 : q < 2305843009213693952 := Nat.lt_of_lt_of_le hq2 hp
      by_cases c : i = 61
      · rw [if_pos (show (60 : Int32) < w14 by rw [i_lt, hi, e60]; omega)]
        unfold f_A_quotientOfFinite_90 f_A_quotientOfFinite_128
        rw [ha, hb, Option.bind_some, Option.bind_some]
        subst c
        obtain ⟨d1, d2⟩ := (Nat.div_mod_unique (show 0 < 2 * Y by omega)).mpr ⟨hval, hlt⟩
        have hz : 55 ≤ zlen q := by
          have h1 : 2 ^ 59 ≤ q := by
            rw [← d1, Nat.le_div_iff_mul_le (by omega)]
            have h2 : 4503599627370496 * 2 ^ 61 ≤ X * 2 ^ 61 := Nat.mul_le_mul_right _ hX1
            show 576460752303423488 * (2 * Y) ≤ X * 2305843009213693952
            omega
          have := zlen_gt h1
          omega
        have key : zrd (ztr (X * 2 ^ 61) (2 * Y)) 0 E = zq (X * 2 ^ 61) (2 * Y) E := zrd_tr (by omega) (fun _ => by rw [d1]; exact hz)
        rw [← key]
        unfold ztr
        rw [d1, d2]
        by_cases c0 : rest = 0
        · rw [if_pos (by rw [l_eq, hr, c0]; rfl), if_pos c0, B_round' hq hE hE1 hE2]
          exact Or.inr ⟨_, rfl, rfl⟩
        · rw [if_neg (by rw [l_eq, hr]; show ¬ _ = (0 : Int); omega), if_neg c0, B_round' (l_or1 hq) hE hE1 hE2]
          exact Or.inr ⟨_, rfl, rfl⟩
      · rw [if_neg (show ¬ (60 : Int32) < w14 by rw [i_lt, hi, e60]; omega)]
        have hi1 : (w14 + 1).toInt = ((i + 1 : Nat) : Int) := i_suc hi (by omega)
        have hs12 : (jlshl w12 1).toInt = ((q * 2 : Nat) : Int) := by
          have e : w12.toInt * ((2 ^ 1 : Nat) : Int) = ((q * 2 : Nat) : Int) := by rw [hq]; exact (Int.natCast_mul _ _).symm
          exact (l_shl (n := 1) rfl (by decide) (by rw [e]; omega) (by rw [e]; omega)).trans e
        have dbl : ∀ {u : Int64} {U : Nat}, u.toInt = U → U < 9007199254740992 → (jlshl u 1).toInt = ((U * 2 : Nat) : Int) := by
          intro u U h1 h2
          have e : u.toInt * ((2 ^ 1 : Nat) : Int) = ((U * 2 : Nat) : Int) := by rw [h1]; exact (Int.natCast_mul _ _).symm
          exact (l_shl (n := 1) rfl (by decide) (by rw [e]; omega) (by rw [e]; omega)).trans e
        have hXs : X * 2 ^ (i + 1) = 2 * (X * 2 ^ i) := by rw [Nat.pow_succ, ← Nat.mul_assoc, Nat.mul_comm]
        have hps : 2 ^ (i + 1) = 2 * 2 ^ i := by rw [Nat.pow_succ, Nat.mul_comm]
        unfold f_A_quotientOfFinite_78
        by_cases c2 : rest < Y
        · rw [if_pos (by rw [l_lt, hr, h8]; omega)]
          refine Or.inl ⟨_, rfl, ⟨i + 1, q * 2, rest * 2, hi1, by omega, dbl hr (by omega), hs12, ?_, by omega, by omega⟩, by dsimp only; rw [hi1, hi]; omega⟩
          rw [hXs, ← hval, Nat.mul_add, ← Nat.mul_assoc (2 * Y), Nat.mul_comm _ 2, Nat.mul_comm _ 2]
        · rw [if_neg (by rw [l_lt, hr, h8]; omega)]
          have hsub : (w10 - x8).toInt = ((rest - Y : Nat) : Int) := by
            rw [l_sub, hr, h8] <;> (try rw [hr, h8]) <;> omega
          have hor : (jlshl w12 1 ||| 1).toInt = ((q * 2 + 1 : Nat) : Int) := by
            rw [l_or 1 q 1 (by rw [hs12, Nat.pow_one, Nat.mul_comm]) rfl (by decide), hs12, e2]
            omega
          refine Or.inl ⟨_, rfl, ⟨i + 1, q * 2 + 1, (rest - Y) * 2, hi1, by omega, dbl hsub (by omega), hor, ?_, by omega, by omega⟩, by dsimp only; rw [hi1, hi]; omega⟩
          have e3 : 2 * Y * (q * 2 + 1) = 2 * (2 * Y * q) + 2 * Y := by rw [Nat.mul_add, Nat.mul_one, ← Nat.mul_assoc (2 * Y), Nat.mul_comm _ 2]
          rw [hXs, ← hval, e3]
          generalize 2 * Y * q = g
          omega) ⟨0, 0, X, rfl, by omega, h10, rfl, by rw [Nat.mul_zero, Nat.add_zero, Nat.pow_zero, Nat.mul_one], by omega, by decide⟩
  rw [hz1, hz2]
theorem quo_q (ma mb la lb : Nat) (E : Int) : zq (ma * 2 ^ la * 2 ^ 61) (2 * (mb * 2 ^ lb)) (E - la + lb - 60) = zq ma mb E := by
  have h := zq_pow ma mb (la + 61) (lb + 1) (E - la + lb - 60)
  rw [Nat.mul_assoc ma, ← Nat.pow_add, Nat.mul_comm 2 (mb * 2 ^ lb), Nat.mul_assoc mb, ← Nat.pow_succ, h]
  congr 1
  omega
theorem A_quoFin (s a b : Int64) (fa : zmg a < 9218868437227405312) (fb : zmg b < 9218868437227405312) (za : zmg a ≠ 0) (zb : zmg b ≠ 0) :
    f_A_quotientOfFinite s a b = some (s ||| lN (zq (zam (zmg a)) (zam (zmg b)) ((zep (zmg a) : Int) - zep (zmg b) + 1074))) := by
  obtain ⟨ea, ha1, ha2⟩ := B_exponent a
  obtain ⟨eb, hb1, hb2⟩ := B_exponent b
  obtain ⟨ma, hm1, hm2⟩ := B_mantissa a
  obtain ⟨mb, hn1, hn2⟩ := B_mantissa b
  obtain ⟨da, la, p1, p2, p3, p4, p5, p6⟩ := A_lifted hm2 (zam_pos za) zam_lt'
  obtain ⟨db, lb, q1, q2, q3, q4, q5, q6⟩ := A_lifted hn2 (zam_pos zb) zam_lt'
  have hea := zep_lt fa
  have heb := zep_lt fb
  unfold f_A_quotientOfFinite
  rw [hm1, hn1]
  simp only [Option.bind_some]
  rw [p1, q1]
  simp only [Option.bind_some]
  have x1 : (ea - da).toInt = (zep (zmg a) : Int) - 1074 - la := by rw [i_sub, ha2, p2] <;> (try rw [ha2, p2]) <;> omega
  have x2 : (eb - db).toInt = (zep (zmg b) : Int) - 1074 - lb := by rw [i_sub, hb2, q2] <;> (try rw [hb2, q2]) <;> omega
  have x3 : ((ea - da) - (eb - db)).toInt = (zep (zmg a) : Int) - la - zep (zmg b) + lb := by rw [i_sub, x1, x2] <;> (try rw [x1, x2]) <;> omega
  have e60 : (60 : Int32).toInt = 60 := rfl
  have x4 : ((ea - da) - (eb - db) - 60).toInt = ((zep (zmg a) : Int) - zep (zmg b) + 1074 - la + lb - 60) - 1074 := by rw [i_sub, x3, e60] <;> (try rw [x3, e60]) <;> omega
  rw [A_quo44 q4 p4 p5 p6 q5 q6 ha1 hb1 x4 (by omega) (by omega), quo_q]
theorem M_ratFin (t s o c p : Int32) {r : Nat → Int32} (hr : mOK r) {a b : Int64} {ma mb : Int64} {ea eb : Int32} {A B : Nat} (g : Int64) (hm2 : ma.toInt = A) (hn2 : mb.toInt = B) (hA0 : 0 < A) (hA : A < 9007199254740992) (hB0 : 0 < B) (hB : B < 9007199254740992) {G : Int} (hE : ((ea - eb) - 120).toInt = (G - 120) - 1074) (hG1 : -10000 < G) (hG2 : G < 10000) :
    ∃ r', ((f_M_set t s o c p r 0 ma).bind fun u89 => ((f_M_shift t s o c p u89 0 120).bind fun u96 => ((f_M_set t s o c p u96 1 mb).bind fun u105 => ((f_M_quotient t s o c p u105 175).bind fun u112 => ((f_M_length t s o c p u112 0).bind fun r_133 => (if r_133 ≤ 0 then (f_M_ratio_144 t s o c p u112 g 3 ((ea - eb) - 120) 0) else (f_M_ratio_144 t s o c p u112 g 3 ((ea - eb) - 120) 1))))))) = some (g ||| lN (zq A B G), r') ∧ mOK r' := by
  have e0 : (0 : Int32).toInt = 0 := rfl
  obtain ⟨r1, t1, R1⟩ := M_set t s o c p hr (a := 0) (x1 := 0) (x2 := ma) (by decide) rfl
  obtain ⟨r2, t2, R2⟩ := M_shift t s o c p R1.1 (a := 0) (x1 := 0) (x2 := 120) (n := 120) (by decide) rfl rfl
  obtain ⟨r3, t3, R3⟩ := M_set t s o c p R2.1 (a := 1) (x1 := 1) (x2 := mb) (by decide) rfl
  have bA : A * 2 ^ 120 < 2 ^ 173 := by
    have : A * 2 ^ 120 < 2 ^ 53 * 2 ^ 120 := (Nat.mul_lt_mul_right (p2pos _)).mpr hA
    rw [← Nat.pow_add] at this
    exact this
  have v1 : mV r3 1 = B := by rw [R3.2.1, am_bv hn2]
  have v0 : mV r3 0 = A * 2 ^ 120 := by
    rw [mR_keep R3 (by decide) (by decide), R2.2.1, R1.2.1, am_bv hm2, Nat.mod_eq_of_lt (mTop_big (Nat.lt_trans bA (p2lt (by decide))))]
  obtain ⟨r4, t4, k1, k2, k3, _⟩ := M_quotient t s o c p R3.1 (n := 175) (x1 := 175) rfl (by decide) (by rw [v1]; exact hB0) (by
      rw [v1]
      apply mTop_big
      have h1 : B * 2 ^ 175 < 2 ^ 53 * 2 ^ 175 := (Nat.mul_lt_mul_right (p2pos _)).mpr hB
      rw [← Nat.pow_add] at h1
      exact Nat.lt_trans h1 (p2lt (by decide))) (by
      rw [v1, v0]
      have h1 : 1 * 2 ^ 176 ≤ B * 2 ^ 176 := Nat.mul_le_mul_right _ hB0
      rw [Nat.one_mul] at h1
      have h2 : 2 ^ 173 < 2 ^ 176 := p2lt (by decide)
      exact Nat.lt_of_lt_of_le (Nat.lt_trans bA h2) h1)
  obtain ⟨d, l1, l2⟩ := M_length t s o c p k1 (a := 0) (x1 := 0) (by decide) rfl
  rw [t1, Option.bind_some, t2, Option.bind_some, t3, Option.bind_some, t4, Option.bind_some, l1, Option.bind_some]
  rw [v0, v1] at k2 k3
  have hz : 55 ≤ zlen (A * 2 ^ 120 / B) := by
    have h1 : 2 ^ 67 ≤ A * 2 ^ 120 / B := by
      rw [Nat.le_div_iff_mul_le hB0]
      have h2 : 2 ^ 67 * B ≤ 2 ^ 67 * 2 ^ 53 := Nat.mul_le_mul_left _ (Nat.le_of_lt hB)
      rw [← Nat.pow_add] at h2
      have h3 : 1 * 2 ^ 120 ≤ A * 2 ^ 120 := Nat.mul_le_mul_right _ hA0
      rw [Nat.one_mul] at h3
      exact Nat.le_trans h2 h3
    have := zlen_gt h1
    omega
  have hq : zq (A * 2 ^ 120) B (G - 120) = zq A B G := by
    have h := zq_pow A B 120 0 (G - 120)
    rw [Nat.pow_zero, Nat.mul_one] at h
    rw [h]
    congr 1
    omega
  have fin : ∀ {x5 : Int32} {mo : Nat}, x5.toInt = (mo : Int) → mo = (if A * 2 ^ 120 % B = 0 then 0 else 1) → ∃ r', f_M_ratio_144 t s o c p r4 g 3 ((ea - eb) - 120) x5 = some (g ||| lN (zq A B G), r') ∧ mOK r' := by
    intro x5 mo h5 hmo
    have hmo2 : mo < 2 := by rw [hmo]; split <;> decide
    obtain ⟨r5, u1, uR⟩ := M_round' t s o c p k1 (a := 3) (mo := mo) (x1 := g) (x3 := 3) (by decide) (by decide) rfl hE (by omega) (by omega) h5 hmo2 (fun _ => by rw [k2]; exact hz)
    unfold f_M_ratio_144
    rw [u1, Option.bind_some, k2, hmo, zrd_div hB0 (by omega), hq]
    exact ⟨r5, rfl, uR.1⟩
  rw [k3] at l2
  by_cases c0 : A * 2 ^ 120 % B = 0
  · rw [if_pos (by rw [i_le, l2, e0, c0]; decide)]
    exact fin (mo := 0) rfl (by rw [if_pos c0])
  · have : zlen (A * 2 ^ 120 % B) ≠ 0 := fun h => c0 (zlen_0.mp h)
    rw [if_neg (by rw [i_le, l2, e0]; omega)]
    exact fin (mo := 1) rfl (by rw [if_neg c0])
theorem same_quotient (t s o c p : Int32) {r : Nat → Int32} (hr : mOK r) (a b : Int64) (na : ¬ 9218868437227405312 < zmg a) (nb : ¬ 9218868437227405312 < zmg b) :
    ∃ d r', f_A_quotient a b = some d ∧ f_M_ratio t s o c p r a b = some (d, r') ∧ mOK r' := by
  obtain ⟨ea, ha1, ha2⟩ := M_power a
  obtain ⟨eb, hb1, hb2⟩ := M_power b
  obtain ⟨ma, hm1, hm2⟩ := M_amount a
  obtain ⟨mb, hn1, hn2⟩ := M_amount b
  unfold f_A_quotient f_M_ratio f_A_quotient_36 f_A_quotient_37 f_A_quotient_57 f_A_quotient_58 f_A_quotient_97
  rw [B_isNan, B_isNan, B_isInfinite, B_isInfinite, B_isZero, B_isZero, M_isInfinite, M_isInfinite, M_isZero, M_isZero, ha1, hb1, hm1, hn1]
  simp only [Option.bind_some]
  rw [if_pos (zbf.mpr na), if_pos (zbf.mpr nb)]
  have j10 : ¬ (1 : Int32) = 0 := i10
  generalize hg : ((a ^^^ b) &&& (-9223372036854775808)) = g
  by_cases ia : zmg a = 9218868437227405312
  · have za : ¬ zmg a = 0 := by omega
    by_cases ib : zmg b = 9218868437227405312
    · have zb : ¬ zmg b = 0 := by omega
      simp only [if_neg (fun q => zbf.mp q ia), if_neg (fun q => zbf.mp q ib), if_pos (zbf.mpr za), if_pos (zbf.mpr zb), if_neg j10]
      exact ⟨_, r, rfl, rfl, hr⟩
    · simp only [if_neg (fun q => zbf.mp q ia), if_pos (zbf.mpr ib), if_pos (zbf.mpr za)]
      exact ⟨_, r, rfl, rfl, hr⟩
  · by_cases ib : zmg b = 9218868437227405312
    · have zb : ¬ zmg b = 0 := by omega
      by_cases za : zmg a = 0
      · simp only [if_pos (zbf.mpr ia), if_neg (fun q => zbf.mp q ib), if_neg (fun q => zbf.mp q za), if_pos (zbf.mpr zb)]
        exact ⟨_, r, rfl, rfl, hr⟩
      · simp only [if_pos (zbf.mpr ia), if_neg (fun q => zbf.mp q ib), if_pos (zbf.mpr za), if_pos (zbf.mpr zb)]
        exact ⟨_, r, rfl, rfl, hr⟩
    · have fa : zmg a < 9218868437227405312 := by omega
      have fb : zmg b < 9218868437227405312 := by omega
      by_cases zb : zmg b = 0
      · by_cases za : zmg a = 0
        · simp only [if_pos (zbf.mpr ia), if_pos (zbf.mpr ib), if_neg (fun q => zbf.mp q za), if_neg (fun q => zbf.mp q zb), if_neg j10]
          exact ⟨_, r, rfl, rfl, hr⟩
        · simp only [if_pos (zbf.mpr ia), if_pos (zbf.mpr ib), if_pos (zbf.mpr za), if_neg (fun q => zbf.mp q zb)]
          exact ⟨_, r, rfl, rfl, hr⟩
      · by_cases za : zmg a = 0
        · simp only [if_pos (zbf.mpr ia), if_pos (zbf.mpr ib), if_neg (fun q => zbf.mp q za), if_pos (zbf.mpr zb)]
          exact ⟨_, r, rfl, rfl, hr⟩
        · have hea := zep_lt fa
          have heb := zep_lt fb
          have x1 : (ea - eb).toInt = (zep (zmg a) : Int) - zep (zmg b) := by rw [i_sub, ha2, hb2] <;> (try rw [ha2, hb2]) <;> omega
          have e120 : (120 : Int32).toInt = 120 := rfl
          have x2 : (ea - eb - 120).toInt = (((zep (zmg a) : Int) - zep (zmg b) + 1074) - 120) - 1074 := by rw [i_sub, x1, e120] <;> (try rw [x1, e120]) <;> omega
          obtain ⟨r', u1, u2⟩ := M_ratFin t s o c p hr (a := a) (b := b) g hm2 hn2 (zam_pos za) zam_lt' (zam_pos zb) zam_lt' x2 (by omega) (by omega)
          simp only [if_pos (zbf.mpr ia), if_pos (zbf.mpr ib), if_pos (zbf.mpr za), if_pos (zbf.mpr zb)]
          rw [u1, A_quoFin g a b fa fb za zb]
          exact ⟨_, r', rfl, rfl, u2⟩
