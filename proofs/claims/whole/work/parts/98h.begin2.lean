/-! the class's begin -/
theorem lt_B48 {v : Nat} (h : v < 2 ^ 1400) : v < 1073741824 ^ 48 := by
  rw [nB48]
  exact Nat.lt_trans h (p2lt (by decide))
theorem big_r {x a b : Nat} (hx : x < 2 ^ 55) (ha : a ≤ 330) (hb : b ≤ 971) (hab : a = 0 ∨ b = 0) : x * 10 ^ a * 2 ^ b < 2 ^ 1160 := by
  rcases hab with q | q
  · rw [q, Nat.pow_zero, Nat.mul_one]
    have h1 : 2 ^ b ≤ 2 ^ 971 := p2le hb
    have h2 : x * 2 ^ b ≤ x * 2 ^ 971 := Nat.mul_le_mul_left _ h1
    have h3 : x * 2 ^ 971 < 2 ^ 55 * 2 ^ 971 := (Nat.mul_lt_mul_right (p2pos _)).mpr hx
    rw [← Nat.pow_add] at h3
    exact Nat.lt_of_le_of_lt h2 (Nat.lt_trans h3 (p2lt (by decide)))
  · rw [q, Nat.pow_zero, Nat.mul_one]
    have h1 : 10 ^ a ≤ 2 ^ 1100 := Nat.le_trans (p10le ha) (by decide +kernel)
    have h2 : x * 10 ^ a ≤ x * 2 ^ 1100 := Nat.mul_le_mul_left _ h1
    have h3 : x * 2 ^ 1100 < 2 ^ 55 * 2 ^ 1100 := (Nat.mul_lt_mul_right (p2pos _)).mpr hx
    rw [← Nat.pow_add] at h3
    exact Nat.lt_of_le_of_lt h2 (Nat.lt_trans h3 (p2lt (by decide)))
theorem big_s {a b : Nat} (ha : a ≤ 312) (hb : b ≤ 1074) (hab : a ≤ 20 ∨ b = 0) : 4 * 10 ^ a * 2 ^ b < 2 ^ 1160 := by
  rcases hab with q | q
  · have h1 : 10 ^ a ≤ 10 ^ 20 := p10le q
    have h2 : 2 ^ b ≤ 2 ^ 1074 := p2le hb
    have h3 : 4 * 10 ^ a * 2 ^ b ≤ 4 * 10 ^ 20 * 2 ^ 1074 := Nat.mul_le_mul (Nat.mul_le_mul_left _ h1) h2
    exact Nat.lt_of_le_of_lt h3 (by decide +kernel)
  · rw [q, Nat.pow_zero, Nat.mul_one]
    have h1 : 10 ^ a ≤ 10 ^ 312 := p10le ha
    exact Nat.lt_of_le_of_lt (Nat.mul_le_mul_left _ h1) (by decide +kernel)
theorem E_begin157 {cn pt ru su bu : Int32} {rl sl bl : Nat → Int32} {R S B : Nat} (hR : nR ru rl R) (hS : nR su sl S) (hB : nR bu bl B) (hRb : R < 2 ^ 1200) (hSb : S < 2 ^ 1200) (hBb : B < 2 ^ 1200) (hS0 : S ≠ 0) :
    ∃ ru' rl' su' sl' bu' bl' k n, f_E_begin_157 cn pt ru rl su sl bu bl = some (cn, pt, ru', rl', su', sl', bu', bl') ∧ nR ru' rl' (R * 2 ^ k) ∧ nR su' sl' (S * 2 ^ k) ∧ nR bu' bl' (B * 2 ^ k) ∧ zlen (S * 2 ^ k) = 30 * (n + 1) ∧ su'.toInt = ((n + 1 : Nat) : Int) ∧ n < 42 := by
  obtain ⟨d, k, n, s1, s2, s3, s4, s5, s6⟩ := N_slack hS hS0
  have hzS : zlen S ≤ 1200 := zlen_mono hSb
  have fits : ∀ {v : Nat}, v < 2 ^ 1200 → v * 2 ^ k < 1073741824 ^ 48 := by
    intro v hv
    exact n_fits (zlen_mono hv) (by omega)
  obtain ⟨u1, l1, t1, t2⟩ := N_shiftUp hR (x := d) (n := k) (by rw [s2]; omega) (fits hRb)
  obtain ⟨u2, l2, t3, t4⟩ := N_shiftUp hB (x := d) (n := k) (by rw [s2]; omega) (fits hBb)
  obtain ⟨u3, l3, t5, t6⟩ := N_shiftUp hS (x := d) (n := k) (by rw [s2]; omega) (fits hSb)
  have hz := zlen_mul (Nat.pos_of_ne_zero hS0) k
  have hne : S * 2 ^ k ≠ 0 := Nat.ne_of_gt (Nat.mul_pos (Nat.pos_of_ne_zero hS0) (p2pos _))
  obtain ⟨n', w1, w2, w3, w4, w5⟩ := nR_top t6 hne
  have hnn : n' = n := by omega
  subst hnn
  unfold f_E_begin_157
  rw [s1, Option.bind_some, t1, Option.bind_some]
  dsimp only
  rw [t3, Option.bind_some]
  dsimp only
  rw [t5, Option.bind_some]
  exact ⟨u1, l1, u3, l3, u2, l2, k, n', rfl, t2, t6, t4, by omega, w1, by omega⟩
theorem E_begin {cn pt ru su bu : Int32} {rl sl bl : Nat → Int32} {x : Int64} (hfin : zmg x < 9218868437227405312) (hz : zmg x ≠ 0) :
    ∃ pt' ru' rl' su' sl' bu' bl' P R S B n, f_E_begin cn pt ru rl su sl bu bl x = some (0, pt', ru', rl', su', sl', bu', bl') ∧ pt'.toInt = P ∧ isP (zam (zmg x)) ((zep (zmg x) : Int) - 1074) P ∧ -326 ≤ P ∧ P ≤ 310 ∧ nR ru' rl' R ∧ nR su' sl' S ∧ nR bu' bl' B ∧ R = 4 * zam (zmg x) * B ∧ R * vD ((zep (zmg x) : Int) - 1074) P = vN (zam (zmg x)) ((zep (zmg x) : Int) - 1074) P * S ∧ 0 < S ∧ 0 < B ∧ zlen S = 30 * (n + 1) ∧ su'.toInt = ((n + 1 : Nat) : Int) ∧ n < 42 := by
  obtain ⟨m, hm1, hm2⟩ := B_mantissa x
  obtain ⟨e, he1, he2⟩ := B_exponent x
  obtain ⟨l, l1, l2⟩ := B_bitLength hm2
  have hne : zam (zmg x) ≠ 0 := Nat.ne_of_gt (zam_pos hz)
  have le := zep_lt hfin
  have lm : zam (zmg x) < 9007199254740992 := zam_lt'
  have hz53 : zlen (zam (zmg x)) ≤ 53 := zlen_mono lm
  have hz0 := zlen_pos (zam_pos hz)
  have e1 : (1 : Int32).toInt = 1 := rfl
  have ec : (78913 : Int32).toInt = 78913 := rfl
  obtain ⟨E, hE⟩ : ∃ E : Int, E = (zep (zmg x) : Int) - 1074 := ⟨_, rfl⟩
  rw [← hE] at he2 ⊢
  generalize zam (zmg x) = M at *
  obtain ⟨q, hq⟩ : ∃ q : Int, q = (zlen M : Int) + E - 1 := ⟨_, rfl⟩
  have hq1 : -1074 ≤ q := by omega
  have hq2 : q ≤ 1024 := by omega
  have hkr := cK_rng hq1 hq2
  have x1 : (l + e).toInt = q + 1 := by
    rw [i_add (by rw [l2, he2]; omega) (by rw [l2, he2]; omega), l2, he2]
    omega
  have x2 : (l + e - 1).toInt = q := by
    rw [i_sub (by rw [x1, e1]; omega) (by rw [x1, e1]; omega), x1, e1]
    omega
  have x3 : ((l + e - 1) * 78913).toInt = q * 78913 := by
    rw [i_mul (by rw [x2, ec]; omega) (by rw [x2, ec]; omega), x2, ec]
  have x4 : (jshr ((l + e - 1) * 78913) 18).toInt = cK q := by
    rw [i_shr (n := 18) rfl (by decide), x3]
    rfl
  have x5 : (jshr ((l + e - 1) * 78913) 18 + 1).toInt = cK q + 1 := by
    rw [i_add (by rw [x4, e1]; omega) (by rw [x4, e1]; omega), x4, e1]
  have hpb : f_E_placesBefore (l + e - 1) = some (jshr ((l + e - 1) * 78913) 18 + 1) := rfl
  clear x1 x2 x3 x4
  obtain ⟨ch1, ch2, _⟩ := chk_p hq1 (show q < 1026 by omega)
  rw [hq] at ch1 ch2
  have lowK := v_ge hne ch1
  have topK := v_lt (m := M) ch2
  rw [← hq] at lowK topK
  unfold f_E_begin
  rw [hm1, Option.bind_some, he1, Option.bind_some, l1, Option.bind_some, hpb, Option.bind_some]
  generalize jshr ((l + e - 1) * 78913) 18 + 1 = y at x5 ⊢
  have hyn : (-y).toInt = -(cK q + 1) := by rw [i_neg (by omega), x5]
  have hen : (-e).toInt = -E := by rw [i_neg (by omega), he2]
  -- the corner: small numbers have no positive power of two
  have hab : (-(cK q + 1)).toNat = 0 ∨ E.toNat = 0 := by
    unfold cK at *
    omega
  have hcd : (cK q + 1).toNat ≤ 20 ∨ (-E).toNat = 0 := by
    unfold cK at *
    omega
  have hsh : (jlshl m 2).toInt = ((4 * M : Nat) : Int) := by
    have ee : m.toInt * ((2 ^ 2 : Nat) : Int) = ((4 * M : Nat) : Int) := by rw [hm2, Nat.mul_comm]; exact (Int.natCast_mul _ _).symm
    exact (l_shl (n := 2) rfl (by decide) (by rw [ee]; omega) (by rw [ee]; omega)).trans ee
  have h4M : 4 * M < 2 ^ 55 := by show 4 * M < 36028797018963968; omega
  obtain ⟨a1, a2, a3, a4⟩ := N_set (us := ru) (l := rl) (jlshl m 2)
  rw [am_bv hsh] at a4
  obtain ⟨b1, b2, b3, b4⟩ := N_set (us := bu) (l := bl) 1
  obtain ⟨c1, c2, c3, c4⟩ := N_set (us := su) (l := sl) 4
  have b4' : nR b1 b2 1 := b4
  have c4' : nR c1 c2 4 := c4
  have bR := big_r (x := 4 * M) (a := (-(cK q + 1)).toNat) (b := E.toNat) h4M (by omega) (by omega) hab
  have bB := big_r (x := 1) (a := (-(cK q + 1)).toNat) (b := E.toNat) (by decide) (by omega) (by omega) hab
  have bS := big_s (a := (cK q + 1).toNat) (b := (-E).toNat) (by omega) (by omega) hcd
  have up : ∀ {v : Nat}, v < 2 ^ 1160 → v < 1073741824 ^ 48 := fun h => lt_B48 (Nat.lt_trans h (p2lt (by decide)))
  have cut : ∀ {v w : Nat}, v * 2 ^ w < 2 ^ 1160 → v < 2 ^ 1160 := fun h => Nat.lt_of_le_of_lt (Nat.le_mul_of_pos_right _ (p2pos _)) h
  obtain ⟨a5, a6, a7, a8⟩ := N_tens a4 (x := -y) (n := (-(cK q + 1)).toNat) (by rw [hyn]) (up (cut bR))
  obtain ⟨b5, b6, b7, b8⟩ := N_tens b4' (x := -y) (n := (-(cK q + 1)).toNat) (by rw [hyn]) (up (cut bB))
  obtain ⟨c5, c6, c7, c8⟩ := N_tens c4' (x := y) (n := (cK q + 1).toNat) (by rw [x5]) (up (cut bS))
  obtain ⟨a9, a10, a11, a12⟩ := N_shiftUp a8 (x := e) (n := E.toNat) (by rw [he2]) (up bR)
  obtain ⟨b9, b10, b11, b12⟩ := N_shiftUp b8 (x := e) (n := E.toNat) (by rw [he2]) (up bB)
  obtain ⟨c9, c10, c11, c12⟩ := N_shiftUp c8 (x := -e) (n := (-E).toNat) (by rw [hen]) (up bS)
  rw [a3, Option.bind_some]
  dsimp only
  rw [b3, Option.bind_some]
  dsimp only
  rw [c3, Option.bind_some]
  dsimp only
  rw [a7, Option.bind_some]
  dsimp only
  rw [b7, Option.bind_some]
  dsimp only
  rw [c7, Option.bind_some]
  dsimp only
  rw [a11, Option.bind_some]
  dsimp only
  rw [b11, Option.bind_some]
  dsimp only
  rw [c11, Option.bind_some]
  dsimp only
  rw [N_order a12 c12, Option.bind_some]
  -- rest and scale are four times the fraction
  have eR' : 4 * M * 10 ^ (-(cK q + 1)).toNat * 2 ^ E.toNat = 4 * vN M E (cK q + 1) := by
    unfold vN
    rw [Nat.mul_assoc 4, Nat.mul_assoc 4]
  have eS' : 4 * 10 ^ (cK q + 1).toNat * 2 ^ (-E).toNat = 4 * vD E (cK q + 1) := by
    unfold vD
    rw [Nat.mul_assoc 4]
  have eB' : 4 * M * (1 * 10 ^ (-(cK q + 1)).toNat * 2 ^ E.toNat) = 4 * vN M E (cK q + 1) := by
    rw [← eR', Nat.one_mul, ← Nat.mul_assoc]
  have hB0 : 0 < 1 * 10 ^ (-(cK q + 1)).toNat * 2 ^ E.toNat := Nat.mul_pos (Nat.mul_pos (by decide) (p10p _)) (p2pos _)
  rw [eR'] at a12 bR
  rw [eS'] at c12 bS
  rw [eR', eS']
  generalize 1 * 10 ^ (-(cK q + 1)).toNat * 2 ^ E.toNat = B at *
  have hvD := vD_pos E (cK q + 1)
  have w1200 : ∀ {v : Nat}, v < 2 ^ 1160 → v < 2 ^ 1200 := fun h => Nat.lt_trans h (p2lt (by decide))
  by_cases cl : vN M E (cK q + 1) < vD E (cK q + 1)
  · rw [if_pos (zsg_lt.mpr (by omega))]
    obtain ⟨d1, d2, d3, d4, d5, d6, k, n, g1, g2, g3, g4, g5, g6, g7⟩ := E_begin157 (cn := 0) (pt := y) a12 c12 b12 (w1200 bR) (w1200 bS) (w1200 bB) (by omega)
    rw [g1]
    refine ⟨y, d1, d2, d3, d4, d5, d6, cK q + 1, _, _, _, n, rfl, x5, ⟨cl, ?_⟩, by omega, by omega, g2, g3, g4, ?_, ?_, Nat.mul_pos (by omega) (p2pos _), Nat.mul_pos hB0 (p2pos _), g5, g6, g7⟩
    · rw [show cK q + 1 - 1 = cK q by omega]
      exact lowK
    · rw [← eB', Nat.mul_assoc (4 * M)]
    · generalize vN M E (cK q + 1) = X
      generalize vD E (cK q + 1) = Y
      generalize 2 ^ k = Z
      rw [Nat.mul_assoc 4, Nat.mul_assoc 4, Nat.mul_assoc 4, Nat.mul_left_comm X 4, Nat.mul_right_comm X Z Y, Nat.mul_assoc X Y Z]
  · rw [if_neg (fun z => cl (by have := zsg_lt.mp z; omega))]
    have bS10 : 4 * vD E (cK q + 1) * 10 + 0 < 2 ^ 1164 := by
      have e4 : (2 : Nat) ^ 1164 = 2 ^ 1160 * 16 := by rw [← Nat.pow_add 2 1160 4]
      rw [e4]
      generalize (2 : Nat) ^ 1160 = Z at bS
      omega
    obtain ⟨c13, c14, c15, c16⟩ := N_mulAdd c12 (x1 := 10) (x2 := 0) (f := 10) (a := 0) rfl rfl (by decide) (by decide) (by decide) (lt_B48 (Nat.lt_trans bS10 (p2lt (by decide))))
    rw [c15, Option.bind_some]
    dsimp only
    rw [Nat.add_zero] at c16 bS10
    obtain ⟨d1, d2, d3, d4, d5, d6, k, n, g1, g2, g3, g4, g5, g6, g7⟩ := E_begin157 (cn := 0) (pt := y + 1) a12 c16 b12 (w1200 bR) (Nat.lt_trans bS10 (p2lt (by decide))) (w1200 bB) (by omega)
    rw [g1]
    have hy1 : (y + 1).toInt = cK q + 2 := by
      rw [i_add (by rw [x5, e1]; omega) (by rw [x5, e1]; omega), x5, e1]
      omega
    have hst := v_step M E (cK q + 1)
    rw [show cK q + 1 + 1 = cK q + 2 by omega] at hst
    refine ⟨y + 1, d1, d2, d3, d4, d5, d6, cK q + 2, _, _, _, n, rfl, hy1, ⟨topK, ?_⟩, by omega, by omega, g2, g3, g4, ?_, ?_, Nat.mul_pos (by omega) (p2pos _), Nat.mul_pos hB0 (p2pos _), g5, g6, g7⟩
    · rw [show cK q + 2 - 1 = cK q + 1 by omega]
      omega
    · rw [← eB', Nat.mul_assoc (4 * M)]
    · generalize vN M E (cK q + 1) = X at hst ⊢
      generalize vD E (cK q + 1) = Y at hst ⊢
      generalize vN M E (cK q + 2) = X' at hst ⊢
      generalize vD E (cK q + 2) = Y' at hst ⊢
      generalize 2 ^ k = Z
      rw [Nat.mul_right_comm (4 * X) Z Y', Nat.mul_assoc 4 X Y', hst, ← Nat.mul_assoc X' (4 * Y * 10) Z]
      congr 1
      rw [Nat.mul_comm 10 X', Nat.mul_assoc X' 10 Y, Nat.mul_left_comm 4 X', Nat.mul_comm 10 Y, Nat.mul_assoc 4 Y 10]
