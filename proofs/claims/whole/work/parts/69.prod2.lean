/-! class and reference: product -/
theorem A_lifted {m : Int64} {w : Nat} (h : m.toInt = w) (h0 : 0 < w) (h53 : w < 9007199254740992) : ∃ (d : Int32) (l : Nat), f_B_lift m = some d ∧ d.toInt = (l : Int) ∧ l ≤ 52 ∧ (jlshl m d).toInt = ((w * 2 ^ l : Nat) : Int) ∧ 4503599627370496 ≤ w * 2 ^ l ∧ w * 2 ^ l < 9007199254740992 := by
  obtain ⟨d, h1, h2⟩ := B_lift h
  have hz : zlen w ≤ 53 := zlen_mono h53
  have hp := zlen_pos h0
  have hl : d.toInt = ((53 - zlen w : Nat) : Int) := by omega
  have hm := zlen_mul h0 (53 - zlen w)
  have hlt : w * 2 ^ (53 - zlen w) < 9007199254740992 := by
    have q := zlen_lt (w * 2 ^ (53 - zlen w))
    rw [hm, show zlen w + (53 - zlen w) = 53 by omega] at q
    exact q
  have hge : 4503599627370496 ≤ w * 2 ^ (53 - zlen w) := by
    have q := zlen_ge (n := w * 2 ^ (53 - zlen w)) (k := 52) (by omega)
    exact q
  refine ⟨d, 53 - zlen w, h1, hl, by omega, ?_, hge, hlt⟩
  have e : m.toInt * ((2 ^ (53 - zlen w) : Nat) : Int) = ((w * 2 ^ (53 - zlen w) : Nat) : Int) := by rw [h]; exact (Int.natCast_mul _ _).symm
  have hk : 53 - zlen w < 64 := by omega
  generalize w * 2 ^ (53 - zlen w) = u at e hlt hge ⊢
  exact (l_shl hl hk (by rw [e]; omega) (by rw [e]; omega)).trans e
theorem prod_q (ma mb la lb : Nat) (E : Int) : zq (ma * 2 ^ la * (mb * 2 ^ lb)) (2 ^ 44) (E - la - lb + 44) = zrd (ma * mb) 0 E := by
  have h := zq_pow (ma * mb) 1 (la + lb) 44 (E - la - lb + 44)
  rw [Nat.one_mul] at h
  rw [Nat.mul_mul_mul_comm, ← Nat.pow_add, h, zrd_zq]
  congr 1
  omega
theorem A_prodFin (s a b : Int64) (fa : zmg a < 9218868437227405312) (fb : zmg b < 9218868437227405312) (za : zmg a ≠ 0) (zb : zmg b ≠ 0) :
    f_A_productOfFinite s a b = some (s ||| lN (zrd (zam (zmg a) * zam (zmg b)) 0 ((zep (zmg a) : Int) + zep (zmg b) - 1074))) := by
  obtain ⟨ea, ha1, ha2⟩ := B_exponent a
  obtain ⟨eb, hb1, hb2⟩ := B_exponent b
  obtain ⟨ma, hm1, hm2⟩ := B_mantissa a
  obtain ⟨mb, hn1, hn2⟩ := B_mantissa b
  obtain ⟨da, la, p1, p2, p3, p4, p5, p6⟩ := A_lifted hm2 (zam_pos za) zam_lt'
  obtain ⟨db, lb, q1, q2, q3, q4, q5, q6⟩ := A_lifted hn2 (zam_pos zb) zam_lt'
  obtain ⟨v, v1, v2⟩ := A_prod_bits p4 q4 p6 q6
  have hea := zep_lt fa
  have heb := zep_lt fb
  unfold f_A_productOfFinite
  rw [hm1, hn1, ha1, hb1]
  simp only [Option.bind_some]
  rw [p1, q1]
  simp only [Option.bind_some]
  rw [v1]
  simp only [Option.bind_some]
  have x1 : (ea - da).toInt = (zep (zmg a) : Int) - 1074 - la := by rw [i_sub, ha2, p2] <;> (try rw [ha2, p2]) <;> omega
  have x2 : (ea - da + eb).toInt = (zep (zmg a) : Int) - 1074 - la + ((zep (zmg b) : Int) - 1074) := by rw [i_add, x1, hb2] <;> (try rw [x1, hb2]) <;> omega
  have x3 : (ea - da + eb - db).toInt = (zep (zmg a) : Int) - 1074 - la + ((zep (zmg b) : Int) - 1074) - lb := by rw [i_sub, x2, q2] <;> (try rw [x2, q2]) <;> omega
  have e44 : (44 : Int32).toInt = 44 := rfl
  have x4 : (ea - da + eb - db + 44).toInt = ((zep (zmg a) : Int) + zep (zmg b) - 1074 - la - lb + 44) - 1074 := by rw [i_add, x3, e44] <;> (try rw [x3, e44]) <;> omega
  rw [B_round' v2 x4 (by omega) (by omega), Option.bind_some, zrd_tr (p2pos 44), prod_q]
  intro _
  have h1 : 4503599627370496 * 4503599627370496 ≤ zam (zmg a) * 2 ^ la * (zam (zmg b) * 2 ^ lb) := Nat.mul_le_mul p5 q5
  generalize zam (zmg a) * 2 ^ la * (zam (zmg b) * 2 ^ lb) = u at h1 ⊢
  have h2 : 2 ^ 60 ≤ u / 2 ^ 44 := by
    rw [Nat.le_div_iff_mul_le (p2pos 44), ← Nat.pow_add]
    exact h1
  have := zlen_gt h2
  omega
theorem M_prod60 (t s o c p : Int32) (a b g : Int64) {r : Nat → Int32} (hr : mOK r) (h0 : mV r 0 = 0) :
    ∃ r', f_M_product_60 t s o c p r a b g 53 = some (g ||| lN (zrd (zam (zmg a) * zam (zmg b)) 0 ((zep (zmg a) : Int) + zep (zmg b) - 1074)), r') ∧ mOK r' := by
  obtain ⟨ma, hm1, hm2⟩ := M_amount a
  obtain ⟨mb, hn1, hn2⟩ := M_amount b
  obtain ⟨ea, ha1, ha2⟩ := M_power a
  obtain ⟨eb, hb1, hb2⟩ := M_power b
  have la := @zam_lt' (zmg a)
  have lb := @zam_lt' (zmg b)
  have pa := zep_lt' (zmg_lt a)
  have pb := zep_lt' (zmg_lt b)
  have e0 : (0 : Int32).toInt = 0 := rfl
  have em1 : (-1 : Int32).toInt = -1 := rfl
  have hs : (ea + eb).toInt = ((zep (zmg a) : Int) + zep (zmg b) - 1074) - 1074 := by
    rw [i_add, ha2, hb2] <;> (try rw [ha2, hb2]) <;> omega
  generalize zam (zmg a) = A at *
  generalize zam (zmg b) = B at *
  have hEb : -100000 < (zep (zmg a) : Int) + zep (zmg b) - 1074 ∧ (zep (zmg a) : Int) + zep (zmg b) - 1074 < 100000 := by omega
  generalize (zep (zmg a) : Int) + zep (zmg b) - 1074 = E at hs hEb ⊢
  have top : ∀ {u w : Nat}, u ≤ A → w ≤ B → u * w < mTop := by
    intro u w h1 h2
    apply mTop_big
    have h3 : u * w ≤ 2 ^ 53 * 2 ^ 53 := Nat.mul_le_mul (by show u ≤ 9007199254740992; omega) (by show w ≤ 9007199254740992; omega)
    rw [← Nat.pow_add] at h3
    exact Nat.lt_of_le_of_lt h3 (p2lt (by decide))
  unfold f_M_product_60
  obtain ⟨z, hz1, hz2⟩ := zrun_inv (step := f_M_product_60_step t s o c p a b g) (x := (r, 53)) (fun z => mOK z.1 ∧ ∃ k : Nat, k ≤ 54 ∧ z.2.toInt = (k : Int) - 1 ∧ mV z.1 0 = A * (B / 2 ^ k)) (fun z => (z.2.toInt + 1).toNat)
    (fun d => d.1 = g ||| lN (zrd (A * B) 0 E) ∧ mOK d.2) (by
      rintro ⟨q, x7⟩ ⟨hq, k, hk, h7, hv⟩
      dsimp only at hq h7 hv
      unfold f_M_product_60_step f_M_product_60_body
      dsimp only
      cases k with
      | zero =>
        rw [if_pos (show x7 < 0 by rw [i_lt, h7, e0]; omega)]
        unfold f_M_product_111
        rw [Nat.pow_zero, Nat.div_one] at hv
        obtain ⟨r2, u1, uR⟩ := M_round' t s o c p hq (a := 0) (mo := 0) (x1 := g) (x3 := 0) (x5 := 0) (by decide) (by decide) rfl hs hEb.1 hEb.2 rfl (by decide) (fun q => by cases q)
        rw [ha1, Option.bind_some, hb1, Option.bind_some, u1, Option.bind_some, hv]
        exact Or.inr ⟨_, rfl, rfl, uR.1⟩
      | succ k =>
        rw [if_neg (show ¬ x7 < 0 by rw [i_lt, h7, e0]; omega)]
        have h7' : x7.toInt = (k : Int) := by rw [h7]; clear hv; omega
        have hk54 : k ≤ 54 := by clear hv; omega
        have hk64 : k < 64 := by clear hv; omega
        have hmu : ((k : Int) - 1 + 1).toNat < ((k : Int) + 1).toNat := by clear hv; omega
        have hm : (x7 + (-1)).toInt = (k : Int) - 1 := i_prd h7'
        obtain ⟨r1, t1, t2, t3, t4⟩ := M_times t s o c p hq (a := 0) (m := 2) (p := 0) (x1 := 0) (x2 := 2) (x3 := 0) (by decide) rfl rfl rfl
        have R1 := mR_of (by decide) t2 t3 t4
        have hbit : ((jlshr mb x7) &&& 1).toInt = ((B / 2 ^ k % 2 : Nat) : Int) := by
          rw [l_and 1 (by decide) rfl, l_shr h7' hk64, hn2]
          exact (Int.natCast_emod _ _).symm
        have hdd : B / 2 ^ k = 2 * (B / 2 ^ (k + 1)) + B / 2 ^ k % 2 := by
          rw [Nat.pow_succ, ← Nat.div_div_eq_div_mul]
          omega
        have hBk : B / 2 ^ k ≤ B := Nat.div_le_self _ _
        have v1 : mV r1 0 = A * (2 * (B / 2 ^ (k + 1))) := by
          have e : mV q 0 * 2 + 0 = A * (2 * (B / 2 ^ (k + 1))) := by rw [hv, Nat.add_zero, Nat.mul_comm 2, Nat.mul_assoc]
          rw [R1.2.1, e, Nat.mod_eq_of_lt (top (Nat.le_refl _) (by omega))]
        rw [t1, Option.bind_some, hn1, Option.bind_some]
        by_cases hb : B / 2 ^ k % 2 = 0
        · rw [if_pos (by rw [l_eq, hbit, hb]; rfl)]
          refine Or.inl ⟨_, rfl, ⟨R1.1, k, hk54, hm, ?_⟩, by dsimp only; rw [hm, h7']; exact hmu⟩
          dsimp only
          rw [v1]
          rw [hb, Nat.add_zero] at hdd
          rw [hdd]
        · rw [if_neg (by rw [l_eq, hbit]; show ¬ _ = (0 : Int); omega), hm1, Option.bind_some]
          obtain ⟨r2, s1, R2⟩ := M_set t s o c p R1.1 (a := 1) (x1 := 1) (x2 := ma) (by decide) rfl
          obtain ⟨r3, s2, R3⟩ := M_add t s o c p R2.1 (a := 0) (b := 1) (x1 := 0) (x2 := 1) (by decide) (by decide) (by decide) rfl rfl
          rw [s1, Option.bind_some, s2, Option.bind_some]
          refine Or.inl ⟨_, rfl, ⟨R3.1, k, hk54, hm, ?_⟩, by dsimp only; rw [hm, h7']; exact hmu⟩
          dsimp only
          have hb1' : B / 2 ^ k % 2 = 1 := by omega
          rw [hb1'] at hdd
          have e : A * (2 * (B / 2 ^ (k + 1))) + A = A * (B / 2 ^ k) := by rw [hdd, Nat.mul_add, Nat.mul_one]
          rw [R3.2.1, R2.2.1, mR_keep R2 (by decide) (by decide), v1, am_bv hm2, e, Nat.mod_eq_of_lt (top (Nat.le_refl _) hBk)]) ⟨hr, 54, Nat.le_refl _, rfl, by
            rw [h0, Nat.div_eq_of_lt (Nat.lt_of_lt_of_le lb (by decide)), Nat.mul_zero]⟩
  obtain ⟨z1, z2⟩ := z
  obtain ⟨w1, w2⟩ := hz2
  dsimp only at w1 w2
  rw [hz1, w1]
  exact ⟨z2, rfl, w2⟩
theorem same_product (t s o c p : Int32) {r : Nat → Int32} (hr : mOK r) (a b : Int64) (na : ¬ 9218868437227405312 < zmg a) (nb : ¬ 9218868437227405312 < zmg b) :
    ∃ d r', f_A_product a b = some d ∧ f_M_product t s o c p r a b = some (d, r') ∧ mOK r' := by
  unfold f_A_product f_M_product f_A_product_41 f_A_product_46 f_A_product_62 f_M_product_23 f_M_product_37
  rw [B_isNan, B_isNan, B_isInfinite, B_isInfinite, B_isZero, B_isZero, M_isInfinite, M_isInfinite, M_isZero, M_isZero]
  simp only [Option.bind_some]
  rw [if_pos (zbf.mpr na), if_pos (zbf.mpr nb)]
  have j10 : ¬ (1 : Int32) = 0 := i10
  generalize hg : ((a ^^^ b) &&& (-9223372036854775808)) = g
  by_cases ia : zmg a = 9218868437227405312
  · have za : ¬ zmg a = 0 := by omega
    rw [if_pos (zbf.mpr za), if_neg (fun q => zbf.mp q ia), if_neg (fun q => zbf.mp q ia), if_neg (fun q => zbf.mp q ia), if_pos (zbf.mpr za)]
    by_cases zb : zmg b = 0
    · rw [if_neg (fun q => zbf.mp q zb), if_neg j10, if_neg (fun q => zbf.mp q zb)]
      exact ⟨_, r, rfl, rfl, hr⟩
    · rw [if_pos (zbf.mpr zb), if_pos trivial, if_pos (zbf.mpr zb)]
      exact ⟨_, r, rfl, rfl, hr⟩
  · by_cases ib : zmg b = 9218868437227405312
    · have zb : ¬ zmg b = 0 := by omega
      by_cases za : zmg a = 0
      · rw [if_neg (fun q => zbf.mp q za), if_pos (zbf.mpr ia), if_neg (fun q => zbf.mp q ib), if_neg j10, if_pos (zbf.mpr ia), if_neg (fun q => zbf.mp q ib), if_neg (fun q => zbf.mp q za)]
        exact ⟨_, r, rfl, rfl, hr⟩
      · rw [if_pos (zbf.mpr za), if_pos (zbf.mpr zb), if_pos (zbf.mpr ia), if_neg (fun q => zbf.mp q ib), if_pos trivial, if_pos (zbf.mpr ia), if_neg (fun q => zbf.mp q ib), if_pos (zbf.mpr za), if_pos (zbf.mpr zb)]
        exact ⟨_, r, rfl, rfl, hr⟩
    · have fa : zmg a < 9218868437227405312 := by omega
      have fb : zmg b < 9218868437227405312 := by omega
      obtain ⟨r1, t1, R1⟩ := M_set t s o c p hr (a := 0) (x1 := 0) (x2 := 0) (by decide) rfl
      obtain ⟨r2, t2, t3⟩ := M_prod60 t s o c p a b g R1.1 (by rw [R1.2.1]; rfl)
      simp only [if_pos (zbf.mpr ia), if_pos (zbf.mpr ib), t1, Option.bind_some, t2]
      by_cases za : zmg a = 0
      · refine ⟨g, r2, ?_, ?_, t3⟩
        · rw [if_neg (fun q => zbf.mp q za), if_neg j10]
        · rw [za, show zam 0 = 0 from rfl, Nat.zero_mul, zrd_0, or_z]
      · by_cases zb : zmg b = 0
        · refine ⟨g, r2, ?_, ?_, t3⟩
          · rw [if_pos (zbf.mpr za), if_neg (fun q => zbf.mp q zb), if_neg j10]
          · rw [zb, show zam 0 = 0 from rfl, Nat.mul_zero, zrd_0, or_z]
        · refine ⟨_, r2, ?_, rfl, t3⟩
          rw [if_pos (zbf.mpr za), if_pos (zbf.mpr zb), if_pos trivial, A_prodFin g a b fa fb za zb, Option.bind_some]
