/-! the class's sum of two ordered by their amounts -/
theorem A_sum_fin {L S N : Nat} (hc : N = zam L * 512 * 2 ^ (zep L - zep S) + zam S * 512 ∨ N = zam L * 512 * 2 ^ (zep L - zep S) - zam S * 512) (hSL : S ≤ L) :
    zrd (ztr N (2 ^ (zep L - zep S))) 0 ((zep L : Int) - 9) = zq N (2 ^ (zep L - zep S)) ((zep L : Int) - 9) := by
  refine zrd_tr (p2pos _) (fun hne => ?_)
  have hmono := zval_mono hSL
  have hd : 9 < zep L - zep S := by
    rcases Nat.lt_or_ge 9 (zep L - zep S) with q | q
    · exact q
    · obtain ⟨X, hX⟩ : ∃ X, N = X * 512 := by
        rcases hc with w | w
        · exact ⟨zam L * 2 ^ (zep L - zep S) + zam S, by rw [w, Nat.add_mul, Nat.mul_right_comm]⟩
        · exact ⟨zam L * 2 ^ (zep L - zep S) - zam S, by rw [w, Nat.sub_mul, Nat.mul_right_comm]⟩
      have e : 512 = 2 ^ (9 - (zep L - zep S)) * 2 ^ (zep L - zep S) := by
        rw [← Nat.pow_add, show 9 - (zep L - zep S) + (zep L - zep S) = 9 by omega]
      rw [hX, e, ← Nat.mul_assoc, Nat.mul_mod_left] at hne
      exact absurd rfl hne
  have h1 := zam_up (show zep S < zep L by omega)
  have h2 := @zam_lt' S
  obtain ⟨D, hD⟩ : ∃ D, D = 2 ^ (zep L - zep S) := ⟨_, rfl⟩
  have hD2 : 1024 ≤ D := by rw [hD]; exact p2le (a := 10) (by omega)
  rw [← hD] at hc hne ⊢
  have hge : 2 ^ 54 ≤ N / D := by
    rw [Nat.le_div_iff_mul_le (by omega)]
    have h3 : 4503599627370496 * 512 * D ≤ zam L * 512 * D := Nat.mul_le_mul_right _ (Nat.mul_le_mul_right _ h1)
    obtain ⟨y, hy⟩ : ∃ y, y = zam L * 512 * D := ⟨_, rfl⟩
    rw [← hy] at h3 hc
    show 18014398509481984 * D ≤ N
    omega
  have := zlen_gt hge
  omega
theorem zq_sum (X eL eS : Nat) (h : eS ≤ eL) : zq (X * 512) (2 ^ (eL - eS)) ((eL : Int) - 9) = zrd X 0 eS := by
  have := zq_pow X 1 9 (eL - eS) ((eL : Int) - 9)
  rw [Nat.one_mul] at this
  rw [show X * 512 = X * 2 ^ 9 from rfl, this, zrd_zq]
  congr 1
  omega
theorem A_sumOrd {a b : Int64} (hab : zmg b ≤ zmg a) (hfin : zmg a < 9218868437227405312) :
    f_A_sumOfOrdered a b = some (if (a ^^^ b) < 0 then (if zam (zmg a) * 2 ^ (zep (zmg a) - zep (zmg b)) = zam (zmg b) then 0 else (a &&& (-9223372036854775808)) ||| lN (zrd (zam (zmg a) * 2 ^ (zep (zmg a) - zep (zmg b)) - zam (zmg b)) 0 (zep (zmg b)))) else (a &&& (-9223372036854775808)) ||| lN (zrd (zam (zmg a) * 2 ^ (zep (zmg a) - zep (zmg b)) + zam (zmg b)) 0 (zep (zmg b)))) := by
  obtain ⟨ea, ha1, ha2⟩ := B_exponent a
  obtain ⟨eb, hb1, hb2⟩ := B_exponent b
  obtain ⟨ma, hm1, hm2⟩ := B_mantissa a
  obtain ⟨mb, hn1, hn2⟩ := B_mantissa b
  have hmono := zval_mono hab
  have hle := zval_le hab
  have hea := zep_lt hfin
  have la := @zam_lt' (zmg a)
  have lb := @zam_lt' (zmg b)
  have fsum := A_sum_fin (L := zmg a) (S := zmg b) (Or.inl rfl) hab
  have fdif := A_sum_fin (L := zmg a) (S := zmg b) (Or.inr rfl) hab
  have qsum := fun X => zq_sum X (zep (zmg a)) (zep (zmg b)) hmono
  unfold f_A_sumOfOrdered
  rw [ha1, hm1, hn1, hb1]
  simp only [Option.bind_some]
  generalize zmg a = A at *
  generalize zmg b = B at *
  have e512 : ∀ {m : Int64} {w : Nat}, m.toInt = w → w < 9007199254740992 → (jlshl m 9).toInt = ((w * 512 : Nat) : Int) := by
    intro m w h1 h2
    have e3 : m.toInt * ((2 ^ 9 : Nat) : Int) = ((w * 512 : Nat) : Int) := by rw [h1]; exact (Int.natCast_mul _ _).symm
    exact (l_shl (n := 9) rfl (by decide) (by rw [e3]; omega) (by rw [e3]; omega)).trans e3
  have hx := e512 hm2 la
  have hy := e512 hn2 lb
  have hd : (ea - eb).toInt = ((zep A - zep B : Nat) : Int) := by
    rw [i_sub, ha2, hb2] <;> (try rw [ha2, hb2]) <;> omega
  have h9 : (ea - 9).toInt = ((zep A : Int) - 9) - 1074 := by
    have e9 : (9 : Int32).toInt = 9 := rfl
    rw [i_sub, ha2, e9] <;> (try rw [ha2, e9]) <;> omega
  obtain ⟨v, hv1, hv2⟩ := B_trace hy (by omega) hd
  rw [hv1]
  simp only [Option.bind_some]
  have hvle := ztr_le (zam B * 512) (2 ^ (zep A - zep B))
  have hdl : zam B * 512 / 2 ^ (zep A - zep B) ≤ zam B * 512 := Nat.div_le_self _ _
  have hD := p2pos (zep A - zep B)
  have hev : zam A * 512 % 2 = 0 := by omega
  have hle2 : zam B * 512 ≤ zam A * 512 * 2 ^ (zep A - zep B) := by
    rw [Nat.mul_right_comm]
    exact Nat.mul_le_mul_right _ hle
  have hmr : zam A * 512 * 2 ^ (zep A - zep B) = zam A * 2 ^ (zep A - zep B) * 512 := Nat.mul_right_comm _ _ _
  by_cases hc : (a ^^^ b) < 0
  · rw [if_pos hc, if_pos hc]
    obtain ⟨s1, s2⟩ := ztr_sub hD hev hle2
    by_cases he : zam A * 2 ^ (zep A - zep B) = zam B
    · have hv : ztr (zam B * 512) (2 ^ (zep A - zep B)) = zam A * 512 := by
        have e : zam B * 512 = zam A * 512 * 2 ^ (zep A - zep B) := by rw [hmr, he]
        unfold ztr
        rw [e, Nat.mul_mod_left, if_pos rfl, Nat.mul_div_cancel _ hD]
      rw [if_pos (by rw [l_eq, hx, hv2, hv]), if_pos he]
    · have hne : ztr (zam B * 512) (2 ^ (zep A - zep B)) ≠ zam A * 512 := by
        intro h
        unfold ztr at h
        by_cases q : zam B * 512 % 2 ^ (zep A - zep B) = 0
        · rw [if_pos q] at h
          have h3 := Nat.div_mul_cancel (Nat.dvd_of_mod_eq_zero q)
          rw [h, hmr] at h3
          exact he (by omega)
        · rw [if_neg q] at h
          omega
      rw [if_neg (by rw [l_eq, hx, hv2]; intro h; exact hne (Int.ofNat_inj.mp h).symm), if_neg he]
      have hdf : (jlshl ma 9 - v).toInt = ((ztr (zam A * 512 * 2 ^ (zep A - zep B) - zam B * 512) (2 ^ (zep A - zep B)) : Nat) : Int) := by
        rw [s2]
        generalize ztr (zam B * 512) (2 ^ (zep A - zep B)) = w at hv2 s1 ⊢
        clear hle2 hmr hdl hvle fsum fdif
        rw [l_sub, hx, hv2] <;> (try rw [hx, hv2]) <;> omega
      rw [B_round' hdf h9 (by omega) (by omega), Option.bind_some, fdif, hmr, ← Nat.sub_mul, qsum]
  · rw [if_neg hc, if_neg hc]
    have hsm : (jlshl ma 9 + v).toInt = ((ztr (zam A * 512 * 2 ^ (zep A - zep B) + zam B * 512) (2 ^ (zep A - zep B)) : Nat) : Int) := by
      rw [ztr_add hD hev]
      generalize ztr (zam B * 512) (2 ^ (zep A - zep B)) = w at hv2 hvle ⊢
      generalize zam B * 512 / 2 ^ (zep A - zep B) = u at hvle hdl
      clear hle2 hmr fsum fdif
      rw [l_add, hx, hv2] <;> (try rw [hx, hv2]) <;> omega
    rw [B_round' hsm h9 (by omega) (by omega), Option.bind_some, fsum, hmr, ← Nat.add_mul, qsum]
/-! the reference's sum -/
theorem mTop_big {v : Nat} (h : v < 2 ^ 2400) : v < mTop := by
  rw [mTop_eq]
  exact Nat.lt_of_lt_of_le h (p2le (by decide))
theorem mR_keep {r r' : Nat → Int32} {a v b : Nat} (h : mR r r' a v) (hb : b < 6) (hab : b ≠ a) : mV r' b = mV r b := h.2.2 b hb hab
theorem zsg_0 {x y : Nat} : zsg x y = 0 ↔ x = y := by
  unfold zsg
  by_cases h : x < y
  · rw [if_pos h]; exact ⟨fun q => absurd q (by decide), fun q => by omega⟩
  · rw [if_neg h]
    by_cases h2 : x = y
    · rw [if_pos h2]; exact ⟨fun _ => h2, fun _ => rfl⟩
    · rw [if_neg h2]; exact ⟨fun q => absurd q (by decide), fun q => absurd q h2⟩
theorem zsg_ge {x y : Nat} : 0 ≤ zsg x y ↔ y ≤ x := by
  unfold zsg
  by_cases h : x < y
  · rw [if_pos h]; exact ⟨fun q => absurd q (by decide), fun q => by omega⟩
  · rw [if_neg h]
    by_cases h2 : x = y
    · rw [if_pos h2]; exact ⟨fun _ => by omega, fun _ => by decide⟩
    · rw [if_neg h2]; exact ⟨fun _ => by omega, fun _ => by decide⟩
theorem M_sum160 (t s o c p : Int32) {r : Nat → Int32} (hr : mOK r) (a b : Int64) {x5 : Int32} {low : Nat} (h5 : x5.toInt = (low : Int) - 1074) (hl : low < 3000) (hT : mV r 0 + mV r 1 < mTop) (s0 : Int32) :
    ∃ r', f_M_sum_160 t s o c p r a b x5 s0 = some (if s0 = 0 then (if mV r 0 = mV r 1 then 0 else if mV r 1 ≤ mV r 0 then (a &&& (-9223372036854775808)) ||| lN (zrd (mV r 0 - mV r 1) 0 low) else (b &&& (-9223372036854775808)) ||| lN (zrd (mV r 1 - mV r 0) 0 low)) else (a &&& (-9223372036854775808)) ||| lN (zrd (mV r 0 + mV r 1) 0 low), r') ∧ mOK r' := by
  have e5 : x5.toInt = (low : Int) - 1074 := h5
  unfold f_M_sum_160
  rw [M_order t s o c p hr (a := 0) (b := 1) (by decide) (by decide) rfl rfl, Option.bind_some]
  by_cases h0 : s0 = 0
  · rw [if_pos h0, if_pos h0]
    by_cases he : mV r 0 = mV r 1
    · rw [if_pos (zsg_0.mpr he), if_pos he]
      exact ⟨r, rfl, hr⟩
    · rw [if_neg (fun q => he (zsg_0.mp q)), if_neg he]
      by_cases hg : mV r 1 ≤ mV r 0
      · rw [if_pos (zsg_ge.mpr hg), if_pos hg]
        obtain ⟨r1, t1, tR⟩ := M_less t s o c p hr (a := 0) (b := 1) (x1 := 0) (x2 := 1) (by decide) (by decide) (by decide) rfl rfl hg
        obtain ⟨r2, u1, uR⟩ := M_round' t s o c p tR.1 (a := 0) (mo := 0) (x1 := a &&& (-9223372036854775808)) (x3 := 0) (x5 := 0) (by decide) (by decide) rfl e5 (by omega) (by omega) rfl (by decide) (fun q => by cases q)
        rw [t1, Option.bind_some, u1, Option.bind_some, tR.2.1]
        exact ⟨r2, rfl, uR.1⟩
      · rw [if_neg (fun q => hg (zsg_ge.mp q)), if_neg hg]
        obtain ⟨r1, t1, tR⟩ := M_less t s o c p hr (a := 1) (b := 0) (x1 := 1) (x2 := 0) (by decide) (by decide) (by decide) rfl rfl (by omega)
        obtain ⟨r2, u1, uR⟩ := M_round' t s o c p tR.1 (a := 1) (mo := 0) (x1 := b &&& (-9223372036854775808)) (x3 := 1) (x5 := 0) (by decide) (by decide) rfl e5 (by omega) (by omega) rfl (by decide) (fun q => by cases q)
        rw [t1, Option.bind_some, u1, Option.bind_some, tR.2.1]
        exact ⟨r2, rfl, uR.1⟩
  · rw [if_neg h0, if_neg h0]
    obtain ⟨r1, t1, tR⟩ := M_add t s o c p hr (a := 0) (b := 1) (x1 := 0) (x2 := 1) (by decide) (by decide) (by decide) rfl rfl
    obtain ⟨r2, u1, uR⟩ := M_round' t s o c p tR.1 (a := 0) (mo := 0) (x1 := a &&& (-9223372036854775808)) (x3 := 0) (x5 := 0) (by decide) (by decide) rfl e5 (by omega) (by omega) rfl (by decide) (fun q => by cases q)
    rw [t1, Option.bind_some, u1, Option.bind_some, tR.2.1, Nat.mod_eq_of_lt hT]
    exact ⟨r2, rfl, uR.1⟩
theorem am_bv {d : Int64} {n : Nat} (h : d.toInt = n) : d.toBitVec.toNat = n := by
  have := l_bv d
  have := l_rng d
  omega
theorem M_sum86 (t s o c p : Int32) {r : Nat → Int32} (hr : mOK r) (a b : Int64) {s0 : Int32} {low : Nat} (h5 : s0.toInt = (low : Int) - 1074) (hla : low ≤ zep (zmg a)) (hlb : low ≤ zep (zmg b)) :
    ∃ r' x, mOK r' ∧ mV r' 0 = zam (zmg a) * 2 ^ (zep (zmg a) - low) ∧ mV r' 1 = zam (zmg b) * 2 ^ (zep (zmg b) - low) ∧ mV r' 0 + mV r' 1 < mTop ∧ low < 3000 ∧ f_M_sum_86 t s o c p r a b s0 = f_M_sum_160 t s o c p r' a b s0 x ∧ (x = 0 ↔ (a ^^^ b) < 0) := by
  obtain ⟨ma, hm1, hm2⟩ := M_amount a
  obtain ⟨mb, hn1, hn2⟩ := M_amount b
  obtain ⟨ea, ha1, ha2⟩ := M_power a
  obtain ⟨eb, hb1, hb2⟩ := M_power b
  have la := @zam_lt' (zmg a)
  have lb := @zam_lt' (zmg b)
  have pa := zep_lt' (zmg_lt a)
  have pb := zep_lt' (zmg_lt b)
  have hd1 : (ea - s0).toInt = ((zep (zmg a) - low : Nat) : Int) := by
    rw [i_sub, ha2, h5] <;> (try rw [ha2, h5]) <;> omega
  have hd2 : (eb - s0).toInt = ((zep (zmg b) - low : Nat) : Int) := by
    rw [i_sub, hb2, h5] <;> (try rw [hb2, h5]) <;> omega
  obtain ⟨r1, t1, R1⟩ := M_set t s o c p hr (a := 0) (x1 := 0) (x2 := ma) (by decide) rfl
  obtain ⟨r2, t2, R2⟩ := M_shift t s o c p R1.1 (a := 0) (x1 := 0) (by decide) rfl hd1
  obtain ⟨r3, t3, R3⟩ := M_set t s o c p R2.1 (a := 1) (x1 := 1) (x2 := mb) (by decide) rfl
  obtain ⟨r4, t4, R4⟩ := M_shift t s o c p R3.1 (a := 1) (x1 := 1) (by decide) rfl hd2
  have bnd : ∀ {w e : Nat}, w < 9007199254740992 → e ≤ 2046 → w * 2 ^ e < 2 ^ 2100 := by
    intro w e h1 h2
    have h3 : 2 ^ e ≤ 2 ^ 2046 := p2le h2
    have h4 : w * 2 ^ e ≤ 2 ^ 53 * 2 ^ 2046 := Nat.mul_le_mul (Nat.le_of_lt h1) h3
    rw [← Nat.pow_add] at h4
    exact Nat.lt_of_le_of_lt h4 (p2lt (by decide))
  have bA := bnd la (show zep (zmg a) - low ≤ 2046 by omega)
  have bB := bnd lb (show zep (zmg b) - low ≤ 2046 by omega)
  have p1 : 2 ^ 2100 ≤ 2 ^ 2400 := p2le (by decide)
  have v4 : mV r4 1 = zam (zmg b) * 2 ^ (zep (zmg b) - low) := by
    rw [R4.2.1, R3.2.1, am_bv hn2, Nat.mod_eq_of_lt (mTop_big (Nat.lt_of_lt_of_le bB p1))]
  have v0 : mV r4 0 = zam (zmg a) * 2 ^ (zep (zmg a) - low) := by
    rw [mR_keep R4 (by decide) (by decide), mR_keep R3 (by decide) (by decide), R2.2.1, R1.2.1, am_bv hm2, Nat.mod_eq_of_lt (mTop_big (Nat.lt_of_lt_of_le bA p1))]
  have hsum : mV r4 0 + mV r4 1 < mTop := by
    apply mTop_big
    rw [v0, v4]
    have p2 : 2 ^ 2100 + 2 ^ 2100 = 2 ^ 2101 := by rw [Nat.pow_succ 2 2100, Nat.mul_two]
    have p3 : 2 ^ 2101 ≤ 2 ^ 2400 := p2le (by decide)
    generalize 2 ^ 2400 = P at *
    generalize 2 ^ 2101 = P1 at *
    generalize 2 ^ 2100 = P2 at *
    generalize zam (zmg a) * 2 ^ (zep (zmg a) - low) = A at *
    generalize zam (zmg b) * 2 ^ (zep (zmg b) - low) = B at *
    omega
  unfold f_M_sum_86
  rw [hm1, Option.bind_some, t1, Option.bind_some, ha1, Option.bind_some, t2, Option.bind_some, hn1, Option.bind_some, t3, Option.bind_some, hb1, Option.bind_some, t4, Option.bind_some]
  unfold f_M_sum_141 f_M_sum_152
  have i01 : ¬ (0 : Int32) = 1 := by decide
  have hx := l_xor_neg a b
  by_cases qa : a < 0
  · rw [if_pos qa]
    by_cases qb : b < 0
    · rw [if_pos qb, if_pos rfl]
      exact ⟨r4, 1, R4.1, v0, v4, hsum, by omega, rfl, ⟨fun h => absurd h i10, fun h => absurd (iff_of_true qa qb) (hx.mp h)⟩⟩
    · rw [if_neg qb, if_neg i10]
      exact ⟨r4, 0, R4.1, v0, v4, hsum, by omega, rfl, ⟨fun _ => hx.mpr (fun h => qb (h.mp qa)), fun _ => rfl⟩⟩
  · rw [if_neg qa]
    by_cases qb : b < 0
    · rw [if_pos qb, if_neg i01]
      exact ⟨r4, 0, R4.1, v0, v4, hsum, by omega, rfl, ⟨fun _ => hx.mpr (fun h => qa (h.mpr qb)), fun _ => rfl⟩⟩
    · rw [if_neg qb, if_pos rfl]
      exact ⟨r4, 1, R4.1, v0, v4, hsum, by omega, rfl, ⟨fun h => absurd h i10, fun h => absurd (iff_of_false qa qb) (hx.mp h)⟩⟩
