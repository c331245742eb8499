/-! class and reference: root, to its end -/
theorem i_half {x : Int32} {h : Int} (hx : x.toInt = 2 * h) : (x / 2).toInt = h := by
  have rx := i_rng x
  rw [Int32.toInt_div, hx, show (2 : Int32).toInt = 2 from rfl, Int.mul_tdiv_cancel_left _ (by decide)]
  exact Int.bmod_eq_of_le (by omega) (by omega)
theorem A_rootFin {a : Int64} (fa : zmg a < 9218868437227405312) (za : zmg a ≠ 0) : ∃ (l od R : Nat) (G : Int), od < 2 ∧ l ≤ 52 ∧ (zep (zmg a) : Int) - 1074 - l - od = 2 * (G - 1044) ∧ R * R ≤ zam (zmg a) * 2 ^ (l + od + 60) ∧ zam (zmg a) * 2 ^ (l + od + 60) < (R + 1) * (R + 1) ∧ 54 ≤ zlen R ∧ f_A_rootOfFinite a = some (0 ||| lN (zrd R (if R * R = zam (zmg a) * 2 ^ (l + od + 60) then 0 else 1) G)) := by
  obtain ⟨e, he1, he2⟩ := B_exponent a
  obtain ⟨m, hm1, hm2⟩ := B_mantissa a
  obtain ⟨d, l, p1, p2, p3, p4, p5, p6⟩ := A_lifted hm2 (zam_pos za) zam_lt'
  have hea := zep_lt fa
  have lm := @zam_lt' (zmg a)
  have x1 : (e - d).toInt = (zep (zmg a) : Int) - 1074 - l := by rw [i_sub, he2, p2] <;> (try rw [he2, p2]) <;> omega
  have x2 : ((e - d) &&& 1).toInt = ((zep (zmg a) : Int) - 1074 - l) % 2 := by rw [i_and 1 (by decide) rfl, x1]; rfl
  obtain ⟨od, hod⟩ : ∃ od : Nat, ((zep (zmg a) : Int) - 1074 - l) % 2 = od := ⟨(((zep (zmg a) : Int) - 1074 - l) % 2).toNat, by omega⟩
  rw [hod] at x2
  have hod2 : od < 2 := by omega
  have x3 : (d + ((e - d) &&& 1)).toInt = ((l + od : Nat) : Int) := by rw [i_add, p2, x2] <;> (try rw [p2, x2]) <;> omega
  have x4 : ((e - d) - ((e - d) &&& 1)).toInt = (zep (zmg a) : Int) - 1074 - l - od := by rw [i_sub, x1, x2] <;> (try rw [x1, x2]) <;> omega
  have x5 : (jshr ((e - d) - ((e - d) &&& 1)) 1).toInt = ((zep (zmg a) : Int) - 1074 - l - od) / 2 := by rw [i_shr (n := 1) rfl (by decide), x4]; rfl
  have e31 : (31 : Int32).toInt = 31 := rfl
  obtain ⟨G, hG⟩ : ∃ G : Int, G = ((zep (zmg a) : Int) - 1074 - l - od) / 2 + 1044 := ⟨_, rfl⟩
  have x6 : (jshr ((e - d) - ((e - d) &&& 1)) 1 - 31).toInt = (G - 1) - 1074 := by rw [i_sub, x5, e31] <;> (try rw [x5, e31]) <;> omega
  have hsq : zam (zmg a) * 2 ^ (l + od) = zam (zmg a) * 2 ^ l * 2 ^ od := by rw [Nat.pow_add, Nat.mul_assoc]
  have hb1 : 4503599627370496 ≤ zam (zmg a) * 2 ^ (l + od) := by
    rw [hsq]
    exact Nat.le_trans p5 (Nat.le_mul_of_pos_right _ (p2pos _))
  have hb2 : zam (zmg a) * 2 ^ (l + od) < 18014398509481984 := by
    rw [hsq]
    have h1 : 2 ^ od ≤ 2 ^ 1 := p2le (by omega)
    have h2 : zam (zmg a) * 2 ^ l * 2 ^ od ≤ 9007199254740991 * 2 := Nat.mul_le_mul (by omega) h1
    omega
  have h5 : (jlshl m (d + ((e - d) &&& 1))).toInt = ((zam (zmg a) * 2 ^ (l + od) : Nat) : Int) := by
    have e3 : m.toInt * ((2 ^ (l + od) : Nat) : Int) = ((zam (zmg a) * 2 ^ (l + od) : Nat) : Int) := by rw [hm2]; exact (Int.natCast_mul _ _).symm
    have hk : l + od < 64 := by omega
    generalize zam (zmg a) * 2 ^ (l + od) = u at e3 hb2 ⊢
    exact (l_shl x3 hk (by rw [e3]; omega) (by rw [e3]; omega)).trans e3
  obtain ⟨R, r1, r2, r3, r4⟩ := A_root41 h5 hb1 hb2 x6 (by omega) (by omega)
  have eN : zam (zmg a) * 2 ^ (l + od) * 2 ^ 60 = zam (zmg a) * 2 ^ (l + od + 60) := by rw [Nat.mul_assoc, ← Nat.pow_add]
  rw [eN] at r1 r2 r4
  refine ⟨l, od, R, G, hod2, p3, by omega, r1, r2, r3, ?_⟩
  unfold f_A_rootOfFinite
  rw [hm1, he1]
  simp only [Option.bind_some]
  rw [p1]
  simp only [Option.bind_some]
  exact r4
theorem M_root139 (t s o c p : Int32) {r : Nat → Int32} (hr : mOK r) {a : Int64} {x3 : Int32} {od S N : Nat} {E : Int} (hx3 : x3.toInt = od) (hod : od < 2) (hv3 : mV r 3 = S) (hv0 : mV r 0 + S * S = N) (hz : 55 ≤ zlen S) (hE : (zep (zmg a) : Int) - 1074 - od - 160 = 2 * (E - 1074)) :
    ∃ r', f_M_root_139 t s o c p r a x3 = some (0 ||| lN (zrd S (if S * S = N then 0 else 1) E), r') ∧ mOK r' := by
  obtain ⟨e, he1, he2⟩ := M_power a
  have hea := zep_lt' (zmg_lt a)
  have e0 : (0 : Int32).toInt = 0 := rfl
  have e160 : (160 : Int32).toInt = 160 := rfl
  have y1 : (e - x3).toInt = (zep (zmg a) : Int) - 1074 - od := by rw [i_sub, he2, hx3] <;> (try rw [he2, hx3]) <;> omega
  have y2 : (e - x3 - 160).toInt = 2 * (E - 1074) := by rw [i_sub, y1, e160] <;> (try rw [y1, e160]) <;> omega
  have y3 : ((e - x3 - 160) / 2).toInt = E - 1074 := i_half y2
  obtain ⟨d, l1, l2⟩ := M_length t s o c p hr (a := 0) (x1 := 0) (by decide) rfl
  have fin : ∀ {x5 : Int32} {mo : Nat}, x5.toInt = (mo : Int) → mo = (if S * S = N then 0 else 1) → ∃ r', f_M_root_167 t s o c p r 0 3 ((e - x3 - 160) / 2) x5 = some (0 ||| lN (zrd S (if S * S = N then 0 else 1) E), r') ∧ mOK r' := by
    intro x5 mo h5 hmo
    have hmo2 : mo < 2 := by rw [hmo]; split <;> decide
    obtain ⟨r5, u1, uR⟩ := M_round' t s o c p hr (a := 3) (mo := mo) (x1 := 0) (x3 := 3) (by decide) (by decide) rfl y3 (by omega) (by omega) h5 hmo2 (fun _ => by rw [hv3]; exact hz)
    unfold f_M_root_167
    rw [u1, Option.bind_some, hv3, hmo]
    exact ⟨r5, rfl, uR.1⟩
  unfold f_M_root_139
  rw [he1, Option.bind_some, l1, Option.bind_some]
  by_cases c0 : mV r 0 = 0
  · rw [if_pos (by rw [i_le, l2, e0, c0]; decide)]
    exact fin (mo := 0) rfl (by rw [if_pos (by omega)])
  · have : zlen (mV r 0) ≠ 0 := fun h => c0 (zlen_0.mp h)
    rw [if_neg (by rw [i_le, l2, e0]; omega)]
    exact fin (mo := 1) rfl (by rw [if_neg (by omega)])
theorem M_rootstep (t s o c p : Int32) {r : Nat → Int32} (hr : mOK r) {x4 : Int32} {j Q : Nat} (h4 : x4.toInt = j) (hj : j ≤ 110) (hQ : mV r 3 = Q) (hQb : Q + 2 ^ (j + 1) ≤ 2 ^ 111) :
    ∃ r1 r2 r3 r4 r5 r6, f_M_copy t s o c p r 1 3 = some r1 ∧ f_M_shift t s o c p r1 1 1 = some r2 ∧ f_M_set t s o c p r2 2 1 = some r3 ∧ f_M_shift t s o c p r3 2 x4 = some r4 ∧ f_M_add t s o c p r4 1 2 0 = some r5 ∧ f_M_shift t s o c p r5 1 x4 = some r6 ∧ mOK r6 ∧ mV r6 0 = mV r 0 ∧ mV r6 3 = Q ∧ mV r6 2 = 2 ^ j ∧ mV r6 1 = (Q * 2 + 2 ^ j) * 2 ^ j := by
  obtain ⟨r1, t1, R1⟩ := M_copy t s o c p hr (a := 1) (b := 3) (x1 := 1) (x2 := 3) (by decide) (by decide) (by decide) rfl rfl
  obtain ⟨r2, t2, R2⟩ := M_shift t s o c p R1.1 (a := 1) (n := 1) (x1 := 1) (x2 := 1) (by decide) rfl rfl
  obtain ⟨r3, t3, R3⟩ := M_set t s o c p R2.1 (a := 2) (x1 := 2) (x2 := 1) (by decide) rfl
  obtain ⟨r4, t4, R4⟩ := M_shift t s o c p R3.1 (a := 2) (x1 := 2) (by decide) rfl h4
  obtain ⟨r5, t5, R5⟩ := M_add t s o c p R4.1 (a := 1) (b := 2) (x1 := 1) (x2 := 2) (by decide) (by decide) (by decide) rfl rfl
  obtain ⟨r6, t6, R6⟩ := M_shift t s o c p R5.1 (a := 1) (x1 := 1) (by decide) rfl h4
  have hp1 : 2 ^ j ≤ 2 ^ 110 := p2le hj
  have hQ2 : Q ≤ 2 ^ 111 := Nat.le_trans (Nat.le_add_right _ _) hQb
  have big : ∀ {v : Nat}, v < 2 ^ 300 → v < mTop := fun h => mTop_big (Nat.lt_trans h (p2lt (by decide)))
  have w1 : mV r2 1 = Q * 2 := by
    rw [R2.2.1, R1.2.1, hQ, Nat.pow_one, Nat.mod_eq_of_lt]
    apply big
    have : 2 ^ 111 * 2 < 2 ^ 300 := by decide
    omega
  have w2 : mV r4 2 = 2 ^ j := by
    have e : (1 : Int64).toBitVec.toNat = 1 := rfl
    rw [R4.2.1, R3.2.1, e, Nat.one_mul, Nat.mod_eq_of_lt]
    apply big
    have : 2 ^ 110 < 2 ^ 300 := p2lt (by decide)
    omega
  have w3 : mV r4 1 = Q * 2 := by
    rw [mR_keep R4 (by decide) (by decide), mR_keep R3 (by decide) (by decide), w1]
  have hb5 : Q * 2 + 2 ^ j < 2 ^ 113 := by
    have a1 : 2 ^ 113 = 2 ^ 111 * 4 := by decide
    have a2 : 2 ^ 111 = 2 ^ 110 * 2 := by decide
    generalize 2 ^ 113 = p113 at *
    generalize 2 ^ 111 = p111 at *
    generalize 2 ^ 110 = p110 at *
    have : 0 < p110 := by have := p2pos j; omega
    omega
  have w5 : mV r5 1 = Q * 2 + 2 ^ j := by
    rw [R5.2.1, w2, w3, Nat.mod_eq_of_lt (big (Nat.lt_trans hb5 (p2lt (by decide))))]
  have w6 : mV r6 1 = (Q * 2 + 2 ^ j) * 2 ^ j := by
    rw [R6.2.1, w5, Nat.mod_eq_of_lt]
    apply big
    have : (Q * 2 + 2 ^ j) * 2 ^ j ≤ 2 ^ 113 * 2 ^ 110 := Nat.mul_le_mul (Nat.le_of_lt hb5) hp1
    rw [← Nat.pow_add] at this
    exact Nat.lt_of_le_of_lt this (p2lt (by decide))
  refine ⟨r1, r2, r3, r4, r5, r6, t1, t2, t3, t4, t5, t6, R6.1, ?_, ?_, ?_, w6⟩
  · rw [mR_keep R6 (by decide) (by decide), mR_keep R5 (by decide) (by decide), mR_keep R4 (by decide) (by decide), mR_keep R3 (by decide) (by decide), mR_keep R2 (by decide) (by decide), mR_keep R1 (by decide) (by decide)]
  · rw [mR_keep R6 (by decide) (by decide), mR_keep R5 (by decide) (by decide), mR_keep R4 (by decide) (by decide), mR_keep R3 (by decide) (by decide), mR_keep R2 (by decide) (by decide), mR_keep R1 (by decide) (by decide), hQ]
  · rw [mR_keep R6 (by decide) (by decide), mR_keep R5 (by decide) (by decide), w2]
theorem M_root63 (t s o c p : Int32) {r : Nat → Int32} (hr : mOK r) {a : Int64} {x3 : Int32} {od N : Nat} {E : Int} (hx3 : x3.toInt = od) (hod : od < 2) (hv3 : mV r 3 = 0) (hv0 : mV r 0 = N) (hN1 : 2 ^ 160 ≤ N) (hN2 : N < 2 ^ 222) (hE : (zep (zmg a) : Int) - 1074 - od - 160 = 2 * (E - 1074)) :
    ∃ S r', S * S ≤ N ∧ N < (S + 1) * (S + 1) ∧ f_M_root_63 t s o c p r a x3 110 = some (0 ||| lN (zrd S (if S * S = N then 0 else 1) E), r') ∧ mOK r' := by
  have em1 : (-1 : Int32).toInt = -1 := rfl
  have e0 : (0 : Int32).toInt = 0 := rfl
  unfold f_M_root_63
  obtain ⟨z, hz1, hz2⟩ := zrun_inv (step := f_M_root_63_step t s o c p a x3) (x := (r, 110)) (fun z => mOK z.1 ∧ ∃ k Q : Nat, z.2.toInt = (k : Int) - 1 ∧ k ≤ 111 ∧ mV z.1 3 = Q ∧ mV z.1 0 + Q * Q = N ∧ N < (Q + 2 ^ k) * (Q + 2 ^ k) ∧ Q + 2 ^ k ≤ 2 ^ 111) (fun z => (z.2.toInt + 1).toNat)
    (fun d => ∃ S, S * S ≤ N ∧ N < (S + 1) * (S + 1) ∧ d.1 = (0 ||| lN (zrd S (if S * S = N then 0 else 1) E)) ∧ mOK d.2) (by
      rintro ⟨q, x4⟩ ⟨hq, k, Q, hk, hk2, h3, h0, hlt, hQb⟩
      dsimp only at hq hk h3 h0
      unfold f_M_root_63_step f_M_root_63_body
      dsimp only
      cases k with
      | zero =>
        rw [Nat.pow_zero] at hlt
        rw [if_pos (show x4 < 0 by rw [i_lt, hk, e0]; omega)]
        have hz : 55 ≤ zlen Q := by
          have h1 : 2 ^ 80 < Q + 1 := by
            apply sq_le
            rw [← Nat.pow_add]
            exact Nat.lt_of_le_of_lt hN1 hlt
          have := zlen_gt (n := Q) (k := 80) (by omega)
          omega
        obtain ⟨r', u1, u2⟩ := M_root139 t s o c p hq hx3 hod h3 h0 hz hE
        rw [u1]
        exact Or.inr ⟨_, rfl, Q, by omega, hlt, rfl, u2⟩
      | succ j =>
        have h4 : x4.toInt = (j : Int) := by rw [hk]; omega
        rw [if_neg (show ¬ x4 < 0 by rw [i_lt, hk, e0]; omega)]
        obtain ⟨r1, r2, r3, r4, r5, r6, t1, t2, t3, t4, t5, t6, k6, v0, v3, v2, v1⟩ := M_rootstep t s o c p hq h4 (by omega) h3 hQb
        have hj111 : j ≤ 111 := by clear hlt hQb h0; omega
        have hmu : ((j : Int) - 1 + 1).toNat < ((j : Int) + 1).toNat := by clear hlt hQb h0; omega
        have hpj : 2 ^ (j + 1) = 2 ^ j + 2 ^ j := by rw [Nat.pow_succ, Nat.mul_two]
        have hsq := sq_add Q (2 ^ j)
        rw [t1, Option.bind_some, t2, Option.bind_some, t3, Option.bind_some, t4, Option.bind_some, t5, Option.bind_some, t6, Option.bind_some, M_order t s o c p k6 (a := 0) (b := 1) (by decide) (by decide) rfl rfl, Option.bind_some]
        unfold f_M_root_133
        by_cases hc : mV r6 1 ≤ mV r6 0
        · rw [if_pos (zsg_ge.mpr hc)]
          obtain ⟨r7, t7, R7⟩ := M_less t s o c p k6 (a := 0) (b := 1) (x1 := 0) (x2 := 1) (by decide) (by decide) (by decide) rfl rfl hc
          obtain ⟨r8, t8, R8⟩ := M_add t s o c p R7.1 (a := 3) (b := 2) (x1 := 3) (x2 := 2) (by decide) (by decide) (by decide) rfl rfl
          have w3 : mV r8 3 = Q + 2 ^ j := by
            rw [R8.2.1, mR_keep R7 (by decide) (by decide), mR_keep R7 (by decide) (by decide), v3, v2, Nat.mod_eq_of_lt]
            apply mTop_big
            have a1 : 2 ^ 111 < 2 ^ 2400 := p2lt (by decide)
            have := p2pos j
            generalize 2 ^ 2400 = P at *
            generalize 2 ^ 111 = P1 at *
            omega
          have w0 : mV r8 0 = mV q 0 - (Q * 2 + 2 ^ j) * 2 ^ j := by
            rw [mR_keep R8 (by decide) (by decide), R7.2.1, v0, v1]
          rw [v0, v1] at hc
          rw [t7, Option.bind_some, t8, Option.bind_some]
          have hA : mV r8 0 + (Q + 2 ^ j) * (Q + 2 ^ j) = N := by
            rw [w0, hsq]
            clear h4 hk hlt hQb w0 w3
            generalize (Q * 2 + 2 ^ j) * 2 ^ j = B at hc ⊢
            omega
          have hm : (x4 + (-1)).toInt = (j : Int) - 1 := i_prd h4
          refine Or.inl ⟨_, rfl, ⟨R8.1, j, Q + 2 ^ j, hm, hj111, w3, hA, ?_, ?_⟩, by dsimp only; rw [hm, h4]; exact hmu⟩
          · rw [Nat.add_assoc, ← hpj]; exact hlt
          · rw [Nat.add_assoc, ← hpj]; exact hQb
        · rw [if_neg (fun h => hc (zsg_ge.mp h))]
          rw [v0, v1] at hc
          have hl2 : N < (Q + 2 ^ j) * (Q + 2 ^ j) := by
            rw [hsq]
            clear h4 hk hlt hQb
            generalize (Q * 2 + 2 ^ j) * 2 ^ j = B at hc ⊢
            omega
          have hq2 : Q + 2 ^ j ≤ 2 ^ 111 := by
            clear h4 hk hlt hl2 hc
            generalize 2 ^ 111 = P at hQb ⊢
            omega
          have hm : (x4 + (-1)).toInt = (j : Int) - 1 := i_prd h4
          exact Or.inl ⟨_, rfl, ⟨k6, j, Q, hm, hj111, v3, by dsimp only; rw [v0]; exact h0, hl2, hq2⟩, by dsimp only; rw [hm, h4]; exact hmu⟩) ⟨hr, 111, 0, rfl, by omega, hv3, by rw [hv0]; rfl, by
            rw [Nat.zero_add, ← Nat.pow_add]; exact hN2, by rw [Nat.zero_add]; exact Nat.le_refl _⟩
  obtain ⟨z1, z2⟩ := z
  obtain ⟨S, w1, w2, w3, w4⟩ := hz2
  dsimp only at w3 w4
  rw [hz1, w3]
  exact ⟨S, z2, w1, w2, rfl, w4⟩
theorem same_root (t s o c p : Int32) {r : Nat → Int32} (hr : mOK r) (a : Int64) (na : ¬ 9218868437227405312 < zmg a) :
    ∃ d r', f_A_root a = some d ∧ f_M_root t s o c p r a = some (d, r') ∧ mOK r' := by
  obtain ⟨m, hm1, hm2⟩ := M_amount a
  obtain ⟨e, he1, he2⟩ := M_power a
  unfold f_A_root f_M_root
  rw [B_isZero, M_isZero, B_isInfinite, he1, hm1]
  simp only [Option.bind_some]
  by_cases za : zmg a = 0
  · rw [if_neg (fun q => zbf.mp q za), if_neg (fun q => zbf.mp q za)]
    exact ⟨_, r, rfl, rfl, hr⟩
  · rw [if_pos (zbf.mpr za), if_pos (zbf.mpr za)]
    have einf : (9218868437227405312 : Int64).toInt = 9218868437227405312 := rfl
    have e0 : (0 : Int64).toInt = 0 := rfl
    have hbv := l_bv a
    have hrg := l_rng a
    have hzm : zmg a = a.toBitVec.toNat % 9223372036854775808 := rfl
    by_cases hn : a < 0
    · have hn' := hn
      rw [l_lt, e0] at hn'
      rw [if_pos hn, if_neg (show ¬ a = 9218868437227405312 by rw [l_eq, einf]; omega), if_pos hn]
      exact ⟨_, r, rfl, rfl, hr⟩
    · have hn' := hn
      rw [l_lt, e0] at hn'
      have hav : a.toInt = (zmg a : Int) := by omega
      rw [if_neg hn]
      by_cases ia : zmg a = 9218868437227405312
      · rw [if_neg (fun q => zbf.mp q ia), if_pos (show a = 9218868437227405312 by rw [l_eq, einf]; omega)]
        exact ⟨_, r, rfl, rfl, hr⟩
      · have fa : zmg a < 9218868437227405312 := by omega
        rw [if_pos (zbf.mpr ia), if_neg (show ¬ a = 9218868437227405312 by rw [l_eq, einf]; omega), if_neg hn]
        obtain ⟨l, od, R, G, g1, g2, g3, g4, g5, g6, g7⟩ := A_rootFin fa za
        have y1 : (e &&& 1).toInt = ((zep (zmg a) : Int) - 1074) % 2 := by rw [i_and 1 (by decide) rfl, he2]; rfl
        obtain ⟨o2, ho2⟩ : ∃ o2 : Nat, ((zep (zmg a) : Int) - 1074) % 2 = o2 := ⟨(((zep (zmg a) : Int) - 1074) % 2).toNat, by omega⟩
        rw [ho2] at y1
        have ho3 : o2 < 2 := by omega
        have e160 : (160 : Int32).toInt = 160 := rfl
        have y2 : (160 + (e &&& 1)).toInt = ((160 + o2 : Nat) : Int) := by rw [i_add, e160, y1] <;> (try rw [e160, y1]) <;> omega
        obtain ⟨r1, t1, R1⟩ := M_set t s o c p hr (a := 0) (x1 := 0) (x2 := m) (by decide) rfl
        obtain ⟨r2, t2, R2⟩ := M_shift t s o c p R1.1 (a := 0) (x1 := 0) (by decide) rfl y2
        obtain ⟨r3, t3, R3⟩ := M_set t s o c p R2.1 (a := 3) (x1 := 3) (x2 := 0) (by decide) rfl
        have lm := @zam_lt' (zmg a)
        have pm := zam_pos za
        have hN2 : zam (zmg a) * 2 ^ (160 + o2) < 2 ^ 222 := by
          have h1 : 2 ^ (160 + o2) ≤ 2 ^ 161 := p2le (by omega)
          have h2 : zam (zmg a) * 2 ^ (160 + o2) ≤ 2 ^ 53 * 2 ^ 161 := Nat.mul_le_mul (Nat.le_of_lt lm) h1
          rw [← Nat.pow_add] at h2
          exact Nat.lt_of_le_of_lt h2 (p2lt (by decide))
        have hN1 : 2 ^ 160 ≤ zam (zmg a) * 2 ^ (160 + o2) := by
          have h1 : 2 ^ 160 ≤ 2 ^ (160 + o2) := p2le (by omega)
          exact Nat.le_trans h1 (Nat.le_mul_of_pos_left _ pm)
        have v0 : mV r3 0 = zam (zmg a) * 2 ^ (160 + o2) := by
          rw [mR_keep R3 (by decide) (by decide), R2.2.1, R1.2.1, am_bv hm2, Nat.mod_eq_of_lt (mTop_big (Nat.lt_trans hN2 (p2lt (by decide))))]
        obtain ⟨E, hE⟩ : ∃ E : Int, E = ((zep (zmg a) : Int) - 1074 - o2 - 160) / 2 + 1074 := ⟨_, rfl⟩
        obtain ⟨S, r4, s1, s2, s3, s4⟩ := M_root63 t s o c p R3.1 (a := a) (E := E) y1 ho3 (by rw [R3.2.1]; rfl) v0 hN1 hN2 (by omega)
        rw [g7, Option.bind_some, t1, Option.bind_some, t2, Option.bind_some, t3, Option.bind_some, s3]
        refine ⟨_, r4, rfl, ?_, s4⟩
        obtain ⟨j, hj⟩ : ∃ j : Nat, l + od + 60 + 2 * j = 160 + o2 := ⟨(100 + o2 - l - od) / 2, by omega⟩
        have eN : zam (zmg a) * 2 ^ (160 + o2) = zam (zmg a) * 2 ^ (l + od + 60) * (2 ^ j * 2 ^ j) := by
          rw [← hj, Nat.pow_add, ← Nat.pow_add 2 j j, show 2 * j = j + j by omega, Nat.mul_assoc]
        rw [eN] at s1 s2 ⊢
        have hk := zrd_root (G := G) g4 g5 s1 s2 g6
        rw [show E = G - (j : Int) by omega, hk]
