/-! so many digits: the reference -/
theorem M_nearest (t s o c p : Int32) {out r dg : Nat → Int32} (hr : mOK r) {a : Int64} {x3 : Int32} {T : Int} (hfin : zmg a < 9218868437227405312) (h3 : x3.toInt = T) (hT1 : -380 ≤ T) (hT2 : T ≤ 380) (hQ : znr (zam (zmg a)) ((zep (zmg a) : Int) - 1074) T < 10 ^ 419) :
    ∃ n cn' out' r' dg', f_M_nearest t s o c p out r dg a x3 = some (cn', out', r', dg') ∧ mOK r' ∧ eR 420 cn' dg' n (znr (zam (zmg a)) ((zep (zmg a) : Int) - 1074) T) ∧ (n = 0 ∨ 10 ^ (n - 1) ≤ znr (zam (zmg a)) ((zep (zmg a) : Int) - 1074) T) := by
  have lm : zam (zmg a) < 2 ^ 53 := zam_lt'
  have le := zep_lt hfin
  obtain ⟨r1, t1, k1, v0, v1⟩ := M_fraction t s o c p hr hfin h3 hT1 hT2
  have bN : vN (zam (zmg a)) ((zep (zmg a) : Int) - 1074) T < 2 ^ 2300 := by
    unfold vN
    have h1 : 10 ^ (-T).toNat ≤ 2 ^ 1264 := Nat.le_trans (p10le (show (-T).toNat ≤ 380 by omega)) (by decide +kernel)
    have h2 : 2 ^ ((zep (zmg a) : Int) - 1074).toNat ≤ 2 ^ 971 := p2le (by omega)
    have h5 : zam (zmg a) * 10 ^ (-T).toNat * 2 ^ ((zep (zmg a) : Int) - 1074).toNat ≤ 2 ^ 53 * 2 ^ 1264 * 2 ^ 971 := Nat.mul_le_mul (Nat.mul_le_mul (Nat.le_of_lt lm) h1) h2
    rw [← Nat.pow_add, ← Nat.pow_add] at h5
    exact Nat.lt_of_le_of_lt h5 (p2lt (by decide))
  have bD : vD ((zep (zmg a) : Int) - 1074) T < 2 ^ 2340 := by
    unfold vD
    have h1 : 10 ^ T.toNat ≤ 2 ^ 1264 := Nat.le_trans (p10le (show T.toNat ≤ 380 by omega)) (by decide +kernel)
    have h2 : 2 ^ (-((zep (zmg a) : Int) - 1074)).toNat ≤ 2 ^ 1074 := p2le (by omega)
    have h5 := Nat.mul_le_mul h1 h2
    rw [← Nat.pow_add] at h5
    exact Nat.lt_of_le_of_lt h5 (p2lt (by decide))
  have hD := vD_pos ((zep (zmg a) : Int) - 1074) T
  have hQe : znr (zam (zmg a)) ((zep (zmg a) : Int) - 1074) T = (2 * vN (zam (zmg a)) ((zep (zmg a) : Int) - 1074) T + vD ((zep (zmg a) : Int) - 1074) T) / (2 * vD ((zep (zmg a) : Int) - 1074) T) := rfl
  generalize znr (zam (zmg a)) ((zep (zmg a) : Int) - 1074) T = Q at *
  generalize vN (zam (zmg a)) ((zep (zmg a) : Int) - 1074) T = N at *
  generalize vD ((zep (zmg a) : Int) - 1074) T = D at *
  have p40 : (2 : Nat) ^ 2342 = 2 ^ 2340 * 4 := by rw [← Nat.pow_add 2 2340 2]
  have p00 : (2 : Nat) ^ 2300 ≤ 2 ^ 2340 := p2le (by decide)
  have bA : 2 * N + D < 2 ^ 2342 := by
    rw [p40]
    generalize (2 : Nat) ^ 2340 = Z at *
    generalize (2 : Nat) ^ 2300 = Y at *
    omega
  have bB : 2 * D < 2 ^ 2342 := by
    rw [p40]
    generalize (2 : Nat) ^ 2340 = Z at *
    omega
  have mt : ∀ {v : Nat}, v < 2 ^ 2342 → v < mTop := fun h => mTop_big (Nat.lt_trans h (p2lt (by decide)))
  obtain ⟨r2, t2, w1, w2, w3⟩ := M_times t s o c p k1 (a := 0) (m := 2) (p := 0) (x1 := 0) (x2 := 2) (x3 := 0) (by decide) rfl rfl rfl
  have R2 := mR_of (by decide) w1 w2 w3
  have u0 : mV r2 0 = 2 * N := by
    rw [R2.2.1, v0, Nat.add_zero, Nat.mul_comm, Nat.mod_eq_of_lt (mt (by omega))]
  have u1 : mV r2 1 = D := by rw [mR_keep R2 (by decide) (by decide), v1]
  obtain ⟨r3, t3, R3⟩ := M_add t s o c p R2.1 (a := 0) (b := 1) (x1 := 0) (x2 := 1) (by decide) (by decide) (by decide) rfl rfl
  have u2 : mV r3 0 = 2 * N + D := by rw [R3.2.1, u0, u1, Nat.mod_eq_of_lt (mt bA)]
  have u3 : mV r3 1 = D := by rw [mR_keep R3 (by decide) (by decide), u1]
  obtain ⟨r4, t4, w4, w5, w6⟩ := M_times t s o c p R3.1 (a := 1) (m := 2) (p := 0) (x1 := 1) (x2 := 2) (x3 := 0) (by decide) rfl rfl rfl
  have R4 := mR_of (by decide) w4 w5 w6
  have u4 : mV r4 1 = 2 * D := by rw [R4.2.1, u3, Nat.add_zero, Nat.mul_comm, Nat.mod_eq_of_lt (mt bB)]
  have u5 : mV r4 0 = 2 * N + D := by rw [mR_keep R4 (by decide) (by decide), u2]
  obtain ⟨d1, l1, l2⟩ := M_length t s o c p R4.1 (a := 0) (x1 := 0) (by decide) rfl
  obtain ⟨d2, l3, l4⟩ := M_length t s o c p R4.1 (a := 1) (x1 := 1) (by decide) rfl
  rw [u5] at l2
  rw [u4] at l4
  have zA : zlen (2 * N + D) ≤ 2342 := zlen_mono bA
  have zB : zlen (2 * D) ≤ 2342 := zlen_mono bB
  have hdiff : (d1 - d2).toInt = (zlen (2 * N + D) : Int) - zlen (2 * D) := by
    rw [i_sub (by rw [l2, l4]; omega) (by rw [l2, l4]; omega), l2, l4]
  have e0 : (0 : Int32).toInt = 0 := rfl
  have e1 : (1 : Int32).toInt = 1 := rfl
  have key : ∀ (x : Int32) (n : Nat), x.toInt = (n : Int) → 1 ≤ n → zlen (2 * N + D) ≤ zlen (2 * D) + n → zlen (2 * D) + n ≤ 2400 → ∃ n cn' out' r' dg', f_M_nearest_54 t s o c p out r4 dg x = some (cn', out', r', dg') ∧ mOK r' ∧ eR 420 cn' dg' n Q ∧ (n = 0 ∨ 10 ^ (n - 1) ≤ Q) := by
    intro x n hx hn hle hle2
    have hBlt := zlen_lt (2 * D)
    have hBge := zlen_le (n := 2 * D) (by omega)
    have hBp := zlen_pos (n := 2 * D) (by omega)
    obtain ⟨r5, t5, g1, g2, g3, _⟩ := M_quotient t s o c p R4.1 (n := n) hx (by omega) (by rw [u4]; omega) (by
      rw [u4]
      apply mTop_big
      have h1 : 2 * D * 2 ^ n < 2 ^ zlen (2 * D) * 2 ^ n := (Nat.mul_lt_mul_right (p2pos _)).mpr hBlt
      rw [← Nat.pow_add] at h1
      exact Nat.lt_of_lt_of_le h1 (p2le hle2)) (by
      rw [u4, u5]
      have h1 := zlen_lt (2 * N + D)
      have h2 : 2 ^ (zlen (2 * D) - 1) * 2 ^ (n + 1) ≤ 2 * D * 2 ^ (n + 1) := Nat.mul_le_mul_right _ hBge
      rw [← Nat.pow_add] at h2
      have h3 : 2 ^ zlen (2 * N + D) ≤ 2 ^ (zlen (2 * D) - 1 + (n + 1)) := p2le (by omega)
      omega)
    rw [u4, u5, ← hQe] at g2
    obtain ⟨nn, cn', out', r6, dg', q1, q2, q3, q4, _⟩ := M_layRow t s o c p (out := out) (dg := dg) g1 g2 hQ
    unfold f_M_nearest_54
    rw [t5, Option.bind_some, q1, Option.bind_some]
    exact ⟨nn, cn', out', r6, dg', rfl, q2, q3, q4⟩
  unfold f_M_nearest
  rw [t1, Option.bind_some, t2, Option.bind_some, t3, Option.bind_some, t4, Option.bind_some, l1, Option.bind_some, l3, Option.bind_some]
  by_cases cm : zlen (2 * N + D) ≤ zlen (2 * D)
  · rw [if_pos (show d1 - d2 ≤ 0 by rw [i_le, hdiff, e0]; omega)]
    exact key 1 1 rfl (by omega) (by omega) (by omega)
  · rw [if_neg (show ¬ d1 - d2 ≤ 0 by rw [i_le, hdiff, e0]; omega)]
    refine key (d1 - d2 + 1) (zlen (2 * N + D) - zlen (2 * D) + 1) ?_ (by omega) (by omega) (by omega)
    rw [i_add (by rw [hdiff, e1]; omega) (by rw [hdiff, e1]; omega), hdiff, e1]
    omega
/-- between 10^(w-1) and 10^w -/
theorem znr_rng {m : Nat} {E P : Int} (h : isP m E P) {w : Nat} (hw : 0 < w) : 10 ^ (w - 1) ≤ znr m E (P - w) ∧ znr m E (P - w) ≤ 10 ^ w := by
  have hD := vD_pos E P
  have hDk := vD_pos E (P - (w : Int))
  have hv := v_pow m E P w
  have hv1 := v_pow m E (P - 1) (w - 1)
  rw [show P - 1 - ((w - 1 : Nat) : Int) = P - (w : Int) by omega] at hv1
  have hD1 := vD_pos E (P - 1)
  unfold znr
  constructor
  · -- 10^(w-1) * vD ≤ vN
    have h1 : 10 ^ (w - 1) * vD E (P - w) ≤ vN m E (P - w) := by
      have h2 := Nat.mul_le_mul_right (10 ^ (w - 1) * vD E (P - w)) h.2
      have e1 : vN m E (P - 1) * (10 ^ (w - 1) * vD E (P - w)) = vN m E (P - w) * vD E (P - 1) := by rw [← Nat.mul_assoc, hv1]
      rw [e1, Nat.mul_comm (vN m E (P - w))] at h2
      exact Nat.le_of_mul_le_mul_left h2 hD1
    rw [Nat.le_div_iff_mul_le (by omega)]
    generalize vN m E (P - (w : Int)) = N at *
    generalize vD E (P - (w : Int)) = D at *
    rw [Nat.mul_left_comm]
    omega
  · have h1 : vN m E (P - w) < 10 ^ w * vD E (P - w) := by
      have h2 : vN m E P * (10 ^ w * vD E (P - w)) < vD E P * (10 ^ w * vD E (P - w)) := (Nat.mul_lt_mul_right (Nat.mul_pos (p10p _) hDk)).mpr h.1
      rw [← Nat.mul_assoc, hv, Nat.mul_comm (vN m E (P - w))] at h2
      exact Nat.lt_of_mul_lt_mul_left h2
    apply Nat.le_of_lt_succ
    apply Nat.div_lt_of_lt_mul
    generalize vN m E (P - (w : Int)) = N at *
    generalize vD E (P - (w : Int)) = D at *
    generalize 10 ^ w = Z at *
    rw [Nat.succ_eq_add_one, Nat.mul_add, Nat.mul_one, Nat.mul_assoc 2 D Z, Nat.mul_comm D Z]
    omega
theorem dig_n {n w V : Nat} (h1 : V < 10 ^ n) (h2 : n = 0 ∨ 10 ^ (n - 1) ≤ V) (h3 : 10 ^ (w - 1) ≤ V) (hw : 0 < w) (h4 : V < 10 ^ w) : n = w := by
  rcases Nat.lt_or_ge n w with q | q
  · exfalso
    have := p10le (show n ≤ w - 1 by omega)
    omega
  · rcases Nat.lt_or_ge w n with z | z
    · exfalso
      rcases h2 with y | y
      · omega
      · have := p10le (show w ≤ n - 1 by omega)
        omega
    · omega
theorem M_precisely (t s o c p : Int32) {out r dg : Nat → Int32} (hr : mOK r) {a : Int64} {x3 : Int32} {w : Nat} (hfin : zmg a < 9218868437227405312) (hz : zmg a ≠ 0) (h3 : x3.toInt = w) (hw0 : 0 < w) (hw : w ≤ 46) {P : Int} (hP : isP (zam (zmg a)) ((zep (zmg a) : Int) - 1074) P) :
    ∃ cn' pt' out' r' dg', f_M_precisely t s o c p out r dg a x3 = some (cn', pt', out', r', dg') ∧ mOK r' ∧ eR 420 cn' dg' w (zdV (zam (zmg a)) ((zep (zmg a) : Int) - 1074) P w) ∧ pt'.toInt = zdP (zam (zmg a)) ((zep (zmg a) : Int) - 1074) P w := by
  obtain ⟨d, r1, P', t1, t2, t3, t4, t5, t6⟩ := M_decimals t s o c p hr hfin hz
  have hPP := isP_uniq t4 hP
  subst hPP
  have e1 : (1 : Int32).toInt = 1 := rfl
  have hsub : (d - x3).toInt = P' - w := by
    rw [i_sub (by rw [t3, h3]; omega) (by rw [t3, h3]; omega), t3, h3]
  obtain ⟨g1, g2⟩ := znr_rng hP hw0
  have hQ : znr (zam (zmg a)) ((zep (zmg a) : Int) - 1074) (P' - w) < 10 ^ 419 := Nat.lt_of_le_of_lt g2 (Nat.pow_lt_pow_right (by decide) (by omega))
  obtain ⟨n, cn', out', r2, dg', u1, u2, u3, u4⟩ := M_nearest t s o c d (out := out) (dg := dg) t2 hfin hsub (by omega) (by omega) hQ
  unfold f_M_precisely
  rw [t1, Option.bind_some]
  dsimp only
  rw [u1, Option.bind_some]
  dsimp only
  have hcn := u3.1
  unfold zdV zdP
  by_cases cq : znr (zam (zmg a)) ((zep (zmg a) : Int) - 1074) (P' - w) = 10 ^ w
  · have hn : n = w + 1 := dig_n u3.2.2.1 u4 (by rw [cq]; exact Nat.le_refl _) (by omega) (by rw [cq]; exact Nat.pow_lt_pow_right (by decide) (by omega))
    subst hn
    rw [if_neg (show ¬ cn' ≤ x3 by rw [i_le, hcn, h3]; omega)]
    refine ⟨x3, d + 1, out', r2, dg', rfl, u2, ?_, ?_⟩
    · rw [if_pos cq]
      rw [cq] at u3
      obtain ⟨v, rfl⟩ : ∃ v, w = v + 1 := ⟨w - 1, by omega⟩
      have hd := eR_drop u3 (by rw [Nat.pow_succ]; exact Nat.mul_mod_left _ _) h3
      rw [Nat.pow_succ, Nat.mul_div_cancel _ (by decide)] at hd
      rw [Nat.add_sub_cancel]
      exact hd
    · rw [if_pos cq, i_add (by rw [t3, e1]; omega) (by rw [t3, e1]; omega), t3, e1]
  · have hn : n = w := dig_n u3.2.2.1 u4 g1 hw0 (by omega)
    subst hn
    rw [if_pos (show cn' ≤ x3 by rw [i_le, hcn, h3]; omega)]
    exact ⟨cn', d, out', r2, dg', rfl, u2, by rw [if_neg cq]; exact u3, by rw [if_neg cq]; exact t3⟩
