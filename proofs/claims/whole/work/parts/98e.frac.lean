/-! a number over a power of ten -/
def vN (m : Nat) (E t : Int) : Nat := m * 10 ^ (-t).toNat * 2 ^ E.toNat
def vD (E t : Int) : Nat := 10 ^ t.toNat * 2 ^ (-E).toNat
theorem M_scale47 (t s o c p : Int32) {r : Nat → Int32} (hr : mOK r) {x1 x2 : Int32} {a n : Nat} (ha : a < 6) (h1 : x1.toInt = a) (h2 : x2.toInt = n) (hb : mV r a * 2 ^ n < 2 ^ 2400) : ∃ r', f_M_scale_47 t s o c p r x1 x2 = some r' ∧ mR r r' a (mV r a * 2 ^ n) := by
  obtain ⟨r', t1, R1⟩ := M_shift t s o c p hr ha h1 h2
  unfold f_M_scale_47
  rw [t1, Option.bind_some]
  rw [Nat.mod_eq_of_lt (mTop_big hb)] at R1
  exact ⟨r', rfl, R1⟩
theorem M_scale20 (t s o c p : Int32) {r : Nat → Int32} (hr : mOK r) {x4 s1 s2 : Int32} {a n : Nat} {w : Int} (ha : a < 2) (h1 : s1.toInt = a) (h2 : s2.toInt = n) (h4 : x4.toInt = w) (hw1 : -10000 < w) (hw2 : w < 10000) (hA : (if a = 0 then mV r 0 * 10 ^ n else mV r 0) * 2 ^ w.toNat < 2 ^ 2400) (hB : (if a = 1 then mV r 1 * 10 ^ n else mV r 1) * 2 ^ (-w).toNat < 2 ^ 2400) :
    ∃ r', f_M_scale_20 t s o c p r 0 1 x4 s1 s2 = some r' ∧ mOK r' ∧ mV r' 0 = (if a = 0 then mV r 0 * 10 ^ n else mV r 0) * 2 ^ w.toNat ∧ mV r' 1 = (if a = 1 then mV r 1 * 10 ^ n else mV r 1) * 2 ^ (-w).toNat := by
  have e0 : (0 : Int32).toInt = 0 := rfl
  obtain ⟨r1, t1, R1⟩ := M_tens t s o c p hr (by omega) h1 h2
  have hfit : mV r a * 10 ^ n < mTop := by
    apply mTop_big
    rcases (show a = 0 ∨ a = 1 by omega) with q | q
    · subst q
      rw [if_pos rfl] at hA
      exact Nat.lt_of_le_of_lt (Nat.le_mul_of_pos_right _ (p2pos _)) hA
    · subst q
      rw [if_pos rfl] at hB
      exact Nat.lt_of_le_of_lt (Nat.le_mul_of_pos_right _ (p2pos _)) hB
  rw [Nat.mod_eq_of_lt hfit] at R1
  have v0 : mV r1 0 = if a = 0 then mV r 0 * 10 ^ n else mV r 0 := by
    rcases (show a = 0 ∨ a = 1 by omega) with q | q
    · subst q; rw [if_pos rfl]; exact R1.2.1
    · subst q; rw [if_neg (by decide)]; exact mR_keep R1 (by decide) (by decide)
  have v1 : mV r1 1 = if a = 1 then mV r 1 * 10 ^ n else mV r 1 := by
    rcases (show a = 0 ∨ a = 1 by omega) with q | q
    · subst q; rw [if_neg (by decide)]; exact mR_keep R1 (by decide) (by decide)
    · subst q; rw [if_pos rfl]; exact R1.2.1
  rw [← v0] at hA
  rw [← v1] at hB
  unfold f_M_scale_20 f_M_scale_34
  rw [t1, Option.bind_some, ← v0, ← v1]
  by_cases cw : w < 0
  · rw [if_pos (show x4 < 0 by rw [i_lt, h4, e0]; omega), if_pos (show x4 < 0 by rw [i_lt, h4, e0]; omega)]
    have hn : (-x4).toInt = (((-w).toNat : Nat) : Int) := by rw [i_neg (by omega), h4]; omega
    obtain ⟨r2, t2, R2⟩ := M_scale47 t s o c p R1.1 (x1 := 1) (a := 1) (by decide) rfl hn hB
    refine ⟨r2, t2, R2.1, ?_, R2.2.1⟩
    rw [mR_keep R2 (by decide) (by decide), show w.toNat = 0 by omega, Nat.pow_zero, Nat.mul_one]
  · rw [if_neg (show ¬ x4 < 0 by rw [i_lt, h4, e0]; omega), if_neg (show ¬ x4 < 0 by rw [i_lt, h4, e0]; omega)]
    have hn : x4.toInt = ((w.toNat : Nat) : Int) := by rw [h4]; omega
    obtain ⟨r2, t2, R2⟩ := M_scale47 t s o c p R1.1 (x1 := 0) (a := 0) (by decide) rfl hn hA
    refine ⟨r2, t2, R2.1, R2.2.1, ?_⟩
    rw [mR_keep R2 (by decide) (by decide), show (-w).toNat = 0 by omega, Nat.pow_zero, Nat.mul_one]
theorem M_scale (t s o c p : Int32) {r : Nat → Int32} (hr : mOK r) {x3 x4 : Int32} {u w : Int} (h3 : x3.toInt = u) (hu1 : -10000 < u) (hu2 : u < 10000) (h4 : x4.toInt = w) (hw1 : -10000 < w) (hw2 : w < 10000) (hA : mV r 0 * 10 ^ u.toNat * 2 ^ w.toNat < 2 ^ 2400) (hB : mV r 1 * 10 ^ (-u).toNat * 2 ^ (-w).toNat < 2 ^ 2400) :
    ∃ r', f_M_scale t s o c p r 0 1 x3 x4 = some r' ∧ mOK r' ∧ mV r' 0 = mV r 0 * 10 ^ u.toNat * 2 ^ w.toNat ∧ mV r' 1 = mV r 1 * 10 ^ (-u).toNat * 2 ^ (-w).toNat := by
  have e0 : (0 : Int32).toInt = 0 := rfl
  unfold f_M_scale f_M_scale_10
  by_cases cu : u < 0
  · rw [if_pos (show x3 < 0 by rw [i_lt, h3, e0]; omega), if_pos (show x3 < 0 by rw [i_lt, h3, e0]; omega)]
    have hn : (-x3).toInt = (((-u).toNat : Nat) : Int) := by rw [i_neg (by omega), h3]; omega
    rw [show u.toNat = 0 by omega, Nat.pow_zero, Nat.mul_one] at hA ⊢
    obtain ⟨r1, t1, t2, t3, t4⟩ := M_scale20 t s o c p hr (s1 := 1) (a := 1) (by decide) rfl hn h4 hw1 hw2 (by rw [if_neg (by decide)]; exact hA) (by rw [if_pos rfl]; exact hB)
    rw [if_neg (by decide)] at t3
    rw [if_pos rfl] at t4
    exact ⟨r1, t1, t2, t3, t4⟩
  · rw [if_neg (show ¬ x3 < 0 by rw [i_lt, h3, e0]; omega), if_neg (show ¬ x3 < 0 by rw [i_lt, h3, e0]; omega)]
    have hn : x3.toInt = ((u.toNat : Nat) : Int) := by rw [h3]; omega
    rw [show (-u).toNat = 0 by omega, Nat.pow_zero, Nat.mul_one] at hB ⊢
    obtain ⟨r1, t1, t2, t3, t4⟩ := M_scale20 t s o c p hr (s1 := 0) (a := 0) (by decide) rfl hn h4 hw1 hw2 (by rw [if_pos rfl]; exact hA) (by rw [if_neg (by decide)]; exact hB)
    rw [if_pos rfl] at t3
    rw [if_neg (by decide)] at t4
    exact ⟨r1, t1, t2, t3, t4⟩
theorem v_fits {m a b k : Nat} (hm : m < 2 ^ k) (ha : a ≤ 380) (hk : k + b + 1264 ≤ 2400) : m * 10 ^ a * 2 ^ b < 2 ^ 2400 := by
  have h1 : 10 ^ a ≤ 2 ^ 1264 := Nat.le_trans (p10le ha) (by decide +kernel)
  have h2 : m * 10 ^ a * 2 ^ b ≤ m * 2 ^ 1264 * 2 ^ b := Nat.mul_le_mul_right _ (Nat.mul_le_mul_left _ h1)
  have h3 : m * 2 ^ 1264 * 2 ^ b < 2 ^ k * 2 ^ 1264 * 2 ^ b := (Nat.mul_lt_mul_right (p2pos b)).mpr ((Nat.mul_lt_mul_right (p2pos 1264)).mpr hm)
  rw [← Nat.pow_add, ← Nat.pow_add] at h3
  exact Nat.lt_of_lt_of_le (Nat.lt_of_le_of_lt h2 h3) (p2le (by omega))
theorem M_fraction (t s o c p : Int32) {r : Nat → Int32} (hr : mOK r) {a : Int64} {x3 : Int32} {T : Int} (hfin : zmg a < 9218868437227405312) (h3 : x3.toInt = T) (hT1 : -380 ≤ T) (hT2 : T ≤ 380) :
    ∃ r', f_M_fraction t s o c p r a x3 = some r' ∧ mOK r' ∧ mV r' 0 = vN (zam (zmg a)) ((zep (zmg a) : Int) - 1074) T ∧ mV r' 1 = vD ((zep (zmg a) : Int) - 1074) T := by
  obtain ⟨m, hm1, hm2⟩ := M_amount a
  obtain ⟨e, he1, he2⟩ := M_power a
  have lm : zam (zmg a) < 2 ^ 53 := zam_lt'
  have le := zep_lt hfin
  obtain ⟨r1, t1, R1⟩ := M_set t s o c p hr (a := 0) (x1 := 0) (x2 := m) (by decide) rfl
  obtain ⟨r2, t2, R2⟩ := M_set t s o c p R1.1 (a := 1) (x1 := 1) (x2 := 1) (by decide) rfl
  have e1 : (1 : Int64).toBitVec.toNat = 1 := rfl
  have v0 : mV r2 0 = zam (zmg a) := by rw [mR_keep R2 (by decide) (by decide), R1.2.1, am_bv hm2]
  have v1 : mV r2 1 = 1 := by rw [R2.2.1, e1]
  have hn : (-x3).toInt = -T := by rw [i_neg (by omega), h3]
  obtain ⟨r3, t3, w1, w2, w3⟩ := M_scale t s o c p R2.1 hn (by omega) (by omega) he2 (by omega) (by omega) (by rw [v0]; exact v_fits lm (by omega) (by omega)) (by rw [v1]; exact v_fits (k := 1) (by decide) (by omega) (by omega))
  unfold f_M_fraction
  rw [hm1, Option.bind_some, t1, Option.bind_some, t2, Option.bind_some, he1, Option.bind_some, t3, Option.bind_some]
  refine ⟨r3, rfl, w1, ?_, ?_⟩
  · rw [w2, v0]
    rfl
  · rw [w3, v1, Nat.one_mul, Int.neg_neg]
    rfl
theorem M_against (t s o c p : Int32) {r : Nat → Int32} (hr : mOK r) {x1 x4 : Int64} {x3 x6 : Int32} {v w : Nat} {T E : Int} (h1 : x1.toInt = v) (h4 : x4.toInt = w) (hv : v < 2 ^ 60) (hw : w < 2 ^ 60) (h3 : x3.toInt = T) (hT1 : -380 ≤ T) (hT2 : T ≤ 380) (h6 : x6.toInt = E) (hE1 : -1076 ≤ E) (hE2 : E ≤ 1000) :
    ∃ r', f_M_against t s o c p r x1 x3 x4 x6 = some (zsg (v * 10 ^ T.toNat * 2 ^ (-E).toNat) (w * 10 ^ (-T).toNat * 2 ^ E.toNat), r') ∧ mOK r' := by
  obtain ⟨r1, t1, R1⟩ := M_set t s o c p hr (a := 0) (x1 := 0) (x2 := x1) (by decide) rfl
  obtain ⟨r2, t2, R2⟩ := M_set t s o c p R1.1 (a := 1) (x1 := 1) (x2 := x4) (by decide) rfl
  have v0 : mV r2 0 = v := by rw [mR_keep R2 (by decide) (by decide), R1.2.1, am_bv h1]
  have v1 : mV r2 1 = w := by rw [R2.2.1, am_bv h4]
  have hn : (-x6).toInt = -E := by rw [i_neg (by omega), h6]
  obtain ⟨r3, t3, w1, w2, w3⟩ := M_scale t s o c p R2.1 h3 (by omega) (by omega) hn (by omega) (by omega) (by rw [v0]; exact v_fits hv (by omega) (by omega)) (by rw [v1]; exact v_fits hw (by omega) (by omega))
  unfold f_M_against
  rw [t1, Option.bind_some, t2, Option.bind_some, t3, Option.bind_some, M_order t s o c p w1 (a := 0) (b := 1) (by decide) (by decide) rfl rfl, Option.bind_some, w2, w3, v0, v1, Int.neg_neg]
  exact ⟨r3, rfl, w1⟩
