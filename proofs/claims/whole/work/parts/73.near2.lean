/-! the reference's near -/
theorem M_near234 (t s o c p : Int32) {a s0 : Int64} {v : Nat} (hv : s0.toInt = v) (hv2 : v < 9007199254740992) : f_M_near_234 t s o c p a s0 = some ((a &&& (-9223372036854775808)) ||| lN (zrd v 0 1074)) := by
  unfold f_M_near_234
  by_cases h : v = 0
  · rw [if_pos (by rw [l_eq, hv, h]; rfl), h, zrd_0, or_z]
  · rw [if_neg (by rw [l_eq, hv]; show ¬ _ = (0 : Int); omega), M_scaled (E := 1074) hv (by omega) hv2 rfl (by decide), Option.bind_some]
    rfl
theorem M_near218 (t s o c p : Int32) {a x6 : Int64} {v u : Nat} {s0 : Int32} (hv : x6.toInt = v) (hv2 : v < 4503599627370496) (hs : s0.toInt = u) (hu : u < 2) : f_M_near_218 t s o c p a x6 s0 = some ((a &&& (-9223372036854775808)) ||| lN (zrd (v + u) 0 1074)) := by
  unfold f_M_near_218
  have e1 : (1 : Int64).toInt = 1 := rfl
  have e0 : (0 : Int32).toInt = 0 := rfl
  by_cases h : u = 0
  · rw [if_pos (by rw [i_eq, hs, h]; rfl), M_near234 t s o c p hv (by omega), h, Nat.add_zero]
  · have h1 : u = 1 := by omega
    have h9 : (x6 + 1).toInt = ((v + 1 : Nat) : Int) := by
      rw [l_add, hv, e1] <;> (try rw [hv, e1]) <;> omega
    rw [if_neg (by rw [i_eq, hs, e0]; omega), M_near234 t s o c p h9 (by omega), h1]
theorem M_near141 (t s o c p : Int32) {a x6 x8 : Int64} {x3 : Int32} {neg : Bool} {v rest half w : Nat} (h3 : x3.toInt = w) (hw1 : 0 < w) (hw2 : w < 5) (h6 : x6.toInt = v) (hv2 : v < 4503599627370496) (h8 : x8.toInt = rest) :
    f_M_near_141 t s o c p a x3 (if neg = true then 1 else 0) x6 x8 (if half < rest then 1 else 0) (if rest = half then 1 else 0) = some ((a &&& (-9223372036854775808)) ||| lN (zrd (v + zaw neg rest half w) 0 1074)) := by
  have e1 : (1 : Int32).toInt = 1 := rfl
  have e2 : (2 : Int32).toInt = 2 := rfl
  have e4 : (4 : Int32).toInt = 4 := rfl
  have k1 : x3 = 1 ↔ w = 1 := by rw [i_eq, h3, e1]; omega
  have k2 : x3 = 2 ↔ w = 2 := by rw [i_eq, h3, e2]; omega
  have k4 : x3 = 4 ↔ w = 4 := by rw [i_eq, h3, e4]; omega
  have hr : 0 < x8 ↔ rest ≠ 0 := by
    rw [l_lt, h8]
    show (0 : Int) < _ ↔ _
    omega
  have z1 := M_near218 t s o c p (a := a) (u := 1) (s0 := 1) h6 hv2 rfl (by decide)
  have z0 := M_near218 t s o c p (a := a) (u := 0) (s0 := 0) h6 hv2 rfl (by decide)
  unfold f_M_near_141 f_M_near_164 f_M_near_189 f_M_near_217 f_M_near_213 zaw
  rw [z1, z0]
  by_cases c1 : w = 1
  · rw [if_pos (k1.mpr c1), if_pos c1]
    cases neg
    · rw [if_pos (by decide), if_neg (by simp)]
    · rw [if_neg (by decide)]
      by_cases q : rest = 0
      · rw [if_neg (fun h => hr.mp h q), if_neg (by simp [q])]
      · rw [if_pos (hr.mpr q), if_pos ⟨rfl, q⟩]
  · rw [if_neg (fun q => c1 (k1.mp q)), if_neg c1]
    by_cases c2 : w = 2
    · rw [if_pos (k2.mpr c2), if_pos c2]
      cases neg
      · rw [if_pos (by decide)]
        by_cases q : rest = 0
        · rw [if_neg (fun h => hr.mp h q), if_neg (by simp [q])]
        · rw [if_pos (hr.mpr q), if_pos ⟨rfl, q⟩]
      · rw [if_neg (by decide), if_neg (by simp)]
    · rw [if_neg (fun q => c2 (k2.mp q)), if_neg c2]
      by_cases c3 : w = 3
      · rw [if_neg (fun q => absurd (k4.mp q) (by omega)), if_pos c3]
      · have c4 : w = 4 := by omega
        rw [if_pos (k4.mpr c4), if_neg c3]
        by_cases q : half < rest
        · rw [if_pos q, if_neg i10, if_pos (show half ≤ rest by omega)]
          cases neg
          · rw [if_neg (show ¬ false = true by decide)]
          · rw [if_pos rfl, if_pos q]
        · rw [if_neg q, if_pos rfl]
          by_cases q2 : rest = half
          · rw [if_pos q2, if_neg i10, if_pos (show half ≤ rest by omega)]
            cases neg
            · rw [if_pos (by decide), if_neg (show ¬ false = true by decide)]
            · rw [if_neg (by decide), if_pos rfl, if_neg q]
          · rw [if_neg q2, if_pos rfl, if_neg (show ¬ half ≤ rest by omega), if_neg q]
            cases neg
            · rw [if_neg (show ¬ false = true by decide)]
            · rw [if_pos rfl]
theorem M_near85 (t s o c p : Int32) {a x6 s0 : Int64} {x3 x4 x5 : Int32} {rest n : Nat} (h4 : x4.toInt = n) (hn0 : 0 < n) (h8 : s0.toInt = rest) (hr : rest < 9007199254740992) :
    f_M_near_85 t s o c p a x3 x4 x5 x6 s0 = f_M_near_141 t s o c p a x3 x5 x6 s0 (if 2 ^ (n - 1) < rest then 1 else 0) (if rest = 2 ^ (n - 1) then 1 else 0) := by
  have e60 : (60 : Int32).toInt = 60 := rfl
  have e1 : (1 : Int64).toInt = 1 := rfl
  have e2 : (2 : Int64).toInt = 2 := rfl
  unfold f_M_near_85 f_M_near_112 f_M_near_113 f_M_near_140
  have hd : (2 * s0).toInt = ((2 * rest : Nat) : Int) := by
    rw [l_mul, e2, h8] <;> (try rw [e2, h8]) <;> omega
  by_cases c : 60 ≤ n
  · have c' : (60 : Int32) ≤ x4 := by rw [i_le, e60, h4]; omega
    have hp : 2 ^ 59 ≤ 2 ^ (n - 1) := p2le (by omega)
    have hl : rest < 2 ^ (n - 1) := Nat.lt_of_lt_of_le (Nat.lt_trans hr (by decide)) hp
    rw [if_pos c', if_pos c', if_neg (show ¬ 2 ^ (n - 1) < rest by omega), if_neg (show ¬ rest = 2 ^ (n - 1) by omega)]
  · have c' : ¬ (60 : Int32) ≤ x4 := by rw [i_le, e60, h4]; omega
    have hp : 2 ^ n ≤ 2 ^ 59 := p2le (by omega)
    have h1 : (jlshl 1 x4).toInt = ((2 ^ n : Nat) : Int) := by
      have e3 : (1 : Int64).toInt * ((2 ^ n : Nat) : Int) = ((2 ^ n : Nat) : Int) := by rw [e1, Int.one_mul]
      have b1 : ((2 ^ n : Nat) : Int) ≤ 576460752303423488 := by have h := Int.ofNat_le.mpr hp; generalize ((2 ^ n : Nat) : Int) = P at h ⊢; omega
      have b2 : (0 : Int) ≤ ((2 ^ n : Nat) : Int) := Int.natCast_nonneg _
      exact (l_shl h4 (by omega) (by rw [e3]; omega) (by rw [e3]; omega)).trans e3
    have hpn : 2 ^ n = 2 * 2 ^ (n - 1) := by rw [← Nat.pow_succ']; congr 1; omega
    have k1 : jlshl 1 x4 < 2 * s0 ↔ 2 ^ (n - 1) < rest := by
      rw [l_lt, h1, hd, hpn]
      generalize 2 ^ (n - 1) = P
      omega
    have k2 : 2 * s0 = jlshl 1 x4 ↔ rest = 2 ^ (n - 1) := by
      rw [l_eq, h1, hd, hpn]
      generalize 2 ^ (n - 1) = P
      omega
    rw [if_neg c']
    by_cases q : 2 ^ (n - 1) < rest
    · rw [if_pos (k1.mpr q), if_pos q, if_neg c']
      by_cases q2 : rest = 2 ^ (n - 1)
      · omega
      · rw [if_neg (fun h => q2 (k2.mp h)), if_neg q2]
    · rw [if_neg (fun h => q (k1.mp h)), if_neg q, if_neg c']
      by_cases q2 : rest = 2 ^ (n - 1)
      · rw [if_pos (k2.mpr q2), if_pos q2]
      · rw [if_neg (fun h => q2 (k2.mp h)), if_neg q2]
theorem M_near39 (t s o c p : Int32) {a : Int64} {x3 x4 : Int32} {neg : Bool} {w n : Nat} (h3 : x3.toInt = w) (hw1 : 0 < w) (hw2 : w < 5) (h4 : x4.toInt = n) (hn0 : 0 < n) :
    f_M_near_39 t s o c p a x3 x4 (if neg = true then 1 else 0) = some ((a &&& (-9223372036854775808)) ||| lN (zrd (zam (zmg a) / 2 ^ n + zaw neg (zam (zmg a) % 2 ^ n) (2 ^ (n - 1)) w) 0 1074)) := by
  obtain ⟨m, hm1, hm2⟩ := M_amount a
  have lm := @zam_lt' (zmg a)
  have e60 : (60 : Int32).toInt = 60 := rfl
  unfold f_M_near_39 f_M_near_59
  rw [hm1]
  simp only [Option.bind_some]
  have p1 : 2 ^ 1 ≤ 2 ^ n := p2le (by omega)
  have hv : zam (zmg a) / 2 ^ n < 4503599627370496 := by
    apply Nat.div_lt_of_lt_mul
    generalize 2 ^ n = P at p1 ⊢
    omega
  have hr : zam (zmg a) % 2 ^ n < 9007199254740992 := Nat.lt_of_le_of_lt (Nat.mod_le _ _) lm
  by_cases cn : n ≤ 60
  · have c' : x4 ≤ 60 := by rw [i_le, e60, h4]; omega
    have hs : (jlshr m x4).toInt = ((zam (zmg a) / 2 ^ n : Nat) : Int) := by
      rw [l_shr h4 (by omega), hm2]
      exact (Int.natCast_ediv _ _).symm
    have hdm := Nat.div_add_mod (zam (zmg a)) (2 ^ n)
    have hb : (jlshl (jlshr m x4) x4).toInt = ((zam (zmg a) / 2 ^ n * 2 ^ n : Nat) : Int) := by
      have e : (jlshr m x4).toInt * ((2 ^ n : Nat) : Int) = ((zam (zmg a) / 2 ^ n * 2 ^ n : Nat) : Int) := by rw [hs]; exact (Int.natCast_mul _ _).symm
      have hle : zam (zmg a) / 2 ^ n * 2 ^ n ≤ zam (zmg a) := Nat.div_mul_le_self _ _
      have hk : n < 64 := by omega
      generalize zam (zmg a) / 2 ^ n * 2 ^ n = u at e hle ⊢
      exact (l_shl h4 hk (by rw [e]; omega) (by rw [e]; omega)).trans e
    have hd : (m - jlshl (jlshr m x4) x4).toInt = ((zam (zmg a) % 2 ^ n : Nat) : Int) := by
      rw [Nat.mul_comm] at hdm
      generalize zam (zmg a) / 2 ^ n * 2 ^ n = u at hb hdm
      generalize zam (zmg a) % 2 ^ n = u2 at hdm ⊢
      rw [l_sub, hm2, hb] <;> (try rw [hm2, hb]) <;> omega
    rw [if_pos c', if_pos c', M_near85 t s o c p h4 hn0 hd hr, M_near141 t s o c p h3 hw1 hw2 hs hv hd]
  · have c' : ¬ x4 ≤ 60 := by rw [i_le, e60, h4]; omega
    have p2 : 2 ^ 60 ≤ 2 ^ n := p2le (by omega)
    have l3 : zam (zmg a) < 2 ^ n := Nat.lt_of_lt_of_le (Nat.lt_trans lm (by decide)) p2
    have hs : (0 : Int64).toInt = ((zam (zmg a) / 2 ^ n : Nat) : Int) := by rw [Nat.div_eq_of_lt l3]; rfl
    have hd : m.toInt = ((zam (zmg a) % 2 ^ n : Nat) : Int) := by rw [Nat.mod_eq_of_lt l3]; exact hm2
    rw [if_neg c', if_neg c', M_near85 t s o c p h4 hn0 hd hr, M_near141 t s o c p h3 hw1 hw2 hs hv hd]
theorem same_near (t s o c p : Int32) (a : Int64) {x3 : Int32} {w : Nat} (na : ¬ 9218868437227405312 < zmg a) (h3 : x3.toInt = w) (hw1 : 0 < w) (hw2 : w < 5) : ∃ d, f_H_wholeNear a x3 = some d ∧ f_M_near t s o c p a x3 = some d := by
  obtain ⟨e, he1, he2, he3⟩ := same_expo a
  have e0 : (0 : Int32).toInt = 0 := rfl
  by_cases ia : zmg a = 9218868437227405312
  · unfold f_H_wholeNear f_M_near
    rw [B_isInfinite, M_isInfinite, he2]
    simp only [Option.bind_some]
    rw [if_neg (fun q => zbf.mp q ia), if_neg (fun q => zbf.mp q ia)]
    exact ⟨_, rfl, rfl⟩
  · have fa : zmg a < 9218868437227405312 := by omega
    have hea := zep_lt fa
    have hneg : (-e).toInt = 1074 - (zep (zmg a) : Int) := by rw [i_neg (by omega), he3]; omega
    by_cases hb : 1074 ≤ zep (zmg a)
    · unfold f_H_wholeNear f_M_near
      rw [B_isInfinite, M_isInfinite, M_isZero, he1, he2]
      simp only [Option.bind_some]
      rw [if_pos (zbf.mpr ia), if_pos (zbf.mpr ia), if_neg (show ¬ e < 0 by rw [i_lt, he3, e0]; omega), if_neg (show ¬ 0 < -e by rw [i_lt, hneg, e0]; omega)]
      refine ⟨a, rfl, ?_⟩
      by_cases za : zmg a = 0
      · rw [if_neg (fun q => zbf.mp q za)]
      · rw [if_pos (zbf.mpr za)]
    · obtain ⟨n, hn⟩ : ∃ n, zep (zmg a) + n = 1074 := ⟨1074 - zep (zmg a), by omega⟩
      rw [H_near h3 fa hn (by omega)]
      refine ⟨_, rfl, ?_⟩
      unfold f_M_near
      rw [M_isInfinite, M_isZero, he2]
      simp only [Option.bind_some]
      rw [if_pos (zbf.mpr ia), if_pos (show 0 < -e by rw [i_lt, hneg, e0]; omega)]
      have hn4 : (-e).toInt = (n : Int) := by rw [hneg]; omega
      by_cases za : zmg a = 0
      · rw [if_neg (fun q => zbf.mp q za), za, show zam 0 = 0 from rfl, Nat.zero_div, Nat.zero_mod, Nat.zero_add]
        have hz : zaw (decide (a < 0)) 0 (2 ^ (n - 1)) w = 0 := by
          have hp := p2pos (n - 1)
          unfold zaw
          rw [if_neg (show ¬ (decide (a < 0) = true ∧ (0 : Nat) ≠ 0) from fun q => q.2 rfl), if_neg (show ¬ (decide (a < 0) = false ∧ (0 : Nat) ≠ 0) from fun q => q.2 rfl), if_neg (show ¬ 2 ^ (n - 1) < 0 by omega), if_neg (show ¬ 2 ^ (n - 1) ≤ 0 by omega)]
          repeat' split
          all_goals rfl
        rw [hz, zrd_0, or_z, z_sgn za]
      · rw [if_pos (zbf.mpr za)]
        by_cases q : a < 0
        · rw [if_pos q, decide_eq_true q]
          exact M_near39 t s o c p (neg := true) h3 hw1 hw2 hn4 (by omega)
        · rw [if_neg q, decide_eq_false q]
          exact M_near39 t s o c p (neg := false) h3 hw1 hw2 hn4 (by omega)
