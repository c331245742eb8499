/-! class and reference: floor, ceiling, cut, nearest -/
def zaw (neg : Bool) (rest half w : Nat) : Nat := if w = 1 then (if neg = true ∧ rest ≠ 0 then 1 else 0) else if w = 2 then (if neg = false ∧ rest ≠ 0 then 1 else 0) else if w = 3 then 0 else if neg = true then (if half < rest then 1 else 0) else (if half ≤ rest then 1 else 0)
theorem zaw_small {neg : Bool} {rest h1 h2 w : Nat} (a1 : rest < h1) (a2 : rest < h2) : zaw neg rest h1 w = zaw neg rest h2 w := by
  unfold zaw
  rw [if_neg (show ¬ h1 < rest by omega), if_neg (show ¬ h2 < rest by omega), if_neg (show ¬ h1 ≤ rest by omega), if_neg (show ¬ h2 ≤ rest by omega)]
theorem zaw_lt (neg : Bool) (rest half w : Nat) : zaw neg rest half w < 2 := by
  unfold zaw
  repeat' split
  all_goals decide
theorem H_goes {neg : Bool} {x1 x3 : Int64} {x5 : Int32} {rest half w : Nat} (h1 : x1.toInt = rest) (h3 : x3.toInt = half) (h5 : x5.toInt = w) : f_H_goesAway (if neg = true then 1 else 0) x1 x3 x5 = some (nI (zaw neg rest half w)) := by
  have e1 : (1 : Int32).toInt = 1 := rfl
  have e2 : (2 : Int32).toInt = 2 := rfl
  have e3 : (3 : Int32).toInt = 3 := rfl
  have hr : x1 = 0 ↔ rest = 0 := by
    rw [l_eq, h1]
    show ((rest : Int) = 0) ↔ _
    omega
  have k1 : x5 = 1 ↔ w = 1 := by rw [i_eq, h5, e1]; omega
  have k2 : x5 = 2 ↔ w = 2 := by rw [i_eq, h5, e2]; omega
  have k3 : x5 = 3 ↔ w = 3 := by rw [i_eq, h5, e3]; omega
  have l1 : x1 < x3 ↔ rest < half := by rw [l_lt, h1, h3]; omega
  have l2 : x3 < x1 ↔ half < rest := by rw [l_lt, h1, h3]; omega
  unfold f_H_goesAway zaw
  by_cases c1 : w = 1
  · rw [if_pos (k1.mpr c1), if_pos c1]
    cases neg
    · rw [if_pos (by decide), if_neg (by simp)]; rfl
    · rw [if_neg (by decide)]
      by_cases c : rest = 0
      · rw [if_pos (hr.mpr c), if_neg (by simp [c])]; rfl
      · rw [if_neg (fun q => c (hr.mp q)), if_pos ⟨rfl, c⟩]; rfl
  · rw [if_neg (fun q => c1 (k1.mp q)), if_neg c1]
    by_cases c2 : w = 2
    · rw [if_pos (k2.mpr c2), if_pos c2]
      cases neg
      · rw [if_pos (by decide)]
        by_cases c : rest = 0
        · rw [if_pos (hr.mpr c), if_neg (by simp [c])]; rfl
        · rw [if_neg (fun q => c (hr.mp q)), if_pos ⟨rfl, c⟩]; rfl
      · rw [if_neg (by decide), if_neg (by simp)]; rfl
    · rw [if_neg (fun q => c2 (k2.mp q)), if_neg c2]
      by_cases c3 : w = 3
      · rw [if_pos (k3.mpr c3), if_pos c3]; rfl
      · rw [if_neg (fun q => c3 (k3.mp q)), if_neg c3]
        cases neg
        · rw [if_pos (by decide), if_neg (show ¬ false = true by decide)]
          by_cases c : rest < half
          · rw [if_pos (l1.mpr c), if_neg (show ¬ half ≤ rest by omega)]; rfl
          · rw [if_neg (fun q => c (l1.mp q)), if_pos (show half ≤ rest by omega)]; rfl
        · rw [if_neg (by decide), if_pos rfl]
          by_cases c : half < rest
          · rw [if_pos (l2.mpr c), if_pos c]; rfl
          · rw [if_neg (fun q => c (l2.mp q)), if_neg c]; rfl
theorem nI_bit {n : Nat} (h : n < 2) : (nI n = 0 ↔ n = 0) := by
  rcases Nat.lt_or_ge 0 n with q | q
  · have : n = 1 := by omega
    subst this
    exact ⟨fun h => absurd h (by decide), fun h => absurd h (by decide)⟩
  · have : n = 0 := by omega
    subst this
    exact ⟨fun _ => rfl, fun _ => rfl⟩
theorem H_near60 {a : Int64} {x2 x3 : Int32} {x6 x8 : Int64} {neg : Bool} {rest cut w sh : Nat} (h2 : x2.toInt = w) (h3 : x3.toInt = sh) (hs0 : 0 < sh) (hs : sh ≤ 60) (h6 : x6.toInt = rest) (h8 : x8.toInt = cut) (hc : cut < 9007199254740992) :
    f_H_wholeNear_60 a x2 x3 x6 x8 (if neg = true then 1 else 0) = some ((a &&& (-9223372036854775808)) ||| lN (zrd (cut + zaw neg rest (2 ^ (sh - 1)) w) 0 1074)) := by
  have e1 : (1 : Int64).toInt = 1 := rfl
  have ei1 : (1 : Int32).toInt = 1 := rfl
  have hs1 : (x3 - 1).toInt = ((sh - 1 : Nat) : Int) := by
    rw [i_sub, h3, ei1] <;> (try rw [h3, ei1]) <;> omega
  have hp : 2 ^ (sh - 1) ≤ 2 ^ 59 := p2le (by omega)
  have hhalf : (jlshl 1 (x3 - 1)).toInt = ((2 ^ (sh - 1) : Nat) : Int) := by
    have e3 : (1 : Int64).toInt * ((2 ^ (sh - 1) : Nat) : Int) = ((2 ^ (sh - 1) : Nat) : Int) := by rw [e1, Int.one_mul]
    have b1 : ((2 ^ (sh - 1) : Nat) : Int) ≤ 576460752303423488 := by have h := Int.ofNat_le.mpr hp; generalize ((2 ^ (sh - 1) : Nat) : Int) = P at h ⊢; omega
    have b2 : (0 : Int) ≤ ((2 ^ (sh - 1) : Nat) : Int) := Int.natCast_nonneg _
    exact (l_shl hs1 (by omega) (by rw [e3]; omega) (by rw [e3]; omega)).trans e3
  unfold f_H_wholeNear_60 f_H_wholeNear_92
  rw [H_goes h6 hhalf h2, Option.bind_some]
  have hz := zaw_lt neg rest (2 ^ (sh - 1)) w
  generalize zaw neg rest (2 ^ (sh - 1)) w = u at hz ⊢
  by_cases c : u = 0
  · rw [if_pos ((nI_bit hz).mpr c), c, Nat.add_zero, B_round' (E := 1074) h8 rfl (by decide) (by decide), Option.bind_some]
  · have c1 : u = 1 := by omega
    have h9 : (x8 + 1).toInt = ((cut + 1 : Nat) : Int) := by
      rw [l_add, h8, e1] <;> (try rw [h8, e1]) <;> omega
    rw [if_neg (fun q => c ((nI_bit hz).mp q)), c1, B_round' (E := 1074) h9 rfl (by decide) (by decide), Option.bind_some]
theorem H_near {a : Int64} {x2 : Int32} {w n : Nat} (h2 : x2.toInt = w) (hfin : zmg a < 9218868437227405312) (hn : zep (zmg a) + n = 1074) (hn0 : 0 < n) :
    f_H_wholeNear a x2 = some ((a &&& (-9223372036854775808)) ||| lN (zrd (zam (zmg a) / 2 ^ n + zaw (decide (a < 0)) (zam (zmg a) % 2 ^ n) (2 ^ (n - 1)) w) 0 1074)) := by
  obtain ⟨e, he1, he2⟩ := B_exponent a
  obtain ⟨m, hm1, hm2⟩ := B_mantissa a
  have lm := @zam_lt' (zmg a)
  have e0 : (0 : Int32).toInt = 0 := rfl
  have e60 : (60 : Int32).toInt = 60 := rfl
  unfold f_H_wholeNear
  rw [B_isInfinite, he1, hm1]
  simp only [Option.bind_some]
  rw [if_pos (zbf.mpr (show ¬ zmg a = 9218868437227405312 by omega)), if_pos (show e < 0 by rw [i_lt, he2, e0]; omega)]
  have hneg : (-e).toInt = (n : Int) := by rw [i_neg (by omega), he2]; omega
  obtain ⟨sh, hsh⟩ : ∃ sh : Nat, sh = min n 60 := ⟨_, rfl⟩
  have hs : (if 60 < (-e) then 60 else (-e)).toInt = (sh : Int) := by
    by_cases c : (60 : Int32) < -e
    · rw [if_pos c, e60]
      rw [i_lt, e60, hneg] at c
      omega
    · rw [if_neg c, hneg]
      rw [i_lt, e60, hneg] at c
      omega
  generalize (if 60 < (-e) then 60 else (-e)) = x3 at hs ⊢
  have h6 := B_mask hs (by omega) (by omega) hm2
  have h8 := B_ushr hs (by omega) hm2
  have hcut : zam (zmg a) / 2 ^ sh < 9007199254740992 := Nat.lt_of_le_of_lt (Nat.div_le_self _ _) lm
  have hboth : zam (zmg a) / 2 ^ sh = zam (zmg a) / 2 ^ n ∧ (∀ neg, zaw neg (zam (zmg a) % 2 ^ sh) (2 ^ (sh - 1)) w = zaw neg (zam (zmg a) % 2 ^ n) (2 ^ (n - 1)) w) := by
    rcases Nat.lt_or_ge 60 n with q | q
    · have es : sh = 60 := by omega
      subst es
      have p1 : 2 ^ 59 ≤ 2 ^ (n - 1) := p2le (by omega)
      have p2 : 2 ^ 60 ≤ 2 ^ n := p2le (by omega)
      have l1 : zam (zmg a) < 2 ^ 59 := Nat.lt_trans lm (by decide)
      have l2 : zam (zmg a) < 2 ^ 60 := Nat.lt_trans lm (by decide)
      have l3 : zam (zmg a) < 2 ^ n := Nat.lt_of_lt_of_le l2 p2
      rw [Nat.div_eq_of_lt l2, Nat.div_eq_of_lt l3, Nat.mod_eq_of_lt l2, Nat.mod_eq_of_lt l3]
      exact ⟨rfl, fun neg => zaw_small l1 (Nat.lt_of_lt_of_le l1 p1)⟩
    · have es : sh = n := by omega
      subst es
      exact ⟨rfl, fun _ => rfl⟩
  rw [← hboth.1, ← hboth.2]
  by_cases c : a < 0
  · rw [if_pos c, decide_eq_true c]
    exact H_near60 (neg := true) h2 hs (by omega) (by omega) h6 h8 hcut
  · rw [if_neg c, decide_eq_false c]
    exact H_near60 (neg := false) h2 hs (by omega) (by omega) h6 h8 hcut
