/-! so many digits: the class -/
theorem feq_div {X S N D : Nat} (hS : 0 < S) (hD : 0 < D) (h : X * D = N * S) : X / S = N / D := by
  have h1 : X * D / (S * D) = X / S := Nat.mul_div_mul_right _ _ hD
  have h2 : N * S / (D * S) = N / D := Nat.mul_div_mul_right _ _ hS
  rw [← h1, ← h2, h, Nat.mul_comm S D]
def znr (m : Nat) (E t : Int) : Nat := (2 * vN m E t + vD E t) / (2 * vD E t)
theorem feq_nr {X S : Nat} {m : Nat} {E t : Int} (hS : 0 < S) (h : X * vD E t = vN m E t * S) : (2 * X + S) / (2 * S) = znr m E t := by
  unfold znr
  have hD := vD_pos E t
  apply feq_div (by omega) (by omega)
  generalize vD E t = D at *
  generalize vN m E t = N at *
  have e1 : (2 * X + S) * (2 * D) = 4 * (X * D) + 2 * (S * D) := by
    rw [Nat.add_mul, Nat.mul_mul_mul_comm, Nat.mul_left_comm S 2 D]
  have e2 : (2 * N + D) * (2 * S) = 4 * (N * S) + 2 * (D * S) := by
    rw [Nat.add_mul, Nat.mul_mul_mul_comm, Nat.mul_left_comm D 2 S]
  rw [e1, e2, h, Nat.mul_comm S D]
theorem v_pow (m : Nat) (E P : Int) : ∀ k : Nat, vN m E P * 10 ^ k * vD E (P - k) = vN m E (P - k) * vD E P
  | 0 => by
    rw [Nat.pow_zero, Nat.mul_one, show P - ((0 : Nat) : Int) = P by omega]
  | k + 1 => by
    have ih := v_pow m E P k
    have hs := v_step m E (P - ((k + 1 : Nat) : Int))
    rw [show P - ((k + 1 : Nat) : Int) + 1 = P - (k : Int) by omega] at hs
    have hD := vD_pos E (P - (k : Int))
    apply Nat.eq_of_mul_eq_mul_right hD
    generalize vN m E (P - (k : Int)) = N1 at *
    generalize vD E (P - (k : Int)) = D1 at *
    generalize vN m E (P - ((k + 1 : Nat) : Int)) = N2 at *
    generalize vD E (P - ((k + 1 : Nat) : Int)) = D2 at *
    generalize vN m E P = N0 at *
    generalize vD E P = D0 at *
    rw [Nat.pow_succ, ← Nat.mul_assoc N0, Nat.mul_right_comm N2 D0 D1, hs]
    have e : N0 * 10 ^ k * 10 * D2 * D1 = 10 * (N0 * 10 ^ k * D1) * D2 := by
      generalize N0 * 10 ^ k = z
      rw [Nat.mul_comm z 10, Nat.mul_right_comm (10 * z) D2 D1, Nat.mul_assoc 10 z D1]
    rw [e, ih, ← Nat.mul_assoc 10 N1, Nat.mul_right_comm (10 * N1) D0 D2]
theorem feq_pow {R S m : Nat} {E P : Int} (h : R * vD E P = vN m E P * S) (k : Nat) : R * 10 ^ k * vD E (P - k) = vN m E (P - k) * S := by
  have hv := v_pow m E P k
  apply Nat.eq_of_mul_eq_mul_right (vD_pos E P)
  rw [Nat.mul_right_comm, Nat.mul_right_comm R, h, Nat.mul_right_comm (vN m E (P - k)), ← hv]
  generalize vN m E P = N0
  generalize vD E (P - (k : Int)) = D2
  generalize 10 ^ k = z
  rw [Nat.mul_right_comm N0 S z, Nat.mul_right_comm (N0 * z) S D2]
theorem E_twice {cn pt ru su uu : Int32} {rl sl ul : Nat → Int32} {R S : Nat} (hR : nR ru rl R) (hS : nR su sl S) (hb : R + R < 1073741824 ^ 48) : ∃ uu' ul', f_E_twiceRestToScale cn pt ru rl su sl uu ul = some (zsg (R + R) S, uu', ul') := by
  obtain ⟨l1, t1, t2⟩ := N_copy (us := uu) (l := ul) hR
  obtain ⟨u2, l2, t3, t4⟩ := N_add t2 hR hb
  unfold f_E_twiceRestToScale
  rw [t1, Option.bind_some]
  dsimp only
  rw [t3, Option.bind_some]
  dsimp only
  rw [N_order t4 hS, Option.bind_some]
  exact ⟨_, _, rfl⟩
theorem dig_next {R S k : Nat} (hS : 0 < S) : 10 * (R * 10 ^ k / S) + R * 10 ^ k % S * 10 / S = R * 10 ^ (k + 1) / S ∧ R * 10 ^ k % S * 10 % S = R * 10 ^ (k + 1) % S ∧ R * 10 ^ k % S * 10 / S < 10 := by
  have e : R * 10 ^ (k + 1) = R * 10 ^ k % S * 10 + S * (10 * (R * 10 ^ k / S)) := by
    have h := Nat.div_add_mod (R * 10 ^ k) S
    rw [Nat.pow_succ, ← Nat.mul_assoc R, Nat.mul_left_comm S 10]
    generalize S * (R * 10 ^ k / S) = x at h ⊢
    omega
  have hm := Nat.mod_lt (R * 10 ^ k) hS
  refine ⟨?_, ?_, ?_⟩
  · rw [e, Nat.add_mul_div_left _ _ hS, Nat.add_comm]
  · rw [e, Nat.add_mul_mod_self_left]
  · apply Nat.div_lt_of_lt_mul
    exact (Nat.mul_lt_mul_right (by decide)).mpr hm
theorem lt_pow {R S k : Nat} (hRS : R < S) : R * 10 ^ k / S < 10 ^ k := by
  apply Nat.div_lt_of_lt_mul
  exact (Nat.mul_lt_mul_right (p10p k)).mpr hRS
theorem half_up {X S : Nat} (hS : 0 < S) : (2 * X + S) / (2 * S) = if S ≤ 2 * (X % S) then X / S + 1 else X / S := by
  have h := Nat.div_add_mod X S
  have hm := Nat.mod_lt X hS
  have e : 2 * X + S = (2 * (X % S) + S) + 2 * S * (X / S) := by
    rw [Nat.mul_assoc]
    generalize S * (X / S) = y at h ⊢
    omega
  rw [e, Nat.add_mul_div_left _ _ (by omega)]
  by_cases c : S ≤ 2 * (X % S)
  · rw [if_pos c]
    have : (2 * (X % S) + S) / (2 * S) = 1 := Nat.div_eq_of_lt_le (by omega) (by omega)
    omega
  · rw [if_neg c, Nat.div_eq_of_lt (by omega), Nat.zero_add]
theorem E_takeDigits {cn pt ru su uu : Int32} {dg rl sl ul : Nat → Int32} {R S n w : Nat} {P : Int} (hR : nR ru rl R) (hS : nR su sl S) (hRS : R < S) (hn : su.toInt = ((n + 1 : Nat) : Int)) (hz : zlen S = 30 * (n + 1)) (hn42 : n < 42) (hc : cn = 0) (hpt : pt.toInt = P) (hP1 : -10000 < P) (hP2 : P < 10000) {x : Int32} (hx : x.toInt = w) (hw : w ≤ 46) :
    ∃ cn' pt' dg' y, f_E_takeDigits cn pt dg ru rl su sl uu ul x = some (cn', pt', dg', y) ∧ eR 48 cn' dg' (if (2 * (R * 10 ^ w) + S) / (2 * S) = 10 ^ w then w + 1 else w) ((2 * (R * 10 ^ w) + S) / (2 * S)) ∧ pt'.toInt = (if (2 * (R * 10 ^ w) + S) / (2 * S) = 10 ^ w then P + 1 else P) := by
  have hS0 : 0 < S := by omega
  have fit : ∀ {v k : Nat}, v < S → k ≤ 30 → v * 2 ^ k < 1073741824 ^ 48 := by
    intro v k hv hk
    have : zlen v ≤ 30 * (n + 1) := by rw [← hz]; exact zlen_mono (Nat.lt_trans hv (zlen_lt S))
    exact n_fits this (by omega)
  subst hc
  unfold f_E_takeDigits f_E_takeDigits_2
  obtain ⟨⟨cn', pt', dg', y⟩, h1, h2, h3⟩ := zrun_inv (step := f_E_takeDigits_2_step su sl x) (x := (0, pt, dg, ru, rl, uu, ul, 0)) (fun z => z.2.1 = pt ∧ ∃ k : Nat, k ≤ w ∧ z.2.2.2.2.2.2.2.toInt = (k : Int) ∧ eR 48 z.1 z.2.2.1 k (R * 10 ^ k / S) ∧ nR z.2.2.2.1 z.2.2.2.2.1 (R * 10 ^ k % S)) (fun z => (w - z.2.2.2.2.2.2.2.toInt).toNat) (fun y => eR 48 y.1 y.2.2.1 (if (2 * (R * 10 ^ w) + S) / (2 * S) = 10 ^ w then w + 1 else w) ((2 * (R * 10 ^ w) + S) / (2 * S)) ∧ y.2.1.toInt = (if (2 * (R * 10 ^ w) + S) / (2 * S) = 10 ^ w then P + 1 else P)) (by
    rintro ⟨c1, p1, d1, r1, rl1, u1, ul1, x1⟩ ⟨q1, k, hk, hx1, hE, hN⟩
    dsimp only at q1 hx1 hE hN
    subst q1
    unfold f_E_takeDigits_2_step f_E_takeDigits_2_body
    dsimp only
    have hml : R * 10 ^ k % S < S := Nat.mod_lt _ hS0
    by_cases ck : k = w
    · subst ck
      rw [if_pos (show x ≤ x1 by rw [i_le, hx, hx1]; omega)]
      unfold f_E_takeDigits_38
      have hb : R * 10 ^ k % S + R * 10 ^ k % S < 1073741824 ^ 48 := by
        have := fit hml (k := 1) (by decide)
        rw [Nat.pow_one] at this
        omega
      obtain ⟨u2, l2, t1⟩ := E_twice (cn := c1) (pt := p1) (uu := u1) (ul := ul1) hN hS hb
      rw [t1, Option.bind_some]
      dsimp only
      have hlt := lt_pow (k := k) hRS
      rw [half_up hS0]
      by_cases cu : S ≤ 2 * (R * 10 ^ k % S)
      · rw [if_neg (fun z => absurd (zsg_lt.mp z) (by omega)), if_pos cu]
        obtain ⟨c2, p2, d2, v1, v2, v3⟩ := E_countUp hE (by omega) hpt (by omega) (by omega)
        rw [v1, Option.bind_some]
        exact Or.inr ⟨_, rfl, v2, v3⟩
      · rw [if_pos (zsg_lt.mpr (by omega)), if_neg cu, if_neg (show ¬ R * 10 ^ k / S = 10 ^ k by omega), if_neg (show ¬ R * 10 ^ k / S = 10 ^ k by omega)]
        exact Or.inr ⟨_, rfl, hE, hpt⟩
    · rw [if_neg (show ¬ x ≤ x1 by rw [i_le, hx, hx1]; omega)]
      obtain ⟨g1, g2, g3⟩ := dig_next (R := R) (k := k) hS0
      have hb10 : R * 10 ^ k % S * 10 + 0 < 1073741824 ^ 48 := by
        have h4 := fit hml (k := 4) (by decide)
        have e16 : (2 : Nat) ^ 4 = 16 := rfl
        rw [e16] at h4
        omega
      obtain ⟨r2, rl2, t1, t2⟩ := N_mulAdd hN (x1 := 10) (x2 := 0) (f := 10) (a := 0) rfl rfl (by decide) (by decide) (by decide) hb10
      rw [Nat.add_zero] at t2
      have hlt : R * 10 ^ k % S * 10 < S * 1048576 := by
        have : R * 10 ^ k % S * 10 < S * 10 := (Nat.mul_lt_mul_right (by decide)).mpr hml
        omega
      obtain ⟨dd, r3, rl3, t3, t4, t5⟩ := N_divRest t2 hS hn hz hlt
      obtain ⟨c2, d2, t6, t7⟩ := E_append (pt := p1) hE (by omega) t4 g3
      rw [t1, Option.bind_some]
      dsimp only
      rw [t3, Option.bind_some]
      dsimp only
      rw [t6, Option.bind_some]
      have hs : (x1 + 1).toInt = ((k + 1 : Nat) : Int) := i_suc hx1 (by omega)
      rw [g1] at t7
      rw [g2] at t5
      exact Or.inl ⟨_, rfl, ⟨rfl, k + 1, by omega, hs, t7, t5⟩, by dsimp only; rw [hs, hx1]; exact mu_up (by omega)⟩) ⟨rfl, 0, Nat.zero_le _, rfl, by
        rw [Nat.pow_zero, Nat.mul_one, Nat.div_eq_of_lt hRS]
        exact eR_0 48 dg, by
        rw [Nat.pow_zero, Nat.mul_one, Nat.mod_eq_of_lt hRS]
        exact hR⟩
  exact ⟨cn', pt', dg', y, h1, h2, h3⟩
/-- what many digits are: their value, and the point's place -/
def zdV (m : Nat) (E P : Int) (w : Nat) : Nat := if znr m E (P - w) = 10 ^ w then 10 ^ (w - 1) else znr m E (P - w)
def zdP (m : Nat) (E P : Int) (w : Nat) : Int := if znr m E (P - w) = 10 ^ w then P + 1 else P
theorem isP_RS {m R S : Nat} {E P : Int} (h : isP m E P) (hf : R * vD E P = vN m E P * S) (hS : 0 < S) : R < S := by
  rcases Nat.lt_or_ge R S with q | q
  · exact q
  · have h1 : vN m E P * S < vD E P * S := (Nat.mul_lt_mul_right hS).mpr h.1
    have h2 : S * vD E P ≤ R * vD E P := Nat.mul_le_mul_right _ q
    rw [hf, Nat.mul_comm S] at h2
    omega
theorem E_makeDigits {cn pt ru su bu uu : Int32} {dg rl sl bl ul : Nat → Int32} {x : Int64} {x3 : Int32} {w : Nat} (hfin : zmg x < 9218868437227405312) (hz : zmg x ≠ 0) (h3 : x3.toInt = w) (hw0 : 0 < w) (hw : w ≤ 46) :
    ∃ cn' pt' dg' y P, isP (zam (zmg x)) ((zep (zmg x) : Int) - 1074) P ∧ -326 ≤ P ∧ P ≤ 310 ∧ f_E_makeDigits cn pt dg ru rl su sl bu bl uu ul x x3 = some (cn', pt', dg', y) ∧ eR 48 cn' dg' w (zdV (zam (zmg x)) ((zep (zmg x) : Int) - 1074) P w) ∧ pt'.toInt = zdP (zam (zmg x)) ((zep (zmg x) : Int) - 1074) P w := by
  obtain ⟨pt1, r1, rl1, s1, sl1, b1, bl1, P, R, S, B, n, t1, t2, t3, t4, t5, t6, t7, t8, t9, t10, t11, t12, t13, t14, t15⟩ := E_begin (cn := cn) (pt := pt) (ru := ru) (su := su) (bu := bu) (rl := rl) (sl := sl) (bl := bl) hfin hz
  have hRS := isP_RS t3 t10 t11
  obtain ⟨c2, p2, d2, ⟨y1, y2, y3, y4⟩, u1, u2, u3⟩ := E_takeDigits (uu := uu) (ul := ul) (dg := dg) t6 t7 hRS t14 t13 t15 rfl t2 (by omega) (by omega) h3 hw
  have hnr := feq_nr t11 (feq_pow t10 w)
  rw [hnr] at u2 u3
  unfold f_E_makeDigits
  rw [t1, Option.bind_some]
  dsimp only
  rw [u1, Option.bind_some]
  dsimp only
  have hc2 := u2.1
  unfold zdV zdP
  by_cases c : znr (zam (zmg x)) ((zep (zmg x) : Int) - 1074) (P - w) = 10 ^ w
  · rw [if_pos c] at u2 u3 hc2
    rw [if_pos (show x3 < c2 by rw [i_lt, h3, hc2]; omega)]
    refine ⟨x3, p2, d2, _, P, t3, t4, t5, rfl, ?_, ?_⟩
    · rw [if_pos c]
      rw [c] at u2
      obtain ⟨v, rfl⟩ : ∃ v, w = v + 1 := ⟨w - 1, by omega⟩
      have hd := eR_drop u2 (by rw [Nat.pow_succ]; exact Nat.mul_mod_left _ _) h3
      rw [Nat.pow_succ, Nat.mul_div_cancel _ (by decide)] at hd
      rw [Nat.add_sub_cancel]
      exact hd
    · rw [if_pos c]
      exact u3
  · rw [if_neg c] at u2 u3 hc2
    rw [if_neg (show ¬ x3 < c2 by rw [i_lt, h3, hc2]; omega)]
    refine ⟨c2, p2, d2, _, P, t3, t4, t5, rfl, ?_, ?_⟩
    · rw [if_neg c]
      exact u2
    · rw [if_neg c]
      exact u3
/-- digits down to so many places: value, how many, and the point's place -/
theorem E_makePlaces {cn pt ru su bu uu : Int32} {dg rl sl bl ul : Nat → Int32} {x : Int64} {x3 : Int32} {pl : Nat} (hfin : zmg x < 9218868437227405312) (hz : zmg x ≠ 0) (h3 : x3.toInt = pl) (hpl : pl ≤ 20) (hsm : vN (zam (zmg x)) ((zep (zmg x) : Int) - 1074) 21 < vD ((zep (zmg x) : Int) - 1074) 21) :
    ∃ cn' pt' dg' y c Q, f_E_makePlaces cn pt dg ru rl su sl bu bl uu ul x x3 = some (cn', pt', dg', y) ∧ eR 48 cn' dg' c (znr (zam (zmg x)) ((zep (zmg x) : Int) - 1074) (-(pl : Int))) ∧ pt'.toInt = Q ∧ ((c : Int) = Q + pl ∨ (c = 0 ∧ Q + pl < 0)) ∧ Q ≤ 22 ∧ -330 < Q := by
  obtain ⟨pt1, r1, rl1, s1, sl1, b1, bl1, P, R, S, B, n, t1, t2, t3, t4, t5, t6, t7, t8, t9, t10, t11, t12, t13, t14, t15⟩ := E_begin (cn := cn) (pt := pt) (ru := ru) (su := su) (bu := bu) (rl := rl) (sl := sl) (bl := bl) hfin hz
  have hRS := isP_RS t3 t10 t11
  have hP21 := isP_le t3 hsm
  have e0 : (0 : Int32).toInt = 0 := rfl
  have hsum : (pt1 + x3).toInt = P + pl := by
    rw [i_add (by rw [t2, h3]; omega) (by rw [t2, h3]; omega), t2, h3]
  unfold f_E_makePlaces
  rw [t1, Option.bind_some]
  dsimp only
  by_cases c : P + pl < 0
  · rw [if_pos (show pt1 + x3 < 0 by rw [i_lt, hsum, e0]; omega)]
    have hQ : znr (zam (zmg x)) ((zep (zmg x) : Int) - 1074) (-(pl : Int)) = 0 := by
      have hlt : vN (zam (zmg x)) ((zep (zmg x) : Int) - 1074) (-(pl : Int) - 1) < vD ((zep (zmg x) : Int) - 1074) (-(pl : Int) - 1) := by
        obtain ⟨k, hk⟩ : ∃ k : Nat, -(pl : Int) - 1 = P + k := ⟨(-(pl : Int) - 1 - P).toNat, by omega⟩
        rw [hk]
        exact v_mono t3.1 k
      have hs := v_step (zam (zmg x)) ((zep (zmg x) : Int) - 1074) (-(pl : Int) - 1)
      rw [show -(pl : Int) - 1 + 1 = -(pl : Int) by omega] at hs
      have hD := vD_pos ((zep (zmg x) : Int) - 1074) (-(pl : Int))
      have hD1 := vD_pos ((zep (zmg x) : Int) - 1074) (-(pl : Int) - 1)
      unfold znr
      generalize vN (zam (zmg x)) ((zep (zmg x) : Int) - 1074) (-(pl : Int) - 1) = N1 at *
      generalize vD ((zep (zmg x) : Int) - 1074) (-(pl : Int) - 1) = D1 at *
      generalize vN (zam (zmg x)) ((zep (zmg x) : Int) - 1074) (-(pl : Int)) = N2 at *
      generalize vD ((zep (zmg x) : Int) - 1074) (-(pl : Int)) = D2 at *
      have h1 : N1 * D2 < D1 * D2 := (Nat.mul_lt_mul_right hD).mpr hlt
      rw [hs, Nat.mul_comm D1] at h1
      have h2 : 10 * N2 < D2 := Nat.lt_of_mul_lt_mul_right h1
      exact Nat.div_eq_of_lt (by omega)
    rw [hQ]
    exact ⟨0, pt1, dg, _, 0, P, rfl, eR_0 48 dg, t2, Or.inr ⟨rfl, c⟩, by omega, by omega⟩
  · rw [if_neg (show ¬ pt1 + x3 < 0 by rw [i_lt, hsum, e0]; omega)]
    obtain ⟨w, hw⟩ : ∃ w : Nat, P + pl = w := ⟨(P + pl).toNat, by omega⟩
    rw [hw] at hsum
    obtain ⟨c2, p2, d2, ⟨y1, y2, y3, y4⟩, u1, u2, u3⟩ := E_takeDigits (uu := uu) (ul := ul) (dg := dg) t6 t7 hRS t14 t13 t15 rfl t2 (by omega) (by omega) hsum (by omega)
    have hnr := feq_nr t11 (feq_pow t10 w)
    rw [show P - (w : Int) = -(pl : Int) by omega] at hnr
    rw [hnr] at u2 u3
    rw [u1, Option.bind_some]
    dsimp only
    refine ⟨c2, p2, d2, _, _, _, rfl, u2, u3, ?_, ?_, ?_⟩
    · left
      split <;> omega
    · split <;> omega
    · split <;> omega
