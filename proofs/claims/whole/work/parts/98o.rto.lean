/-! the shortest digits: the reference's roundsTo -/
theorem cmpR' {V W : Nat} {E t f : Int} {j : Nat} (hf : f = E + j - 2) {W4 : Nat} (hW : W * 2 ^ j = W4) : zsg (V * 10 ^ t.toNat * 2 ^ (-f).toNat) (W * 10 ^ (-t).toNat * 2 ^ f.toNat) = zsg (V * 4 * vD E t) (W4 * vN 1 E t) := by
  rw [cmpR V W E t f j hf, hW]
def rAb (v m : Nat) (ev : Bool) (E t : Int) : Prop := v * 4 * vD E t < (4 * m + 2) * vN 1 E t ∨ (ev = true ∧ v * 4 * vD E t = (4 * m + 2) * vN 1 E t)
def rBe (v m b : Nat) (ev : Bool) (E t : Int) : Prop := (4 * m - b) * vN 1 E t < v * 4 * vD E t ∨ (ev = true ∧ (4 * m - b) * vN 1 E t = v * 4 * vD E t)
theorem M_rto118 (t s o c p : Int32) {r : Nat → Int32} {v m b : Nat} {ev : Bool} {E T : Int} {x9 : Int32} (h9 : x9 = if ev = true then 1 else 0) : ∃ d, f_M_roundsTo_118 t s o c p r x9 (zsg (v * 4 * vD E T) ((4 * m + 2) * vN 1 E T)) (zsg (v * 4 * vD E T) ((4 * m - b) * vN 1 E T)) = some (d, r) ∧ (rAb v m ev E T ∧ rBe v m b ev E T → d = 1) ∧ (¬ (rAb v m ev E T ∧ rBe v m b ev E T) → d = 0) := by
  have h90 : x9 = 0 ↔ ¬ ev = true := by rw [h9]; exact zbf
  unfold rAb rBe
  generalize v * 4 * vD E T = X
  generalize (4 * m + 2) * vN 1 E T = A
  generalize (4 * m - b) * vN 1 E T = B
  have h135 : ∃ d, f_M_roundsTo_135 t s o c p r x9 (zsg X B) = some (d, r) ∧ ((B < X ∨ (ev = true ∧ B = X)) → d = 1) ∧ (¬ (B < X ∨ (ev = true ∧ B = X)) → d = 0) := by
    unfold f_M_roundsTo_135 f_M_roundsTo_150
    by_cases c1 : B < X
    · rw [if_pos (zsg_gt.mpr c1)]
      exact ⟨1, rfl, fun _ => rfl, fun h => absurd (Or.inl c1) h⟩
    · rw [if_neg (fun q => c1 (zsg_gt.mp q))]
      by_cases c2 : ev = true
      · rw [if_neg (fun q => h90.mp q c2)]
        by_cases c3 : X = B
        · rw [if_pos (zsg_0.mpr c3)]
          exact ⟨1, rfl, fun _ => rfl, fun h => absurd (Or.inr ⟨c2, c3.symm⟩) h⟩
        · rw [if_neg (fun q => c3 (zsg_0.mp q))]
          exact ⟨0, rfl, fun h => h.elim (fun w => absurd w c1) (fun w => absurd w.2.symm c3), fun _ => rfl⟩
      · rw [if_pos (h90.mpr c2)]
        exact ⟨0, rfl, fun h => h.elim (fun w => absurd w c1) (fun w => absurd w.1 c2), fun _ => rfl⟩
  obtain ⟨d, d1, d2, d3⟩ := h135
  unfold f_M_roundsTo_118
  by_cases c1 : X < A
  · rw [if_pos (zsg_lt.mpr c1), d1]
    exact ⟨d, rfl, fun h => d2 h.2, fun h => d3 (fun w => h ⟨Or.inl c1, w⟩)⟩
  · rw [if_neg (fun q => c1 (zsg_lt.mp q))]
    by_cases c2 : ev = true
    · rw [if_neg (fun q => h90.mp q c2)]
      by_cases c3 : X = A
      · rw [if_pos (zsg_0.mpr c3), d1]
        exact ⟨d, rfl, fun h => d2 h.2, fun h => d3 (fun w => h ⟨Or.inr ⟨c2, c3⟩, w⟩)⟩
      · rw [if_neg (fun q => c3 (zsg_0.mp q))]
        exact ⟨0, rfl, fun h => h.1.elim (fun w => absurd w c1) (fun w => absurd w.2 c3), fun _ => rfl⟩
    · rw [if_pos (h90.mpr c2)]
      exact ⟨0, rfl, fun h => h.1.elim (fun w => absurd w c1) (fun w => absurd w.1 c2), fun _ => rfl⟩
theorem M_roundsTo (t s o c p : Int32) {r : Nat → Int32} (hr : mOK r) {a x1 : Int64} {x3 : Int32} {v : Nat} {T : Int} (hfin : zmg a < 9218868437227405312) (hz : zmg a ≠ 0) (h1 : x1.toInt = v) (hv : v < 2 ^ 60) (h3 : x3.toInt = T) (hT1 : -380 ≤ T) (hT2 : T ≤ 380) :
    ∃ d r', f_M_roundsTo t s o c p r x1 x3 a = some (d, r') ∧ mOK r' ∧ (rAb v (zam (zmg a)) (zev a) ((zep (zmg a) : Int) - 1074) T ∧ rBe v (zam (zmg a)) (zqb a) (zev a) ((zep (zmg a) : Int) - 1074) T → d = 1) ∧ (¬ (rAb v (zam (zmg a)) (zev a) ((zep (zmg a) : Int) - 1074) T ∧ rBe v (zam (zmg a)) (zqb a) (zev a) ((zep (zmg a) : Int) - 1074) T) → d = 0) := by
  obtain ⟨m, hm1, hm2⟩ := M_amount a
  obtain ⟨e, he1, he2⟩ := M_power a
  have lm := @zam_lt' (zmg a)
  have hm0 := zam_pos hz
  have le := zep_lt hfin
  have e1 : (1 : Int32).toInt = 1 := rfl
  have e2 : (2 : Int32).toInt = 2 := rfl
  have l1 : (1 : Int64).toInt = 1 := rfl
  have l2 : (2 : Int64).toInt = 2 := rfl
  have l4 : (4 : Int64).toInt = 4 := rfl
  have em : (-1074 : Int32).toInt = -1074 := rfl
  have lone : (4503599627370496 : Int64).toInt = 4503599627370496 := rfl
  have hbit : (m &&& 1).toInt = ((zmg a % 2 : Nat) : Int) := by
    rw [l_and 1 (by decide) rfl, hm2]
    have : zam (zmg a) % 2 = zmg a % 2 := by
      unfold zam
      split <;> omega
    rw [← this]
    exact (Int.natCast_emod _ _).symm
  unfold f_M_roundsTo
  rw [hm1, Option.bind_some, he1, Option.bind_some]
  have hev : (if (m &&& 1) = 0 then f_M_roundsTo_28 t s o c p r x1 x3 m e 1 else f_M_roundsTo_28 t s o c p r x1 x3 m e 0) = f_M_roundsTo_28 t s o c p r x1 x3 m e (if zev a = true then 1 else 0) := by
    unfold zev
    by_cases q : zmg a % 2 = 0
    · rw [if_pos (show (m &&& 1) = 0 by rw [l_eq, hbit, q]; rfl), decide_eq_true q, if_pos rfl]
    · rw [if_neg (show ¬ (m &&& 1) = 0 by rw [l_eq, hbit]; show ¬ _ = (0 : Int); omega), decide_eq_false q, if_neg (by decide)]
  rw [hev]
  have x2m : (2 * m).toInt = ((2 * zam (zmg a) : Nat) : Int) := by
    rw [l_mul (by rw [l2, hm2]; omega) (by rw [l2, hm2]; omega), l2, hm2]
    omega
  have x2p : (2 * m + 1).toInt = ((2 * zam (zmg a) + 1 : Nat) : Int) := by
    rw [l_add (by rw [x2m, l1]; omega) (by rw [x2m, l1]; omega), x2m, l1]
    omega
  have x2n : (2 * m - 1).toInt = ((2 * zam (zmg a) - 1 : Nat) : Int) := by
    rw [l_sub (by rw [x2m, l1]; omega) (by rw [x2m, l1]; omega), x2m, l1]
    omega
  have x4m : (4 * m).toInt = ((4 * zam (zmg a) : Nat) : Int) := by
    rw [l_mul (by rw [l4, hm2]; omega) (by rw [l4, hm2]; omega), l4, hm2]
    omega
  have x4n : (4 * m - 1).toInt = ((4 * zam (zmg a) - 1 : Nat) : Int) := by
    rw [l_sub (by rw [x4m, l1]; omega) (by rw [x4m, l1]; omega), x4m, l1]
    omega
  have ee1 : (e - 1).toInt = (zep (zmg a) : Int) - 1074 - 1 := by
    rw [i_sub (by rw [he2, e1]; omega) (by rw [he2, e1]; omega), he2, e1]
  have ee2 : (e - 2).toInt = (zep (zmg a) : Int) - 1074 - 2 := by
    rw [i_sub (by rw [he2, e2]; omega) (by rw [he2, e2]; omega), he2, e2]
  have hm53 : zam (zmg a) < 2 ^ 53 := lm
  have p53 : (2 : Nat) ^ 53 = 9007199254740992 := rfl
  have p60 : (2 : Nat) ^ 60 = 1152921504606846976 := rfl
  obtain ⟨r1, t1, t2⟩ := M_against t s o c p hr (x3 := x3) h1 x2p hv (by rw [p60]; omega) h3 hT1 hT2 ee1 (by omega) (by omega)
  rw [cmpR' (E := (zep (zmg a) : Int) - 1074) (j := 1) (W4 := 4 * zam (zmg a) + 2) (by omega) (by rw [Nat.pow_one]; omega)] at t1
  unfold f_M_roundsTo_28
  rw [t1, Option.bind_some]
  dsimp only
  have h71 : zqb a = 2 → ∃ d r', f_M_roundsTo_72 t s o c p r1 x1 x3 m e (if zev a = true then 1 else 0) (zsg (v * 4 * vD ((zep (zmg a) : Int) - 1074) T) ((4 * zam (zmg a) + 2) * vN 1 ((zep (zmg a) : Int) - 1074) T)) 0 = some (d, r') ∧ mOK r' ∧ (rAb v (zam (zmg a)) (zev a) ((zep (zmg a) : Int) - 1074) T ∧ rBe v (zam (zmg a)) (zqb a) (zev a) ((zep (zmg a) : Int) - 1074) T → d = 1) ∧ (¬ (rAb v (zam (zmg a)) (zev a) ((zep (zmg a) : Int) - 1074) T ∧ rBe v (zam (zmg a)) (zqb a) (zev a) ((zep (zmg a) : Int) - 1074) T) → d = 0) := by
    intro hb2
    obtain ⟨r2, t3, t4⟩ := M_against t s o c p t2 (x3 := x3) h1 x2n hv (by rw [p60]; omega) h3 hT1 hT2 ee1 (by omega) (by omega)
    rw [cmpR' (E := (zep (zmg a) : Int) - 1074) (j := 1) (W4 := 4 * zam (zmg a) - 2) (by omega) (by rw [Nat.pow_one]; omega)] at t3
    unfold f_M_roundsTo_72
    rw [if_pos rfl, t3, Option.bind_some]
    dsimp only
    obtain ⟨d, d1, d2, d3⟩ := M_rto118 t s o c p (r := r2) (v := v) (m := zam (zmg a)) (b := 2) (ev := zev a) (E := (zep (zmg a) : Int) - 1074) (T := T) rfl
    rw [d1, hb2]
    exact ⟨d, r2, rfl, t4, d2, d3⟩
  have hq2 : ¬ (zmg a % 4503599627370496 = 0 ∧ 0 < zep (zmg a)) → zqb a = 2 := by
    intro h
    unfold zqb
    rw [if_neg h]
  unfold f_M_roundsTo_71
  by_cases cm : zam (zmg a) = 4503599627370496
  · rw [if_pos (show m = 4503599627370496 by rw [l_eq, hm2, lone, cm]; rfl)]
    by_cases ce : 0 < zep (zmg a)
    · rw [if_neg (show ¬ e ≤ (-1074) by rw [i_le, he2, em]; omega)]
      have hb1 : zqb a = 1 := by
        unfold zqb
        have hc := cm
        have hc2 := ce
        unfold zam at hc
        unfold zep at hc2
        rw [if_neg (by omega)] at hc
        rw [if_pos ⟨by omega, ce⟩]
      obtain ⟨r2, t3, t4⟩ := M_against t s o c p t2 (x3 := x3) h1 x4n hv (by rw [p60]; omega) h3 hT1 hT2 ee2 (by omega) (by omega)
      rw [cmpR' (E := (zep (zmg a) : Int) - 1074) (j := 0) (W4 := 4 * zam (zmg a) - 1) (by omega) (by rw [Nat.pow_zero]; omega)] at t3
      unfold f_M_roundsTo_72
      rw [if_neg i10, t3, Option.bind_some]
      dsimp only
      obtain ⟨d, d1, d2, d3⟩ := M_rto118 t s o c p (r := r2) (v := v) (m := zam (zmg a)) (b := 1) (ev := zev a) (E := (zep (zmg a) : Int) - 1074) (T := T) rfl
      rw [d1, hb1]
      exact ⟨d, r2, rfl, t4, d2, d3⟩
    · rw [if_pos (show e ≤ (-1074) by rw [i_le, he2, em]; omega)]
      exact h71 (hq2 (fun w => ce w.2))
  · rw [if_neg (show ¬ m = 4503599627370496 by rw [l_eq, hm2, lone]; omega)]
    apply h71
    rcases zqb_ok hz with w | w
    · exact w
    · exact absurd w.2 cm
