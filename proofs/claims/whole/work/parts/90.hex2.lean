/-! hexadecimal texts: the reference -/
theorem hF_lt {tx : Nat → Int32} {f : Nat} : ∀ k, hF tx f k < 2 ^ (4 * k)
  | 0 => by
    rw [Nat.mul_zero, Nat.pow_zero]
    exact Nat.zero_lt_one
  | k + 1 => by
    have ih := @hF_lt tx f k
    have h := hx_rng (tx (f + k))
    show 16 * hF tx f k + (zhx (tx (f + k))).toInt.toNat < _
    rw [show 4 * (k + 1) = 4 + 4 * k by omega, Nat.pow_add]
    generalize 2 ^ (4 * k) = P at *
    omega
theorem hF_ge {tx : Nat → Int32} {f : Nat} (h : 1 ≤ (zhx (tx f)).toInt) : ∀ k, 2 ^ (4 * k) ≤ hF tx f (k + 1)
  | 0 => by
    show 1 ≤ 16 * hF tx f 0 + (zhx (tx (f + 0))).toInt.toNat
    rw [Nat.add_zero]
    omega
  | k + 1 => by
    have ih := hF_ge h k
    show _ ≤ 16 * hF tx f (k + 1) + (zhx (tx (f + (k + 1)))).toInt.toNat
    rw [show 4 * (k + 1) = 4 + 4 * k by omega, Nat.pow_add]
    generalize 2 ^ (4 * k) = P at *
    omega
theorem hF_skip {tx : Nat → Int32} {f : Nat} : ∀ (k : Nat), zhx (tx f) = 0 → hF tx f (k + 1) = hF tx (f + 1) k
  | 0, h => by
    show 16 * 0 + (zhx (tx (f + 0))).toInt.toNat = 0
    rw [Nat.add_zero, h]
    rfl
  | k + 1, h => by
    have ih := hF_skip k h
    show 16 * hF tx f (k + 1) + (zhx (tx (f + (k + 1)))).toInt.toNat = 16 * hF tx (f + 1) k + (zhx (tx (f + 1 + k))).toInt.toNat
    rw [ih, show f + (k + 1) = f + 1 + k by omega]
theorem hG_skip {tx : Nat → Int32} {f k : Nat} (h : zhx (tx f) = 0) : hG tx f (k + 1) ↔ hG tx (f + 1) k := by
  constructor
  · intro g i hi
    have := g (i + 1) (by omega)
    rw [show f + (i + 1) = f + 1 + i by omega] at this
    exact this
  · intro g i hi
    cases i with
    | zero => rw [Nat.add_zero, h]; decide
    | succ i =>
      have := g i (by omega)
      rw [show f + (i + 1) = f + 1 + i by omega]
      exact this
theorem hx_48 : zhx 48 = 0 := by
  have h := hx_M 48
  have h2 : f_M_hexadecimal 48 = some 0 := by
    unfold f_M_hexadecimal f_M_isDigit
    rw [if_neg (by decide), if_neg (by decide), Option.bind_some, if_neg i10]
    rfl
  rw [h2] at h
  exact (Option.some.inj h).symm
theorem hx_only {c : Int32} (h : (zhx c).toInt = 0) : c = 48 := by
  have hm := hx_M c
  have e48 : (48 : Int32).toInt = 48 := rfl
  have e57 : (57 : Int32).toInt = 57 := rfl
  have e65 : (65 : Int32).toInt = 65 := rfl
  have e70 : (70 : Int32).toInt = 70 := rfl
  have e97 : (97 : Int32).toInt = 97 := rfl
  have e102 : (102 : Int32).toInt = 102 := rfl
  have e10 : (10 : Int32).toInt = 10 := rfl
  have h36 : ∀ d, f_M_hexadecimal_36 c = some d → d.toInt ≠ 0 := by
    intro d hd
    unfold f_M_hexadecimal_36 at hd
    by_cases h1 : c < 65
    · rw [if_pos h1] at hd
      rw [← Option.some.inj hd]
      decide
    · rw [if_neg h1] at hd
      by_cases h2 : 70 < c
      · rw [if_pos h2] at hd
        rw [← Option.some.inj hd]
        decide
      · rw [if_neg h2] at hd
        rw [i_lt, e65] at h1
        rw [i_lt, e70] at h2
        have a1 : (c - 65).toInt = c.toInt - 65 := by rw [i_sub, e65] <;> (try rw [e65]) <;> omega
        have a2 : (c - 65 + 10).toInt = c.toInt - 65 + 10 := by rw [i_add, a1, e10] <;> (try rw [a1, e10]) <;> omega
        rw [← Option.some.inj hd, a2]
        omega
  unfold f_M_hexadecimal f_M_isDigit at hm
  by_cases h1 : c < 48
  · rw [if_pos h1, Option.bind_some, if_pos rfl] at hm
    have h97 : c < 97 := by rw [i_lt, e48] at h1; rw [i_lt, e97]; omega
    rw [if_pos h97] at hm
    exact absurd h (h36 _ hm)
  · rw [if_neg h1] at hm
    by_cases h2 : 57 < c
    · rw [if_pos h2, Option.bind_some, if_pos rfl] at hm
      by_cases h3 : c < 97
      · rw [if_pos h3] at hm
        exact absurd h (h36 _ hm)
      · rw [if_neg h3] at hm
        by_cases h4 : 102 < c
        · rw [if_pos h4] at hm
          exact absurd h (h36 _ hm)
        · rw [if_neg h4] at hm
          rw [i_lt, e97] at h3
          rw [i_lt, e102] at h4
          have a1 : (c - 97).toInt = c.toInt - 97 := by rw [i_sub, e97] <;> (try rw [e97]) <;> omega
          have a2 : (c - 97 + 10).toInt = c.toInt - 97 + 10 := by rw [i_add, a1, e10] <;> (try rw [a1, e10]) <;> omega
          rw [← Option.some.inj hm, a2] at h
          omega
    · rw [if_neg h2, Option.bind_some, if_neg i10] at hm
      rw [i_lt, e48] at h1
      rw [i_lt, e57] at h2
      have a1 : (c - 48).toInt = c.toInt - 48 := by rw [i_sub, e48] <;> (try rw [e48]) <;> omega
      rw [← Option.some.inj hm, a1] at h
      apply i_ext
      rw [e48]
      omega
theorem M_hex125 (t s o c p : Int32) {r tx : Nat → Int32} (hr : mOK r) {x4 x5 : Int32} {F V R b : Nat} (hF0 : F = V * 2 ^ (4 * b) + R) (hR : R < 2 ^ (4 * b)) (hV : mV r 0 = V) (hb : 0 < b → 2 ^ 276 ≤ V) (h4 : x4.toInt = ((if R = 0 then 0 else 1 : Nat) : Int)) (h5 : x5.toInt = ((4 * b : Nat) : Int)) (hb6 : b ≤ 600) :
    ∃ r', f_M_readHexadecimal_125 t s o c p tx r x4 x5 = some (lN (zq F 1 1074), r') ∧ mOK r' := by
  have e1100 : (1100 : Int32).toInt = 1100 := rfl
  unfold f_M_readHexadecimal_125
  by_cases c1 : 4 * b ≤ 1100
  · rw [if_pos (show x5 ≤ 1100 by rw [i_le, h5, e1100]; omega)]
    have hmo2 : (if R = 0 then 0 else 1) < 2 := by split <;> decide
    have hE : x5.toInt = ((1074 : Int) + (4 * b : Nat)) - 1074 := by rw [h5]; omega
    have hz : 0 < b → 55 ≤ zlen V := fun q => by
      have := zlen_gt (hb q)
      omega
    obtain ⟨r2, u1, uR⟩ := M_round' t s o c p hr (a := 0) (mo := (if R = 0 then 0 else 1)) (x1 := 0) (x3 := 0) (by decide) (by decide) rfl hE (by omega) (by omega) h4 hmo2 (fun q => by
      rw [hV]
      apply hz
      rcases Nat.eq_zero_or_pos b with w | w
      · subst w
        have : R = 0 := by
          rw [Nat.mul_zero, Nat.pow_zero] at hR
          omega
        rw [if_pos this] at q
        exact absurd q (by decide)
      · exact w)
    rw [u1, Option.bind_some, hV, zero_or64]
    refine ⟨r2, ?_, uR.1⟩
    have key : zrd V (if R = 0 then 0 else 1) ((1074 : Int) + (4 * b : Nat)) = zq F 1 1074 := by
      rw [← zrd_zq, hF0]
      rcases Nat.eq_zero_or_pos b with w | w
      · subst w
        have : R = 0 := by
          rw [Nat.mul_zero, Nat.pow_zero] at hR
          omega
        rw [if_pos this, this, Nat.mul_zero, Nat.pow_zero, Nat.mul_one, Nat.add_zero]
        rfl
      · have := zrd_cut (V := V) (t := 4 * b) (R := R) (mo := 0) (E := 1074) (by have := hz w; omega) hR (by decide)
        rw [this]
        by_cases q : R = 0
        · rw [if_pos q, if_pos ⟨q, rfl⟩]
        · rw [if_neg q, if_neg (fun w => q w.1)]
    rw [key]
  · rw [if_neg (show ¬ x5 ≤ 1100 by rw [i_le, h5, e1100]; omega)]
    refine ⟨r, ?_, hr⟩
    have hbig : 2 ^ 1024 ≤ F := by
      have a1 := hb (by omega)
      have a2 : 2 ^ 276 * 2 ^ (4 * b) ≤ V * 2 ^ (4 * b) := Nat.mul_le_mul_right _ a1
      rw [← Nat.pow_add] at a2
      have a3 : 2 ^ 1024 ≤ 2 ^ (276 + 4 * b) := p2le (by omega)
      omega
    have : zq F 1 1074 = 9218868437227405312 := by
      rw [zq_1074]
      apply zRB_inf (by decide)
      rw [Nat.div_one]
      have h2 := Nat.mul_le_mul_right (2 ^ 1074) hbig
      rw [← Nat.pow_add] at h2
      exact h2
    rw [this]
    rfl
theorem M_hex48 (t s o c p : Int32) {r tx : Nat → Int32} (hr : mOK r) {x2 x3 : Int32} {f m : Nat} (h2 : x2.toInt = ((f + m : Nat) : Int)) (h600 : f + m ≤ 600) (h3 : x3.toInt = f) (hv0 : mV r 0 = 0) (hnz : 0 < m → tx f ≠ 48) :
    ∃ d r', f_M_readHexadecimal_48 t s o c p tx r x2 x3 0 0 x3 = some (d, r') ∧ mOK r' ∧ (hG tx f m → d = lN (zq (hF tx f m) 1 1074)) ∧ (¬ hG tx f m → d = 9221120237041090560) := by
  have e0 : (0 : Int32).toInt = 0 := rfl
  have e4 : (4 : Int32).toInt = 4 := rfl
  have e70 : (70 : Int32).toInt = 70 := rfl
  have h70 : (x3 + 70).toInt = ((f + 70 : Nat) : Int) := by rw [i_add, h3, e70] <;> (try rw [h3, e70]) <;> omega
  unfold f_M_readHexadecimal_48
  obtain ⟨⟨d, r'⟩, a1, a2, a3, a4⟩ := zrun_inv (step := f_M_readHexadecimal_48_step t s o c p tx x2 x3) (x := (r, 0, 0, x3)) (fun z => mOK z.1 ∧ ∃ a b R : Nat, a + b ≤ m ∧ z.2.2.2.toInt = ((f + (a + b) : Nat) : Int) ∧ a ≤ 70 ∧ (0 < b → a = 70) ∧ hG tx f (a + b) ∧ mV z.1 0 = hF tx f a ∧ hF tx f (a + b) = hF tx f a * 2 ^ (4 * b) + R ∧ R < 2 ^ (4 * b) ∧ z.2.1.toInt = ((if R = 0 then 0 else 1 : Nat) : Int) ∧ z.2.2.1.toInt = ((4 * b : Nat) : Int)) (fun z => (f + m - z.2.2.2.toInt).toNat)
    (fun y => mOK y.2 ∧ (hG tx f m → y.1 = lN (zq (hF tx f m) 1 1074)) ∧ (¬ hG tx f m → y.1 = 9221120237041090560)) (by
    rintro ⟨q, x4, x5, x6⟩ ⟨hq, a, b, R, hab, h6, ha, hb, hg, hV, hFF, hR, h4, h5⟩
    dsimp only at hq h6 hV h4 h5
    unfold f_M_readHexadecimal_48_step f_M_readHexadecimal_48_body
    dsimp only
    by_cases ck : a + b = m
    · rw [if_pos (show x2 ≤ x6 by rw [i_le, h2, h6]; omega)]
      obtain ⟨r2, u1, u2⟩ := M_hex125 t s o c p (tx := tx) hq hFF hR hV (fun w => by
        have := hb w
        subst this
        have hd1 : 1 ≤ (zhx (tx f)).toInt := by
          have g0 := hg 0 (by omega)
          rw [Nat.add_zero] at g0
          rcases Int.lt_or_eq_of_le g0 with z | z
          · omega
          · exact absurd (hx_only z.symm) (hnz (by omega))
        exact hF_ge hd1 69) h4 h5 (by omega)
      rw [u1, ck]
      rw [ck] at hg
      exact Or.inr ⟨_, rfl, u2, fun _ => rfl, fun h => absurd hg h⟩
    · rw [if_neg (show ¬ x2 ≤ x6 by rw [i_le, h2, h6]; omega), if_pos (show zin x6 600 from ⟨by omega, by omega⟩), hx_M, Option.bind_some, i_cl, h6, Int.toNat_natCast]
      rcases hx_rng (tx (f + (a + b))) with hbd | hbd
      · rw [if_neg (show ¬ 0 ≤ zhx (tx (f + (a + b))) by rw [i_le, hbd, e0]; omega)]
        refine Or.inr ⟨_, rfl, hq, fun h => ?_, fun _ => rfl⟩
        have := h (a + b) (by omega)
        omega
      · rw [if_pos (show 0 ≤ zhx (tx (f + (a + b))) by rw [i_le, e0]; exact hbd.1)]
        obtain ⟨d, hd⟩ : ∃ d : Nat, (zhx (tx (f + (a + b)))).toInt = d := ⟨(zhx (tx (f + (a + b)))).toInt.toNat, by omega⟩
        have hd16 : d < 16 := by omega
        have hFs : hF tx f (a + b + 1) = 16 * hF tx f (a + b) + d := by
          show 16 * hF tx f (a + b) + (zhx (tx (f + (a + b)))).toInt.toNat = _
          rw [hd, Int.toNat_natCast]
        have hgs : hG tx f (a + b + 1) := by
          intro i hi
          by_cases ci : i = a + b
          · subst ci; exact hbd.1
          · exact hg i (by omega)
        have hs : (x6 + 1).toInt = ((f + (a + b + 1) : Nat) : Int) := i_suc (k := f + (a + b)) h6 (by omega)
        have hp4 : 2 ^ (4 * (b + 1)) = 16 * 2 ^ (4 * b) := by rw [show 4 * (b + 1) = 4 + 4 * b by omega, Nat.pow_add]
        unfold f_M_readHexadecimal_106 f_M_readHexadecimal_111 f_M_readHexadecimal_119
        by_cases c70 : a + b < 70
        · rw [if_neg (show ¬ x3 + 70 ≤ x6 by rw [i_le, h70, h6]; omega)]
          have hb0 : b = 0 := by
            rcases Nat.eq_zero_or_pos b with w | w
            · exact w
            · have := hb w; omega
          subst hb0
          have hR0 : R = 0 := by
            rw [Nat.mul_zero, Nat.pow_zero] at hR
            omega
          subst hR0
          rw [Nat.add_zero] at *
          obtain ⟨r1, t1, t2, t3, t4⟩ := M_times t s o c p hq (a := 0) (m := 16) (p := d) (x1 := 0) (x2 := 16) (x3 := zhx (tx (f + a))) (by decide) rfl rfl hd
          rw [t1, Option.bind_some]
          have v1 : mV r1 0 = hF tx f (a + 1) := by
            have hFs' : hF tx f (a + 1) = 16 * hF tx f a + d := hFs
            rw [t3, hV, hFs', Nat.mul_comm (hF tx f a) 16, Nat.mod_eq_of_lt]
            apply mTop_big
            rw [← hFs']
            exact Nat.lt_of_lt_of_le (hF_lt _) (p2le (by omega))
          refine Or.inl ⟨_, rfl, ⟨t2, a + 1, 0, 0, by omega, hs, by omega, fun h => absurd h (Nat.lt_irrefl _), hgs, v1, ?_, by decide, h4, h5⟩, by dsimp only; rw [hs]; (try rw [h6]); clear hs h6; omega⟩
          rw [Nat.add_zero, Nat.mul_zero, Nat.pow_zero, Nat.mul_one]; rfl
        · rw [if_pos (show x3 + 70 ≤ x6 by rw [i_le, h70, h6]; omega)]
          have ha70 : a = 70 := by
            rcases Nat.eq_zero_or_pos b with w | w
            · omega
            · exact hb w
          have hx5 : (x5 + 4).toInt = ((4 * (b + 1) : Nat) : Int) := by rw [i_add, h5, e4] <;> (try rw [h5, e4]) <;> omega
          have hF2 : hF tx f (a + (b + 1)) = hF tx f a * 2 ^ (4 * (b + 1)) + (16 * R + d) := by
            rw [← Nat.add_assoc, hFs, hFF, hp4, Nat.mul_add, Nat.mul_left_comm]
            omega
          have hR2 : 16 * R + d < 2 ^ (4 * (b + 1)) := by
            rw [hp4]
            generalize 2 ^ (4 * b) = P at hR ⊢
            omega
          have fin : ∀ s0 : Int32, s0.toInt = ((if 16 * R + d = 0 then 0 else 1 : Nat) : Int) → ∃ y, some (Sum.inl (β := Int64 × (Nat → Int32)) (q, s0, x5 + 4, x6 + 1)) = some (Sum.inl y) ∧ (mOK y.1 ∧ ∃ a b R : Nat, a + b ≤ m ∧ y.2.2.2.toInt = ((f + (a + b) : Nat) : Int) ∧ a ≤ 70 ∧ (0 < b → a = 70) ∧ hG tx f (a + b) ∧ mV y.1 0 = hF tx f a ∧ hF tx f (a + b) = hF tx f a * 2 ^ (4 * b) + R ∧ R < 2 ^ (4 * b) ∧ y.2.1.toInt = ((if R = 0 then 0 else 1 : Nat) : Int) ∧ y.2.2.1.toInt = ((4 * b : Nat) : Int)) ∧ (f + m - y.2.2.2.toInt).toNat < (f + m - ((f + (a + b) : Nat) : Int)).toNat := by
            intro s0 hs0
            exact ⟨_, rfl, ⟨hq, a, b + 1, 16 * R + d, by omega, hs, ha, fun _ => ha70, hgs, hV, hF2, hR2, hs0, hx5⟩, by dsimp only; rw [hs]; (try rw [h6]); clear hs h6; omega⟩
          left
          have hx40 : x4 = 0 ↔ R = 0 := by
            rw [i_eq, h4, e0]
            by_cases w : R = 0
            · rw [if_pos w]; exact ⟨fun _ => w, fun _ => rfl⟩
            · rw [if_neg w]; exact ⟨fun z => absurd z (by decide), fun z => absurd z w⟩
          have hd0 : zhx (tx (f + (a + b))) ≤ 0 ↔ d = 0 := by
            rw [i_le, hd, e0]
            omega
          by_cases w : R = 0
          · rw [if_pos (hx40.mpr w)]
            by_cases w2 : d = 0
            · rw [if_pos (hd0.mpr w2)]
              exact fin 0 (by rw [if_pos (by omega)]; rfl)
            · rw [if_neg (fun z => w2 (hd0.mp z))]
              exact fin 1 (by rw [if_neg (by omega)]; rfl)
          · rw [if_neg (fun z => w (hx40.mp z))]
            exact fin 1 (by rw [if_neg (by omega)]; rfl)) ⟨hr, 0, 0, 0, by omega, h3, by omega, fun h => absurd h (Nat.lt_irrefl _), fun i hi => absurd hi (Nat.not_lt_zero _), hv0, rfl, by decide, rfl, rfl⟩
  exact ⟨d, r', a1, a2, a3, a4⟩
theorem M_hex11 (t s o c p : Int32) {tx : Nat → Int32} {x2 : Int32} {f m : Nat} (h2 : x2.toInt = ((f + m : Nat) : Int)) (h600 : f + m ≤ 600) {r : Nat → Int32} (hr : mOK r) {x3 : Int32} (h3 : x3.toInt = f) :
    ∃ d r', f_M_readHexadecimal_11 t s o c p tx r x2 x3 = some (d, r') ∧ mOK r' ∧ (hG tx f m → d = lN (zq (hF tx f m) 1 1074)) ∧ (¬ hG tx f m → d = 9221120237041090560) := by
  unfold f_M_readHexadecimal_11
  obtain ⟨⟨d, r'⟩, a1, a2, a3, a4⟩ := zrun_inv (step := f_M_readHexadecimal_11_step t s o c p tx x2) (x := (r, x3)) (fun z => mOK z.1 ∧ ∃ g n : Nat, g + n = f + m ∧ z.2.toInt = (g : Int) ∧ (hG tx f m ↔ hG tx g n) ∧ hF tx f m = hF tx g n) (fun z => (f + m - z.2.toInt).toNat)
    (fun y => mOK y.2 ∧ (hG tx f m → y.1 = lN (zq (hF tx f m) 1 1074)) ∧ (¬ hG tx f m → y.1 = 9221120237041090560)) (by
    rintro ⟨q, y3⟩ ⟨hq, g, n, hgn, hy, hGG, hFF⟩
    dsimp only at hq hy
    unfold f_M_readHexadecimal_11_step f_M_readHexadecimal_11_body f_M_readHexadecimal_33
    dsimp only
    have go : (0 < n → tx g ≠ 48) → ∃ y, (f_M_set t s o c p q 0 0).bind (fun u36_t_rows => f_M_readHexadecimal_48 t s o c p tx u36_t_rows x2 y3 0 0 y3) = some y ∧ mOK y.2 ∧ (hG tx f m → y.1 = lN (zq (hF tx f m) 1 1074)) ∧ (¬ hG tx f m → y.1 = 9221120237041090560) := by
      intro hnz
      obtain ⟨r1, t1, R1⟩ := M_set t s o c p hq (a := 0) (x1 := 0) (x2 := 0) (by decide) rfl
      obtain ⟨d, r2, u1, u2, u3, u4⟩ := M_hex48 t s o c p (tx := tx) R1.1 (x2 := x2) (x3 := y3) (f := g) (m := n) (by rw [h2, hgn]) (by omega) hy (by rw [R1.2.1]; rfl) hnz
      rw [t1, Option.bind_some, u1]
      refine ⟨_, rfl, u2, fun h => ?_, fun h => u4 (fun w => h (hGG.mpr w))⟩
      rw [hFF]
      exact u3 (hGG.mp h)
    by_cases c0 : n = 0
    · subst c0
      rw [if_pos (show x2 ≤ y3 by rw [i_le, h2, hy]; omega)]
      obtain ⟨y, y1, y2⟩ := go (fun h => absurd h (Nat.lt_irrefl _))
      rw [y1]
      exact Or.inr ⟨y, rfl, y2⟩
    · rw [if_neg (show ¬ x2 ≤ y3 by rw [i_le, h2, hy]; omega), if_pos (show zin y3 600 from ⟨by omega, by omega⟩), i_cl, hy, Int.toNat_natCast]
      by_cases c48 : tx g = 48
      · rw [if_pos c48]
        have hz : zhx (tx g) = 0 := by rw [c48]; exact hx_48
        obtain ⟨k, rfl⟩ : ∃ k, n = k + 1 := ⟨n - 1, by omega⟩
        have hs : (y3 + 1).toInt = ((g + 1 : Nat) : Int) := i_suc hy (by omega)
        refine Or.inl ⟨_, rfl, ⟨hq, g + 1, k, by omega, hs, ?_, ?_⟩, by dsimp only; rw [hs]; (try rw [hy]); clear hs hy; omega⟩
        · rw [hGG, hG_skip hz]
        · rw [hFF, hF_skip k hz]
      · rw [if_neg c48]
        obtain ⟨y, y1, y2⟩ := go (fun _ => c48)
        rw [y1]
        exact Or.inr ⟨y, rfl, y2⟩) ⟨hr, f, m, rfl, h3, Iff.rfl, rfl⟩
  exact ⟨d, r', a1, a2, a3, a4⟩
/-- hexadecimal: class and reference -/
theorem same_hex (c1 c4 c5 t s o c p : Int32) {en at' x1 : Int32} {tx r : Nat → Int32} (hr : mOK r) {f m : Nat} (he : en.toInt = ((f + m : Nat) : Int)) (h600 : f + m ≤ 600) (ha : at'.toInt = f) (hx : x1.toInt = f) :
    ∃ d r', f_R_hexadecimal c1 at' en c4 c5 tx = some d ∧ f_M_readHexadecimal t s o c p tx r x1 en = some (d, r') ∧ mOK r' := by
  unfold f_R_hexadecimal f_M_readHexadecimal
  by_cases cm : m = 0
  · rw [if_neg (show ¬ at' < en by rw [i_lt, ha, he]; omega), if_pos (show x1 = en by rw [i_eq, hx, he]; omega)]
    exact ⟨_, r, rfl, rfl, hr⟩
  · rw [if_pos (show at' < en by rw [i_lt, ha, he]; omega), if_neg (show ¬ x1 = en by rw [i_eq, hx, he]; omega)]
    obtain ⟨d1, u1, u2, u3⟩ := R_hex25 c1 at' c4 c5 (tx := tx) he h600 ha
    obtain ⟨d2, r2, v1, v2, v3, v4⟩ := M_hex11 t s o c p (tx := tx) he h600 hr hx
    rw [u1, v1]
    refine ⟨d1, r2, rfl, ?_, v2⟩
    by_cases cg : hG tx f m
    · rw [u2 cg, v3 cg]
    · rw [u3 cg, v4 cg]
