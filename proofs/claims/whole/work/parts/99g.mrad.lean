theorem clr_step {V s i U v : Nat} (hU : U = V % 2 ^ s + V / 2 ^ (s + i) * 2 ^ (s + i)) (hv : v + U / 2 ^ (s + i) % 2 * 2 ^ (s + i) = U) : v = V % 2 ^ s + V / 2 ^ (s + (i + 1)) * 2 ^ (s + (i + 1)) := by
  have h1 : V % 2 ^ s < 2 ^ (s + i) := Nat.lt_of_lt_of_le (Nat.mod_lt _ (p2pos s)) (p2le (by omega))
  have h2 : U / 2 ^ (s + i) = V / 2 ^ (s + i) := by
    rw [hU, Nat.add_mul_div_right _ _ (p2pos _), Nat.div_eq_of_lt h1, Nat.zero_add]
  have h3 : V / 2 ^ (s + (i + 1)) = V / 2 ^ (s + i) / 2 := by
    rw [← Nat.add_assoc, Nat.pow_succ, Nat.div_div_eq_div_mul]
  have h4 : 2 ^ (s + (i + 1)) = 2 * 2 ^ (s + i) := by rw [← Nat.add_assoc, Nat.pow_succ, Nat.mul_comm]
  rw [h2] at hv
  rw [h3, h4]
  generalize V / 2 ^ (s + i) = Q at *
  generalize V % 2 ^ s = M at *
  generalize 2 ^ (s + i) = P at *
  have h5 := Nat.div_add_mod Q 2
  have h6 : Q * P = Q / 2 * (2 * P) + Q % 2 * P := by
    have : (2 * (Q / 2) + Q % 2) * P = Q / 2 * (2 * P) + Q % 2 * P := by
      rw [Nat.add_mul, Nat.mul_comm 2 (Q / 2), Nat.mul_assoc]
    rw [h5] at this
    exact this
  omega
theorem M_rad339 (t ts cc p : Int32) {s V d : Nat} (hs : s ≤ 1100) (hV : V < 2 ^ (s + 6)) {x3 x5 x7 x8 : Int32} (h5 : x5.toInt = -(s : Int)) (h8 : x8.toInt = d) (hd : d < 36) {o : Int32} {out r : Nat → Int32} (hr : mOK r) (hrV : mV r 0 = V) {L : List Int32} (h : pP 1200 o out L) (hl : L.length < 1200) :
    ∃ o' out' r', f_M_radix_339 t ts o cc p out r x3 x5 x7 x8 0 = some (Sum.inl (t, o', out', r', x7 + 1)) ∧ mOK r' ∧ mV r' 0 = V % 2 ^ s ∧ pP 1200 o' out' (L ++ [zch d]) := by
  have e6 : (6 : Int32).toInt = 6 := rfl
  have hng : (-x5).toInt = (s : Int) := by rw [i_neg (by omega), h5]; omega
  unfold f_M_radix_339
  obtain ⟨y, t1, o', out', r', rfl, t3, t4, t5⟩ := zrun_inv (step := f_M_radix_339_step ts cc p x3 x5 x7 x8) (x := (t, o, out, r, 0)) (fun z => ∃ i : Nat, i ≤ 6 ∧ ∃ r' y9, z = (t, o, out, r', y9) ∧ y9.toInt = (i : Int) ∧ mOK r' ∧ mV r' 0 = V % 2 ^ s + V / 2 ^ (s + i) * 2 ^ (s + i)) (fun z => ((6 : Int) - z.2.2.2.2.toInt).toNat) (fun y => ∃ o' out' r', y = Sum.inl (t, o', out', r', x7 + 1) ∧ mOK r' ∧ mV r' 0 = V % 2 ^ s ∧ pP 1200 o' out' (L ++ [zch d])) (by
    rintro _ ⟨i, hi, r0, y9, rfl, h9, hr0, hv0⟩
    unfold f_M_radix_339_step f_M_radix_339_body f_M_radix_363
    dsimp only
    by_cases ci : i = 6
    · rw [if_pos (show 6 ≤ y9 by rw [i_le, h9, e6]; omega), M_letter h8 hd, Option.bind_some]
      obtain ⟨o1, u1, t1, t2, _⟩ := M_emit t ts cc p h hl (zch d)
      rw [t1, Option.bind_some]
      rw [ci, Nat.div_eq_of_lt hV, Nat.zero_mul, Nat.add_zero] at hv0
      exact Or.inr ⟨_, rfl, o1, u1, r0, rfl, hr0, hv0, t2⟩
    · rw [if_neg (show ¬ 6 ≤ y9 by rw [i_le, h9, e6]; omega)]
      have hsum : (-x5 + y9).toInt = ((s + i : Nat) : Int) := by
        rw [i_add (by rw [hng, h9]; omega) (by rw [hng, h9]; omega), hng, h9]
        omega
      obtain ⟨r1, v, t1, t2, t3⟩ := M_clear t ts o cc p hr0 (a := 0) (x1 := 0) (by decide) rfl hsum (by omega)
      rw [t1, Option.bind_some]
      have hs9 : (y9 + 1).toInt = ((i + 1 : Nat) : Int) := i_suc h9 (by omega)
      have hv1 := clr_step hv0 t3
      refine Or.inl ⟨_, rfl, ⟨i + 1, by omega, r1, _, rfl, hs9, t2.1, t2.2.1.trans hv1⟩, ?_⟩
      dsimp only
      rw [hs9, h9]
      omega) ⟨0, by omega, r, 0, rfl, rfl, hr, by
        rw [hrV, Nat.add_zero, Nat.mul_comm]
        have := Nat.div_add_mod V (2 ^ s)
        omega⟩
  exact ⟨o', out', r', t1, t3, t4, t5⟩
theorem M_rad303 (t ts cc p : Int32) {b s R : Nat} (hb : 2 ≤ b) (hb36 : b ≤ 36) (hs : s ≤ 1074) (hR : R < 2 ^ s) {x3 x5 : Int32} (h3 : x3.toInt = b) (h5 : x5.toInt = -(s : Int)) {o : Int32} {out r : Nat → Int32} (hr : mOK r) (hrR : mV r 0 = R) {A : List Int32} (h : pP 1200 o out (A ++ [46])) (hl : A.length ≤ 1100) :
    ∃ o' out' r' K, f_M_radix_303 t ts o cc p out r x3 x5 0 = some (o', t, o', out', r') ∧ mOK r' ∧ isK b s R K ∧ pP 1200 o' out' (A ++ zfz (zfd b s R) K) := by
  have e52 : (52 : Int32).toInt = 52 := rfl
  have e0 : (0 : Int32).toInt = 0 := rfl
  have h36 : ∀ i, zfd b s R i < 36 := fun i => Nat.lt_of_lt_of_le (zfd_lt (by omega) hR i) hb36
  have hng : (-x5).toInt = (s : Int) := by rw [i_neg (by omega), h5]; omega
  unfold f_M_radix_303
  obtain ⟨y, t1, o', out', r', K, rfl, t3, t4, t5⟩ := zrun_inv (step := f_M_radix_303_step ts cc p x3 x5) (x := (t, o, out, r, 0)) (fun z => ∃ k : Nat, k ≤ 52 ∧ (∀ i, i < k → zRm b s R i ≠ 0) ∧ ∃ o' out' r' y7, z = (t, o', out', r', y7) ∧ y7.toInt = ((0 + k : Nat) : Int) ∧ mOK r' ∧ mV r' 0 = zRm b s R k ∧ pP 1200 o' out' (A ++ [46] ++ zds (zfd b s R) 0 k)) (fun z => ((52 : Int) - z.2.2.2.2.toInt).toNat) (fun y => ∃ o' out' r' K, y = (o', t, o', out', r') ∧ mOK r' ∧ isK b s R K ∧ pP 1200 o' out' (A ++ zfz (zfd b s R) K)) (by
    rintro _ ⟨k, hk, hnz, o0, u0, r0, y7, rfl, h7, hr0, hv0, hP⟩
    unfold f_M_radix_303_step f_M_radix_303_body
    dsimp only
    obtain ⟨o2, v1, v2⟩ := M_rad378 t ts cc p (r := r0) h36 hP
    by_cases ck : k = 52
    · rw [if_pos (show 52 ≤ y7 by rw [i_le, h7, e52]; omega), v1]
      exact Or.inr ⟨_, rfl, o2, u0, r0, k, rfl, hr0, ⟨hk, Or.inl ck, hnz⟩, v2⟩
    · rw [if_neg (show ¬ 52 ≤ y7 by rw [i_le, h7, e52]; omega)]
      obtain ⟨ln, w1, w2⟩ := M_length t ts o0 cc p hr0 (a := 0) (x1 := 0) (by decide) rfl
      rw [w1, Option.bind_some]
      rw [hv0] at w2
      by_cases cz : zRm b s R k = 0
      · rw [zlen_0.mpr cz] at w2
        rw [if_pos (show ln ≤ 0 by rw [i_le, w2, e0]; exact Int.le_refl _), v1]
        exact Or.inr ⟨_, rfl, o2, u0, r0, k, rfl, hr0, ⟨hk, Or.inr cz, hnz⟩, v2⟩
      · have hlz : zlen (zRm b s R k) ≠ 0 := fun w => cz (zlen_0.mp w)
        rw [if_neg (show ¬ ln ≤ 0 by rw [i_le, w2, e0]; omega)]
        clear hlz w2 v1 v2
        have hzl := zR_lt (b := b) hR k
        have hfit : zRm b s R k * b < 2 ^ (s + 6) := by
          have g1 : zRm b s R k * b ≤ zRm b s R k * 64 := Nat.mul_le_mul_left _ (by omega)
          rw [Nat.pow_add]
          have g2 : zRm b s R k * 64 < 2 ^ s * 2 ^ 6 := (Nat.mul_lt_mul_right (show 0 < 64 by decide)).mpr hzl
          omega
        obtain ⟨r1, w3, w4, w5, w6⟩ := M_times t ts o0 cc p hr0 (a := 0) (x1 := 0) (x2 := x3) (x3 := 0) (p := 0) (by decide) rfl h3 rfl
        rw [hv0, Nat.add_zero, Nat.mod_eq_of_lt (mTop_big (Nat.lt_of_lt_of_le hfit (p2le (by omega))))] at w5
        rw [w3, Option.bind_some]
        obtain ⟨dd, w7, w8⟩ := M_bits t ts o0 cc p w4 (a := 0) (x1 := 0) (by decide) rfl hng (by omega)
        rw [w7, Option.bind_some]
        have h36k := h36 (0 + k)
        have hdd : dd.toInt = ((zfd b s R (0 + k) : Nat) : Int) := by
          rw [w8, w5, Nat.zero_add] at *
          unfold zfd at h36k ⊢
          rw [Nat.mod_eq_of_lt (Nat.lt_of_lt_of_le h36k (by decide))]
        have hd32 : (dd.toInt32).toInt = ((zfd b s R (0 + k) : Nat) : Int) := by
          rw [l2i (by rw [hdd]; omega) (by rw [hdd]; omega), hdd]
        obtain ⟨o1, u1, r2, q1, q2, q3, q4⟩ := M_rad339 t ts cc p (x3 := x3) (x7 := y7) (by omega) hfit h5 hd32 h36k w4 w5 hP (by rw [List.length_append, List.length_append, zds_len, List.length_singleton]; omega)
        rw [q1]
        rw [← zR_s] at q3
        rw [List.append_assoc] at q4
        have hs7 : (y7 + 1).toInt = ((0 + (k + 1) : Nat) : Int) := i_suc (k := 0 + k) h7 (by omega)
        refine Or.inl ⟨_, rfl, ⟨k + 1, by omega, fun i hi => ?_, o1, u1, r2, _, rfl, hs7, q2, q3, q4⟩, ?_⟩
        · rcases Nat.lt_or_ge i k with w | w
          · exact hnz i w
          · rw [show i = k by omega]
            exact cz
        · dsimp only
          rw [hs7, h7]
          omega) ⟨0, by omega, fun i hi => absurd hi (Nat.not_lt_zero _), o, out, r, 0, rfl, rfl, hr, hrR, by
            show pP 1200 o out (A ++ [46] ++ [])
            rw [List.append_nil]
            exact h⟩
  exact ⟨o', out', r', K, t1, t3, t4, t5⟩
theorem M_rad281 (t ts cc p : Int32) {b s R : Nat} (hb : 2 ≤ b) (hb36 : b ≤ 36) (hs : s ≤ 1074) (hR : R < 2 ^ s) {x3 x5 : Int32} (h3 : x3.toInt = b) (h5 : R ≠ 0 → x5.toInt = -(s : Int)) {o : Int32} {out r : Nat → Int32} (hr : mOK r) (hrR : mV r 0 = R) {A : List Int32} (h : pP 1200 o out A) (hl : A.length ≤ 1100) :
    ∃ o' out' r' K, f_M_radix_281 t ts o cc p out r x3 x5 = some (o', t, o', out', r') ∧ mOK r' ∧ isK b s R K ∧ pP 1200 o' out' (A ++ zfz (zfd b s R) K) := by
  have e0 : (0 : Int32).toInt = 0 := rfl
  unfold f_M_radix_281
  obtain ⟨ln, w1, w2⟩ := M_length t ts o cc p hr (a := 0) (x1 := 0) (by decide) rfl
  rw [w1, Option.bind_some]
  rw [hrR] at w2
  by_cases c : R = 0
  · rw [zlen_0.mpr c] at w2
    rw [if_pos (show ln = 0 by rw [i_eq, w2]; rfl)]
    refine ⟨o, out, r, 0, rfl, hr, ⟨by decide, Or.inr c, fun k hk => absurd hk (Nat.not_lt_zero _)⟩, ?_⟩
    show pP 1200 o out (A ++ [])
    rw [List.append_nil]
    exact h
  · have hlz : zlen R ≠ 0 := fun w => c (zlen_0.mp w)
    rw [if_neg (show ¬ ln = 0 by rw [i_eq, w2, e0]; omega)]
    obtain ⟨o1, u1, t1, t2, _⟩ := M_emit t ts cc p h (by omega) 46
    rw [t1, Option.bind_some]
    dsimp only
    exact M_rad303 t ts cc p hb hb36 hs hR h3 (h5 c) hr hrR t2 hl
