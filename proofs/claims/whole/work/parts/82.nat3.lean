/-! Natural: shifted up -/
theorem sh_limb {a b s : Int32} {A C k : Nat} (ha : a.toInt = A) (hb : b.toInt = C) (hs : s.toInt = k) (hk : k < 30) (hC : C < 1073741824) : (((jshl a s) ||| (jushr b (30 - s))) &&& 1073741823).toInt = ((A * 2 ^ k % 1073741824 + C / 2 ^ (30 - k) : Nat) : Int) := by
  have e30 : (30 : Int32).toInt = 30 := rfl
  have hs2 : (30 - s).toInt = ((30 - k : Nat) : Int) := by rw [i_sub, e30, hs] <;> (try rw [e30, hs]) <;> omega
  have hu : (jushr b (30 - s)).toInt = ((C / 2 ^ (30 - k) : Nat) : Int) := by
    rw [i_ushr hs2 (by omega) (by omega), hb]
    exact (Int.natCast_ediv _ _).symm
  have hp : 2 ^ (30 - k) * 2 ^ k = 1073741824 := by
    rw [← Nat.pow_add, show 30 - k + k = 30 by omega]
  have hCl : C / 2 ^ (30 - k) < 2 ^ k := by
    apply Nat.div_lt_of_lt_mul
    rw [hp]
    exact hC
  have hk30 : 2 ^ k ≤ 2 ^ 30 := p2le (by omega)
  have ra := i_rng a
  have hab : a.toBitVec.toNat = A := by have := i_bv a; omega
  have hub : (jushr b (30 - s)).toBitVec.toNat = C / 2 ^ (30 - k) := by
    have h1 := i_bv (jushr b (30 - s))
    rw [hu] at h1
    have h2 : C / 2 ^ (30 - k) ≤ C := Nat.div_le_self _ _
    generalize C / 2 ^ (30 - k) = z at h1 h2 ⊢
    omega
  have hsb := i_shlN a hs (by omega)
  rw [hab] at hsb
  have hmod : A * 2 ^ k % 4294967296 % 1073741824 = A * 2 ^ k % 1073741824 := by omega
  have hmul : A * 2 ^ k % 1073741824 = 2 ^ k * (A % 2 ^ (30 - k)) := by
    rw [← hp, Nat.mul_mod_mul_right, Nat.mul_comm]
  have hor : ((jshl a s) ||| (jushr b (30 - s))).toBitVec.toNat % 1073741824 = A * 2 ^ k % 1073741824 + C / 2 ^ (30 - k) := by
    rw [Int32.toBitVec_or, BitVec.toNat_or, hsb, hub]
    show (_ ||| _) % 2 ^ 30 = _
    rw [Nat.or_mod_two_pow]
    show (A * 2 ^ k % 4294967296 % 1073741824 ||| C / 2 ^ (30 - k) % 1073741824) = _
    rw [hmod, Nat.mod_eq_of_lt (Nat.lt_of_lt_of_le hCl hk30), hmul, ← Nat.two_pow_add_eq_or_of_lt hCl]
  have hbv := i_bv ((jshl a s) ||| (jushr b (30 - s)))
  generalize (jshl a s) ||| (jushr b (30 - s)) = o at hor hbv ⊢
  rw [i_and 30 (by decide) rfl]
  show o.toInt % 1073741824 = _
  rw [← hor]
  omega
theorem dig_low {v k far i : Nat} (h : i < far) : nd (v * 2 ^ (30 * far + k)) i = 0 := by
  unfold nd
  obtain ⟨j, rfl⟩ : ∃ j, far = i + 1 + j := ⟨far - (i + 1), by omega⟩
  have e : v * 2 ^ (30 * (i + 1 + j) + k) = v * 2 ^ k * 1073741824 ^ j * 1073741824 * 1073741824 ^ i := by
    rw [Nat.pow_add, ← nB2, Nat.pow_add, Nat.pow_succ, Nat.mul_comm (1073741824 ^ i * 1073741824 * 1073741824 ^ j) (2 ^ k), ← Nat.mul_assoc, ← Nat.mul_assoc, ← Nat.mul_assoc, Nat.mul_right_comm (v * 2 ^ k) (1073741824 ^ i), Nat.mul_right_comm (v * 2 ^ k * 1073741824) (1073741824 ^ i), Nat.mul_right_comm (v * 2 ^ k) 1073741824]
  rw [e, Nat.mul_div_cancel _ (nBp i), Nat.mul_mod_left]
theorem dig_div {v k far j : Nat} : v * 2 ^ (30 * far + k) / 1073741824 ^ (far + j) = v * 2 ^ k / 1073741824 ^ j := by
  rw [Nat.pow_add, ← nB2, Nat.add_comm far j, Nat.pow_add, Nat.mul_comm (1073741824 ^ far) (2 ^ k), ← Nat.mul_assoc, Nat.mul_div_mul_right _ _ (nBp far)]
theorem dig_sh0 {v k far : Nat} : nd (v * 2 ^ (30 * far + k)) far = nd v 0 * 2 ^ k % 1073741824 := by
  have h := @dig_div v k far 0
  rw [Nat.add_zero, Nat.pow_zero, Nat.div_one] at h
  unfold nd
  rw [h, Nat.pow_zero, Nat.div_one, Nat.mod_mul_mod]
theorem dig_shS {v k far j : Nat} (hk : k < 30) : nd (v * 2 ^ (30 * far + k)) (far + (j + 1)) = nd v (j + 1) * 2 ^ k % 1073741824 + nd v j / 2 ^ (30 - k) := by
  have hp : 2 ^ (30 - k) * 2 ^ k = 1073741824 := by
    rw [← Nat.pow_add, show 30 - k + k = 30 by omega]
  have h1 : v * 2 ^ k / 1073741824 ^ (j + 1) = v / 1073741824 ^ j / 2 ^ (30 - k) := by
    rw [Nat.pow_succ, ← hp, ← Nat.mul_assoc, Nat.mul_div_mul_right _ _ (p2pos k), Nat.div_div_eq_div_mul, hp]
  have h2 : v / 1073741824 ^ j / 2 ^ (30 - k) = v / 1073741824 ^ (j + 1) * 2 ^ k + nd v j / 2 ^ (30 - k) := by
    have e : v / 1073741824 ^ j = nd v j + 2 ^ (30 - k) * (2 ^ k * (v / 1073741824 ^ (j + 1))) := by
      rw [← Nat.mul_assoc, hp, Nat.add_comm]
      exact nd_div v j
    rw [e, Nat.add_mul_div_left _ _ (p2pos _), Nat.add_comm, Nat.mul_comm (2 ^ k)]
  have hl : nd v j / 2 ^ (30 - k) < 2 ^ k := by
    apply Nat.div_lt_of_lt_mul
    rw [hp]
    exact nd_lt v j
  have h3 : v / 1073741824 ^ (j + 1) * 2 ^ k % 1073741824 = nd v (j + 1) * 2 ^ k % 1073741824 := by
    unfold nd
    rw [Nat.mod_mul_mod]
  have h4 : nd v (j + 1) * 2 ^ k % 1073741824 = 2 ^ k * (nd v (j + 1) % 2 ^ (30 - k)) := by
    rw [← hp, Nat.mul_mod_mul_right, Nat.mul_comm]
  have h5 : 2 ^ k * (nd v (j + 1) % 2 ^ (30 - k)) + 2 ^ k ≤ 1073741824 := by
    have : nd v (j + 1) % 2 ^ (30 - k) + 1 ≤ 2 ^ (30 - k) := Nat.mod_lt _ (p2pos _)
    have h6 := Nat.mul_le_mul_left (2 ^ k) this
    rw [Nat.mul_add, Nat.mul_one, Nat.mul_comm (2 ^ k) (2 ^ (30 - k)), hp] at h6
    exact h6
  have e0 : nd (v * 2 ^ (30 * far + k)) (far + (j + 1)) = v * 2 ^ (30 * far + k) / 1073741824 ^ (far + (j + 1)) % 1073741824 := rfl
  rw [e0, dig_div, h1, h2, Nat.add_mod, h3]
  rw [← h4] at h5
  generalize nd v (j + 1) * 2 ^ k % 1073741824 = x at h5 ⊢
  generalize nd v j / 2 ^ (30 - k) = y at hl ⊢
  generalize 2 ^ k = P at h5 hl
  rw [Nat.mod_eq_of_lt (show y < 1073741824 by omega), Nat.mod_eq_of_lt (by omega)]
theorem limb_same {us : Int32} {l b : Nat → Int32} {x : Int32} {k i : Nat} (hb : ∀ i, i < k → b i = l i) (hx : x.toInt = (i : Int)) (hi : i < k) : f_N_limbAt us b x = f_N_limbAt us l x := by
  have e : x.toNatClampNeg = i := by rw [i_cl, hx, Int.toNat_natCast]
  unfold f_N_limbAt
  rw [e, hb i hi]
theorem N_shiftUp {us : Int32} {l : Nat → Int32} {v : Nat} (h : nR us l v) {x : Int32} {n : Nat} (hx : x.toInt.toNat = n) (hV : v * 2 ^ n < 1073741824 ^ 48) : ∃ us' l', f_N_shiftUp us l x = some (us', l') ∧ nR us' l' (v * 2 ^ n) := by
  have e0 : (0 : Int32).toInt = 0 := rfl
  have e1 : (1 : Int32).toInt = 1 := rfl
  have e30 : (30 : Int32).toInt = 30 := rfl
  have e48 : (48 : Int32).toInt = 48 := rfl
  have rx := i_rng x
  unfold f_N_shiftUp
  rcases Nat.eq_zero_or_pos n with c | c
  · rw [if_pos (show x ≤ 0 by rw [i_le, e0]; omega), c, Nat.pow_zero, Nat.mul_one]
    exact ⟨us, l, rfl, h⟩
  · have hxn : x.toInt = (n : Int) := by omega
    rw [if_neg (show ¬ x ≤ 0 by rw [i_le, e0]; omega)]
    by_cases hv : v = 0
    · rw [if_pos ((nR_0 h).mpr hv), hv, Nat.zero_mul]
      rw [hv] at h
      exact ⟨us, l, rfl, h⟩
    · rw [if_neg (fun q => hv ((nR_0 h).mp q))]
      have hh := h
      obtain ⟨u, h1, h2, h3, h4⟩ := hh
      obtain ⟨far, hfar⟩ : ∃ far, far = n / 30 := ⟨_, rfl⟩
      obtain ⟨k, hk⟩ : ∃ k, k = n % 30 := ⟨_, rfl⟩
      have hn : n = 30 * far + k := by omega
      have hk30 : k < 30 := by omega
      have f1 : (x / 30).toInt = (far : Int) := by
        rw [i_div (by omega) (by rw [e30]; omega), hxn, e30]
        omega
      have f2 : (jrem x 30).toInt = (k : Int) := by
        rw [i_rem (by omega) (by rw [e30]; omega), hxn, e30]
        omega
      have hfb : far ≤ 71582788 := by omega
      have f3 : (us + x / 30).toInt = ((u + far : Nat) : Int) := by rw [i_add, h1, f1] <;> (try rw [h1, f1]) <;> omega
      have f4 : (us + x / 30 + 1).toInt = ((u + far + 1 : Nat) : Int) := i_suc f3 (by omega)
      obtain ⟨len, hlen⟩ : ∃ len, len = min (u + far + 1) 48 := ⟨_, rfl⟩
      have f5 : (if 48 < us + x / 30 + 1 then 48 else us + x / 30 + 1).toInt = (len : Int) := by
        by_cases c2 : (48 : Int32) < us + x / 30 + 1
        · rw [if_pos c2, e48]
          rw [i_lt, e48, f4] at c2
          omega
        · rw [if_neg c2, f4]
          rw [i_lt, e48, f4] at c2
          omega
      generalize (if 48 < us + x / 30 + 1 then 48 else us + x / 30 + 1) = x4 at f5 ⊢
      generalize x / 30 = x2 at f1 ⊢
      generalize jrem x 30 = x3 at f2 ⊢
      have f6 : (x4 - 1).toInt = (len : Int) - 1 := by rw [i_sub, f5, e1] <;> (try rw [f5, e1]) <;> omega
      obtain ⟨X, hXX⟩ : ∃ X, X = v * 2 ^ n := ⟨_, rfl⟩
      have hXlt : X < 1073741824 ^ len := by
        rcases Nat.lt_or_ge (u + far + 1) 48 with q | q
        · rw [show len = u + (far + 1) by omega, hXX, hn, Nat.pow_add, Nat.pow_add, ← nB2, Nat.pow_succ]
          have a1 : 2 ^ k ≤ 2 ^ 30 := p2le (by omega)
          have a2 : v * (1073741824 ^ far * 2 ^ k) ≤ v * (1073741824 ^ far * 1073741824) := Nat.mul_le_mul_left _ (Nat.mul_le_mul_left _ a1)
          have a3 : v * (1073741824 ^ far * 1073741824) < 1073741824 ^ u * (1073741824 ^ far * 1073741824) := (Nat.mul_lt_mul_right (Nat.mul_pos (nBp far) (by decide))).mpr h3.1
          exact Nat.lt_of_le_of_lt a2 a3
        · rw [show len = 48 by omega, hXX]
          exact hV
      rw [← hXX]
      unfold f_N_shiftUp_43
      obtain ⟨⟨us', l'⟩, a1, a2⟩ := zrun_inv (step := f_N_shiftUp_43_step x2 x3 x4) (x := (us, l, x4 - 1)) (fun z => z.1 = us ∧ ∃ i : Nat, i ≤ len ∧ z.2.2.toInt = (i : Int) - 1 ∧ (∀ j, i ≤ j → j < len → (z.2.1 j).toInt = (nd X j : Int)) ∧ ∀ j, j < i → z.2.1 j = l j) (fun z => (z.2.2.toInt + 1).toNat) (fun d => nR d.1 d.2 X) (by
        rintro ⟨q, b, x5⟩ ⟨hq, i, hi, h5, hd, hs⟩
        dsimp only at hq h5 hd hs
        subst hq
        unfold f_N_shiftUp_43_step f_N_shiftUp_43_body f_N_shiftUp_90
        dsimp only
        cases i with
        | zero =>
          rw [if_pos (show x5 < 0 by rw [i_lt, h5, e0]; omega)]
          obtain ⟨us', u1, u2⟩ := N_drop f5 (by omega) ⟨hXlt, fun j hj => hd j (by omega) hj⟩
          rw [u1, Option.bind_some]
          exact Or.inr ⟨_, rfl, u2⟩
        | succ i =>
          have h5' : x5.toInt = (i : Int) := by omega
          rw [if_neg (show ¬ x5 < 0 by rw [i_lt, h5, e0]; omega)]
          have g1 : (x5 - x2).toInt = (i : Int) - far := by rw [i_sub, h5', f1] <;> (try rw [h5', f1]) <;> omega
          have g2 : (x5 - x2 - 1).toInt = (i : Int) - far - 1 := by rw [i_sub, g1, e1] <;> (try rw [g1, e1]) <;> omega
          have hz : zin x5 48 := ⟨by omega, by omega⟩
          have key : ∃ r1 r2, f_N_limbAt q b (x5 - x2) = some r1 ∧ f_N_limbAt q b (x5 - x2 - 1) = some r2 ∧ (((jshl r1 x3) ||| (jushr r2 (30 - x3))) &&& 1073741823).toInt = (nd X i : Int) := by
            rcases Nat.lt_or_ge i far with ci | ci
            · refine ⟨0, 0, N_limbNeg (by omega), N_limbNeg (by omega), ?_⟩
              rw [sh_limb (A := 0) (C := 0) rfl rfl f2 hk30 (by decide), hXX, hn, dig_low ci, Nat.zero_mul, Nat.zero_mod, Nat.zero_div]
            · obtain ⟨j, rfl⟩ : ∃ j, i = far + j := ⟨i - far, by omega⟩
              have g1' : (x5 - x2).toInt = (j : Int) := by omega
              obtain ⟨r1, p1, p2⟩ := N_limbAt h g1'
              cases j with
              | zero =>
                refine ⟨r1, 0, (limb_same hs g1' (by omega)).trans p1, N_limbNeg (by omega), ?_⟩
                rw [sh_limb (C := 0) p2 rfl f2 hk30 (by decide), hXX, hn, Nat.add_zero far, dig_sh0, Nat.zero_div, Nat.add_zero]
              | succ j =>
                have g2' : (x5 - x2 - 1).toInt = (j : Int) := by omega
                obtain ⟨r2, q1, q2⟩ := N_limbAt h g2'
                refine ⟨r1, r2, (limb_same hs g1' (by omega)).trans p1, (limb_same hs g2' (by omega)).trans q1, ?_⟩
                rw [sh_limb p2 q2 f2 hk30 (nd_lt _ _), hXX, hn, dig_shS hk30]
          obtain ⟨r1, r2, t1, t2, t3⟩ := key
          rw [t1, Option.bind_some, t2, Option.bind_some, if_pos hz, i_cl, h5', Int.toNat_natCast]
          have hil : i ≤ len := Nat.le_of_succ_le hi
          have hm : (x5 + (-1)).toInt = (i : Int) - 1 := i_prd h5'
          refine Or.inl ⟨_, rfl, ⟨rfl, i, hil, hm, fun j hj hj2 => ?_, fun j hj => ?_⟩, by dsimp only; rw [hm]; (try rw [h5']); exact mu_dn _⟩
          · clear hm
            dsimp only
            by_cases cj : j = i
            · subst cj
              rw [pk_us, t3]
            · rw [pk_un cj]
              exact hd j (by omega) hj2
          · clear hm
            dsimp only
            rw [pk_un (by omega)]
            exact hs j (by omega)) ⟨rfl, len, Nat.le_refl _, f6, fun j hj hj2 => by omega, fun j _ => rfl⟩
      exact ⟨us', l', a1, a2⟩
