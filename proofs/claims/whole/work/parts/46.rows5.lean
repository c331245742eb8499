/-! the reference's rows: tens, quotient -/
theorem M_tens24 (c1 c2 c3 c4 c5 : Int32) {r : Nat → Int32} (hr : mOK r) {a n : Nat} {x1 x3 : Int32} (ha : a < 6) (hx1 : x1.toInt = a) (hx3 : x3.toInt = n) :
    ∃ r', f_M_tens_24 c1 c2 c3 c4 c5 r x1 x3 = some r' ∧ mR r r' a (mV r a * 10 ^ n % mTop) := by
  have e0 : (0 : Int32).toInt = 0 := rfl
  unfold f_M_tens_24
  refine zrun_inv (step := f_M_tens_24_step c1 c2 c3 c4 c5 x1) (x := (r, x3)) (fun z => ∃ k : Nat, k ≤ n ∧ z.2.toInt = (k : Int) ∧ mR r z.1 a (mV r a * 10 ^ (n - k) % mTop)) (fun z => z.2.toInt.toNat)
    (fun r' => mR r r' a (mV r a * 10 ^ n % mTop)) ?_ ⟨n, Nat.le_refl _, hx3, hr, ?_, fun b _ _ => rfl⟩
  · rintro ⟨q, x⟩ ⟨k, hk, hx, hq⟩
    dsimp only at hx hq
    unfold f_M_tens_24_step f_M_tens_24_body
    dsimp only
    by_cases hk0 : k = 0
    · subst hk0
      rw [if_pos (by rw [i_le, e0, hx]; omega)]
      exact Or.inr ⟨q, rfl, hq⟩
    · obtain ⟨j, rfl⟩ : ∃ j, k = j + 1 := ⟨k - 1, by omega⟩
      obtain ⟨r', h1, h2, h3, h5⟩ := M_times c1 c2 c3 c4 c5 hq.1 (m := 10) (p := 0) (x2 := 10) (x3 := 0) ha hx1 rfl rfl
      rw [if_neg (by rw [i_le, e0, hx]; omega), h1, Option.bind_some]
      refine Or.inl ⟨_, rfl, ⟨j, by omega, by rw [i_prd hx]; omega, ?_⟩, by dsimp only; rw [i_prd hx, hx]; omega⟩
      have hone := mR_trans hq (mR_of ha h2 h3 h5)
      refine ⟨hone.1, ?_, hone.2.2⟩
      rw [hone.2.1, hq.2.1, Nat.add_zero, Nat.mod_mul_mod, Nat.mul_assoc, ← Nat.pow_succ]
      congr 3
      omega
  · rw [Nat.sub_self, Nat.pow_zero, Nat.mul_one, Nat.mod_eq_of_lt (mV_lt hr ha)]
theorem M_tens (c1 c2 c3 c4 c5 : Int32) {r : Nat → Int32} (hr : mOK r) {a n : Nat} {x1 x2 : Int32} (ha : a < 6) (hx1 : x1.toInt = a) (hx2 : x2.toInt = n) :
    ∃ r', f_M_tens c1 c2 c3 c4 c5 r x1 x2 = some r' ∧ mR r r' a (mV r a * 10 ^ n % mTop) := by
  have e6 : (6 : Int32).toInt = 6 := rfl
  unfold f_M_tens f_M_tens_2
  refine zrun_inv (step := f_M_tens_2_step c1 c2 c3 c4 c5 x1) (x := (r, x2)) (fun z => ∃ k : Nat, k ≤ n ∧ z.2.toInt = (k : Int) ∧ mR r z.1 a (mV r a * 10 ^ (n - k) % mTop)) (fun z => z.2.toInt.toNat)
    (fun r' => mR r r' a (mV r a * 10 ^ n % mTop)) ?_ ⟨n, Nat.le_refl _, hx2, hr, ?_, fun b _ _ => rfl⟩
  · rintro ⟨q, x⟩ ⟨k, hk, hx, hq⟩
    dsimp only at hx hq
    unfold f_M_tens_2_step f_M_tens_2_body
    dsimp only
    by_cases hk0 : k < 6
    · obtain ⟨r', h1, h2⟩ := M_tens24 c1 c2 c3 c4 c5 hq.1 ha hx1 hx
      rw [if_pos (by rw [i_lt, e6, hx]; omega), h1]
      refine Or.inr ⟨r', rfl, ?_⟩
      have hone := mR_trans hq h2
      refine ⟨hone.1, ?_, hone.2.2⟩
      rw [hone.2.1, hq.2.1, Nat.mod_mul_mod, Nat.mul_assoc, ← Nat.pow_add]
      congr 3
      omega
    · obtain ⟨r', h1, h2, h3, h5⟩ := M_times c1 c2 c3 c4 c5 hq.1 (m := 1000000) (p := 0) (x2 := 1000000) (x3 := 0) ha hx1 rfl rfl
      rw [if_neg (by rw [i_lt, e6, hx]; omega), h1, Option.bind_some]
      have rx := i_rng x
      have hs : (x - 6).toInt = ((k - 6 : Nat) : Int) := by
        rw [i_sub, e6, hx] <;> (try rw [e6, hx]) <;> omega
      refine Or.inl ⟨_, rfl, ⟨k - 6, by omega, hs, ?_⟩, by dsimp only; rw [hs, hx]; omega⟩
      have hone := mR_trans hq (mR_of ha h2 h3 h5)
      refine ⟨hone.1, ?_, hone.2.2⟩
      rw [hone.2.1, hq.2.1, Nat.add_zero, Nat.mod_mul_mod, Nat.mul_assoc, show (1000000 : Nat) = 10 ^ 6 from rfl, ← Nat.pow_add]
      congr 3
      omega
  · rw [Nat.sub_self, Nat.pow_zero, Nat.mul_one, Nat.mod_eq_of_lt (mV_lt hr ha)]
/-- one step of long division in twos -/
theorem div_two_step (A D : Nat) (hD : 0 < D) : A / D = A / (D * 2) * 2 + (if D ≤ A % (D * 2) then 1 else 0) ∧ A % D = if D ≤ A % (D * 2) then A % (D * 2) - D else A % (D * 2) := by
  have h1 := Nat.div_add_mod A (D * 2)
  have h2 : A % (D * 2) < D * 2 := Nat.mod_lt _ (by omega)
  generalize A % (D * 2) = m at h1 h2 ⊢
  generalize A / (D * 2) = q at h1 ⊢
  have e1 : D * 2 * q = D * (q * 2) := by rw [Nat.mul_assoc, Nat.mul_comm 2 q]
  rw [e1] at h1
  by_cases h : D ≤ m
  · rw [if_pos h, if_pos h]
    have e2 : A = (m - D) + D * (q * 2 + 1) := by rw [Nat.mul_add, Nat.mul_one]; omega
    rw [e2, Nat.add_mul_div_left _ _ hD, Nat.add_mul_mod_self_left, Nat.div_eq_of_lt (by omega), Nat.mod_eq_of_lt (by omega)]
    omega
  · rw [if_neg h, if_neg h]
    have e2 : A = m + D * (q * 2) := by omega
    rw [e2, Nat.add_mul_div_left _ _ hD, Nat.add_mul_mod_self_left, Nat.div_eq_of_lt (by omega), Nat.mod_eq_of_lt (by omega)]
    omega
theorem M_quotient (c1 c2 c3 c4 c5 : Int32) {r : Nat → Int32} (hr : mOK r) {n : Nat} {x1 : Int32} (hx1 : x1.toInt = n) (hn : n < 100000) (hB : 0 < mV r 1) (hT : mV r 1 * 2 ^ n < mTop) (hA : mV r 0 < mV r 1 * 2 ^ (n + 1)) :
    ∃ r', f_M_quotient c1 c2 c3 c4 c5 r x1 = some r' ∧ mOK r' ∧ mV r' 3 = mV r 0 / mV r 1 ∧ mV r' 0 = mV r 0 % mV r 1 ∧ mV r' 2 = mV r 2 ∧ mV r' 4 = mV r 4 ∧ mV r' 5 = mV r 5 := by
  obtain ⟨r1, h1, h1R⟩ := M_set c1 c2 c3 c4 c5 hr (a := 3) (x1 := 3) (x2 := 0) (by decide) rfl
  obtain ⟨r2, h2, h2R⟩ := M_shift c1 c2 c3 c4 c5 h1R.1 (a := 1) (x1 := 1) (by decide) rfl hx1
  unfold f_M_quotient
  rw [h1, Option.bind_some, h2, Option.bind_some]
  have v1 : mV r2 1 = mV r 1 * 2 ^ n := by rw [h2R.2.1, h1R.2.2 1 (by decide) (by decide), Nat.mod_eq_of_lt hT]
  have v0 : mV r2 0 = mV r 0 := by rw [h2R.2.2 0 (by decide) (by decide), h1R.2.2 0 (by decide) (by decide)]
  have v3 : mV r2 3 = 0 := by rw [h2R.2.2 3 (by decide) (by decide), h1R.2.1]; rfl
  have w2 : mV r2 2 = mV r 2 := by rw [h2R.2.2 2 (by decide) (by decide), h1R.2.2 2 (by decide) (by decide)]
  have w4 : mV r2 4 = mV r 4 := by rw [h2R.2.2 4 (by decide) (by decide), h1R.2.2 4 (by decide) (by decide)]
  have w5 : mV r2 5 = mV r 5 := by rw [h2R.2.2 5 (by decide) (by decide), h1R.2.2 5 (by decide) (by decide)]
  have hAT : mV r 0 < mTop := mV_lt hr (by decide)
  clear h1 h2
  generalize mV r 0 = A0 at hA hAT v0 ⊢
  generalize mV r 1 = B0 at hB hT hA v1 ⊢
  unfold f_M_quotient_14
  refine zrun_inv (step := f_M_quotient_14_step c1 c2 c3 c4 c5 x1) (x := (r2, 0)) (fun z => ∃ k : Nat, k ≤ n + 1 ∧ z.2.toInt = (k : Int) ∧ mOK z.1 ∧ (k ≤ n → mV z.1 1 = B0 * 2 ^ (n - k)) ∧ mV z.1 3 = A0 / (B0 * 2 ^ (n + 1 - k)) ∧ mV z.1 0 = A0 % (B0 * 2 ^ (n + 1 - k)) ∧ mV z.1 2 = mV r 2 ∧ mV z.1 4 = mV r 4 ∧ mV z.1 5 = mV r 5) (fun z => ((n : Int) + 1 - z.2.toInt).toNat)
    (fun r' => mOK r' ∧ mV r' 3 = A0 / B0 ∧ mV r' 0 = A0 % B0 ∧ mV r' 2 = mV r 2 ∧ mV r' 4 = mV r 4 ∧ mV r' 5 = mV r 5) ?_ ⟨0, by omega, rfl, h2R.1, fun _ => v1, ?_, ?_, w2, w4, w5⟩
  · rintro ⟨q, x2⟩ ⟨k, hk, hx2, hq, hq1, hq3, hq0, hq2, hq4, hq5⟩
    dsimp only at hx2 hq hq1 hq3 hq0 hq2 hq4 hq5
    unfold f_M_quotient_14_step f_M_quotient_14_body
    dsimp only
    by_cases hk2 : k = n + 1
    · subst hk2
      rw [Nat.sub_self, Nat.pow_zero, Nat.mul_one] at hq3 hq0
      rw [if_pos (by rw [i_lt, hx1, hx2]; omega)]
      exact Or.inr ⟨q, rfl, hq, hq3, hq0, hq2, hq4, hq5⟩
    · have hk3 : k ≤ n := by omega
      have hq1 := hq1 hk3
      have hord := M_order c1 c2 c3 c4 c5 hq (a := 0) (b := 1) (x1 := 0) (x2 := 1) (by decide) (by decide) rfl rfl
      rw [if_neg (by rw [i_lt, hx1, hx2]; omega), hord, Option.bind_some]
      have hD : 0 < B0 * 2 ^ (n - k) := Nat.mul_pos hB (p2pos _)
      have hstep := div_two_step A0 (B0 * 2 ^ (n - k)) hD
      have e1 : B0 * 2 ^ (n - k) * 2 = B0 * 2 ^ (n + 1 - k) := by rw [Nat.mul_assoc, ← Nat.pow_succ]; congr 2; omega
      rw [e1] at hstep
      have h7 := i_suc hx2 (by omega)
      have e0 : (0 : Int32).toInt = 0 := rfl
      have e2 : n + 1 - (k + 1) = n - k := by omega
      have hQ : A0 / (B0 * 2 ^ (n - k)) < mTop := Nat.lt_of_le_of_lt (Nat.div_le_self _ _) hAT
      have fin : ∀ (q' : Nat → Int32) (b : Nat) (y : Int32), y.toInt = (b : Int) → mOK q' → mV q' 3 = A0 / (B0 * 2 ^ (n + 1 - k)) → A0 / (B0 * 2 ^ (n - k)) = A0 / (B0 * 2 ^ (n + 1 - k)) * 2 + b → mV q' 0 = A0 % (B0 * 2 ^ (n - k)) → mV q' 1 = B0 * 2 ^ (n - k) → mV q' 2 = mV r 2 → mV q' 4 = mV r 4 → mV q' 5 = mV r 5 →
          (∃ z, f_M_quotient_57 c1 c2 c3 c4 c5 q' x1 x2 3 2 y = some (Sum.inl z) ∧ (∃ k : Nat, k ≤ n + 1 ∧ z.2.toInt = (k : Int) ∧ mOK z.1 ∧ (k ≤ n → mV z.1 1 = B0 * 2 ^ (n - k)) ∧ mV z.1 3 = A0 / (B0 * 2 ^ (n + 1 - k)) ∧ mV z.1 0 = A0 % (B0 * 2 ^ (n + 1 - k)) ∧ mV z.1 2 = mV r 2 ∧ mV z.1 4 = mV r 4 ∧ mV z.1 5 = mV r 5) ∧ ((n : Int) + 1 - z.2.toInt).toNat < ((n : Int) + 1 - x2.toInt).toNat) := by
        intro q' b y hy ok p3 pb p0 p1 p2 p4 p5
        obtain ⟨r3, t1, t2, t3, t4⟩ := M_times c1 c2 c3 c4 c5 ok (a := 3) (m := 2) (x1 := 3) (x2 := 2) (by decide) rfl rfl hy
        have tR := mR_of (by decide) t2 t3 t4
        obtain ⟨r4, s1, sR⟩ := M_halve c1 c2 c3 c4 c5 t2 (a := 1) (x1 := 1) (by decide) rfl
        unfold f_M_quotient_57
        rw [t1, Option.bind_some, s1, Option.bind_some]
        refine ⟨_, rfl, ⟨k + 1, by omega, h7, sR.1, fun hk4 => ?_, ?_, ?_, ?_, ?_, ?_⟩, by dsimp only; rw [h7, hx2]; omega⟩
        · show mV r4 1 = _
          rw [sR.2.1, tR.2.2 1 (by decide) (by decide), p1]
          have : B0 * 2 ^ (n - k) = B0 * 2 ^ (n - (k + 1)) * 2 := by rw [Nat.mul_assoc, ← Nat.pow_succ]; congr 2; omega
          rw [this, Nat.mul_div_cancel _ (by decide)]
        · show mV r4 3 = _
          rw [sR.2.2 3 (by decide) (by decide), tR.2.1, p3, ← pb, e2, Nat.mod_eq_of_lt hQ]
        · show mV r4 0 = _
          rw [sR.2.2 0 (by decide) (by decide), tR.2.2 0 (by decide) (by decide), p0, e2]
        · show mV r4 2 = _
          rw [sR.2.2 2 (by decide) (by decide), tR.2.2 2 (by decide) (by decide), p2]
        · show mV r4 4 = _
          rw [sR.2.2 4 (by decide) (by decide), tR.2.2 4 (by decide) (by decide), p4]
        · show mV r4 5 = _
          rw [sR.2.2 5 (by decide) (by decide), tR.2.2 5 (by decide) (by decide), p5]
      by_cases hlt : mV q 0 < mV q 1
      · have hno : ¬ B0 * 2 ^ (n - k) ≤ A0 % (B0 * 2 ^ (n + 1 - k)) := by rw [← hq0, ← hq1]; omega
        rw [if_neg hno, if_neg hno] at hstep
        have hz : zsg (mV q 0) (mV q 1) = -1 := by unfold zsg; rw [if_pos hlt]
        rw [hz, if_pos (by decide)]
        unfold f_M_quotient_33 f_M_quotient_45
        rw [if_pos rfl, if_pos rfl]
        exact Or.inl (fin q 0 0 rfl hq hq3 hstep.1 (by rw [hq0, hstep.2]) hq1 hq2 hq4 hq5)
      · have hyes : B0 * 2 ^ (n - k) ≤ A0 % (B0 * 2 ^ (n + 1 - k)) := by rw [← hq0, ← hq1]; omega
        rw [if_pos hyes, if_pos hyes] at hstep
        have hz : ¬ zsg (mV q 0) (mV q 1) < 0 := by
          unfold zsg
          rw [if_neg hlt]
          split <;> decide
        obtain ⟨r3, t1, tR⟩ := M_less c1 c2 c3 c4 c5 hq (a := 0) (b := 1) (x1 := 0) (x2 := 1) (by decide) (by decide) (by decide) rfl rfl (by omega)
        rw [if_neg hz]
        unfold f_M_quotient_33 f_M_quotient_45
        rw [if_neg (by decide), t1, Option.bind_some, if_neg (by decide)]
        exact Or.inl (fin r3 1 1 rfl tR.1 (by rw [tR.2.2 3 (by decide) (by decide), hq3]) hstep.1 (by rw [tR.2.1, hq0, hq1, hstep.2]) (by rw [tR.2.2 1 (by decide) (by decide), hq1]) (by rw [tR.2.2 2 (by decide) (by decide), hq2]) (by rw [tR.2.2 4 (by decide) (by decide), hq4]) (by rw [tR.2.2 5 (by decide) (by decide), hq5]))
  · rw [v3, Nat.sub_zero, Nat.div_eq_of_lt hA]
  · rw [v0, Nat.sub_zero, Nat.mod_eq_of_lt hA]
