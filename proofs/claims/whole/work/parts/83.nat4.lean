/-! Natural: less so many times another; divided -/
theorem sub_car {q : Int} (v w k : Nat) : ((v : Int) - q * w) / ((1073741824 ^ k : Nat) : Int) = (((v % 1073741824 ^ k : Nat) : Int) - q * ((w % 1073741824 ^ k : Nat) : Int)) / ((1073741824 ^ k : Nat) : Int) + (((v / 1073741824 ^ k : Nat) : Int) - q * ((w / 1073741824 ^ k : Nat) : Int)) := by
  have hp : ((1073741824 ^ k : Nat) : Int) ≠ 0 := by have := nBp k; omega
  have h : (v : Int) - q * w = (((v % 1073741824 ^ k : Nat) : Int) - q * ((w % 1073741824 ^ k : Nat) : Int)) + ((1073741824 ^ k : Nat) : Int) * (((v / 1073741824 ^ k : Nat) : Int) - q * ((w / 1073741824 ^ k : Nat) : Int)) := by
    have e1 : (v : Int) = ((1073741824 ^ k : Nat) : Int) * ((v / 1073741824 ^ k : Nat) : Int) + ((v % 1073741824 ^ k : Nat) : Int) := by
      rw [← Int.natCast_mul, ← Int.natCast_add, Nat.div_add_mod]
    have e2 : (w : Int) = ((1073741824 ^ k : Nat) : Int) * ((w / 1073741824 ^ k : Nat) : Int) + ((w % 1073741824 ^ k : Nat) : Int) := by
      rw [← Int.natCast_mul, ← Int.natCast_add, Nat.div_add_mod]
    generalize ((1073741824 ^ k : Nat) : Int) = P at *
    generalize ((v / 1073741824 ^ k : Nat) : Int) = a at *
    generalize ((v % 1073741824 ^ k : Nat) : Int) = b at *
    generalize ((w / 1073741824 ^ k : Nat) : Int) = c at *
    generalize ((w % 1073741824 ^ k : Nat) : Int) = d at *
    rw [e1, e2, Int.mul_sub, Int.mul_add, Int.mul_left_comm P q c]
    omega
  rw [h, Int.add_mul_ediv_left _ _ hp]
theorem sub_carS {q : Int} (v w k : Nat) : (((v % 1073741824 ^ (k + 1) : Nat) : Int) - q * ((w % 1073741824 ^ (k + 1) : Nat) : Int)) / ((1073741824 ^ (k + 1) : Nat) : Int) = ((((v % 1073741824 ^ k : Nat) : Int) - q * ((w % 1073741824 ^ k : Nat) : Int)) / ((1073741824 ^ k : Nat) : Int) + ((nd v k : Int) - q * (nd w k : Int))) / 1073741824 := by
  have hp : ((1073741824 ^ k : Nat) : Int) ≠ 0 := by have := nBp k; omega
  have hp0 : (0 : Int) ≤ ((1073741824 ^ k : Nat) : Int) := Int.natCast_nonneg _
  have h : ((v % 1073741824 ^ (k + 1) : Nat) : Int) - q * ((w % 1073741824 ^ (k + 1) : Nat) : Int) = (((v % 1073741824 ^ k : Nat) : Int) - q * ((w % 1073741824 ^ k : Nat) : Int)) + ((1073741824 ^ k : Nat) : Int) * ((nd v k : Int) - q * (nd w k : Int)) := by
    rw [nd_mod, nd_mod, Int.natCast_add, Int.natCast_add, Int.natCast_mul, Int.natCast_mul, Int.mul_add, Int.mul_sub, Int.mul_left_comm _ q]
    omega
  rw [h, Nat.pow_succ, Int.natCast_mul, ← Int.ediv_ediv_of_nonneg hp0, Int.add_mul_ediv_left _ _ hp]
  rfl
theorem sub_dig {q v w k : Nat} (hle : q * w ≤ v) : (nd (v - q * w) k : Int) = ((((v % 1073741824 ^ k : Nat) : Int) - (q : Int) * ((w % 1073741824 ^ k : Nat) : Int)) / ((1073741824 ^ k : Nat) : Int) + ((nd v k : Int) - (q : Int) * (nd w k : Int))) % 1073741824 := by
  have e : (nd (v - q * w) k : Int) = ((v : Int) - (q : Int) * w) / ((1073741824 ^ k : Nat) : Int) % 1073741824 := by
    unfold nd
    rw [Int.natCast_emod, Int.natCast_ediv, Int.ofNat_sub hle, Int.natCast_mul]
    rfl
  rw [e, sub_car, nd_div v k, nd_div w k]
  generalize (((v % 1073741824 ^ k : Nat) : Int) - (q : Int) * ((w % 1073741824 ^ k : Nat) : Int)) / ((1073741824 ^ k : Nat) : Int) = c
  generalize v / 1073741824 ^ (k + 1) = x
  generalize w / 1073741824 ^ (k + 1) = y
  rw [Int.natCast_add, Int.natCast_add, Int.natCast_mul, Int.natCast_mul, Int.mul_add, Int.mul_left_comm (q : Int)]
  generalize (q : Int) * (y : Int) = qy
  generalize (q : Int) * (nd w k : Int) = qd
  show (c + (1073741824 * (x : Int) + (nd v k : Int) - (1073741824 * qy + qd))) % 1073741824 = _
  omega
theorem sub_carL {q v w k : Nat} : -(q : Int) ≤ (((v % 1073741824 ^ k : Nat) : Int) - (q : Int) * ((w % 1073741824 ^ k : Nat) : Int)) / ((1073741824 ^ k : Nat) : Int) ∧ (((v % 1073741824 ^ k : Nat) : Int) - (q : Int) * ((w % 1073741824 ^ k : Nat) : Int)) / ((1073741824 ^ k : Nat) : Int) < 1 := by
  have hp : (0 : Int) < ((1073741824 ^ k : Nat) : Int) := by have := nBp k; omega
  have h1 : ((v % 1073741824 ^ k : Nat) : Int) < ((1073741824 ^ k : Nat) : Int) := Int.ofNat_lt.mpr (Nat.mod_lt _ (nBp k))
  have h2 : ((w % 1073741824 ^ k : Nat) : Int) ≤ ((1073741824 ^ k : Nat) : Int) := Int.ofNat_le.mpr (Nat.le_of_lt (Nat.mod_lt _ (nBp k)))
  have h3 : (q : Int) * ((w % 1073741824 ^ k : Nat) : Int) ≤ (q : Int) * ((1073741824 ^ k : Nat) : Int) := Int.mul_le_mul_of_nonneg_left h2 (Int.natCast_nonneg _)
  have h4 : (0 : Int) ≤ (q : Int) * ((w % 1073741824 ^ k : Nat) : Int) := Int.mul_nonneg (Int.natCast_nonneg _) (Int.natCast_nonneg _)
  have h5 : (0 : Int) ≤ ((v % 1073741824 ^ k : Nat) : Int) := Int.natCast_nonneg _
  generalize (q : Int) * ((w % 1073741824 ^ k : Nat) : Int) = z at *
  generalize ((v % 1073741824 ^ k : Nat) : Int) = y at *
  generalize ((1073741824 ^ k : Nat) : Int) = P at *
  constructor
  · rw [Int.le_ediv_iff_mul_le hp, Int.neg_mul]
    omega
  · rw [Int.ediv_lt_iff_lt_mul hp]
    omega
theorem N_subT {us os : Int32} {l m : Nat → Int32} {v w q : Nat} (h : nR us l v) (g : nR os m w) {x2 : Int32} (hx2 : x2.toInt = q) (hq : q ≤ 1073741824) (hle : q * w ≤ v) : ∃ us' l', f_N_subtractTimes us l os m x2 = some (us', l') ∧ nR us' l' (v - q * w) := by
  have hh := h
  obtain ⟨u, h1, h2, h3, h4⟩ := hh
  unfold f_N_subtractTimes f_N_subtractTimes_5
  obtain ⟨⟨us', l'⟩, a1, a2⟩ := zrun_inv (step := f_N_subtractTimes_5_step os m x2) (x := (us, l, 0, 0)) (fun z => z.1 = us ∧ ∃ k : Nat, k ≤ u ∧ z.2.2.2.toInt = k ∧ z.2.2.1.toInt = (((v % 1073741824 ^ k : Nat) : Int) - (q : Int) * ((w % 1073741824 ^ k : Nat) : Int)) / ((1073741824 ^ k : Nat) : Int) ∧ (∀ i, i < k → (z.2.1 i).toInt = (nd (v - q * w) i : Int)) ∧ ∀ i, k ≤ i → z.2.1 i = l i) (fun z => (u - z.2.2.2.toInt).toNat) (fun d => nR d.1 d.2 (v - q * w)) (by
    rintro ⟨p, b, cy, x5⟩ ⟨hp, k, hk, h5, hc, hd, hs⟩
    dsimp only at hp h5 hc hd hs
    subst hp
    unfold f_N_subtractTimes_5_step f_N_subtractTimes_5_body f_N_subtractTimes_59
    dsimp only
    by_cases c : k = u
    · subst c
      rw [if_pos (show p ≤ x5 by rw [i_le, h1, h5]; omega)]
      obtain ⟨us', u1, u2⟩ := N_drop h1 h2 ⟨Nat.lt_of_le_of_lt (Nat.sub_le _ _) h3.1, hd⟩
      rw [u1, Option.bind_some]
      exact Or.inr ⟨_, rfl, u2⟩
    · have hz : zin x5 48 := ⟨by omega, by omega⟩
      obtain ⟨d2, q1, q2⟩ := N_limbAt g h5
      rw [if_neg (show ¬ p ≤ x5 by rw [i_le, h1, h5]; omega), if_pos hz, q1, Option.bind_some, if_pos hz, i_cl, h5, Int.toNat_natCast, hs k (Nat.le_refl _)]
      have hl := h3.2 k (by omega)
      have l1 := nd_lt v k
      have l2 := nd_lt w k
      have hcl := @sub_carL q v w k
      have hcS := @sub_carS (q : Int) v w k
      have hdg := @sub_dig q v w k hle
      generalize (((v % 1073741824 ^ k : Nat) : Int) - (q : Int) * ((w % 1073741824 ^ k : Nat) : Int)) / ((1073741824 ^ k : Nat) : Int) = cc at *
      have hpr : nd w k * q ≤ 1073741823 * 1073741824 := Nat.mul_le_mul (by omega) hq
      have hm : (d2.toInt64 * x2.toInt64).toInt = ((nd w k * q : Nat) : Int) := by
        have e : d2.toInt64.toInt * x2.toInt64.toInt = ((nd w k * q : Nat) : Int) := by rw [i2l, i2l, q2, hx2]; exact (Int.natCast_mul _ _).symm
        generalize nd w k * q = z at *
        rw [l_mul (by rw [e]; omega) (by rw [e]; omega), e]
      have eqp : (q : Int) * (nd w k : Int) = ((nd w k * q : Nat) : Int) := by rw [Int.natCast_mul, Int.mul_comm]
      rw [eqp] at hcS hdg
      generalize nd w k * q = pr at *
      have hs1 : ((l k).toInt64 - d2.toInt64 * x2.toInt64).toInt = (nd v k : Int) - pr := by
        rw [l_sub, i2l, hl, hm] <;> (try rw [i2l, hl, hm]) <;> omega
      have hs2 : (cy + ((l k).toInt64 - d2.toInt64 * x2.toInt64)).toInt = cc + ((nd v k : Int) - pr) := by
        rw [l_add, hc, hs1] <;> (try rw [hc, hs1]) <;> omega
      have hnew := i_mask (cy + ((l k).toInt64 - d2.toInt64 * x2.toInt64))
      have hcar := l_shr (x := cy + ((l k).toInt64 - d2.toInt64 * x2.toInt64)) (s := 30) (n := 30) rfl (by decide)
      rw [hs2] at hnew hcar
      generalize cy + ((l k).toInt64 - d2.toInt64 * x2.toInt64) = sm at *
      have hsu : (x5 + 1).toInt = ((k + 1 : Nat) : Int) := i_suc h5 (by omega)
      refine Or.inl ⟨_, rfl, ⟨rfl, k + 1, by omega, hsu, ?_, fun i hi => ?_, fun i hi => ?_⟩, by dsimp only; rw [hsu]; (try rw [h5]); clear hsu h5; omega⟩
      · dsimp only
        rw [hcar, hcS]
        rfl
      · dsimp only
        by_cases ci : i = k
        · subst ci
          rw [pk_us, hnew, hdg]
        · rw [pk_un ci]
          exact hd i (by omega)
      · dsimp only
        rw [pk_un (by omega)]
        exact hs i (by omega)) ⟨rfl, 0, by omega, rfl, by
          dsimp only
          rw [Nat.pow_zero, Nat.mod_one, Nat.mod_one]
          show (0 : Int) = (0 - (q : Int) * 0) / 1
          rw [Int.mul_zero, Int.sub_zero, Int.zero_ediv], fun i hi => absurd hi (Nat.not_lt_zero _), fun i _ => rfl⟩
  exact ⟨us', l', a1, a2⟩
/-- the guess lacks 1 or nothing -/
theorem div_guess {v w P : Nat} (hP : 0 < P) (hw : 536870912 * P ≤ w) (hv : v < w * 1048576) : v / P / (w / P + 1) * w ≤ v ∧ v < (v / P / (w / P + 1) + 2) * w ∧ v / P / (w / P + 1) < 1048576 := by
  have hW : 536870912 ≤ w / P := by rw [Nat.le_div_iff_mul_le hP]; exact hw
  have a1 : w < (w / P + 1) * P := by
    have := Nat.lt_div_mul_add hP (a := w)
    rw [Nat.add_mul, Nat.one_mul]
    exact this
  have a2 : v < (v / P + 1) * P := by
    have := Nat.lt_div_mul_add hP (a := v)
    rw [Nat.add_mul, Nat.one_mul]
    exact this
  have a3 : w / P * P ≤ w := Nat.div_mul_le_self _ _
  have a4 : v / P * P ≤ v := Nat.div_mul_le_self _ _
  generalize w / P = W at *
  generalize v / P = H at *
  obtain ⟨g, hg⟩ : ∃ g, g = H / (W + 1) := ⟨_, rfl⟩
  have b1 : g * (W + 1) ≤ H := by rw [hg]; exact Nat.div_mul_le_self _ _
  have b2 : H < (g + 1) * (W + 1) := by
    have := Nat.lt_div_mul_add (a := H) (b := W + 1) (by omega)
    rw [← hg] at this
    rw [Nat.add_mul, Nat.one_mul]
    exact this
  rw [← hg]
  have c1 : g * w ≤ v := by
    have d1 : g * w ≤ g * ((W + 1) * P) := Nat.mul_le_mul_left _ (Nat.le_of_lt a1)
    have d2 : g * (W + 1) * P ≤ H * P := Nat.mul_le_mul_right _ b1
    rw [Nat.mul_assoc] at d2
    omega
  have c3 : g < 1048576 := by
    rcases Nat.lt_or_ge g 1048576 with q | q
    · exact q
    · have := Nat.mul_le_mul_right w q
      rw [Nat.mul_comm 1048576 w] at this
      omega
  refine ⟨c1, ?_, c3⟩
  have d1 : (H + 1) * P ≤ (g + 1) * (W + 1) * P := Nat.mul_le_mul_right _ b2
  have d2 : (g + 1) * (W + 1) ≤ (g + 2) * W := by
    rw [Nat.add_mul, Nat.add_mul, Nat.mul_add]
    omega
  have d3 : (g + 1) * (W + 1) * P ≤ (g + 2) * W * P := Nat.mul_le_mul_right _ d2
  have d4 : (g + 2) * (W * P) ≤ (g + 2) * w := Nat.mul_le_mul_left _ a3
  rw [← Nat.mul_assoc] at d4
  omega
theorem div_fix {v w g : Nat} (h1 : g * w ≤ v) (h2 : v < (g + 2) * w) : (¬ w ≤ v - g * w → v / w = g ∧ v % w = v - g * w) ∧ (w ≤ v - g * w → v / w = g + 1 ∧ v % w = v - g * w - 1 * w) := by
  have hw : 0 < w := by
    rcases Nat.eq_zero_or_pos w with q | q
    · rw [q] at h2; omega
    · exact q
  rw [Nat.add_mul] at h2
  constructor
  · intro c
    exact (Nat.div_mod_unique hw).mpr ⟨by rw [Nat.mul_comm w g]; omega, by omega⟩
  · intro c
    refine (Nat.div_mod_unique hw).mpr ⟨?_, by omega⟩
    rw [Nat.mul_comm w (g + 1), Nat.add_mul]
    omega
theorem zsg_lt {x y : Nat} : zsg x y < 0 ↔ x < y := by
  have h := @zsg_ge x y
  rw [i_le] at h
  rw [i_lt]
  constructor
  · intro q
    rcases Nat.lt_or_ge x y with z | z
    · exact z
    · have := h.mpr z
      omega
  · intro q
    rcases Int.lt_or_le (zsg x y).toInt (0 : Int32).toInt with z | z
    · exact z
    · have := h.mp z
      omega
theorem N_divRest {us os : Int32} {l m : Nat → Int32} {v w n : Nat} (h : nR us l v) (g : nR os m w) (hn : os.toInt = ((n + 1 : Nat) : Int)) (hw : zlen w = 30 * (n + 1)) (hv : v < w * 1048576) : ∃ d us' l', f_N_divideLeavingRest us l os m = some (d, us', l') ∧ d.toInt = ((v / w : Nat) : Int) ∧ nR us' l' (v % w) := by
  have e0 : (0 : Int32).toInt = 0 := rfl
  have e1 : (1 : Int32).toInt = 1 := rfl
  have el1 : (1 : Int64).toInt = 1 := rfl
  have hn48 : n < 48 := by
    obtain ⟨u, k1, k2, _⟩ := g
    omega
  have hn1 : (os - 1).toInt = (n : Int) := by
    clear hv hw
    rw [i_sub, hn, e1] <;> (try rw [hn, e1]) <;> omega
  have hwlt : w < 1073741824 ^ (n + 1) := by
    have := zlen_lt w
    rw [hw, ← nB2] at this
    exact this
  have hwge : 536870912 * 1073741824 ^ n ≤ w := by
    have := zlen_ge (n := w) (k := 29 + 30 * n) (by omega)
    rw [Nat.pow_add, ← nB2] at this
    exact this
  have hvlt : v < 1073741824 ^ (n + 1) * 1048576 := Nat.lt_trans hv ((Nat.mul_lt_mul_right (by decide)).mpr hwlt)
  have hP := nBp n
  obtain ⟨g1, g2, g3⟩ := div_guess hP hwge hv
  obtain ⟨r13, p1, p2⟩ := N_limbAt h hn
  obtain ⟨r24, q1, q2⟩ := N_limbAt h hn1
  obtain ⟨r35, s1, s2⟩ := N_limbAt g hn1
  have hWd : nd w n = w / 1073741824 ^ n := by
    unfold nd
    rw [Nat.mod_eq_of_lt]
    apply Nat.div_lt_of_lt_mul
    rw [← Nat.pow_succ]
    exact hwlt
  have hVd : nd v (n + 1) = v / 1073741824 ^ (n + 1) := by
    unfold nd
    rw [Nat.mod_eq_of_lt]
    apply Nat.div_lt_of_lt_mul
    exact Nat.lt_trans hvlt ((Nat.mul_lt_mul_left (nBp _)).mpr (by decide))
  have hVl : nd v (n + 1) < 1048576 := by
    rw [hVd]
    exact Nat.div_lt_of_lt_mul hvlt
  have hhead : 1073741824 * nd v (n + 1) + nd v n = v / 1073741824 ^ n := by
    rw [hVd]
    exact (nd_div v n).symm
  have lW := nd_lt w n
  have lV := nd_lt v n
  have sh : (jlshl r13.toInt64 30).toInt = ((1073741824 * nd v (n + 1) : Nat) : Int) := by
    have e : r13.toInt64.toInt * ((2 ^ 30 : Nat) : Int) = ((1073741824 * nd v (n + 1) : Nat) : Int) := by
      rw [i2l, p2, Nat.mul_comm]; exact (Int.natCast_mul _ _).symm
    exact (l_shl (n := 30) rfl (by decide) (by rw [e]; omega) (by rw [e]; omega)).trans e
  have hd : (jlshl r13.toInt64 30 ||| r24.toInt64).toInt = ((v / 1073741824 ^ n : Nat) : Int) := by
    rw [l_or 30 (nd v (n + 1)) (nd v n) sh (by rw [i2l, q2]) lV, sh, i2l, q2, ← hhead]
    exact (Int.natCast_add _ _).symm
  have hW1 : (r35.toInt64 + 1).toInt = ((w / 1073741824 ^ n + 1 : Nat) : Int) := by
    rw [← hWd]
    rw [l_add, i2l, s2, el1] <;> (try rw [i2l, s2, el1]) <;> omega
  have hq : ((jlshl r13.toInt64 30 ||| r24.toInt64) / (r35.toInt64 + 1)).toInt = ((v / 1073741824 ^ n / (w / 1073741824 ^ n + 1) : Nat) : Int) := by
    rw [l_div (by rw [hd]; exact Int.natCast_nonneg _) (by rw [hW1]; omega), hd, hW1]
    exact (Int.natCast_ediv _ _).symm
  have hne : ¬ r35.toInt64 + 1 = 0 := by
    rw [l_eq, hW1]
    show ¬ _ = (0 : Int)
    omega
  unfold f_N_divideLeavingRest
  rw [if_neg (show ¬ os = 0 by rw [i_eq, hn, e0]; omega), p1, Option.bind_some, q1, Option.bind_some, s1, Option.bind_some, if_pos hne]
  generalize (jlshl r13.toInt64 30 ||| r24.toInt64) / (r35.toInt64 + 1) = Q at hq ⊢
  generalize v / 1073741824 ^ n / (w / 1073741824 ^ n + 1) = G at g1 g2 g3 hq
  have hqi : (Q.toInt32).toInt = (G : Int) := by rw [l2i, hq] <;> rw [hq] <;> omega
  obtain ⟨us1, l1, t1, t2⟩ := N_subT h g hqi (by omega) g1
  obtain ⟨f1, f2⟩ := div_fix g1 g2
  rw [t1, Option.bind_some]
  dsimp only
  rw [N_order t2 g, Option.bind_some]
  by_cases c : w ≤ v - G * w
  · obtain ⟨us2, l2, u1, u2⟩ := N_subT t2 g (x2 := 1) (q := 1) rfl (by decide) (by omega)
    rw [if_neg (fun q => absurd (zsg_lt.mp q) (by omega)), u1, Option.bind_some]
    refine ⟨_, _, _, rfl, ?_, ?_⟩
    · rw [(f2 c).1]
      exact i_suc hqi (by omega)
    · rw [(f2 c).2]
      exact u2
  · rw [if_pos (zsg_lt.mpr (by omega))]
    refine ⟨_, _, _, rfl, ?_, ?_⟩
    · rw [(f1 c).1]
      exact hqi
    · rw [(f1 c).2]
      exact t2
